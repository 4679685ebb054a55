set_option maxRecDepth 20000 in
theorem s_M_rest_4 {N d : Nat} {Q : jw_Q} (hd : 6 ≤ d) : ∀ (k : Nat) {x1 : Int32} {x2 : Int32} {x3 : Int32} {σ : jw_M} {z : (Int32 × jw_M)}, f_M_rest_4 N k x1 x2 x3 σ = some z → Q (some (.int z.1)) (jx_ShM, z.2) → ∃ n, jx_W jx_ShM d (some .int) jc_237 Q n 4 [some (.ref 0), some (.int x1), some (.int x2), some (.int x3)] [] σ
  | 0, _, _, _, _, _, h, _ => by cases h
  | k + 1, x1, x2, x3, σ, z, h, hQ => by
    rw [f_M_rest_4] at h
    by_cases c1 : x1 ≤ x3
    · rw [if_pos c1] at h
      suffices hh : ∃ n, jx_W jx_ShM d (some .int) jc_237 Q n 30 [some (.ref 0), some (.int x1), some (.int x2), some (.int x3)] [] σ by
        obtain ⟨n, hn⟩ := hh
        exact ⟨n + 3, And.intro (fun _ => hn) (fun zz => absurd c1 zz)⟩
      cases h
      exact ⟨2, And.intro hQ (And.intro rfl rfl)⟩
    · rw [if_neg c1] at h
      suffices hh : ∃ n, jx_W jx_ShM d (some .int) jc_237 Q n 9 [some (.ref 0), some (.int x1), some (.int x2), some (.int x3)] [] σ by
        obtain ⟨n, hn⟩ := hh
        exact ⟨n + 3, And.intro (fun zz => absurd zz c1) (fun _ => hn)⟩
      obtain ⟨z2, h3, h⟩ := Option.bind_eq_some_iff.mp h
      by_cases c4 : z2.1 = 0
      · rw [if_pos c4] at h
        suffices hh : ∃ n, jx_W jx_ShM d (some .int) jc_237 Q n 16 [some (.ref 0), some (.int x1), some (.int x2), some (.int x3)] [] z2.2 by
          obtain ⟨n, hn⟩ := hh
          exact ⟨n + 3, s_M_isOver (by omega) h3 (And.intro (fun zz => absurd c4 zz) (fun _ => hn))⟩
        obtain ⟨z5, h6, h⟩ := Option.bind_eq_some_iff.mp h
        obtain ⟨n, hn⟩ := s_M_rest_4 hd k h hQ
        exact ⟨n + 8, s_M_goes (by omega) h6 (hn)⟩
      · rw [if_neg c4] at h
        suffices hh : ∃ n, jx_W jx_ShM d (some .int) jc_237 Q n 30 [some (.ref 0), some (.int x1), some (.int x2), some (.int x3)] [] z2.2 by
          obtain ⟨n, hn⟩ := hh
          exact ⟨n + 3, s_M_isOver (by omega) h3 (And.intro (fun _ => hn) (fun zz => absurd zz c4))⟩
        cases h
        exact ⟨2, And.intro hQ (And.intro rfl rfl)⟩
set_option maxRecDepth 20000 in
theorem s_M_rest {N d : Nat} {x1 : Int32} (hd : 7 ≤ d) {σ : jw_M} {z : (Int32 × jw_M)} {Q : jw_Q} (h : f_M_rest N x1 σ = some z) (hQ : Q (some (.int z.1)) (jx_ShM, z.2)) : jw_C jp_kd jp_ys d 237 [.ref 0, .int x1] (jx_ShM, σ) Q := by
  obtain ⟨d, rfl⟩ : ∃ e, d = e + 1 := ⟨d - 1, by omega⟩
  replace hd : 6 ≤ d := by omega
  refine jx_C rfl rfl ?_
  unfold f_M_rest at h
  obtain ⟨n, hn⟩ := s_M_rest_4 hd N h hQ
  exact ⟨n + 4, hn⟩
set_option maxRecDepth 20000 in
theorem s_M_restWorth {N d : Nat} {x1 : Int32} (hd : 8 ≤ d) {σ : jw_M} {z : (Int32 × jw_M)} {Q : jw_Q} (h : f_M_restWorth N x1 σ = some z) (hQ : Q (some (.int z.1)) (jx_ShM, z.2)) : jw_C jp_kd jp_ys d 238 [.ref 0, .int x1] (jx_ShM, σ) Q := by
  obtain ⟨d, rfl⟩ : ∃ e, d = e + 1 := ⟨d - 1, by omega⟩
  replace hd : 7 ≤ d := by omega
  refine jx_C rfl rfl ?_
  unfold f_M_restWorth at h
  obtain ⟨z1, h2, h⟩ := Option.bind_eq_some_iff.mp h
  obtain ⟨z3, h4, h⟩ := Option.bind_eq_some_iff.mp h
  obtain ⟨z5, h6, h⟩ := Option.bind_eq_some_iff.mp h
  cases h
  exact ⟨12, s_M_save (by omega) h2 (s_M_rest (by omega) h4 (s_M_load (by omega) h6 (And.intro hQ (And.intro rfl rfl))))⟩
set_option maxRecDepth 20000 in
theorem s_M_on {N d : Nat} {x1 : Int32} (hd : 9 ≤ d) {σ : jw_M} {z : (Int32 × jw_M)} {Q : jw_Q} (h : f_M_on N x1 σ = some z) (hQ : Q (some (.int z.1)) (jx_ShM, z.2)) : jw_C jp_kd jp_ys d 239 [.ref 0, .int x1] (jx_ShM, σ) Q := by
  obtain ⟨d, rfl⟩ : ∃ e, d = e + 1 := ⟨d - 1, by omega⟩
  replace hd : 8 ≤ d := by omega
  refine jx_C rfl rfl ?_
  unfold f_M_on at h
  obtain ⟨z1, h2, h⟩ := Option.bind_eq_some_iff.mp h
  by_cases c3 : z1.1 = 0
  · rw [if_pos c3] at h
    suffices hh : ∃ n, jx_W jx_ShM d (some .int) jc_239 Q n 18 [some (.ref 0), some (.int x1)] [] z1.2 by
      obtain ⟨n, hn⟩ := hh
      exact ⟨n + 5, s_M_in (by omega) h2 (And.intro (fun _ => hn) (fun zz => absurd c3 zz))⟩
    cases h
    exact ⟨2, And.intro hQ (And.intro rfl rfl)⟩
  · rw [if_neg c3] at h
    suffices hh : ∃ n, jx_W jx_ShM d (some .int) jc_239 Q n 10 [some (.ref 0), some (.int x1)] [] z1.2 by
      obtain ⟨n, hn⟩ := hh
      exact ⟨n + 5, s_M_in (by omega) h2 (And.intro (fun zz => absurd zz c3) (fun _ => hn))⟩
    obtain ⟨z4, h5, h⟩ := Option.bind_eq_some_iff.mp h
    cases h
    exact ⟨5, s_M_restWorth (by omega) h5 (And.intro hQ (And.intro rfl rfl))⟩
set_option maxRecDepth 20000 in
theorem s_M_when_82 {N d : Nat} {Q : jw_Q} (hd : 6 ≤ d) {y0 : Int32} {u1 : Option Value} {u2 : Option Value} {u3 : Option Value} {σ : jw_M} {z : (Int32 × jw_M)} (h : f_M_when_82 N y0 σ = some z) (hQ : Q (some (.int z.1)) (jx_ShM, z.2)) : ∃ n, jx_W jx_ShM d (some .int) jc_240 Q n 82 [some (.ref 0), u1, u2, u3] [.int y0] σ := by
  unfold f_M_when_82 at h
  obtain ⟨z23, h24, h⟩ := Option.bind_eq_some_iff.mp h
  cases h
  exact ⟨6, s_M_load (by omega) h24 (And.intro hQ (And.intro rfl rfl))⟩
set_option maxRecDepth 20000 in
theorem s_M_when_60 {N d : Nat} {Q : jw_Q} (hd : 6 ≤ d) {x1 : Int32} {x2 : Int32} {u3 : Option Value} {σ : jw_M} {z : (Int32 × jw_M)} (h : f_M_when_60 N x1 x2 σ = some z) (hQ : Q (some (.int z.1)) (jx_ShM, z.2)) : ∃ n, jx_W jx_ShM d (some .int) jc_240 Q n 60 [some (.ref 0), some (.int x1), some (.int x2), u3] [] σ := by
  unfold f_M_when_60 at h
  obtain ⟨z20, h21, h⟩ := Option.bind_eq_some_iff.mp h
  by_cases c22 : z20.1 = 0
  · rw [if_pos c22] at h
    suffices hh : ∃ n, jx_W jx_ShM d (some .int) jc_240 Q n 80 [some (.ref 0), some (.int x1), some (.int x2), u3] [] z20.2 by
      obtain ⟨n, hn⟩ := hh
      exact ⟨n + 5, s_M_hasLearnt (by omega) h21 (And.intro (fun _ => hn) (fun zz => absurd c22 zz))⟩
    obtain ⟨n, hn⟩ := s_M_when_82 hd (u1 := some (.int x1)) (u2 := some (.int x2)) (u3 := u3) h hQ
    exact ⟨n + 1, hn⟩
  · rw [if_neg c22] at h
    suffices hh : ∃ n, jx_W jx_ShM d (some .int) jc_240 Q n 69 [some (.ref 0), some (.int x1), some (.int x2), u3] [] z20.2 by
      obtain ⟨n, hn⟩ := hh
      exact ⟨n + 5, s_M_hasLearnt (by omega) h21 (And.intro (fun zz => absurd zz c22) (fun _ => hn))⟩
    obtain ⟨n, hn⟩ := s_M_when_82 hd (u1 := some (.int x1)) (u2 := some (.int x2)) (u3 := u3) h hQ
    exact ⟨n + 7, And.intro (jx_in_ok rfl) (hn)⟩
set_option maxRecDepth 20000 in
theorem s_M_when_35 {N d : Nat} {Q : jw_Q} (hd : 6 ≤ d) : ∀ (k : Nat) {x1 : Int32} {x2 : Int32} {u3 : Option Value} {σ : jw_M} {z : (Int32 × jw_M)}, f_M_when_35 N k x1 x2 σ = some z → Q (some (.int z.1)) (jx_ShM, z.2) → ∃ n, jx_W jx_ShM d (some .int) jc_240 Q n 35 [some (.ref 0), some (.int x1), some (.int x2), u3] [] σ
  | 0, _, _, _, _, _, h, _ => by cases h
  | k + 1, x1, x2, u3, σ, z, h, hQ => by
    rw [f_M_when_35] at h
    obtain ⟨z12, h13, h⟩ := Option.bind_eq_some_iff.mp h
    by_cases c14 : z12.1 = 0
    · rw [if_pos c14] at h
      suffices hh : ∃ n, jx_W jx_ShM d (some .int) jc_240 Q n 42 [some (.ref 0), some (.int x1), some (.int x2), u3] [] z12.2 by
        obtain ⟨n, hn⟩ := hh
        exact ⟨n + 3, s_M_isOver (by omega) h13 (And.intro (fun zz => absurd c14 zz) (fun _ => hn))⟩
      obtain ⟨z15, h16, h⟩ := Option.bind_eq_some_iff.mp h
      by_cases c17 : z15.1 = 0
      · rw [if_pos c17] at h
        suffices hh : ∃ n, jx_W jx_ShM d (some .int) jc_240 Q n 51 [some (.ref 0), some (.int x1), some (.int x2), u3] [] z15.2 by
          obtain ⟨n, hn⟩ := hh
          exact ⟨n + 5, s_M_hasLearnt (by omega) h16 (And.intro (fun zz => absurd c17 zz) (fun _ => hn))⟩
        obtain ⟨z18, h19, h⟩ := Option.bind_eq_some_iff.mp h
        obtain ⟨n, hn⟩ := s_M_when_35 hd k (u3 := some (.int z18.1)) h hQ
        exact ⟨n + 5, s_M_goes (by omega) h19 (hn)⟩
      · rw [if_neg c17] at h
        suffices hh : ∃ n, jx_W jx_ShM d (some .int) jc_240 Q n 60 [some (.ref 0), some (.int x1), some (.int x2), u3] [] z15.2 by
          obtain ⟨n, hn⟩ := hh
          exact ⟨n + 5, s_M_hasLearnt (by omega) h16 (And.intro (fun _ => hn) (fun zz => absurd zz c17))⟩
        obtain ⟨n, hn⟩ := s_M_when_60 hd (u3 := u3) h hQ
        exact ⟨n + 0, hn⟩
    · rw [if_neg c14] at h
      suffices hh : ∃ n, jx_W jx_ShM d (some .int) jc_240 Q n 60 [some (.ref 0), some (.int x1), some (.int x2), u3] [] z12.2 by
        obtain ⟨n, hn⟩ := hh
        exact ⟨n + 3, s_M_isOver (by omega) h13 (And.intro (fun _ => hn) (fun zz => absurd zz c14))⟩
      obtain ⟨n, hn⟩ := s_M_when_60 hd (u3 := u3) h hQ
      exact ⟨n + 0, hn⟩
set_option maxRecDepth 20000 in
theorem s_M_when {N d : Nat} {x1 : Int32} {x2 : Int32} (hd : 7 ≤ d) {σ : jw_M} {z : (Int32 × jw_M)} {Q : jw_Q} (h : f_M_when N x1 x2 σ = some z) (hQ : Q (some (.int z.1)) (jx_ShM, z.2)) : jw_C jp_kd jp_ys d 240 [.ref 0, .int x1, .int x2] (jx_ShM, σ) Q := by
  obtain ⟨d, rfl⟩ : ∃ e, d = e + 1 := ⟨d - 1, by omega⟩
  replace hd : 6 ≤ d := by omega
  refine jx_C rfl rfl ?_
  unfold f_M_when at h
  obtain ⟨z1, h2, h⟩ := Option.bind_eq_some_iff.mp h
  by_cases c3 : z1.1 = 0
  · rw [if_pos c3] at h
    suffices hh : ∃ n, jx_W jx_ShM d (some .int) jc_240 Q n 16 [some (.ref 0), some (.int x1), some (.int x2), none] [] z1.2 by
      obtain ⟨n, hn⟩ := hh
      exact ⟨n + 4, s_M_isShadow (by omega) h2 (And.intro (fun _ => hn) (fun zz => absurd c3 zz))⟩
    cases h
    exact ⟨2, And.intro hQ (And.intro rfl rfl)⟩
  · rw [if_neg c3] at h
    suffices hh : ∃ n, jx_W jx_ShM d (some .int) jc_240 Q n 8 [some (.ref 0), some (.int x1), some (.int x2), none] [] z1.2 by
      obtain ⟨n, hn⟩ := hh
      exact ⟨n + 4, s_M_isShadow (by omega) h2 (And.intro (fun zz => absurd zz c3) (fun _ => hn))⟩
    obtain ⟨z4, h5, h⟩ := Option.bind_eq_some_iff.mp h
    by_cases c6 : z4.1 = 0
    · rw [if_pos c6] at h
      suffices hh : ∃ n, jx_W jx_ShM d (some .int) jc_240 Q n 16 [some (.ref 0), some (.int x1), some (.int x2), none] [] z4.2 by
        obtain ⟨n, hn⟩ := hh
        exact ⟨n + 4, s_M_isLesson (by omega) h5 (And.intro (fun zz => absurd c6 zz) (fun _ => hn))⟩
      cases h
      exact ⟨2, And.intro hQ (And.intro rfl rfl)⟩
    · rw [if_neg c6] at h
      suffices hh : ∃ n, jx_W jx_ShM d (some .int) jc_240 Q n 18 [some (.ref 0), some (.int x1), some (.int x2), none] [] z4.2 by
        obtain ⟨n, hn⟩ := hh
        exact ⟨n + 4, s_M_isLesson (by omega) h5 (And.intro (fun _ => hn) (fun zz => absurd zz c6))⟩
      obtain ⟨z7, h8, h⟩ := Option.bind_eq_some_iff.mp h
      by_cases c9 : z7.1 = 0
      · rw [if_pos c9] at h
        suffices hh : ∃ n, jx_W jx_ShM d (some .int) jc_240 Q n 30 [some (.ref 0), some (.int x1), some (.int x2), none] [] z7.2 by
          obtain ⟨n, hn⟩ := hh
          exact ⟨n + 5, s_M_hasLearnt (by omega) h8 (And.intro (fun _ => hn) (fun zz => absurd c9 zz))⟩
        obtain ⟨z10, h11, h⟩ := Option.bind_eq_some_iff.mp h
        obtain ⟨n, hn⟩ := s_M_when_35 hd N (u3 := none) h hQ
        exact ⟨n + 3, s_M_save (by omega) h11 (hn)⟩
      · rw [if_neg c9] at h
        suffices hh : ∃ n, jx_W jx_ShM d (some .int) jc_240 Q n 27 [some (.ref 0), some (.int x1), some (.int x2), none] [] z7.2 by
          obtain ⟨n, hn⟩ := hh
          exact ⟨n + 5, s_M_hasLearnt (by omega) h8 (And.intro (fun zz => absurd zz c9) (fun _ => hn))⟩
        cases h
        exact ⟨2, And.intro hQ (And.intro rfl rfl)⟩
set_option maxRecDepth 20000 in
theorem s_M_allLessons {N d : Nat} (hd : 1 ≤ d) {σ : jw_M} {z : (Int32 × jw_M)} {Q : jw_Q} (h : f_M_allLessons N  σ = some z) (hQ : Q (some (.int z.1)) (jx_ShM, z.2)) : jw_C jp_kd jp_ys d 241 [.ref 0] (jx_ShM, σ) Q := by
  obtain ⟨d, rfl⟩ : ∃ e, d = e + 1 := ⟨d - 1, by omega⟩
  replace hd : 0 ≤ d := by omega
  refine jx_C rfl rfl ?_
  unfold f_M_allLessons at h
  cases h
  exact ⟨9, And.intro (jx_in_ok rfl) (And.intro hQ (And.intro rfl rfl))⟩
set_option maxRecDepth 20000 in
theorem s_M_letGo_49 {N d : Nat} {Q : jw_Q} {K16 : Int32 → Int32 → jw_M → Option (Int32 × jw_M)} (hd : 7 ≤ d) (hK16 : ∀ {x2 : Int32} {x3 : Int32} {σ : jw_M} {z : (Int32 × jw_M)} {u1 : Option Value}, K16 x2 x3 σ = some z → Q (some (.int z.1)) (jx_ShM, z.2) → ∃ n, jx_W jx_ShM d (some .int) jc_242 Q n 16 [some (.ref 0), u1, some (.int x2), some (.int x3)] [] σ) {x3 : Int32} {y0 : Int32} {y1 : Int32} {u1 : Option Value} {u2 : Option Value} {σ : jw_M} {z : (Int32 × jw_M)} (h : f_M_letGo_49 N K16 x3 y0 y1 σ = some z) (hQ : Q (some (.int z.1)) (jx_ShM, z.2)) : ∃ n, jx_W jx_ShM d (some .int) jc_242 Q n 49 [some (.ref 0), u1, u2, some (.int x3)] [.int y1, .int y0] σ := by
  unfold f_M_letGo_49 at h
  obtain ⟨n, hn⟩ := hK16 (u1 := (jw_clr u1)) h hQ
  exact ⟨n + 4, hn⟩
set_option maxRecDepth 20000 in
theorem s_M_letGo_16 {N d : Nat} {Q : jw_Q} (hd : 7 ≤ d) : ∀ (k : Nat) {x2 : Int32} {x3 : Int32} {u1 : Option Value} {σ : jw_M} {z : (Int32 × jw_M)}, f_M_letGo_16 N k x2 x3 σ = some z → Q (some (.int z.1)) (jx_ShM, z.2) → ∃ n, jx_W jx_ShM d (some .int) jc_242 Q n 16 [some (.ref 0), u1, some (.int x2), some (.int x3)] [] σ
  | 0, _, _, _, _, _, h, _ => by cases h
  | k + 1, x2, x3, u1, σ, z, h, hQ => by
    rw [f_M_letGo_16] at h
    by_cases c5 : (σ.1 3 2) ≤ x3
    · rw [if_pos c5] at h
      suffices hh : ∃ n, jx_W jx_ShM d (some .int) jc_242 Q n 57 [some (.ref 0), u1, some (.int x2), some (.int x3)] [] σ by
        obtain ⟨n, hn⟩ := hh
        exact ⟨n + 6, And.intro (jx_in_ok rfl) (And.intro (fun _ => hn) (fun zz => absurd c5 zz))⟩
      obtain ⟨z6, h7, h⟩ := Option.bind_eq_some_iff.mp h
      cases h
      exact ⟨5, s_M_load (by omega) h7 (And.intro hQ (And.intro rfl rfl))⟩
    · rw [if_neg c5] at h
      suffices hh : ∃ n, jx_W jx_ShM d (some .int) jc_242 Q n 26 [some (.ref 0), u1, some (.int x2), some (.int x3)] [] σ by
        obtain ⟨n, hn⟩ := hh
        exact ⟨n + 6, And.intro (jx_in_ok rfl) (And.intro (fun zz => absurd zz c5) (fun _ => hn))⟩
      cases c8 : jx_in (2 + x3) 56 with
      | false => rw [c8, cond_false] at h; cases h
      | true =>
        rw [c8, cond_true] at h
        obtain ⟨z9, h10, h⟩ := Option.bind_eq_some_iff.mp h
        by_cases c11 : (σ.1 1 ((2 + x3)).toNatClampNeg) = z9.1
        · rw [if_pos c11] at h
          suffices hh : ∃ n, jx_W jx_ShM d (some .int) jc_242 Q n 42 [some (.ref 0), u1, some (.int x2), some (.int x3)] [.int x2] z9.2 by
            obtain ⟨n, hn⟩ := hh
            exact ⟨n + 10, And.intro (jx_in_ok c8) (s_M_allLessons (by omega) h10 (And.intro (fun zz => absurd c11 zz) (fun _ => hn)))⟩
          obtain ⟨n, hn⟩ := s_M_letGo_49 hd (s_M_letGo_16 hd k) (u1 := u1) (u2 := some (.int x2)) h hQ
          exact ⟨n + 4, hn⟩
        · rw [if_neg c11] at h
          suffices hh : ∃ n, jx_W jx_ShM d (some .int) jc_242 Q n 48 [some (.ref 0), u1, some (.int x2), some (.int x3)] [.int x2] z9.2 by
            obtain ⟨n, hn⟩ := hh
            exact ⟨n + 10, And.intro (jx_in_ok c8) (s_M_allLessons (by omega) h10 (And.intro (fun _ => hn) (fun zz => absurd zz c11)))⟩
          obtain ⟨n, hn⟩ := s_M_letGo_49 hd (s_M_letGo_16 hd k) (u1 := u1) (u2 := some (.int x2)) h hQ
          exact ⟨n + 1, hn⟩
set_option maxRecDepth 20000 in
theorem s_M_letGo {N d : Nat} (hd : 8 ≤ d) {σ : jw_M} {z : (Int32 × jw_M)} {Q : jw_Q} (h : f_M_letGo N  σ = some z) (hQ : Q (some (.int z.1)) (jx_ShM, z.2)) : jw_C jp_kd jp_ys d 242 [.ref 0] (jx_ShM, σ) Q := by
  obtain ⟨d, rfl⟩ : ∃ e, d = e + 1 := ⟨d - 1, by omega⟩
  replace hd : 7 ≤ d := by omega
  refine jx_C rfl rfl ?_
  unfold f_M_letGo at h
  obtain ⟨z1, h2, h⟩ := Option.bind_eq_some_iff.mp h
  obtain ⟨z3, h4, h⟩ := Option.bind_eq_some_iff.mp h
  obtain ⟨n, hn⟩ := s_M_letGo_16 hd N (u1 := some (.int z3.1)) h hQ
  exact ⟨n + 11, s_M_save (by omega) h2 (s_M_rest (by omega) h4 (hn))⟩
set_option maxRecDepth 20000 in
theorem s_M_crowd_88 {N d : Nat} {Q : jw_Q} {K29 : Int32 → Int32 → Int32 → jw_M → Option (Int32 × jw_M)} (hd : 6 ≤ d) (hK29 : ∀ {x1 : Int32} {x2 : Int32} {x3 : Int32} {σ : jw_M} {z : (Int32 × jw_M)} {u4 : Option Value} {u5 : Option Value}, K29 x1 x2 x3 σ = some z → Q (some (.int z.1)) (jx_ShM, z.2) → ∃ n, jx_W jx_ShM d (some .int) jc_243 Q n 29 [some (.ref 0), some (.int x1), some (.int x2), some (.int x3), u4, u5] [] σ) {x1 : Int32} {x2 : Int32} {y0 : Int32} {u3 : Option Value} {u4 : Option Value} {u5 : Option Value} {σ : jw_M} {z : (Int32 × jw_M)} (h : f_M_crowd_88 N K29 x1 x2 y0 σ = some z) (hQ : Q (some (.int z.1)) (jx_ShM, z.2)) : ∃ n, jx_W jx_ShM d (some .int) jc_243 Q n 88 [some (.ref 0), some (.int x1), some (.int x2), u3, u4, u5] [.int y0] σ := by
  unfold f_M_crowd_88 at h
  obtain ⟨n, hn⟩ := hK29 (u4 := u4) (u5 := u5) h hQ
  exact ⟨n + 2, hn⟩
set_option maxRecDepth 20000 in
theorem s_M_crowd_67 {N d : Nat} {Q : jw_Q} {K29 : Int32 → Int32 → Int32 → jw_M → Option (Int32 × jw_M)} (hd : 6 ≤ d) (hK29 : ∀ {x1 : Int32} {x2 : Int32} {x3 : Int32} {σ : jw_M} {z : (Int32 × jw_M)} {u4 : Option Value} {u5 : Option Value}, K29 x1 x2 x3 σ = some z → Q (some (.int z.1)) (jx_ShM, z.2) → ∃ n, jx_W jx_ShM d (some .int) jc_243 Q n 29 [some (.ref 0), some (.int x1), some (.int x2), some (.int x3), u4, u5] [] σ) {x1 : Int32} {x3 : Int32} {y0 : Int32} {u2 : Option Value} {u4 : Option Value} {u5 : Option Value} {σ : jw_M} {z : (Int32 × jw_M)} (h : f_M_crowd_67 N K29 x1 x3 y0 σ = some z) (hQ : Q (some (.int z.1)) (jx_ShM, z.2)) : ∃ n, jx_W jx_ShM d (some .int) jc_243 Q n 67 [some (.ref 0), some (.int x1), u2, some (.int x3), u4, u5] [.int y0] σ := by
  unfold f_M_crowd_67 at h
  cases c16 : jx_in x1 8 with
  | false => rw [c16, cond_false] at h; cases h
  | true =>
    rw [c16, cond_true] at h
    by_cases c17 : (σ.1 10 (x1).toNatClampNeg) ≤ x3
    · rw [if_pos c17] at h
      suffices hh : ∃ n, jx_W jx_ShM d (some .int) jc_243 Q n 87 [some (.ref 0), some (.int x1), some (.int y0), some (.int x3), u4, u5] [] σ by
        obtain ⟨n, hn⟩ := hh
        exact ⟨n + 7, And.intro (jx_in_ok c16) (And.intro (fun _ => hn) (fun zz => absurd c17 zz))⟩
      obtain ⟨n, hn⟩ := s_M_crowd_88 hd hK29 (u3 := some (.int x3)) (u4 := u4) (u5 := u5) h hQ
      exact ⟨n + 1, hn⟩
    · rw [if_neg c17] at h
      suffices hh : ∃ n, jx_W jx_ShM d (some .int) jc_243 Q n 78 [some (.ref 0), some (.int x1), some (.int y0), some (.int x3), u4, u5] [] σ by
        obtain ⟨n, hn⟩ := hh
        exact ⟨n + 7, And.intro (jx_in_ok c16) (And.intro (fun zz => absurd zz c17) (fun _ => hn))⟩
      obtain ⟨n, hn⟩ := s_M_crowd_88 hd hK29 (u3 := some (.int x3)) (u4 := u4) (u5 := u5) h hQ
      exact ⟨n + 5, And.intro (jx_in_ok c16) (hn)⟩
set_option maxRecDepth 20000 in
theorem s_M_crowd_29 {N d : Nat} {Q : jw_Q} (hd : 6 ≤ d) : ∀ (k : Nat) {x1 : Int32} {x2 : Int32} {x3 : Int32} {u4 : Option Value} {u5 : Option Value} {σ : jw_M} {z : (Int32 × jw_M)}, f_M_crowd_29 N k x1 x2 x3 σ = some z → Q (some (.int z.1)) (jx_ShM, z.2) → ∃ n, jx_W jx_ShM d (some .int) jc_243 Q n 29 [some (.ref 0), some (.int x1), some (.int x2), some (.int x3), u4, u5] [] σ
  | 0, _, _, _, _, _, _, _, h, _ => by cases h
  | k + 1, x1, x2, x3, u4, u5, σ, z, h, hQ => by
    rw [f_M_crowd_29] at h
    obtain ⟨z9, h10, h⟩ := Option.bind_eq_some_iff.mp h
    by_cases c11 : z9.1 = 0
    · rw [if_pos c11] at h
      suffices hh : ∃ n, jx_W jx_ShM d (some .int) jc_243 Q n 36 [some (.ref 0), some (.int x1), some (.int x2), some (.int x3), u4, u5] [] z9.2 by
        obtain ⟨n, hn⟩ := hh
        exact ⟨n + 3, s_M_isOver (by omega) h10 (And.intro (fun zz => absurd c11 zz) (fun _ => hn))⟩
      obtain ⟨z12, h13, h⟩ := Option.bind_eq_some_iff.mp h
      cases c14 : jx_in x1 8 with
      | false => rw [c14, cond_false] at h; cases h
      | true =>
        rw [c14, cond_true] at h
        by_cases c15 : (z12.2.1 10 (x1).toNatClampNeg) ≤ x3
        · rw [if_pos c15] at h
          suffices hh : ∃ n, jx_W jx_ShM d (some .int) jc_243 Q n 66 [some (.ref 0), some (.int x1), some (.int x2), some (.int x3), some (.int (z9.2.1 1 0)), some (.int z12.1)] [] z12.2 by
            obtain ⟨n, hn⟩ := hh
            exact ⟨n + 15, And.intro (jx_in_ok rfl) (s_M_goes (by omega) h13 (And.intro (jx_in_ok c14) (And.intro (fun _ => hn) (fun zz => absurd c15 zz))))⟩
          obtain ⟨n, hn⟩ := s_M_crowd_67 hd (s_M_crowd_29 hd k) (u2 := some (.int x2)) (u4 := some (.int (z9.2.1 1 0))) (u5 := some (.int z12.1)) h hQ
          exact ⟨n + 1, hn⟩
        · rw [if_neg c15] at h
          suffices hh : ∃ n, jx_W jx_ShM d (some .int) jc_243 Q n 61 [some (.ref 0), some (.int x1), some (.int x2), some (.int x3), some (.int (z9.2.1 1 0)), some (.int z12.1)] [] z12.2 by
            obtain ⟨n, hn⟩ := hh
            exact ⟨n + 15, And.intro (jx_in_ok rfl) (s_M_goes (by omega) h13 (And.intro (jx_in_ok c14) (And.intro (fun zz => absurd zz c15) (fun _ => hn))))⟩
          obtain ⟨n, hn⟩ := s_M_crowd_67 hd (s_M_crowd_29 hd k) (u2 := some (.int x2)) (u4 := some (.int (z9.2.1 1 0))) (u5 := some (.int z12.1)) h hQ
          exact ⟨n + 2, hn⟩
    · rw [if_neg c11] at h
      suffices hh : ∃ n, jx_W jx_ShM d (some .int) jc_243 Q n 92 [some (.ref 0), some (.int x1), some (.int x2), some (.int x3), u4, u5] [] z9.2 by
        obtain ⟨n, hn⟩ := hh
        exact ⟨n + 3, s_M_isOver (by omega) h10 (And.intro (fun _ => hn) (fun zz => absurd zz c11))⟩
      obtain ⟨z18, h19, h⟩ := Option.bind_eq_some_iff.mp h
      cases h
      exact ⟨5, s_M_load (by omega) h19 (And.intro hQ (And.intro rfl rfl))⟩
set_option maxRecDepth 20000 in
theorem s_M_crowd {N d : Nat} {x1 : Int32} (hd : 7 ≤ d) {σ : jw_M} {z : (Int32 × jw_M)} {Q : jw_Q} (h : f_M_crowd N x1 σ = some z) (hQ : Q (some (.int z.1)) (jx_ShM, z.2)) : jw_C jp_kd jp_ys d 243 [.ref 0, .int x1] (jx_ShM, σ) Q := by
  obtain ⟨d, rfl⟩ : ∃ e, d = e + 1 := ⟨d - 1, by omega⟩
  replace hd : 6 ≤ d := by omega
  refine jx_C rfl rfl ?_
  unfold f_M_crowd at h
  obtain ⟨z1, h2, h⟩ := Option.bind_eq_some_iff.mp h
  by_cases c3 : z1.1 = 0
  · rw [if_pos c3] at h
    suffices hh : ∃ n, jx_W jx_ShM d (some .int) jc_243 Q n 8 [some (.ref 0), some (.int x1), none, none, none, none] [] z1.2 by
      obtain ⟨n, hn⟩ := hh
      exact ⟨n + 4, s_M_isLesson (by omega) h2 (And.intro (fun zz => absurd c3 zz) (fun _ => hn))⟩
    cases h
    exact ⟨2, And.intro hQ (And.intro rfl rfl)⟩
  · rw [if_neg c3] at h
    suffices hh : ∃ n, jx_W jx_ShM d (some .int) jc_243 Q n 10 [some (.ref 0), some (.int x1), none, none, none, none] [] z1.2 by
      obtain ⟨n, hn⟩ := hh
      exact ⟨n + 4, s_M_isLesson (by omega) h2 (And.intro (fun _ => hn) (fun zz => absurd zz c3))⟩
    obtain ⟨z4, h5, h⟩ := Option.bind_eq_some_iff.mp h
    by_cases c6 : z4.1 = 0
    · rw [if_pos c6] at h
      suffices hh : ∃ n, jx_W jx_ShM d (some .int) jc_243 Q n 20 [some (.ref 0), some (.int x1), none, none, none, none] [] z4.2 by
        obtain ⟨n, hn⟩ := hh
        exact ⟨n + 3, s_M_isOver (by omega) h5 (And.intro (fun _ => hn) (fun zz => absurd c6 zz))⟩
      obtain ⟨z7, h8, h⟩ := Option.bind_eq_some_iff.mp h
      obtain ⟨n, hn⟩ := s_M_crowd_29 hd N (u4 := none) (u5 := none) h hQ
      exact ⟨n + 7, s_M_save (by omega) h8 (hn)⟩
    · rw [if_neg c6] at h
      suffices hh : ∃ n, jx_W jx_ShM d (some .int) jc_243 Q n 17 [some (.ref 0), some (.int x1), none, none, none, none] [] z4.2 by
        obtain ⟨n, hn⟩ := hh
        exact ⟨n + 3, s_M_isOver (by omega) h5 (And.intro (fun zz => absurd zz c6) (fun _ => hn))⟩
      cases h
      exact ⟨2, And.intro hQ (And.intro rfl rfl)⟩
set_option maxRecDepth 20000 in
theorem s_M_dearest_68 {N d : Nat} {Q : jw_Q} {K16 : Int32 → Int32 → Int32 → Int32 → Int32 → Int32 → jw_M → Option (Int32 × jw_M)} (hd : 8 ≤ d) (hK16 : ∀ {x1 : Int32} {x2 : Int32} {x3 : Int32} {x4 : Int32} {x5 : Int32} {x6 : Int32} {σ : jw_M} {z : (Int32 × jw_M)} {u7 : Option Value}, K16 x1 x2 x3 x4 x5 x6 σ = some z → Q (some (.int z.1)) (jx_ShM, z.2) → ∃ n, jx_W jx_ShM d (some .int) jc_244 Q n 16 [some (.ref 0), some (.int x1), some (.int x2), some (.int x3), some (.int x4), some (.int x5), some (.int x6), u7] [] σ) {x1 : Int32} {x2 : Int32} {x3 : Int32} {x4 : Int32} {x6 : Int32} {y0 : Int32} {u5 : Option Value} {u7 : Option Value} {σ : jw_M} {z : (Int32 × jw_M)} (h : f_M_dearest_68 N K16 x1 x2 x3 x4 x6 y0 σ = some z) (hQ : Q (some (.int z.1)) (jx_ShM, z.2)) : ∃ n, jx_W jx_ShM d (some .int) jc_244 Q n 68 [some (.ref 0), some (.int x1), some (.int x2), some (.int x3), some (.int x4), u5, some (.int x6), u7] [.int y0] σ := by
  unfold f_M_dearest_68 at h
  obtain ⟨n, hn⟩ := hK16 (u7 := u7) h hQ
  exact ⟨n + 3, hn⟩
set_option maxRecDepth 20000 in
theorem s_M_dearest_52 {N d : Nat} {Q : jw_Q} {K16 : Int32 → Int32 → Int32 → Int32 → Int32 → Int32 → jw_M → Option (Int32 × jw_M)} (hd : 8 ≤ d) (hK16 : ∀ {x1 : Int32} {x2 : Int32} {x3 : Int32} {x4 : Int32} {x5 : Int32} {x6 : Int32} {σ : jw_M} {z : (Int32 × jw_M)} {u7 : Option Value}, K16 x1 x2 x3 x4 x5 x6 σ = some z → Q (some (.int z.1)) (jx_ShM, z.2) → ∃ n, jx_W jx_ShM d (some .int) jc_244 Q n 16 [some (.ref 0), some (.int x1), some (.int x2), some (.int x3), some (.int x4), some (.int x5), some (.int x6), u7] [] σ) {x1 : Int32} {x2 : Int32} {x3 : Int32} {x5 : Int32} {x6 : Int32} {x7 : Int32} {y0 : Int32} {u4 : Option Value} {σ : jw_M} {z : (Int32 × jw_M)} (h : f_M_dearest_52 N K16 x1 x2 x3 x5 x6 x7 y0 σ = some z) (hQ : Q (some (.int z.1)) (jx_ShM, z.2)) : ∃ n, jx_W jx_ShM d (some .int) jc_244 Q n 52 [some (.ref 0), some (.int x1), some (.int x2), some (.int x3), u4, some (.int x5), some (.int x6), some (.int x7)] [.int y0] σ := by
  unfold f_M_dearest_52 at h
  by_cases c8 : x7 ≤ x5
  · rw [if_pos c8] at h
    suffices hh : ∃ n, jx_W jx_ShM d (some .int) jc_244 Q n 66 [some (.ref 0), some (.int x1), some (.int x2), some (.int x3), some (.int y0), some (.int x5), some (.int x6), some (.int x7)] [] σ by
      obtain ⟨n, hn⟩ := hh
      exact ⟨n + 4, And.intro (fun _ => hn) (fun zz => absurd c8 zz)⟩
    obtain ⟨n, hn⟩ := s_M_dearest_68 hd hK16 (u5 := some (.int x5)) (u7 := some (.int x7)) h hQ
    exact ⟨n + 1, hn⟩
  · rw [if_neg c8] at h
    suffices hh : ∃ n, jx_W jx_ShM d (some .int) jc_244 Q n 61 [some (.ref 0), some (.int x1), some (.int x2), some (.int x3), some (.int y0), some (.int x5), some (.int x6), some (.int x7)] [] σ by
      obtain ⟨n, hn⟩ := hh
      exact ⟨n + 4, And.intro (fun zz => absurd zz c8) (fun _ => hn)⟩
    obtain ⟨n, hn⟩ := s_M_dearest_68 hd hK16 (u5 := some (.int x5)) (u7 := some (.int x7)) h hQ
    exact ⟨n + 2, hn⟩
set_option maxRecDepth 20000 in
theorem s_M_dearest_16 {N d : Nat} {Q : jw_Q} (hd : 8 ≤ d) : ∀ (k : Nat) {x1 : Int32} {x2 : Int32} {x3 : Int32} {x4 : Int32} {x5 : Int32} {x6 : Int32} {u7 : Option Value} {σ : jw_M} {z : (Int32 × jw_M)}, f_M_dearest_16 N k x1 x2 x3 x4 x5 x6 σ = some z → Q (some (.int z.1)) (jx_ShM, z.2) → ∃ n, jx_W jx_ShM d (some .int) jc_244 Q n 16 [some (.ref 0), some (.int x1), some (.int x2), some (.int x3), some (.int x4), some (.int x5), some (.int x6), u7] [] σ
  | 0, _, _, _, _, _, _, _, _, _, h, _ => by cases h
  | k + 1, x1, x2, x3, x4, x5, x6, u7, σ, z, h, hQ => by
    rw [f_M_dearest_16] at h
    by_cases c2 : x2 < x6
    · rw [if_pos c2] at h
      suffices hh : ∃ n, jx_W jx_ShM d (some .int) jc_244 Q n 76 [some (.ref 0), some (.int x1), some (.int x2), some (.int x3), some (.int x4), some (.int x5), some (.int x6), u7] [] σ by
        obtain ⟨n, hn⟩ := hh
        exact ⟨n + 3, And.intro (fun _ => hn) (fun zz => absurd c2 zz)⟩
      cases c3 : jx_in x1 526 with
      | false => rw [c3, cond_false] at h; cases h
      | true =>
        rw [c3, cond_true] at h
        cases h
        exact ⟨7, And.intro (jx_in_ok c3) (And.intro hQ (And.intro rfl rfl))⟩
    · rw [if_neg c2] at h
      suffices hh : ∃ n, jx_W jx_ShM d (some .int) jc_244 Q n 22 [some (.ref 0), some (.int x1), some (.int x2), some (.int x3), some (.int x4), some (.int x5), some (.int x6), u7] [] σ by
        obtain ⟨n, hn⟩ := hh
        exact ⟨n + 3, And.intro (fun zz => absurd zz c2) (fun _ => hn)⟩
      cases c4 : jx_in x1 526 with
      | false => rw [c4, cond_false] at h; cases h
      | true =>
        rw [c4, cond_true] at h
        obtain ⟨z5, h6, h⟩ := Option.bind_eq_some_iff.mp h
        by_cases c7 : z5.1 ≤ x5
        · rw [if_pos c7] at h
          suffices hh : ∃ n, jx_W jx_ShM d (some .int) jc_244 Q n 50 [some (.ref 0), some (.int x1), some (.int x2), some (.int x3), some (.int x4), some (.int x5), some (.int x6), some (.int z5.1)] [] z5.2 by
            obtain ⟨n, hn⟩ := hh
            exact ⟨n + 12, And.intro (jx_in_ok c4) (s_M_restWorth (by omega) h6 (And.intro (fun _ => hn) (fun zz => absurd c7 zz)))⟩
          obtain ⟨n, hn⟩ := s_M_dearest_52 hd (s_M_dearest_16 hd k) (u4 := some (.int x4)) h hQ
          exact ⟨n + 1, hn⟩
        · rw [if_neg c7] at h
          suffices hh : ∃ n, jx_W jx_ShM d (some .int) jc_244 Q n 45 [some (.ref 0), some (.int x1), some (.int x2), some (.int x3), some (.int x4), some (.int x5), some (.int x6), some (.int z5.1)] [] z5.2 by
            obtain ⟨n, hn⟩ := hh
            exact ⟨n + 12, And.intro (jx_in_ok c4) (s_M_restWorth (by omega) h6 (And.intro (fun zz => absurd zz c7) (fun _ => hn)))⟩
          obtain ⟨n, hn⟩ := s_M_dearest_52 hd (s_M_dearest_16 hd k) (u4 := some (.int x4)) h hQ
          exact ⟨n + 2, hn⟩
set_option maxRecDepth 20000 in
theorem s_M_dearest {N d : Nat} {x1 : Int32} {x2 : Int32} (hd : 9 ≤ d) {σ : jw_M} {z : (Int32 × jw_M)} {Q : jw_Q} (h : f_M_dearest N x1 x2 σ = some z) (hQ : Q (some (.int z.1)) (jx_ShM, z.2)) : jw_C jp_kd jp_ys d 244 [.ref 0, .int x1, .int x2] (jx_ShM, σ) Q := by
  obtain ⟨d, rfl⟩ : ∃ e, d = e + 1 := ⟨d - 1, by omega⟩
  replace hd : 8 ≤ d := by omega
  refine jx_C rfl rfl ?_
  unfold f_M_dearest at h
  cases c1 : jx_in x1 526 with
  | false => rw [c1, cond_false] at h; cases h
  | true =>
    rw [c1, cond_true] at h
    obtain ⟨n, hn⟩ := s_M_dearest_16 hd N (u7 := none) h hQ
    exact ⟨n + 11, And.intro (jx_in_ok c1) (hn)⟩
set_option maxRecDepth 20000 in
theorem s_M_quickFor {N d : Nat} {x1 : Int32} (hd : 10 ≤ d) {σ : jw_M} {z : (Int32 × jw_M)} {Q : jw_Q} (h : f_M_quickFor N x1 σ = some z) (hQ : Q (some (.int z.1)) (jx_ShM, z.2)) : jw_C jp_kd jp_ys d 245 [.ref 0, .int x1] (jx_ShM, σ) Q := by
  obtain ⟨d, rfl⟩ : ∃ e, d = e + 1 := ⟨d - 1, by omega⟩
  replace hd : 9 ≤ d := by omega
  refine jx_C rfl rfl ?_
  unfold f_M_quickFor at h
  obtain ⟨z1, h2, h⟩ := Option.bind_eq_some_iff.mp h
  by_cases c3 : z1.1 = 0
  · rw [if_pos c3] at h
    suffices hh : ∃ n, jx_W jx_ShM d (some .int) jc_245 Q n 25 [some (.ref 0), some (.int x1)] [] z1.2 by
      obtain ⟨n, hn⟩ := hh
      exact ⟨n + 4, s_M_isShadow (by omega) h2 (And.intro (fun _ => hn) (fun zz => absurd c3 zz))⟩
    cases h
    exact ⟨2, And.intro hQ (And.intro rfl rfl)⟩
  · rw [if_neg c3] at h
    suffices hh : ∃ n, jx_W jx_ShM d (some .int) jc_245 Q n 8 [some (.ref 0), some (.int x1)] [] z1.2 by
      obtain ⟨n, hn⟩ := hh
      exact ⟨n + 4, s_M_isShadow (by omega) h2 (And.intro (fun zz => absurd zz c3) (fun _ => hn))⟩
    obtain ⟨z4, h5, h⟩ := Option.bind_eq_some_iff.mp h
    cases h
    exact ⟨12, s_M_dearest (by omega) h5 (And.intro hQ (And.intro rfl rfl))⟩
set_option maxRecDepth 20000 in
theorem s_M_roomFor {N d : Nat} {x1 : Int32} (hd : 10 ≤ d) {σ : jw_M} {z : (Int32 × jw_M)} {Q : jw_Q} (h : f_M_roomFor N x1 σ = some z) (hQ : Q (some (.int z.1)) (jx_ShM, z.2)) : jw_C jp_kd jp_ys d 246 [.ref 0, .int x1] (jx_ShM, σ) Q := by
  obtain ⟨d, rfl⟩ : ∃ e, d = e + 1 := ⟨d - 1, by omega⟩
  replace hd : 9 ≤ d := by omega
  refine jx_C rfl rfl ?_
  unfold f_M_roomFor at h
  obtain ⟨z1, h2, h⟩ := Option.bind_eq_some_iff.mp h
  by_cases c3 : z1.1 = 0
  · rw [if_pos c3] at h
    suffices hh : ∃ n, jx_W jx_ShM d (some .int) jc_246 Q n 25 [some (.ref 0), some (.int x1)] [] z1.2 by
      obtain ⟨n, hn⟩ := hh
      exact ⟨n + 4, s_M_isLesson (by omega) h2 (And.intro (fun _ => hn) (fun zz => absurd c3 zz))⟩
    cases h
    exact ⟨2, And.intro hQ (And.intro rfl rfl)⟩
  · rw [if_neg c3] at h
    suffices hh : ∃ n, jx_W jx_ShM d (some .int) jc_246 Q n 8 [some (.ref 0), some (.int x1)] [] z1.2 by
      obtain ⟨n, hn⟩ := hh
      exact ⟨n + 4, s_M_isLesson (by omega) h2 (And.intro (fun zz => absurd zz c3) (fun _ => hn))⟩
    obtain ⟨z4, h5, h⟩ := Option.bind_eq_some_iff.mp h
    cases h
    exact ⟨12, s_M_dearest (by omega) h5 (And.intro hQ (And.intro rfl rfl))⟩
set_option maxRecDepth 20000 in
theorem s_M_letGoBy_67 {N d : Nat} {Q : jw_Q} {K34 : Int32 → Int32 → Int32 → Int32 → Int32 → jw_M → Option (Int32 × jw_M)} (hd : 8 ≤ d) (hK34 : ∀ {x1 : Int32} {x2 : Int32} {x3 : Int32} {x4 : Int32} {x5 : Int32} {σ : jw_M} {z : (Int32 × jw_M)}, K34 x1 x2 x3 x4 x5 σ = some z → Q (some (.int z.1)) (jx_ShM, z.2) → ∃ n, jx_W jx_ShM d (some .int) jc_247 Q n 34 [some (.ref 0), some (.int x1), some (.int x2), some (.int x3), some (.int x4), some (.int x5)] [] σ) {x1 : Int32} {x2 : Int32} {x3 : Int32} {x5 : Int32} {y0 : Int32} {u4 : Option Value} {σ : jw_M} {z : (Int32 × jw_M)} (h : f_M_letGoBy_67 N K34 x1 x2 x3 x5 y0 σ = some z) (hQ : Q (some (.int z.1)) (jx_ShM, z.2)) : ∃ n, jx_W jx_ShM d (some .int) jc_247 Q n 67 [some (.ref 0), some (.int x1), some (.int x2), some (.int x3), u4, some (.int x5)] [.int y0] σ := by
  unfold f_M_letGoBy_67 at h
  obtain ⟨n, hn⟩ := hK34 h hQ
  exact ⟨n + 3, hn⟩
set_option maxRecDepth 20000 in
theorem s_M_letGoBy_34 {N d : Nat} {Q : jw_Q} (hd : 8 ≤ d) : ∀ (k : Nat) {x1 : Int32} {x2 : Int32} {x3 : Int32} {x4 : Int32} {x5 : Int32} {σ : jw_M} {z : (Int32 × jw_M)}, f_M_letGoBy_34 N k x1 x2 x3 x4 x5 σ = some z → Q (some (.int z.1)) (jx_ShM, z.2) → ∃ n, jx_W jx_ShM d (some .int) jc_247 Q n 34 [some (.ref 0), some (.int x1), some (.int x2), some (.int x3), some (.int x4), some (.int x5)] [] σ
  | 0, _, _, _, _, _, _, _, h, _ => by cases h
  | k + 1, x1, x2, x3, x4, x5, σ, z, h, hQ => by
    rw [f_M_letGoBy_34] at h
    by_cases c5 : x5 < 1
    · rw [if_pos c5] at h
      suffices hh : ∃ n, jx_W jx_ShM d (some .int) jc_247 Q n 75 [some (.ref 0), some (.int x1), some (.int x2), some (.int x3), some (.int x4), some (.int x5)] [] σ by
        obtain ⟨n, hn⟩ := hh
        exact ⟨n + 3, And.intro (fun _ => hn) (fun zz => absurd c5 zz)⟩
      cases c6 : jx_in x2 526 with
      | false => rw [c6, cond_false] at h; cases h
      | true =>
        rw [c6, cond_true] at h
        cases h
        exact ⟨7, And.intro (jx_in_ok c6) (And.intro hQ (And.intro rfl rfl))⟩
    · rw [if_neg c5] at h
      suffices hh : ∃ n, jx_W jx_ShM d (some .int) jc_247 Q n 40 [some (.ref 0), some (.int x1), some (.int x2), some (.int x3), some (.int x4), some (.int x5)] [] σ by
        obtain ⟨n, hn⟩ := hh
        exact ⟨n + 3, And.intro (fun zz => absurd zz c5) (fun _ => hn)⟩
      cases c7 : jx_in x2 526 with
      | false => rw [c7, cond_false] at h; cases h
      | true =>
        rw [c7, cond_true] at h
        obtain ⟨z8, h9, h⟩ := Option.bind_eq_some_iff.mp h
        by_cases c10 : ((z8.1 >>> (x1 &&& 31)) &&& 1) = 1
        · rw [if_pos c10] at h
          suffices hh : ∃ n, jx_W jx_ShM d (some .int) jc_247 Q n 60 [some (.ref 0), some (.int x1), some (.int x2), some (.int x3), some (.int x4), some (.int x5)] [] z8.2 by
            obtain ⟨n, hn⟩ := hh
            exact ⟨n + 13, And.intro (jx_in_ok c7) (s_M_letGo (by omega) h9 (And.intro (fun zz => absurd c10 zz) (fun _ => hn)))⟩
          obtain ⟨n, hn⟩ := s_M_letGoBy_67 hd (s_M_letGoBy_34 hd k) (u4 := some (.int x4)) h hQ
          exact ⟨n + 2, hn⟩
        · rw [if_neg c10] at h
          suffices hh : ∃ n, jx_W jx_ShM d (some .int) jc_247 Q n 65 [some (.ref 0), some (.int x1), some (.int x2), some (.int x3), some (.int x4), some (.int x5)] [] z8.2 by
            obtain ⟨n, hn⟩ := hh
            exact ⟨n + 13, And.intro (jx_in_ok c7) (s_M_letGo (by omega) h9 (And.intro (fun _ => hn) (fun zz => absurd zz c10)))⟩
          obtain ⟨n, hn⟩ := s_M_letGoBy_67 hd (s_M_letGoBy_34 hd k) (u4 := some (.int x4)) h hQ
          exact ⟨n + 1, hn⟩
set_option maxRecDepth 20000 in
theorem s_M_letGoBy {N d : Nat} {x1 : Int32} (hd : 9 ≤ d) {σ : jw_M} {z : (Int32 × jw_M)} {Q : jw_Q} (h : f_M_letGoBy N x1 σ = some z) (hQ : Q (some (.int z.1)) (jx_ShM, z.2)) : jw_C jp_kd jp_ys d 247 [.ref 0, .int x1] (jx_ShM, σ) Q := by
  obtain ⟨d, rfl⟩ : ∃ e, d = e + 1 := ⟨d - 1, by omega⟩
  replace hd : 8 ≤ d := by omega
  refine jx_C rfl rfl ?_
  unfold f_M_letGoBy at h
  obtain ⟨z1, h2, h⟩ := Option.bind_eq_some_iff.mp h
  by_cases c3 : z1.1 = 0
  · rw [if_pos c3] at h
    suffices hh : ∃ n, jx_W jx_ShM d (some .int) jc_247 Q n 8 [some (.ref 0), some (.int x1), none, none, none, none] [] z1.2 by
      obtain ⟨n, hn⟩ := hh
      exact ⟨n + 4, s_M_isShadow (by omega) h2 (And.intro (fun zz => absurd c3 zz) (fun _ => hn))⟩
    cases h
    exact ⟨2, And.intro hQ (And.intro rfl rfl)⟩
  · rw [if_neg c3] at h
    suffices hh : ∃ n, jx_W jx_ShM d (some .int) jc_247 Q n 10 [some (.ref 0), some (.int x1), none, none, none, none] [] z1.2 by
      obtain ⟨n, hn⟩ := hh
      exact ⟨n + 4, s_M_isShadow (by omega) h2 (And.intro (fun _ => hn) (fun zz => absurd zz c3))⟩
    cases c4 : jx_in ((6 + (3 * x1)) + 1) 526 with
    | false => rw [c4, cond_false] at h; cases h
    | true =>
      rw [c4, cond_true] at h
      obtain ⟨n, hn⟩ := s_M_letGoBy_34 hd N h hQ
      exact ⟨n + 17, And.intro (jx_in_ok c4) (hn)⟩
set_option maxRecDepth 20000 in
theorem s_M_quarrel {N d : Nat} {x1 : Int32} {x2 : Int32} {x3 : Int32} (hd : 3 ≤ d) {σ : jw_M} {z : (Int32 × jw_M)} {Q : jw_Q} (h : f_M_quarrel N x1 x2 x3 σ = some z) (hQ : Q (some (.int z.1)) (jx_ShM, z.2)) : jw_C jp_kd jp_ys d 248 [.ref 0, .int x1, .int x2, .int x3] (jx_ShM, σ) Q := by
  obtain ⟨d, rfl⟩ : ∃ e, d = e + 1 := ⟨d - 1, by omega⟩
  replace hd : 2 ≤ d := by omega
  refine jx_C rfl rfl ?_
  unfold f_M_quarrel at h
  obtain ⟨z1, h2, h⟩ := Option.bind_eq_some_iff.mp h
  by_cases c3 : z1.1 = 0
  · rw [if_pos c3] at h
    suffices hh : ∃ n, jx_W jx_ShM d (some .int) jc_248 Q n 30 [some (.ref 0), some (.int x1), some (.int x2), some (.int x3), none] [] z1.2 by
      obtain ⟨n, hn⟩ := hh
      exact ⟨n + 4, s_M_isShadow (by omega) h2 (And.intro (fun _ => hn) (fun zz => absurd c3 zz))⟩
    cases h
    exact ⟨2, And.intro hQ (And.intro rfl rfl)⟩
  · rw [if_neg c3] at h
    suffices hh : ∃ n, jx_W jx_ShM d (some .int) jc_248 Q n 8 [some (.ref 0), some (.int x1), some (.int x2), some (.int x3), none] [] z1.2 by
      obtain ⟨n, hn⟩ := hh
      exact ⟨n + 4, s_M_isShadow (by omega) h2 (And.intro (fun zz => absurd zz c3) (fun _ => hn))⟩
    obtain ⟨z4, h5, h⟩ := Option.bind_eq_some_iff.mp h
    by_cases c6 : z4.1 = 0
    · rw [if_pos c6] at h
      suffices hh : ∃ n, jx_W jx_ShM d (some .int) jc_248 Q n 30 [some (.ref 0), some (.int x1), some (.int x2), some (.int x3), none] [] z4.2 by
        obtain ⟨n, hn⟩ := hh
        exact ⟨n + 4, s_M_isShadow (by omega) h5 (And.intro (fun _ => hn) (fun zz => absurd c6 zz))⟩
      cases h
      exact ⟨2, And.intro hQ (And.intro rfl rfl)⟩
    · rw [if_neg c6] at h
      suffices hh : ∃ n, jx_W jx_ShM d (some .int) jc_248 Q n 16 [some (.ref 0), some (.int x1), some (.int x2), some (.int x3), none] [] z4.2 by
        obtain ⟨n, hn⟩ := hh
        exact ⟨n + 4, s_M_isShadow (by omega) h5 (And.intro (fun zz => absurd zz c6) (fun _ => hn))⟩
      by_cases c7 : x1 = x2
      · rw [if_pos c7] at h
        suffices hh : ∃ n, jx_W jx_ShM d (some .int) jc_248 Q n 30 [some (.ref 0), some (.int x1), some (.int x2), some (.int x3), none] [] z4.2 by
          obtain ⟨n, hn⟩ := hh
          exact ⟨n + 3, And.intro (fun _ => hn) (fun zz => absurd c7 zz)⟩
        cases h
        exact ⟨2, And.intro hQ (And.intro rfl rfl)⟩
      · rw [if_neg c7] at h
        suffices hh : ∃ n, jx_W jx_ShM d (some .int) jc_248 Q n 21 [some (.ref 0), some (.int x1), some (.int x2), some (.int x3), none] [] z4.2 by
          obtain ⟨n, hn⟩ := hh
          exact ⟨n + 3, And.intro (fun zz => absurd zz c7) (fun _ => hn)⟩
        obtain ⟨z8, h9, h⟩ := Option.bind_eq_some_iff.mp h
        by_cases c10 : z8.1 = 0
        · rw [if_pos c10] at h
          suffices hh : ∃ n, jx_W jx_ShM d (some .int) jc_248 Q n 30 [some (.ref 0), some (.int x1), some (.int x2), some (.int x3), none] [] z8.2 by
            obtain ⟨n, hn⟩ := hh
            exact ⟨n + 5, s_M_in (by omega) h9 (And.intro (fun zz => absurd c10 zz) (fun _ => hn))⟩
          cases h
          exact ⟨2, And.intro hQ (And.intro rfl rfl)⟩
        · rw [if_neg c10] at h
          suffices hh : ∃ n, jx_W jx_ShM d (some .int) jc_248 Q n 32 [some (.ref 0), some (.int x1), some (.int x2), some (.int x3), none] [] z8.2 by
            obtain ⟨n, hn⟩ := hh
            exact ⟨n + 5, s_M_in (by omega) h9 (And.intro (fun _ => hn) (fun zz => absurd zz c10))⟩
          cases c11 : jx_in (64 + x1) 526 with
          | false => rw [c11, cond_false] at h; cases h
          | true =>
            rw [c11, cond_true] at h
            cases c12 : jx_in (64 + x2) 526 with
            | false => rw [c12, cond_false] at h; cases h
            | true =>
              rw [c12, cond_true] at h
              cases h
              exact ⟨57, And.intro (jx_in_ok c11) (And.intro (jx_in_ok c11) (And.intro (jx_in_ok c11) (And.intro (jx_in_ok c12) (And.intro (jx_in_ok c12) (And.intro hQ (And.intro rfl rfl))))))⟩
set_option maxRecDepth 20000 in
theorem s_M_quarrels {N d : Nat} {x1 : Int32} (hd : 3 ≤ d) {σ : jw_M} {z : (Int32 × jw_M)} {Q : jw_Q} (h : f_M_quarrels N x1 σ = some z) (hQ : Q (some (.int z.1)) (jx_ShM, z.2)) : jw_C jp_kd jp_ys d 249 [.ref 0, .int x1] (jx_ShM, σ) Q := by
  obtain ⟨d, rfl⟩ : ∃ e, d = e + 1 := ⟨d - 1, by omega⟩
  replace hd : 2 ≤ d := by omega
  refine jx_C rfl rfl ?_
  unfold f_M_quarrels at h
  obtain ⟨z1, h2, h⟩ := Option.bind_eq_some_iff.mp h
  by_cases c3 : z1.1 = 0
  · rw [if_pos c3] at h
    suffices hh : ∃ n, jx_W jx_ShM d (some .int) jc_249 Q n 20 [some (.ref 0), some (.int x1)] [] z1.2 by
      obtain ⟨n, hn⟩ := hh
      exact ⟨n + 4, s_M_isShadow (by omega) h2 (And.intro (fun _ => hn) (fun zz => absurd c3 zz))⟩
    cases h
    exact ⟨2, And.intro hQ (And.intro rfl rfl)⟩
  · rw [if_neg c3] at h
    suffices hh : ∃ n, jx_W jx_ShM d (some .int) jc_249 Q n 8 [some (.ref 0), some (.int x1)] [] z1.2 by
      obtain ⟨n, hn⟩ := hh
      exact ⟨n + 4, s_M_isShadow (by omega) h2 (And.intro (fun zz => absurd zz c3) (fun _ => hn))⟩
    cases c4 : jx_in (64 + x1) 526 with
    | false => rw [c4, cond_false] at h; cases h
    | true =>
      rw [c4, cond_true] at h
      cases h
      exact ⟨8, And.intro (jx_in_ok c4) (And.intro hQ (And.intro rfl rfl))⟩
set_option maxRecDepth 20000 in
theorem s_M_isSeating_61 {N d : Nat} {Q : jw_Q} {K4 : Int32 → Int32 → jw_M → Option (Int32 × jw_M)} {K16 : Int32 → Int32 → Int32 → jw_M → Option (Int32 × jw_M)} (hd : 0 ≤ d) (hK4 : ∀ {x1 : Int32} {x2 : Int32} {σ : jw_M} {z : (Int32 × jw_M)} {u3 : Option Value}, K4 x1 x2 σ = some z → Q (some (.int z.1)) (jx_ShM, z.2) → ∃ n, jx_W jx_ShM d (some .boolean) jc_250 Q n 4 [some (.ref 0), some (.int x1), some (.int x2), u3] [] σ) (hK16 : ∀ {x1 : Int32} {x2 : Int32} {x3 : Int32} {σ : jw_M} {z : (Int32 × jw_M)}, K16 x1 x2 x3 σ = some z → Q (some (.int z.1)) (jx_ShM, z.2) → ∃ n, jx_W jx_ShM d (some .boolean) jc_250 Q n 16 [some (.ref 0), some (.int x1), some (.int x2), some (.int x3)] [] σ) {x2 : Int32} {x3 : Int32} {y0 : Int32} {u1 : Option Value} {σ : jw_M} {z : (Int32 × jw_M)} (h : f_M_isSeating_61 N K4 K16 x2 x3 y0 σ = some z) (hQ : Q (some (.int z.1)) (jx_ShM, z.2)) : ∃ n, jx_W jx_ShM d (some .boolean) jc_250 Q n 61 [some (.ref 0), u1, some (.int x2), some (.int x3)] [.int y0] σ := by
  unfold f_M_isSeating_61 at h
  obtain ⟨n, hn⟩ := hK16 h hQ
  exact ⟨n + 3, hn⟩
set_option maxRecDepth 20000 in
theorem s_M_isSeating_60 {N d : Nat} {Q : jw_Q} {K4 : Int32 → Int32 → jw_M → Option (Int32 × jw_M)} {K16 : Int32 → Int32 → Int32 → jw_M → Option (Int32 × jw_M)} (hd : 0 ≤ d) (hK4 : ∀ {x1 : Int32} {x2 : Int32} {σ : jw_M} {z : (Int32 × jw_M)} {u3 : Option Value}, K4 x1 x2 σ = some z → Q (some (.int z.1)) (jx_ShM, z.2) → ∃ n, jx_W jx_ShM d (some .boolean) jc_250 Q n 4 [some (.ref 0), some (.int x1), some (.int x2), u3] [] σ) (hK16 : ∀ {x1 : Int32} {x2 : Int32} {x3 : Int32} {σ : jw_M} {z : (Int32 × jw_M)}, K16 x1 x2 x3 σ = some z → Q (some (.int z.1)) (jx_ShM, z.2) → ∃ n, jx_W jx_ShM d (some .boolean) jc_250 Q n 16 [some (.ref 0), some (.int x1), some (.int x2), some (.int x3)] [] σ) {x2 : Int32} {x3 : Int32} {u1 : Option Value} {σ : jw_M} {z : (Int32 × jw_M)} (h : f_M_isSeating_60 N K4 K16 x2 x3 σ = some z) (hQ : Q (some (.int z.1)) (jx_ShM, z.2)) : ∃ n, jx_W jx_ShM d (some .boolean) jc_250 Q n 60 [some (.ref 0), u1, some (.int x2), some (.int x3)] [] σ := by
  unfold f_M_isSeating_60 at h
  obtain ⟨n, hn⟩ := s_M_isSeating_61 hd hK4 hK16 (u1 := u1) h hQ
  exact ⟨n + 1, hn⟩
set_option maxRecDepth 20000 in
theorem s_M_isSeating_56 {N d : Nat} {Q : jw_Q} {K4 : Int32 → Int32 → jw_M → Option (Int32 × jw_M)} {K16 : Int32 → Int32 → Int32 → jw_M → Option (Int32 × jw_M)} (hd : 0 ≤ d) (hK4 : ∀ {x1 : Int32} {x2 : Int32} {σ : jw_M} {z : (Int32 × jw_M)} {u3 : Option Value}, K4 x1 x2 σ = some z → Q (some (.int z.1)) (jx_ShM, z.2) → ∃ n, jx_W jx_ShM d (some .boolean) jc_250 Q n 4 [some (.ref 0), some (.int x1), some (.int x2), u3] [] σ) (hK16 : ∀ {x1 : Int32} {x2 : Int32} {x3 : Int32} {σ : jw_M} {z : (Int32 × jw_M)}, K16 x1 x2 x3 σ = some z → Q (some (.int z.1)) (jx_ShM, z.2) → ∃ n, jx_W jx_ShM d (some .boolean) jc_250 Q n 16 [some (.ref 0), some (.int x1), some (.int x2), some (.int x3)] [] σ) {x2 : Int32} {x3 : Int32} {u1 : Option Value} {σ : jw_M} {z : (Int32 × jw_M)} (h : f_M_isSeating_56 N K4 K16 x2 x3 σ = some z) (hQ : Q (some (.int z.1)) (jx_ShM, z.2)) : ∃ n, jx_W jx_ShM d (some .boolean) jc_250 Q n 56 [some (.ref 0), u1, some (.int x2), some (.int x3)] [] σ := by
  unfold f_M_isSeating_56 at h
  obtain ⟨n, hn⟩ := s_M_isSeating_61 hd hK4 hK16 (u1 := u1) h hQ
  exact ⟨n + 2, hn⟩
set_option maxRecDepth 20000 in
theorem s_M_isSeating_16 {N d : Nat} {Q : jw_Q} {K4 : Int32 → Int32 → jw_M → Option (Int32 × jw_M)} (hd : 0 ≤ d) (hK4 : ∀ {x1 : Int32} {x2 : Int32} {σ : jw_M} {z : (Int32 × jw_M)} {u3 : Option Value}, K4 x1 x2 σ = some z → Q (some (.int z.1)) (jx_ShM, z.2) → ∃ n, jx_W jx_ShM d (some .boolean) jc_250 Q n 4 [some (.ref 0), some (.int x1), some (.int x2), u3] [] σ) : ∀ (k : Nat) {x1 : Int32} {x2 : Int32} {x3 : Int32} {σ : jw_M} {z : (Int32 × jw_M)}, f_M_isSeating_16 N K4 k x1 x2 x3 σ = some z → Q (some (.int z.1)) (jx_ShM, z.2) → ∃ n, jx_W jx_ShM d (some .boolean) jc_250 Q n 16 [some (.ref 0), some (.int x1), some (.int x2), some (.int x3)] [] σ
  | 0, _, _, _, _, _, h, _ => by cases h
  | k + 1, x1, x2, x3, σ, z, h, hQ => by
    rw [f_M_isSeating_16] at h
    by_cases c3 : x2 ≤ x3
    · rw [if_pos c3] at h
      suffices hh : ∃ n, jx_W jx_ShM d (some .boolean) jc_250 Q n 68 [some (.ref 0), some (.int x1), some (.int x2), some (.int x3)] [] σ by
        obtain ⟨n, hn⟩ := hh
        exact ⟨n + 3, And.intro (fun _ => hn) (fun zz => absurd c3 zz)⟩
      obtain ⟨n, hn⟩ := hK4 (u3 := some (.int x3)) h hQ
      exact ⟨n + 2, hn⟩
    · rw [if_neg c3] at h
      suffices hh : ∃ n, jx_W jx_ShM d (some .boolean) jc_250 Q n 21 [some (.ref 0), some (.int x1), some (.int x2), some (.int x3)] [] σ by
        obtain ⟨n, hn⟩ := hh
        exact ⟨n + 3, And.intro (fun zz => absurd zz c3) (fun _ => hn)⟩
      by_cases c4 : x1 = 0
      · rw [if_pos c4] at h
        suffices hh : ∃ n, jx_W jx_ShM d (some .boolean) jc_250 Q n 60 [some (.ref 0), some (.int x1), some (.int x2), some (.int x3)] [] σ by
          obtain ⟨n, hn⟩ := hh
          exact ⟨n + 2, And.intro (fun _ => hn) (fun zz => absurd c4 zz)⟩
        obtain ⟨n, hn⟩ := s_M_isSeating_60 hd hK4 (s_M_isSeating_16 hd hK4 k) (u1 := some (.int x1)) h hQ
        exact ⟨n + 0, hn⟩
      · rw [if_neg c4] at h
        suffices hh : ∃ n, jx_W jx_ShM d (some .boolean) jc_250 Q n 25 [some (.ref 0), some (.int x1), some (.int x2), some (.int x3)] [] σ by
          obtain ⟨n, hn⟩ := hh
          exact ⟨n + 2, And.intro (fun zz => absurd zz c4) (fun _ => hn)⟩
        cases c5 : jx_in x2 6 with
        | false => rw [c5, cond_false] at h; cases h
        | true =>
          rw [c5, cond_true] at h
          cases c6 : jx_in x3 6 with
          | false => rw [c6, cond_false] at h; cases h
          | true =>
            rw [c6, cond_true] at h
            by_cases c7 : (σ.1 11 (x2).toNatClampNeg) = (σ.1 11 (x3).toNatClampNeg)
            · rw [if_pos c7] at h
              suffices hh : ∃ n, jx_W jx_ShM d (some .boolean) jc_250 Q n 40 [some (.ref 0), some (.int x1), some (.int x2), some (.int x3)] [] σ by
                obtain ⟨n, hn⟩ := hh
                exact ⟨n + 9, And.intro (jx_in_ok c5) (And.intro (jx_in_ok c6) (And.intro (fun zz => absurd c7 zz) (fun _ => hn)))⟩
              cases c8 : jx_in (64 + x2) 526 with
              | false => rw [c8, cond_false] at h; cases h
              | true =>
                rw [c8, cond_true] at h
                by_cases c9 : (((σ.1 3 ((64 + x2)).toNatClampNeg) >>> (x3 &&& 31)) &&& 1) = 0
                · rw [if_pos c9] at h
                  suffices hh : ∃ n, jx_W jx_ShM d (some .boolean) jc_250 Q n 56 [some (.ref 0), some (.int x1), some (.int x2), some (.int x3)] [] σ by
                    obtain ⟨n, hn⟩ := hh
                    exact ⟨n + 11, And.intro (jx_in_ok c8) (And.intro (fun zz => absurd c9 zz) (fun _ => hn))⟩
                  obtain ⟨n, hn⟩ := s_M_isSeating_56 hd hK4 (s_M_isSeating_16 hd hK4 k) (u1 := some (.int x1)) h hQ
                  exact ⟨n + 0, hn⟩
                · rw [if_neg c9] at h
                  suffices hh : ∃ n, jx_W jx_ShM d (some .boolean) jc_250 Q n 60 [some (.ref 0), some (.int x1), some (.int x2), some (.int x3)] [] σ by
                    obtain ⟨n, hn⟩ := hh
                    exact ⟨n + 11, And.intro (jx_in_ok c8) (And.intro (fun _ => hn) (fun zz => absurd zz c9))⟩
                  obtain ⟨n, hn⟩ := s_M_isSeating_60 hd hK4 (s_M_isSeating_16 hd hK4 k) (u1 := some (.int x1)) h hQ
                  exact ⟨n + 0, hn⟩
            · rw [if_neg c7] at h
              suffices hh : ∃ n, jx_W jx_ShM d (some .boolean) jc_250 Q n 56 [some (.ref 0), some (.int x1), some (.int x2), some (.int x3)] [] σ by
                obtain ⟨n, hn⟩ := hh
                exact ⟨n + 9, And.intro (jx_in_ok c5) (And.intro (jx_in_ok c6) (And.intro (fun _ => hn) (fun zz => absurd zz c7)))⟩
              obtain ⟨n, hn⟩ := s_M_isSeating_56 hd hK4 (s_M_isSeating_16 hd hK4 k) (u1 := some (.int x1)) h hQ
              exact ⟨n + 0, hn⟩
set_option maxRecDepth 20000 in
theorem s_M_isSeating_4 {N d : Nat} {Q : jw_Q} (hd : 0 ≤ d) : ∀ (k : Nat) {x1 : Int32} {x2 : Int32} {u3 : Option Value} {σ : jw_M} {z : (Int32 × jw_M)}, f_M_isSeating_4 N k x1 x2 σ = some z → Q (some (.int z.1)) (jx_ShM, z.2) → ∃ n, jx_W jx_ShM d (some .boolean) jc_250 Q n 4 [some (.ref 0), some (.int x1), some (.int x2), u3] [] σ
  | 0, _, _, _, _, _, h, _ => by cases h
  | k + 1, x1, x2, u3, σ, z, h, hQ => by
    rw [f_M_isSeating_4] at h
    by_cases c1 : (σ.1 3 2) ≤ x2
    · rw [if_pos c1] at h
      suffices hh : ∃ n, jx_W jx_ShM d (some .boolean) jc_250 Q n 74 [some (.ref 0), some (.int x1), some (.int x2), u3] [] σ by
        obtain ⟨n, hn⟩ := hh
        exact ⟨n + 6, And.intro (jx_in_ok rfl) (And.intro (fun _ => hn) (fun zz => absurd c1 zz))⟩
      by_cases c2 : x1 = 0 ∨ x1 = 1
      · rw [if_pos c2] at h
        cases h
        exact ⟨2, And.intro c2 (And.intro hQ (And.intro rfl rfl))⟩
      · rw [if_neg c2] at h
        cases h
    · rw [if_neg c1] at h
      suffices hh : ∃ n, jx_W jx_ShM d (some .boolean) jc_250 Q n 14 [some (.ref 0), some (.int x1), some (.int x2), u3] [] σ by
        obtain ⟨n, hn⟩ := hh
        exact ⟨n + 6, And.intro (jx_in_ok rfl) (And.intro (fun zz => absurd zz c1) (fun _ => hn))⟩
      obtain ⟨n, hn⟩ := s_M_isSeating_16 hd (s_M_isSeating_4 hd k) N h hQ
      exact ⟨n + 2, hn⟩
set_option maxRecDepth 20000 in
theorem s_M_isSeating {N d : Nat} (hd : 1 ≤ d) {σ : jw_M} {z : (Int32 × jw_M)} {Q : jw_Q} (h : f_M_isSeating N  σ = some z) (hQ : Q (some (.int z.1)) (jx_ShM, z.2)) : jw_C jp_kd jp_ys d 250 [.ref 0] (jx_ShM, σ) Q := by
  obtain ⟨d, rfl⟩ : ∃ e, d = e + 1 := ⟨d - 1, by omega⟩
  replace hd : 0 ≤ d := by omega
  refine jx_C rfl rfl ?_
  unfold f_M_isSeating at h
  obtain ⟨n, hn⟩ := s_M_isSeating_4 hd N (u3 := none) h hQ
  exact ⟨n + 4, hn⟩
set_option maxRecDepth 20000 in
theorem s_M_isNextWay_52 {N d : Nat} {Q : jw_Q} (hd : 0 ≤ d) {x2 : Int32} {u0 : Option Value} {u1 : Option Value} {σ : jw_M} {z : (Int32 × jw_M)} (h : f_M_isNextWay_52 N x2 σ = some z) (hQ : Q (some (.int z.1)) (jx_ShM, z.2)) : ∃ n, jx_W jx_ShM d (some .boolean) jc_251 Q n 52 [u0, u1, some (.int x2)] [] σ := by
  unfold f_M_isNextWay_52 at h
  by_cases c3 : x2 < 0
  · rw [if_pos c3] at h
    suffices hh : ∃ n, jx_W jx_ShM d (some .boolean) jc_251 Q n 60 [u0, u1, some (.int x2)] [] σ by
      obtain ⟨n, hn⟩ := hh
      exact ⟨n + 2, And.intro (fun _ => hn) (fun zz => absurd c3 zz)⟩
    cases h
    exact ⟨2, And.intro (Or.inl rfl) (And.intro hQ (And.intro rfl rfl))⟩
  · rw [if_neg c3] at h
    suffices hh : ∃ n, jx_W jx_ShM d (some .boolean) jc_251 Q n 56 [u0, u1, some (.int x2)] [] σ by
      obtain ⟨n, hn⟩ := hh
      exact ⟨n + 2, And.intro (fun zz => absurd zz c3) (fun _ => hn)⟩
    cases h
    exact ⟨3, And.intro (Or.inr rfl) (And.intro hQ (And.intro rfl rfl))⟩
set_option maxRecDepth 20000 in
theorem s_M_isNextWay_38 {N d : Nat} {Q : jw_Q} (hd : 0 ≤ d) {x2 : Int32} {u1 : Option Value} {σ : jw_M} {z : (Int32 × jw_M)} (h : f_M_isNextWay_38 N x2 σ = some z) (hQ : Q (some (.int z.1)) (jx_ShM, z.2)) : ∃ n, jx_W jx_ShM d (some .boolean) jc_251 Q n 38 [some (.ref 0), u1, some (.int x2)] [] σ := by
  unfold f_M_isNextWay_38 at h
  by_cases c2 : x2 < 0
  · rw [if_pos c2] at h
    suffices hh : ∃ n, jx_W jx_ShM d (some .boolean) jc_251 Q n 52 [some (.ref 0), u1, some (.int x2)] [] σ by
      obtain ⟨n, hn⟩ := hh
      exact ⟨n + 2, And.intro (fun _ => hn) (fun zz => absurd c2 zz)⟩
    obtain ⟨n, hn⟩ := s_M_isNextWay_52 hd (u0 := some (.ref 0)) (u1 := u1) h hQ
    exact ⟨n + 0, hn⟩
  · rw [if_neg c2] at h
    suffices hh : ∃ n, jx_W jx_ShM d (some .boolean) jc_251 Q n 42 [some (.ref 0), u1, some (.int x2)] [] σ by
      obtain ⟨n, hn⟩ := hh
      exact ⟨n + 2, And.intro (fun zz => absurd zz c2) (fun _ => hn)⟩
    cases c4 : jx_in x2 6 with
    | false => rw [c4, cond_false] at h; cases h
    | true =>
      rw [c4, cond_true] at h
      obtain ⟨n, hn⟩ := s_M_isNextWay_52 hd (u0 := some (.ref 0)) (u1 := u1) h hQ
      exact ⟨n + 8, And.intro (jx_in_ok c4) (And.intro (jx_in_ok c4) (hn))⟩
set_option maxRecDepth 20000 in
theorem s_M_isNextWay_9 {N d : Nat} {Q : jw_Q} (hd : 0 ≤ d) : ∀ (k : Nat) {x1 : Int32} {x2 : Int32} {σ : jw_M} {z : (Int32 × jw_M)}, f_M_isNextWay_9 N k x1 x2 σ = some z → Q (some (.int z.1)) (jx_ShM, z.2) → ∃ n, jx_W jx_ShM d (some .boolean) jc_251 Q n 9 [some (.ref 0), some (.int x1), some (.int x2)] [] σ
  | 0, _, _, _, _, h, _ => by cases h
  | k + 1, x1, x2, σ, z, h, hQ => by
    rw [f_M_isNextWay_9] at h
    by_cases c1 : x2 < 0
    · rw [if_pos c1] at h
      suffices hh : ∃ n, jx_W jx_ShM d (some .boolean) jc_251 Q n 38 [some (.ref 0), some (.int x1), some (.int x2)] [] σ by
        obtain ⟨n, hn⟩ := hh
        exact ⟨n + 2, And.intro (fun _ => hn) (fun zz => absurd c1 zz)⟩
      obtain ⟨n, hn⟩ := s_M_isNextWay_38 hd (u1 := some (.int x1)) h hQ
      exact ⟨n + 0, hn⟩
    · rw [if_neg c1] at h
      suffices hh : ∃ n, jx_W jx_ShM d (some .boolean) jc_251 Q n 13 [some (.ref 0), some (.int x1), some (.int x2)] [] σ by
        obtain ⟨n, hn⟩ := hh
        exact ⟨n + 2, And.intro (fun zz => absurd zz c1) (fun _ => hn)⟩
      cases c5 : jx_in x2 6 with
      | false => rw [c5, cond_false] at h; cases h
      | true =>
        rw [c5, cond_true] at h
        by_cases c6 : (σ.1 11 (x2).toNatClampNeg) = (x1 - 1)
        · rw [if_pos c6] at h
          suffices hh : ∃ n, jx_W jx_ShM d (some .boolean) jc_251 Q n 25 [some (.ref 0), some (.int x1), some (.int x2)] [] σ by
            obtain ⟨n, hn⟩ := hh
            exact ⟨n + 8, And.intro (jx_in_ok c5) (And.intro (fun zz => absurd c6 zz) (fun _ => hn))⟩
          obtain ⟨n, hn⟩ := s_M_isNextWay_9 hd k h hQ
          exact ⟨n + 7, And.intro (jx_in_ok c5) (hn)⟩
        · rw [if_neg c6] at h
          suffices hh : ∃ n, jx_W jx_ShM d (some .boolean) jc_251 Q n 38 [some (.ref 0), some (.int x1), some (.int x2)] [] σ by
            obtain ⟨n, hn⟩ := hh
            exact ⟨n + 8, And.intro (jx_in_ok c5) (And.intro (fun _ => hn) (fun zz => absurd zz c6))⟩
          obtain ⟨n, hn⟩ := s_M_isNextWay_38 hd (u1 := some (.int x1)) h hQ
          exact ⟨n + 0, hn⟩
set_option maxRecDepth 20000 in
theorem s_M_isNextWay {N d : Nat} {x1 : Int32} (hd : 1 ≤ d) {σ : jw_M} {z : (Int32 × jw_M)} {Q : jw_Q} (h : f_M_isNextWay N x1 σ = some z) (hQ : Q (some (.int z.1)) (jx_ShM, z.2)) : jw_C jp_kd jp_ys d 251 [.ref 0, .int x1] (jx_ShM, σ) Q := by
  obtain ⟨d, rfl⟩ : ∃ e, d = e + 1 := ⟨d - 1, by omega⟩
  replace hd : 0 ≤ d := by omega
  refine jx_C rfl rfl ?_
  unfold f_M_isNextWay at h
  obtain ⟨n, hn⟩ := s_M_isNextWay_9 hd N h hQ
  exact ⟨n + 7, And.intro (jx_in_ok rfl) (hn)⟩
set_option maxRecDepth 20000 in
theorem s_M_allInFirst_2 {N d : Nat} {Q : jw_Q} (hd : 0 ≤ d) : ∀ (k : Nat) {x1 : Int32} {σ : jw_M} {z : jw_M}, f_M_allInFirst_2 N k x1 σ = some z → Q none (jx_ShM, z) → ∃ n, jx_W jx_ShM d none jc_252 Q n 2 [some (.ref 0), some (.int x1)] [] σ
  | 0, _, _, _, h, _ => by cases h
  | k + 1, x1, σ, z, h, hQ => by
    rw [f_M_allInFirst_2] at h
    by_cases c1 : 6 ≤ x1
    · rw [if_pos c1] at h
      suffices hh : ∃ n, jx_W jx_ShM d none jc_252 Q n 21 [some (.ref 0), some (.int x1)] [] σ by
        obtain ⟨n, hn⟩ := hh
        exact ⟨n + 3, And.intro (fun _ => hn) (fun zz => absurd c1 zz)⟩
      cases h
      exact ⟨1, And.intro hQ (And.intro rfl rfl)⟩
    · rw [if_neg c1] at h
      suffices hh : ∃ n, jx_W jx_ShM d none jc_252 Q n 8 [some (.ref 0), some (.int x1)] [] σ by
        obtain ⟨n, hn⟩ := hh
        exact ⟨n + 3, And.intro (fun zz => absurd zz c1) (fun _ => hn)⟩
      cases c2 : jx_in x1 6 with
      | false => rw [c2, cond_false] at h; cases h
      | true =>
        rw [c2, cond_true] at h
        obtain ⟨n, hn⟩ := s_M_allInFirst_2 hd k h hQ
        exact ⟨n + 7, And.intro (jx_in_ok c2) (hn)⟩
set_option maxRecDepth 20000 in
theorem s_M_allInFirst {N d : Nat} (hd : 1 ≤ d) {σ : jw_M} {z : jw_M} {Q : jw_Q} (h : f_M_allInFirst N  σ = some z) (hQ : Q none (jx_ShM, z)) : jw_C jp_kd jp_ys d 252 [.ref 0] (jx_ShM, σ) Q := by
  obtain ⟨d, rfl⟩ : ∃ e, d = e + 1 := ⟨d - 1, by omega⟩
  replace hd : 0 ≤ d := by omega
  refine jx_C rfl rfl ?_
  unfold f_M_allInFirst at h
  obtain ⟨n, hn⟩ := s_M_allInFirst_2 hd N h hQ
  exact ⟨n + 2, hn⟩
set_option maxRecDepth 20000 in
theorem s_M_isFirstSeating_4 {N d : Nat} {Q : jw_Q} (hd : 1 ≤ d) : ∀ (k : Nat) {x1 : Int32} {σ : jw_M} {z : (Int32 × jw_M)}, f_M_isFirstSeating_4 N k x1 σ = some z → Q (some (.int z.1)) (jx_ShM, z.2) → ∃ n, jx_W jx_ShM d (some .boolean) jc_253 Q n 4 [some (.ref 0), some (.int x1)] [] σ
  | 0, _, _, _, h, _ => by cases h
  | k + 1, x1, σ, z, h, hQ => by
    rw [f_M_isFirstSeating_4] at h
    obtain ⟨z3, h4, h⟩ := Option.bind_eq_some_iff.mp h
    by_cases c5 : z3.1 = 0
    · rw [if_pos c5] at h
      suffices hh : ∃ n, jx_W jx_ShM d (some .boolean) jc_253 Q n 11 [some (.ref 0), some (.int x1)] [] z3.2 by
        obtain ⟨n, hn⟩ := hh
        exact ⟨n + 3, s_M_isSeating (by omega) h4 (And.intro (fun zz => absurd c5 zz) (fun _ => hn))⟩
      obtain ⟨z6, h7, h⟩ := Option.bind_eq_some_iff.mp h
      by_cases c8 : z6.1 = 0
      · rw [if_pos c8] at h
        suffices hh : ∃ n, jx_W jx_ShM d (some .boolean) jc_253 Q n 19 [some (.ref 0), some (.int x1)] [] z6.2 by
          obtain ⟨n, hn⟩ := hh
          exact ⟨n + 4, s_M_isNextWay (by omega) h7 (And.intro (fun zz => absurd c8 zz) (fun _ => hn))⟩
        cases h
        exact ⟨2, And.intro (Or.inl rfl) (And.intro hQ (And.intro rfl rfl))⟩
      · rw [if_neg c8] at h
        suffices hh : ∃ n, jx_W jx_ShM d (some .boolean) jc_253 Q n 4 [some (.ref 0), some (.int x1)] [] z6.2 by
          obtain ⟨n, hn⟩ := hh
          exact ⟨n + 4, s_M_isNextWay (by omega) h7 (And.intro (fun _ => hn) (fun zz => absurd zz c8))⟩
        obtain ⟨n, hn⟩ := s_M_isFirstSeating_4 hd k h hQ
        exact ⟨n + 0, hn⟩
    · rw [if_neg c5] at h
      suffices hh : ∃ n, jx_W jx_ShM d (some .boolean) jc_253 Q n 21 [some (.ref 0), some (.int x1)] [] z3.2 by
        obtain ⟨n, hn⟩ := hh
        exact ⟨n + 3, s_M_isSeating (by omega) h4 (And.intro (fun _ => hn) (fun zz => absurd zz c5))⟩
      cases h
      exact ⟨2, And.intro (Or.inr rfl) (And.intro hQ (And.intro rfl rfl))⟩
set_option maxRecDepth 20000 in
theorem s_M_isFirstSeating {N d : Nat} {x1 : Int32} (hd : 2 ≤ d) {σ : jw_M} {z : (Int32 × jw_M)} {Q : jw_Q} (h : f_M_isFirstSeating N x1 σ = some z) (hQ : Q (some (.int z.1)) (jx_ShM, z.2)) : jw_C jp_kd jp_ys d 253 [.ref 0, .int x1] (jx_ShM, σ) Q := by
  obtain ⟨d, rfl⟩ : ∃ e, d = e + 1 := ⟨d - 1, by omega⟩
  replace hd : 1 ≤ d := by omega
  refine jx_C rfl rfl ?_
  unfold f_M_isFirstSeating at h
  obtain ⟨z1, h2, h⟩ := Option.bind_eq_some_iff.mp h
  obtain ⟨n, hn⟩ := s_M_isFirstSeating_4 hd N h hQ
  exact ⟨n + 2, s_M_allInFirst (by omega) h2 (hn)⟩
