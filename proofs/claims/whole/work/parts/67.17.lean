set_option maxRecDepth 20000 in
theorem s_M_planHours {N d : Nat} {x1 : Int32} (hd : 1 ≤ d) {σ : jw_M} {z : (Int32 × jw_M)} {Q : jw_Q} (h : f_M_planHours N x1 σ = some z) (hQ : Q (some (.int z.1)) (jx_ShM, z.2)) : jw_C jp_kd jp_ys d 256 [.ref 0, .int x1] (jx_ShM, σ) Q := by
  obtain ⟨d, rfl⟩ : ∃ e, d = e + 1 := ⟨d - 1, by omega⟩
  replace hd : 0 ≤ d := by omega
  refine jx_C rfl rfl ?_
  unfold f_M_planHours at h
  by_cases c1 : x1 ≤ ((σ.1 3 0) - (σ.1 1 0))
  · rw [if_pos c1] at h
    suffices hh : ∃ n, jx_W jx_ShM d (some .int) jc_256 Q n 31 [some (.ref 0), some (.int x1), some (.int ((σ.1 3 0) - (σ.1 1 0)))] [] σ by
      obtain ⟨n, hn⟩ := hh
      exact ⟨n + 13, And.intro (jx_in_ok rfl) (And.intro (jx_in_ok rfl) (And.intro (fun _ => hn) (fun zz => absurd c1 zz)))⟩
    cases h
    exact ⟨2, And.intro hQ (And.intro rfl rfl)⟩
  · rw [if_neg c1] at h
    suffices hh : ∃ n, jx_W jx_ShM d (some .int) jc_256 Q n 19 [some (.ref 0), some (.int x1), some (.int ((σ.1 3 0) - (σ.1 1 0)))] [] σ by
      obtain ⟨n, hn⟩ := hh
      exact ⟨n + 13, And.intro (jx_in_ok rfl) (And.intro (jx_in_ok rfl) (And.intro (fun zz => absurd zz c1) (fun _ => hn)))⟩
    by_cases c2 : 0 ≤ ((σ.1 3 0) - (σ.1 1 0))
    · rw [if_pos c2] at h
      suffices hh : ∃ n, jx_W jx_ShM d (some .int) jc_256 Q n 27 [some (.ref 0), some (.int x1), some (.int ((σ.1 3 0) - (σ.1 1 0)))] [] σ by
        obtain ⟨n, hn⟩ := hh
        exact ⟨n + 2, And.intro (fun _ => hn) (fun zz => absurd c2 zz)⟩
      cases h
      exact ⟨3, And.intro hQ (And.intro rfl rfl)⟩
    · rw [if_neg c2] at h
      suffices hh : ∃ n, jx_W jx_ShM d (some .int) jc_256 Q n 23 [some (.ref 0), some (.int x1), some (.int ((σ.1 3 0) - (σ.1 1 0)))] [] σ by
        obtain ⟨n, hn⟩ := hh
        exact ⟨n + 2, And.intro (fun zz => absurd zz c2) (fun _ => hn)⟩
      cases h
      exact ⟨3, And.intro hQ (And.intro rfl rfl)⟩
set_option maxRecDepth 20000 in
theorem s_M_plans_4 {N d : Nat} {Q : jw_Q} (hd : 0 ≤ d) : ∀ (k : Nat) {x1 : Int32} {x2 : Int32} {x3 : Int32} {σ : jw_M} {z : (Int32 × jw_M)}, f_M_plans_4 N k x1 x2 x3 σ = some z → Q (some (.int z.1)) (jx_ShM, z.2) → ∃ n, jx_W jx_ShM d (some .int) jc_257 Q n 4 [some (.ref 0), some (.int x1), some (.int x2), some (.int x3)] [] σ
  | 0, _, _, _, _, _, h, _ => by cases h
  | k + 1, x1, x2, x3, σ, z, h, hQ => by
    rw [f_M_plans_4] at h
    by_cases c1 : x1 ≤ x3
    · rw [if_pos c1] at h
      suffices hh : ∃ n, jx_W jx_ShM d (some .int) jc_257 Q n 26 [some (.ref 0), some (.int x1), some (.int x2), some (.int x3)] [] σ by
        obtain ⟨n, hn⟩ := hh
        exact ⟨n + 3, And.intro (fun _ => hn) (fun zz => absurd c1 zz)⟩
      cases h
      exact ⟨2, And.intro hQ (And.intro rfl rfl)⟩
    · rw [if_neg c1] at h
      suffices hh : ∃ n, jx_W jx_ShM d (some .int) jc_257 Q n 9 [some (.ref 0), some (.int x1), some (.int x2), some (.int x3)] [] σ by
        obtain ⟨n, hn⟩ := hh
        exact ⟨n + 3, And.intro (fun zz => absurd zz c1) (fun _ => hn)⟩
      obtain ⟨n, hn⟩ := s_M_plans_4 hd k h hQ
      exact ⟨n + 11, And.intro (jx_in_ok rfl) (hn)⟩
set_option maxRecDepth 20000 in
theorem s_M_plans {N d : Nat} {x1 : Int32} (hd : 1 ≤ d) {σ : jw_M} {z : (Int32 × jw_M)} {Q : jw_Q} (h : f_M_plans N x1 σ = some z) (hQ : Q (some (.int z.1)) (jx_ShM, z.2)) : jw_C jp_kd jp_ys d 257 [.ref 0, .int x1] (jx_ShM, σ) Q := by
  obtain ⟨d, rfl⟩ : ∃ e, d = e + 1 := ⟨d - 1, by omega⟩
  replace hd : 0 ≤ d := by omega
  refine jx_C rfl rfl ?_
  unfold f_M_plans at h
  obtain ⟨n, hn⟩ := s_M_plans_4 hd N h hQ
  exact ⟨n + 4, hn⟩
set_option maxRecDepth 20000 in
theorem s_M_actIn_27 {d : Nat} {Q : jw_Q} {x3 x4 x5 y : Int32} {u1 u2 : Option Value} {σ : jw_M} (hy : y = x5 + (-1)) (hh : ∃ n, jx_W jx_ShM d (some .int) jc_258 Q n 8 [some (.ref 0), u1, u2, some (.int x3), some (.int x4), some (.int y)] [] σ) : ∃ n, jx_W jx_ShM d (some .int) jc_258 Q n 27 [some (.ref 0), u1, u2, some (.int x3), some (.int x4), some (.int x5)] [] σ := by
  obtain ⟨n, hn⟩ := hh
  have h30 : jx_W jx_ShM d (some .int) jc_258 Q (n + 1) 30 [some (.ref 0), u1, u2, some (.int x3), some (.int x4), some (.int y)] [] σ := hn
  exact ⟨n + 1 + 1, jx_iinc (k := 5) (i := -1) (x := x5) (v := y) rfl rfl rfl (jx_m1 hy) rfl h30⟩
set_option maxRecDepth 20000 in
theorem s_M_actIn_14 {d : Nat} {Q : jw_Q} {x3 x4 x5 y : Int32} {u1 u2 : Option Value} {σ : jw_M} (hy : y = x5 + (-1)) (c3 : ¬ ((σ.1 3 2) + 1) = 0) (hh : ∃ n, jx_W jx_ShM d (some .int) jc_258 Q n 8 [some (.ref 0), u1, u2, some (.int x3), some (.int (x4 / ((σ.1 3 2) + 1))), some (.int y)] [] σ) : ∃ n, jx_W jx_ShM d (some .int) jc_258 Q n 14 [some (.ref 0), u1, u2, some (.int x3), some (.int x4), some (.int x5)] [] σ := by
  obtain ⟨n, hn⟩ := s_M_actIn_27 hy hh
  exact ⟨n + 9, And.intro (jx_in_ok rfl) (And.intro c3 (hn))⟩
set_option maxRecDepth 20000 in
theorem s_M_actIn_8 {N d : Nat} {Q : jw_Q} (hd : 0 ≤ d) : ∀ (k : Nat) {x3 : Int32} {x4 : Int32} {x5 : Int32} {u1 : Option Value} {u2 : Option Value} {σ : jw_M} {z : (Int32 × jw_M)}, f_M_actIn_8 N k x3 x4 x5 σ = some z → Q (some (.int z.1)) (jx_ShM, z.2) → ∃ n, jx_W jx_ShM d (some .int) jc_258 Q n 8 [some (.ref 0), u1, u2, some (.int x3), some (.int x4), some (.int x5)] [] σ
  | 0, _, _, _, _, _, _, _, h, _ => by cases h
  | k + 1, x3, x4, x5, u1, u2, σ, z, h, hQ => by
    rw [f_M_actIn_8] at h
    by_cases c1 : x5 ≤ x3
    · rw [if_pos c1] at h
      suffices hh : ∃ n, jx_W jx_ShM d (some .int) jc_258 Q n 33 [some (.ref 0), u1, u2, some (.int x3), some (.int x4), some (.int x5)] [] σ by
        obtain ⟨n, hn⟩ := hh
        exact ⟨n + 3, And.intro (fun _ => hn) (fun zz => absurd c1 zz)⟩
      by_cases c2 : ((σ.1 3 2) + 1) = 0
      · rw [if_pos c2] at h
        cases h
      · rw [if_neg c2] at h
        cases h
        exact ⟨9, And.intro (jx_in_ok rfl) (And.intro c2 (And.intro hQ (And.intro rfl rfl)))⟩
    · rw [if_neg c1] at h
      suffices hh : ∃ n, jx_W jx_ShM d (some .int) jc_258 Q n 14 [some (.ref 0), u1, u2, some (.int x3), some (.int x4), some (.int x5)] [] σ by
        obtain ⟨n, hn⟩ := hh
        exact ⟨n + 3, And.intro (fun zz => absurd zz c1) (fun _ => hn)⟩
      by_cases c3 : ((σ.1 3 2) + 1) = 0
      · rw [if_pos c3] at h
        cases h
      · rw [if_neg c3] at h
        exact s_M_actIn_14 rfl c3 (s_M_actIn_8 hd k (u1 := u1) (u2 := u2) h hQ)
set_option maxRecDepth 20000 in
theorem s_M_actIn {N d : Nat} {x1 : Int32} {x2 : Int32} {x3 : Int32} (hd : 1 ≤ d) {σ : jw_M} {z : (Int32 × jw_M)} {Q : jw_Q} (h : f_M_actIn N x1 x2 x3 σ = some z) (hQ : Q (some (.int z.1)) (jx_ShM, z.2)) : jw_C jp_kd jp_ys d 258 [.ref 0, .int x1, .int x2, .int x3] (jx_ShM, σ) Q := by
  obtain ⟨d, rfl⟩ : ∃ e, d = e + 1 := ⟨d - 1, by omega⟩
  replace hd : 0 ≤ d := by omega
  refine jx_C rfl rfl ?_
  unfold f_M_actIn at h
  obtain ⟨n, hn⟩ := s_M_actIn_8 hd N (u1 := some (.int x1)) (u2 := some (.int x2)) h hQ
  exact ⟨n + 6, hn⟩
set_option maxRecDepth 20000 in
theorem s_M_plays_5 {N d : Nat} {Q : jw_Q} (hd : 6 ≤ d) : ∀ (k : Nat) {x1 : Int32} {x2 : Int32} {x3 : Int32} {x4 : Int32} {σ : jw_M} {z : (Int32 × jw_M)}, f_M_plays_5 N k x1 x2 x3 x4 σ = some z → Q (some (.int z.1)) (jx_ShM, z.2) → ∃ n, jx_W jx_ShM d (some .int) jc_259 Q n 5 [some (.ref 0), some (.int x1), some (.int x2), some (.int x3), some (.int x4)] [] σ
  | 0, _, _, _, _, _, _, h, _ => by cases h
  | k + 1, x1, x2, x3, x4, σ, z, h, hQ => by
    rw [f_M_plays_5] at h
    by_cases c1 : x2 ≤ x4
    · rw [if_pos c1] at h
      suffices hh : ∃ n, jx_W jx_ShM d (some .int) jc_259 Q n 32 [some (.ref 0), some (.int x1), some (.int x2), some (.int x3), some (.int x4)] [] σ by
        obtain ⟨n, hn⟩ := hh
        exact ⟨n + 3, And.intro (fun _ => hn) (fun zz => absurd c1 zz)⟩
      cases h
      exact ⟨2, And.intro hQ (And.intro rfl rfl)⟩
    · rw [if_neg c1] at h
      suffices hh : ∃ n, jx_W jx_ShM d (some .int) jc_259 Q n 11 [some (.ref 0), some (.int x1), some (.int x2), some (.int x3), some (.int x4)] [] σ by
        obtain ⟨n, hn⟩ := hh
        exact ⟨n + 3, And.intro (fun zz => absurd zz c1) (fun _ => hn)⟩
      obtain ⟨z2, h3, h⟩ := Option.bind_eq_some_iff.mp h
      obtain ⟨z4, h5, h⟩ := Option.bind_eq_some_iff.mp h
      obtain ⟨n, hn⟩ := s_M_plays_5 hd k h hQ
      exact ⟨n + 12, s_M_actIn (by omega) h3 (s_M_goes (by omega) h5 (hn))⟩
set_option maxRecDepth 20000 in
theorem s_M_plays {N d : Nat} {x1 : Int32} {x2 : Int32} (hd : 7 ≤ d) {σ : jw_M} {z : (Int32 × jw_M)} {Q : jw_Q} (h : f_M_plays N x1 x2 σ = some z) (hQ : Q (some (.int z.1)) (jx_ShM, z.2)) : jw_C jp_kd jp_ys d 259 [.ref 0, .int x1, .int x2] (jx_ShM, σ) Q := by
  obtain ⟨d, rfl⟩ : ∃ e, d = e + 1 := ⟨d - 1, by omega⟩
  replace hd : 6 ≤ d := by omega
  refine jx_C rfl rfl ?_
  unfold f_M_plays at h
  obtain ⟨n, hn⟩ := s_M_plays_5 hd N h hQ
  exact ⟨n + 4, hn⟩
set_option maxRecDepth 20000 in
theorem s_M_findBest_84 {N d : Nat} {Q : jw_Q} {K22 : Int32 → Int32 → jw_M → Option jw_M} (hd : 7 ≤ d) (hK22 : ∀ {x1 : Int32} {x2 : Int32} {σ : jw_M} {z : jw_M} {u3 : Option Value}, K22 x1 x2 σ = some z → Q none (jx_ShM, z) → ∃ n, jx_W jx_ShM d none jc_260 Q n 22 [some (.ref 0), some (.int x1), some (.int x2), u3] [] σ) {x1 : Int32} {x2 : Int32} {y1 : Int32} {y2 : Int32} {u3 : Option Value} {σ : jw_M} {z : jw_M} (h : f_M_findBest_84 N K22 x1 x2 y1 y2 σ = some z) (hQ : Q none (jx_ShM, z)) : ∃ n, jx_W jx_ShM d none jc_260 Q n 84 [some (.ref 0), some (.int x1), some (.int x2), u3] [.int y2, .int y1, .ref 0] σ := by
  unfold f_M_findBest_84 at h
  obtain ⟨n, hn⟩ := hK22 (u3 := u3) h hQ
  exact ⟨n + 4, hn⟩
set_option maxRecDepth 20000 in
theorem s_M_findBest_66 {N d : Nat} {Q : jw_Q} {K22 : Int32 → Int32 → jw_M → Option jw_M} (hd : 7 ≤ d) (hK22 : ∀ {x1 : Int32} {x2 : Int32} {σ : jw_M} {z : jw_M} {u3 : Option Value}, K22 x1 x2 σ = some z → Q none (jx_ShM, z) → ∃ n, jx_W jx_ShM d none jc_260 Q n 22 [some (.ref 0), some (.int x1), some (.int x2), u3] [] σ) {x1 : Int32} {x2 : Int32} {x3 : Int32} {σ : jw_M} {z : jw_M} (h : f_M_findBest_66 N K22 x1 x2 x3 σ = some z) (hQ : Q none (jx_ShM, z)) : ∃ n, jx_W jx_ShM d none jc_260 Q n 66 [some (.ref 0), some (.int x1), some (.int x2), some (.int x3)] [] σ := by
  unfold f_M_findBest_66 at h
  by_cases c11 : x3 = (σ.1 0 22)
  · rw [if_pos c11] at h
    suffices hh : ∃ n, jx_W jx_ShM d none jc_260 Q n 79 [some (.ref 0), some (.int x1), some (.int x2), some (.int x3)] [.int (σ.1 0 24), .ref 0] σ by
      obtain ⟨n, hn⟩ := hh
      exact ⟨n + 7, And.intro (fun zz => absurd c11 zz) (fun _ => hn)⟩
    obtain ⟨n, hn⟩ := s_M_findBest_84 hd hK22 (u3 := some (.int x3)) h hQ
    exact ⟨n + 2, hn⟩
  · rw [if_neg c11] at h
    suffices hh : ∃ n, jx_W jx_ShM d none jc_260 Q n 83 [some (.ref 0), some (.int x1), some (.int x2), some (.int x3)] [.int (σ.1 0 24), .ref 0] σ by
      obtain ⟨n, hn⟩ := hh
      exact ⟨n + 7, And.intro (fun _ => hn) (fun zz => absurd zz c11)⟩
    obtain ⟨n, hn⟩ := s_M_findBest_84 hd hK22 (u3 := some (.int x3)) h hQ
    exact ⟨n + 1, hn⟩
set_option maxRecDepth 20000 in
theorem s_M_findBest_22 {N d : Nat} {Q : jw_Q} (hd : 7 ≤ d) : ∀ (k : Nat) {x1 : Int32} {x2 : Int32} {u3 : Option Value} {σ : jw_M} {z : jw_M}, f_M_findBest_22 N k x1 x2 σ = some z → Q none (jx_ShM, z) → ∃ n, jx_W jx_ShM d none jc_260 Q n 22 [some (.ref 0), some (.int x1), some (.int x2), u3] [] σ
  | 0, _, _, _, _, _, h, _ => by cases h
  | k + 1, x1, x2, u3, σ, z, h, hQ => by
    rw [f_M_findBest_22] at h
    obtain ⟨z3, h4, h⟩ := Option.bind_eq_some_iff.mp h
    by_cases c5 : z3.1 ≤ x2
    · rw [if_pos c5] at h
      suffices hh : ∃ n, jx_W jx_ShM d none jc_260 Q n 94 [some (.ref 0), some (.int x1), some (.int x2), u3] [] z3.2 by
        obtain ⟨n, hn⟩ := hh
        exact ⟨n + 5, s_M_plans (by omega) h4 (And.intro (fun _ => hn) (fun zz => absurd c5 zz))⟩
      cases h
      exact ⟨1, And.intro hQ (And.intro rfl rfl)⟩
    · rw [if_neg c5] at h
      suffices hh : ∃ n, jx_W jx_ShM d none jc_260 Q n 31 [some (.ref 0), some (.int x1), some (.int x2), u3] [] z3.2 by
        obtain ⟨n, hn⟩ := hh
        exact ⟨n + 5, s_M_plans (by omega) h4 (And.intro (fun zz => absurd zz c5) (fun _ => hn))⟩
      obtain ⟨z6, h7, h⟩ := Option.bind_eq_some_iff.mp h
      obtain ⟨z8, h9, h⟩ := Option.bind_eq_some_iff.mp h
      by_cases c10 : z6.1 ≤ (z8.1 0 22)
      · rw [if_pos c10] at h
        suffices hh : ∃ n, jx_W jx_ShM d none jc_260 Q n 66 [some (.ref 0), some (.int x1), some (.int x2), some (.int z6.1)] [] z8 by
          obtain ⟨n, hn⟩ := hh
          exact ⟨n + 12, s_M_plays (by omega) h7 (s_M_load (by omega) h9 (And.intro (fun _ => hn) (fun zz => absurd c10 zz)))⟩
        obtain ⟨n, hn⟩ := s_M_findBest_66 hd (s_M_findBest_22 hd k) h hQ
        exact ⟨n + 0, hn⟩
      · rw [if_neg c10] at h
        suffices hh : ∃ n, jx_W jx_ShM d none jc_260 Q n 51 [some (.ref 0), some (.int x1), some (.int x2), some (.int z6.1)] [] z8 by
          obtain ⟨n, hn⟩ := hh
          exact ⟨n + 12, s_M_plays (by omega) h7 (s_M_load (by omega) h9 (And.intro (fun zz => absurd zz c10) (fun _ => hn)))⟩
        obtain ⟨n, hn⟩ := s_M_findBest_66 hd (s_M_findBest_22 hd k) h hQ
        exact ⟨n + 9, hn⟩
set_option maxRecDepth 20000 in
theorem s_M_findBest {N d : Nat} {x1 : Int32} (hd : 8 ≤ d) {σ : jw_M} {z : jw_M} {Q : jw_Q} (h : f_M_findBest N x1 σ = some z) (hQ : Q none (jx_ShM, z)) : jw_C jp_kd jp_ys d 260 [.ref 0, .int x1] (jx_ShM, σ) Q := by
  obtain ⟨d, rfl⟩ : ∃ e, d = e + 1 := ⟨d - 1, by omega⟩
  replace hd : 7 ≤ d := by omega
  refine jx_C rfl rfl ?_
  unfold f_M_findBest at h
  obtain ⟨z1, h2, h⟩ := Option.bind_eq_some_iff.mp h
  obtain ⟨n, hn⟩ := s_M_findBest_22 hd N (u3 := none) h hQ
  exact ⟨n + 14, s_M_save (by omega) h2 (hn)⟩
set_option maxRecDepth 20000 in
theorem s_M_best {N d : Nat} {x1 : Int32} (hd : 9 ≤ d) {σ : jw_M} {z : (Int32 × jw_M)} {Q : jw_Q} (h : f_M_best N x1 σ = some z) (hQ : Q (some (.int z.1)) (jx_ShM, z.2)) : jw_C jp_kd jp_ys d 261 [.ref 0, .int x1] (jx_ShM, σ) Q := by
  obtain ⟨d, rfl⟩ : ∃ e, d = e + 1 := ⟨d - 1, by omega⟩
  replace hd : 8 ≤ d := by omega
  refine jx_C rfl rfl ?_
  unfold f_M_best at h
  obtain ⟨z1, h2, h⟩ := Option.bind_eq_some_iff.mp h
  by_cases c3 : z1.1 = 0
  · rw [if_pos c3] at h
    suffices hh : ∃ n, jx_W jx_ShM d (some .int) jc_261 Q n 9 [some (.ref 0), some (.int x1)] [] z1.2 by
      obtain ⟨n, hn⟩ := hh
      exact ⟨n + 5, s_M_in (by omega) h2 (And.intro (fun zz => absurd c3 zz) (fun _ => hn))⟩
    cases h
    exact ⟨2, And.intro hQ (And.intro rfl rfl)⟩
  · rw [if_neg c3] at h
    suffices hh : ∃ n, jx_W jx_ShM d (some .int) jc_261 Q n 11 [some (.ref 0), some (.int x1)] [] z1.2 by
      obtain ⟨n, hn⟩ := hh
      exact ⟨n + 5, s_M_in (by omega) h2 (And.intro (fun _ => hn) (fun zz => absurd zz c3))⟩
    obtain ⟨z4, h5, h⟩ := Option.bind_eq_some_iff.mp h
    obtain ⟨z6, h7, h⟩ := Option.bind_eq_some_iff.mp h
    cases h
    exact ⟨8, s_M_planHours (by omega) h5 (s_M_findBest (by omega) h7 (And.intro hQ (And.intro rfl rfl)))⟩
set_option maxRecDepth 20000 in
theorem s_M_ith {N d : Nat} {x1 : Int32} {x2 : Int32} (hd : 9 ≤ d) {σ : jw_M} {z : (Int32 × jw_M)} {Q : jw_Q} (h : f_M_ith N x1 x2 σ = some z) (hQ : Q (some (.int z.1)) (jx_ShM, z.2)) : jw_C jp_kd jp_ys d 262 [.ref 0, .int x1, .int x2] (jx_ShM, σ) Q := by
  obtain ⟨d, rfl⟩ : ∃ e, d = e + 1 := ⟨d - 1, by omega⟩
  replace hd : 8 ≤ d := by omega
  refine jx_C rfl rfl ?_
  unfold f_M_ith at h
  obtain ⟨z1, h2, h⟩ := Option.bind_eq_some_iff.mp h
  by_cases c3 : z1.1 = 0
  · rw [if_pos c3] at h
    suffices hh : ∃ n, jx_W jx_ShM d (some .int) jc_262 Q n 18 [some (.ref 0), some (.int x1), some (.int x2), none] [] z1.2 by
      obtain ⟨n, hn⟩ := hh
      exact ⟨n + 5, s_M_in (by omega) h2 (And.intro (fun _ => hn) (fun zz => absurd c3 zz))⟩
    cases h
    exact ⟨2, And.intro hQ (And.intro rfl rfl)⟩
  · rw [if_neg c3] at h
    suffices hh : ∃ n, jx_W jx_ShM d (some .int) jc_262 Q n 9 [some (.ref 0), some (.int x1), some (.int x2), none] [] z1.2 by
      obtain ⟨n, hn⟩ := hh
      exact ⟨n + 5, s_M_in (by omega) h2 (And.intro (fun zz => absurd zz c3) (fun _ => hn))⟩
    obtain ⟨z4, h5, h⟩ := Option.bind_eq_some_iff.mp h
    by_cases c6 : z4.1 = 0
    · rw [if_pos c6] at h
      suffices hh : ∃ n, jx_W jx_ShM d (some .int) jc_262 Q n 18 [some (.ref 0), some (.int x1), some (.int x2), none] [] z4.2 by
        obtain ⟨n, hn⟩ := hh
        exact ⟨n + 5, s_M_in (by omega) h5 (And.intro (fun zz => absurd c6 zz) (fun _ => hn))⟩
      cases h
      exact ⟨2, And.intro hQ (And.intro rfl rfl)⟩
    · rw [if_neg c6] at h
      suffices hh : ∃ n, jx_W jx_ShM d (some .int) jc_262 Q n 20 [some (.ref 0), some (.int x1), some (.int x2), none] [] z4.2 by
        obtain ⟨n, hn⟩ := hh
        exact ⟨n + 5, s_M_in (by omega) h5 (And.intro (fun _ => hn) (fun zz => absurd zz c6))⟩
      obtain ⟨z7, h8, h⟩ := Option.bind_eq_some_iff.mp h
      by_cases c9 : x2 < z7.1
      · rw [if_pos c9] at h
        suffices hh : ∃ n, jx_W jx_ShM d (some .int) jc_262 Q n 34 [some (.ref 0), some (.int x1), some (.int x2), some (.int z7.1)] [] z7.2 by
          obtain ⟨n, hn⟩ := hh
          exact ⟨n + 7, s_M_planHours (by omega) h8 (And.intro (fun _ => hn) (fun zz => absurd c9 zz))⟩
        obtain ⟨z10, h11, h⟩ := Option.bind_eq_some_iff.mp h
        obtain ⟨z12, h13, h⟩ := Option.bind_eq_some_iff.mp h
        cases h
        exact ⟨10, s_M_findBest (by omega) h11 (s_M_actIn (by omega) h13 (And.intro hQ (And.intro rfl rfl)))⟩
      · rw [if_neg c9] at h
        suffices hh : ∃ n, jx_W jx_ShM d (some .int) jc_262 Q n 31 [some (.ref 0), some (.int x1), some (.int x2), some (.int z7.1)] [] z7.2 by
          obtain ⟨n, hn⟩ := hh
          exact ⟨n + 7, s_M_planHours (by omega) h8 (And.intro (fun zz => absurd zz c9) (fun _ => hn))⟩
        cases h
        exact ⟨2, And.intro hQ (And.intro rfl rfl)⟩
set_option maxRecDepth 20000 in
theorem s_M_ways {N d : Nat} {x1 : Int32} (hd : 9 ≤ d) {σ : jw_M} {z : (Int32 × jw_M)} {Q : jw_Q} (h : f_M_ways N x1 σ = some z) (hQ : Q (some (.int z.1)) (jx_ShM, z.2)) : jw_C jp_kd jp_ys d 263 [.ref 0, .int x1] (jx_ShM, σ) Q := by
  obtain ⟨d, rfl⟩ : ∃ e, d = e + 1 := ⟨d - 1, by omega⟩
  replace hd : 8 ≤ d := by omega
  refine jx_C rfl rfl ?_
  unfold f_M_ways at h
  obtain ⟨z1, h2, h⟩ := Option.bind_eq_some_iff.mp h
  by_cases c3 : z1.1 = 0
  · rw [if_pos c3] at h
    suffices hh : ∃ n, jx_W jx_ShM d (some .int) jc_263 Q n 9 [some (.ref 0), some (.int x1)] [] z1.2 by
      obtain ⟨n, hn⟩ := hh
      exact ⟨n + 5, s_M_in (by omega) h2 (And.intro (fun zz => absurd c3 zz) (fun _ => hn))⟩
    cases h
    exact ⟨2, And.intro hQ (And.intro rfl rfl)⟩
  · rw [if_neg c3] at h
    suffices hh : ∃ n, jx_W jx_ShM d (some .int) jc_263 Q n 11 [some (.ref 0), some (.int x1)] [] z1.2 by
      obtain ⟨n, hn⟩ := hh
      exact ⟨n + 5, s_M_in (by omega) h2 (And.intro (fun _ => hn) (fun zz => absurd zz c3))⟩
    obtain ⟨z4, h5, h⟩ := Option.bind_eq_some_iff.mp h
    obtain ⟨z6, h7, h⟩ := Option.bind_eq_some_iff.mp h
    cases h
    exact ⟨8, s_M_planHours (by omega) h5 (s_M_findBest (by omega) h7 (And.intro hQ (And.intro rfl rfl)))⟩
set_option maxRecDepth 20000 in
theorem s_M_someLearnt_4 {N d : Nat} {Q : jw_Q} (hd : 0 ≤ d) : ∀ (k : Nat) {x1 : Int32} {x2 : Int32} {σ : jw_M} {z : (Int32 × jw_M)}, f_M_someLearnt_4 N k x1 x2 σ = some z → Q (some (.int z.1)) (jx_ShM, z.2) → ∃ n, jx_W jx_ShM d (some .int) jc_264 Q n 4 [some (.ref 0), some (.int x1), some (.int x2)] [] σ
  | 0, _, _, _, _, h, _ => by cases h
  | k + 1, x1, x2, σ, z, h, hQ => by
    rw [f_M_someLearnt_4] at h
    by_cases c1 : (σ.1 3 2) ≤ x2
    · rw [if_pos c1] at h
      suffices hh : ∃ n, jx_W jx_ShM d (some .int) jc_264 Q n 31 [some (.ref 0), some (.int x1), some (.int x2)] [] σ by
        obtain ⟨n, hn⟩ := hh
        exact ⟨n + 6, And.intro (jx_in_ok rfl) (And.intro (fun _ => hn) (fun zz => absurd c1 zz))⟩
      cases h
      exact ⟨2, And.intro hQ (And.intro rfl rfl)⟩
    · rw [if_neg c1] at h
      suffices hh : ∃ n, jx_W jx_ShM d (some .int) jc_264 Q n 14 [some (.ref 0), some (.int x1), some (.int x2)] [] σ by
        obtain ⟨n, hn⟩ := hh
        exact ⟨n + 6, And.intro (jx_in_ok rfl) (And.intro (fun zz => absurd zz c1) (fun _ => hn))⟩
      cases c2 : jx_in (2 + x2) 56 with
      | false => rw [c2, cond_false] at h; cases h
      | true =>
        rw [c2, cond_true] at h
        obtain ⟨n, hn⟩ := s_M_someLearnt_4 hd k h hQ
        exact ⟨n + 11, And.intro (jx_in_ok c2) (hn)⟩
set_option maxRecDepth 20000 in
theorem s_M_someLearnt {N d : Nat} (hd : 1 ≤ d) {σ : jw_M} {z : (Int32 × jw_M)} {Q : jw_Q} (h : f_M_someLearnt N  σ = some z) (hQ : Q (some (.int z.1)) (jx_ShM, z.2)) : jw_C jp_kd jp_ys d 264 [.ref 0] (jx_ShM, σ) Q := by
  obtain ⟨d, rfl⟩ : ∃ e, d = e + 1 := ⟨d - 1, by omega⟩
  replace hd : 0 ≤ d := by omega
  refine jx_C rfl rfl ?_
  unfold f_M_someLearnt at h
  obtain ⟨n, hn⟩ := s_M_someLearnt_4 hd N h hQ
  exact ⟨n + 4, hn⟩
set_option maxRecDepth 20000 in
theorem s_M_actsOf_28 {N d : Nat} {Q : jw_Q} {K5 : Int32 → Int32 → Int32 → Int32 → jw_M → Option (Int32 × jw_M)} (hd : 1 ≤ d) (hK5 : ∀ {x1 : Int32} {x2 : Int32} {x3 : Int32} {x4 : Int32} {σ : jw_M} {z : (Int32 × jw_M)}, K5 x1 x2 x3 x4 σ = some z → Q (some (.int z.1)) (jx_ShM, z.2) → ∃ n, jx_W jx_ShM d (some .int) jc_265 Q n 5 [some (.ref 0), some (.int x1), some (.int x2), some (.int x3), some (.int x4)] [] σ) {x1 : Int32} {x2 : Int32} {x4 : Int32} {y0 : Int32} {y1 : Int32} {u3 : Option Value} {σ : jw_M} {z : (Int32 × jw_M)} (h : f_M_actsOf_28 N K5 x1 x2 x4 y0 y1 σ = some z) (hQ : Q (some (.int z.1)) (jx_ShM, z.2)) : ∃ n, jx_W jx_ShM d (some .int) jc_265 Q n 28 [some (.ref 0), some (.int x1), some (.int x2), u3, some (.int x4)] [.int y1, .int y0] σ := by
  unfold f_M_actsOf_28 at h
  obtain ⟨n, hn⟩ := hK5 h hQ
  exact ⟨n + 4, hn⟩
set_option maxRecDepth 20000 in
theorem s_M_actsOf_5 {N d : Nat} {Q : jw_Q} (hd : 1 ≤ d) : ∀ (k : Nat) {x1 : Int32} {x2 : Int32} {x3 : Int32} {x4 : Int32} {σ : jw_M} {z : (Int32 × jw_M)}, f_M_actsOf_5 N k x1 x2 x3 x4 σ = some z → Q (some (.int z.1)) (jx_ShM, z.2) → ∃ n, jx_W jx_ShM d (some .int) jc_265 Q n 5 [some (.ref 0), some (.int x1), some (.int x2), some (.int x3), some (.int x4)] [] σ
  | 0, _, _, _, _, _, _, h, _ => by cases h
  | k + 1, x1, x2, x3, x4, σ, z, h, hQ => by
    rw [f_M_actsOf_5] at h
    by_cases c1 : x2 ≤ x4
    · rw [if_pos c1] at h
      suffices hh : ∃ n, jx_W jx_ShM d (some .int) jc_265 Q n 36 [some (.ref 0), some (.int x1), some (.int x2), some (.int x3), some (.int x4)] [] σ by
        obtain ⟨n, hn⟩ := hh
        exact ⟨n + 3, And.intro (fun _ => hn) (fun zz => absurd c1 zz)⟩
      cases h
      exact ⟨2, And.intro hQ (And.intro rfl rfl)⟩
    · rw [if_neg c1] at h
      suffices hh : ∃ n, jx_W jx_ShM d (some .int) jc_265 Q n 11 [some (.ref 0), some (.int x1), some (.int x2), some (.int x3), some (.int x4)] [] σ by
        obtain ⟨n, hn⟩ := hh
        exact ⟨n + 3, And.intro (fun zz => absurd zz c1) (fun _ => hn)⟩
      obtain ⟨z2, h3, h⟩ := Option.bind_eq_some_iff.mp h
      by_cases c4 : z2.1 ≤ 0
      · rw [if_pos c4] at h
        suffices hh : ∃ n, jx_W jx_ShM d (some .int) jc_265 Q n 27 [some (.ref 0), some (.int x1), some (.int x2), some (.int x3), some (.int x4)] [.int x3] z2.2 by
          obtain ⟨n, hn⟩ := hh
          exact ⟨n + 7, s_M_actIn (by omega) h3 (And.intro (fun _ => hn) (fun zz => absurd c4 zz))⟩
        obtain ⟨n, hn⟩ := s_M_actsOf_28 hd (s_M_actsOf_5 hd k) (u3 := some (.int x3)) h hQ
        exact ⟨n + 1, hn⟩
      · rw [if_neg c4] at h
        suffices hh : ∃ n, jx_W jx_ShM d (some .int) jc_265 Q n 23 [some (.ref 0), some (.int x1), some (.int x2), some (.int x3), some (.int x4)] [.int x3] z2.2 by
          obtain ⟨n, hn⟩ := hh
          exact ⟨n + 7, s_M_actIn (by omega) h3 (And.intro (fun zz => absurd zz c4) (fun _ => hn))⟩
        obtain ⟨n, hn⟩ := s_M_actsOf_28 hd (s_M_actsOf_5 hd k) (u3 := some (.int x3)) h hQ
        exact ⟨n + 2, hn⟩
set_option maxRecDepth 20000 in
theorem s_M_actsOf {N d : Nat} {x1 : Int32} {x2 : Int32} (hd : 2 ≤ d) {σ : jw_M} {z : (Int32 × jw_M)} {Q : jw_Q} (h : f_M_actsOf N x1 x2 σ = some z) (hQ : Q (some (.int z.1)) (jx_ShM, z.2)) : jw_C jp_kd jp_ys d 265 [.ref 0, .int x1, .int x2] (jx_ShM, σ) Q := by
  obtain ⟨d, rfl⟩ : ∃ e, d = e + 1 := ⟨d - 1, by omega⟩
  replace hd : 1 ≤ d := by omega
  refine jx_C rfl rfl ?_
  unfold f_M_actsOf at h
  obtain ⟨n, hn⟩ := s_M_actsOf_5 hd N h hQ
  exact ⟨n + 4, hn⟩
set_option maxRecDepth 20000 in
theorem s_M_findTaught_99 {N d : Nat} {Q : jw_Q} {K18 : Int32 → Int32 → Int32 → jw_M → Option jw_M} (hd : 7 ≤ d) (hK18 : ∀ {x1 : Int32} {x2 : Int32} {x3 : Int32} {σ : jw_M} {z : jw_M} {u4 : Option Value} {u5 : Option Value} {u6 : Option Value}, K18 x1 x2 x3 σ = some z → Q none (jx_ShM, z) → ∃ n, jx_W jx_ShM d none jc_266 Q n 18 [some (.ref 0), some (.int x1), some (.int x2), some (.int x3), u4, u5, u6] [] σ) {x1 : Int32} {x2 : Int32} {x3 : Int32} {y1 : Int32} {u4 : Option Value} {u5 : Option Value} {u6 : Option Value} {σ : jw_M} {z : jw_M} (h : f_M_findTaught_99 N K18 x1 x2 x3 y1 σ = some z) (hQ : Q none (jx_ShM, z)) : ∃ n, jx_W jx_ShM d none jc_266 Q n 99 [some (.ref 0), some (.int x1), some (.int x2), some (.int x3), u4, u5, u6] [.int y1, .ref 0] σ := by
  unfold f_M_findTaught_99 at h
  obtain ⟨n, hn⟩ := hK18 (u4 := u4) (u5 := u5) (u6 := u6) h hQ
  exact ⟨n + 3, hn⟩
set_option maxRecDepth 20000 in
theorem s_M_findTaught_90 {N d : Nat} {Q : jw_Q} {K18 : Int32 → Int32 → Int32 → jw_M → Option jw_M} (hd : 7 ≤ d) (hK18 : ∀ {x1 : Int32} {x2 : Int32} {x3 : Int32} {σ : jw_M} {z : jw_M} {u4 : Option Value} {u5 : Option Value} {u6 : Option Value}, K18 x1 x2 x3 σ = some z → Q none (jx_ShM, z) → ∃ n, jx_W jx_ShM d none jc_266 Q n 18 [some (.ref 0), some (.int x1), some (.int x2), some (.int x3), u4, u5, u6] [] σ) {x1 : Int32} {x2 : Int32} {x3 : Int32} {x6 : Int32} {u4 : Option Value} {u5 : Option Value} {σ : jw_M} {z : jw_M} (h : f_M_findTaught_90 N K18 x1 x2 x3 x6 σ = some z) (hQ : Q none (jx_ShM, z)) : ∃ n, jx_W jx_ShM d none jc_266 Q n 90 [some (.ref 0), some (.int x1), some (.int x2), some (.int x3), u4, u5, some (.int x6)] [.ref 0] σ := by
  unfold f_M_findTaught_90 at h
  obtain ⟨n, hn⟩ := s_M_findTaught_99 hd hK18 (u4 := u4) (u5 := u5) (u6 := some (.int x6)) h hQ
  exact ⟨n + 2, hn⟩
set_option maxRecDepth 20000 in
theorem s_M_findTaught_95 {N d : Nat} {Q : jw_Q} {K18 : Int32 → Int32 → Int32 → jw_M → Option jw_M} (hd : 7 ≤ d) (hK18 : ∀ {x1 : Int32} {x2 : Int32} {x3 : Int32} {σ : jw_M} {z : jw_M} {u4 : Option Value} {u5 : Option Value} {u6 : Option Value}, K18 x1 x2 x3 σ = some z → Q none (jx_ShM, z) → ∃ n, jx_W jx_ShM d none jc_266 Q n 18 [some (.ref 0), some (.int x1), some (.int x2), some (.int x3), u4, u5, u6] [] σ) {x1 : Int32} {x2 : Int32} {x3 : Int32} {u4 : Option Value} {u5 : Option Value} {u6 : Option Value} {σ : jw_M} {z : jw_M} (h : f_M_findTaught_95 N K18 x1 x2 x3 σ = some z) (hQ : Q none (jx_ShM, z)) : ∃ n, jx_W jx_ShM d none jc_266 Q n 95 [some (.ref 0), some (.int x1), some (.int x2), some (.int x3), u4, u5, u6] [.ref 0] σ := by
  unfold f_M_findTaught_95 at h
  obtain ⟨n, hn⟩ := s_M_findTaught_99 hd hK18 (u4 := u4) (u5 := u5) (u6 := u6) h hQ
  exact ⟨n + 2, hn⟩
set_option maxRecDepth 20000 in
theorem s_M_findTaught_18 {N d : Nat} {Q : jw_Q} (hd : 7 ≤ d) : ∀ (k : Nat) {x1 : Int32} {x2 : Int32} {x3 : Int32} {u4 : Option Value} {u5 : Option Value} {u6 : Option Value} {σ : jw_M} {z : jw_M}, f_M_findTaught_18 N k x1 x2 x3 σ = some z → Q none (jx_ShM, z) → ∃ n, jx_W jx_ShM d none jc_266 Q n 18 [some (.ref 0), some (.int x1), some (.int x2), some (.int x3), u4, u5, u6] [] σ
  | 0, _, _, _, _, _, _, _, _, h, _ => by cases h
  | k + 1, x1, x2, x3, u4, u5, u6, σ, z, h, hQ => by
    rw [f_M_findTaught_18] at h
    obtain ⟨z3, h4, h⟩ := Option.bind_eq_some_iff.mp h
    by_cases c5 : z3.1 ≤ x3
    · rw [if_pos c5] at h
      suffices hh : ∃ n, jx_W jx_ShM d none jc_266 Q n 108 [some (.ref 0), some (.int x1), some (.int x2), some (.int x3), u4, u5, u6] [] z3.2 by
        obtain ⟨n, hn⟩ := hh
        exact ⟨n + 5, s_M_plans (by omega) h4 (And.intro (fun _ => hn) (fun zz => absurd c5 zz))⟩
      cases h
      exact ⟨1, And.intro hQ (And.intro rfl rfl)⟩
    · rw [if_neg c5] at h
      suffices hh : ∃ n, jx_W jx_ShM d none jc_266 Q n 27 [some (.ref 0), some (.int x1), some (.int x2), some (.int x3), u4, u5, u6] [] z3.2 by
        obtain ⟨n, hn⟩ := hh
        exact ⟨n + 5, s_M_plans (by omega) h4 (And.intro (fun zz => absurd zz c5) (fun _ => hn))⟩
      obtain ⟨z6, h7, h⟩ := Option.bind_eq_some_iff.mp h
      obtain ⟨z8, h9, h⟩ := Option.bind_eq_some_iff.mp h
      obtain ⟨z10, h11, h⟩ := Option.bind_eq_some_iff.mp h
      obtain ⟨z12, h13, h⟩ := Option.bind_eq_some_iff.mp h
      by_cases c14 : (z8.1 &&& x2) = x2
      · rw [if_pos c14] at h
        suffices hh : ∃ n, jx_W jx_ShM d none jc_266 Q n 74 [some (.ref 0), some (.int x1), some (.int x2), some (.int x3), some (.int z6.1), some (.int z8.1), some (.int z12.1)] [.ref 0] z12.2 by
          obtain ⟨n, hn⟩ := hh
          exact ⟨n + 28, s_M_plays (by omega) h7 (s_M_someLearnt (by omega) h9 (s_M_load (by omega) h11 (s_M_actsOf (by omega) h13 (And.intro (fun zz => absurd c14 zz) (fun _ => hn)))))⟩
        by_cases c15 : (z12.2.1 0 25) < 0
        · rw [if_pos c15] at h
          suffices hh : ∃ n, jx_W jx_ShM d none jc_266 Q n 90 [some (.ref 0), some (.int x1), some (.int x2), some (.int x3), some (.int z6.1), some (.int z8.1), some (.int z12.1)] [.ref 0] z12.2 by
            obtain ⟨n, hn⟩ := hh
            exact ⟨n + 3, And.intro (fun _ => hn) (fun zz => absurd c15 zz)⟩
          obtain ⟨n, hn⟩ := s_M_findTaught_90 hd (s_M_findTaught_18 hd k) (u4 := some (.int z6.1)) (u5 := some (.int z8.1)) h hQ
          exact ⟨n + 0, hn⟩
        · rw [if_neg c15] at h
          suffices hh : ∃ n, jx_W jx_ShM d none jc_266 Q n 81 [some (.ref 0), some (.int x1), some (.int x2), some (.int x3), some (.int z6.1), some (.int z8.1), some (.int z12.1)] [.ref 0] z12.2 by
            obtain ⟨n, hn⟩ := hh
            exact ⟨n + 3, And.intro (fun zz => absurd zz c15) (fun _ => hn)⟩
          by_cases c16 : (z12.2.1 0 25) ≤ z12.1
          · rw [if_pos c16] at h
            suffices hh : ∃ n, jx_W jx_ShM d none jc_266 Q n 95 [some (.ref 0), some (.int x1), some (.int x2), some (.int x3), some (.int z6.1), some (.int z8.1), some (.int z12.1)] [.ref 0] z12.2 by
              obtain ⟨n, hn⟩ := hh
              exact ⟨n + 4, And.intro (fun _ => hn) (fun zz => absurd c16 zz)⟩
            obtain ⟨n, hn⟩ := s_M_findTaught_95 hd (s_M_findTaught_18 hd k) (u4 := some (.int z6.1)) (u5 := some (.int z8.1)) (u6 := some (.int z12.1)) h hQ
            exact ⟨n + 0, hn⟩
          · rw [if_neg c16] at h
            suffices hh : ∃ n, jx_W jx_ShM d none jc_266 Q n 90 [some (.ref 0), some (.int x1), some (.int x2), some (.int x3), some (.int z6.1), some (.int z8.1), some (.int z12.1)] [.ref 0] z12.2 by
              obtain ⟨n, hn⟩ := hh
              exact ⟨n + 4, And.intro (fun zz => absurd zz c16) (fun _ => hn)⟩
            obtain ⟨n, hn⟩ := s_M_findTaught_90 hd (s_M_findTaught_18 hd k) (u4 := some (.int z6.1)) (u5 := some (.int z8.1)) h hQ
            exact ⟨n + 0, hn⟩
      · rw [if_neg c14] at h
        suffices hh : ∃ n, jx_W jx_ShM d none jc_266 Q n 95 [some (.ref 0), some (.int x1), some (.int x2), some (.int x3), some (.int z6.1), some (.int z8.1), some (.int z12.1)] [.ref 0] z12.2 by
          obtain ⟨n, hn⟩ := hh
          exact ⟨n + 28, s_M_plays (by omega) h7 (s_M_someLearnt (by omega) h9 (s_M_load (by omega) h11 (s_M_actsOf (by omega) h13 (And.intro (fun _ => hn) (fun zz => absurd zz c14)))))⟩
        obtain ⟨n, hn⟩ := s_M_findTaught_95 hd (s_M_findTaught_18 hd k) (u4 := some (.int z6.1)) (u5 := some (.int z8.1)) (u6 := some (.int z12.1)) h hQ
        exact ⟨n + 0, hn⟩
set_option maxRecDepth 20000 in
theorem s_M_findTaught {N d : Nat} {x1 : Int32} {x2 : Int32} (hd : 8 ≤ d) {σ : jw_M} {z : jw_M} {Q : jw_Q} (h : f_M_findTaught N x1 x2 σ = some z) (hQ : Q none (jx_ShM, z)) : jw_C jp_kd jp_ys d 266 [.ref 0, .int x1, .int x2] (jx_ShM, σ) Q := by
  obtain ⟨d, rfl⟩ : ∃ e, d = e + 1 := ⟨d - 1, by omega⟩
  replace hd : 7 ≤ d := by omega
  refine jx_C rfl rfl ?_
  unfold f_M_findTaught at h
  obtain ⟨z1, h2, h⟩ := Option.bind_eq_some_iff.mp h
  obtain ⟨n, hn⟩ := s_M_findTaught_18 hd N (u4 := none) (u5 := none) (u6 := none) h hQ
  exact ⟨n + 11, s_M_save (by omega) h2 (hn)⟩
set_option maxRecDepth 20000 in
theorem s_M_taught {N d : Nat} {x1 : Int32} {x2 : Int32} (hd : 9 ≤ d) {σ : jw_M} {z : (Int32 × jw_M)} {Q : jw_Q} (h : f_M_taught N x1 x2 σ = some z) (hQ : Q (some (.int z.1)) (jx_ShM, z.2)) : jw_C jp_kd jp_ys d 267 [.ref 0, .int x1, .int x2] (jx_ShM, σ) Q := by
  obtain ⟨d, rfl⟩ : ∃ e, d = e + 1 := ⟨d - 1, by omega⟩
  replace hd : 8 ≤ d := by omega
  refine jx_C rfl rfl ?_
  unfold f_M_taught at h
  obtain ⟨z1, h2, h⟩ := Option.bind_eq_some_iff.mp h
  by_cases c3 : z1.1 = 0
  · rw [if_pos c3] at h
    suffices hh : ∃ n, jx_W jx_ShM d (some .int) jc_267 Q n 21 [some (.ref 0), some (.int x1), some (.int x2)] [] z1.2 by
      obtain ⟨n, hn⟩ := hh
      exact ⟨n + 5, s_M_in (by omega) h2 (And.intro (fun _ => hn) (fun zz => absurd c3 zz))⟩
    cases h
    exact ⟨2, And.intro hQ (And.intro rfl rfl)⟩
  · rw [if_neg c3] at h
    suffices hh : ∃ n, jx_W jx_ShM d (some .int) jc_267 Q n 9 [some (.ref 0), some (.int x1), some (.int x2)] [] z1.2 by
      obtain ⟨n, hn⟩ := hh
      exact ⟨n + 5, s_M_in (by omega) h2 (And.intro (fun zz => absurd zz c3) (fun _ => hn))⟩
    obtain ⟨z4, h5, h⟩ := Option.bind_eq_some_iff.mp h
    obtain ⟨z6, h7, h⟩ := Option.bind_eq_some_iff.mp h
    by_cases c8 : z6.1 = 0
    · rw [if_pos c8] at h
      suffices hh : ∃ n, jx_W jx_ShM d (some .int) jc_267 Q n 21 [some (.ref 0), some (.int x1), some (.int x2)] [] z6.2 by
        obtain ⟨n, hn⟩ := hh
        exact ⟨n + 6, s_M_allLessons (by omega) h5 (s_M_in (by omega) h7 (And.intro (fun zz => absurd c8 zz) (fun _ => hn)))⟩
      cases h
      exact ⟨2, And.intro hQ (And.intro rfl rfl)⟩
    · rw [if_neg c8] at h
      suffices hh : ∃ n, jx_W jx_ShM d (some .int) jc_267 Q n 23 [some (.ref 0), some (.int x1), some (.int x2)] [] z6.2 by
        obtain ⟨n, hn⟩ := hh
        exact ⟨n + 6, s_M_allLessons (by omega) h5 (s_M_in (by omega) h7 (And.intro (fun _ => hn) (fun zz => absurd zz c8)))⟩
      obtain ⟨z9, h10, h⟩ := Option.bind_eq_some_iff.mp h
      obtain ⟨z11, h12, h⟩ := Option.bind_eq_some_iff.mp h
      cases h
      exact ⟨9, s_M_planHours (by omega) h10 (s_M_findTaught (by omega) h12 (And.intro hQ (And.intro rfl rfl)))⟩
set_option maxRecDepth 20000 in
theorem s_M_bars_67 {N d : Nat} {Q : jw_Q} (hd : 8 ≤ d) {x4 : Int32} {u0 : Option Value} {u1 : Option Value} {u2 : Option Value} {u3 : Option Value} {σ : jw_M} {z : (Int32 × jw_M)} (h : f_M_bars_67 N x4 σ = some z) (hQ : Q (some (.int z.1)) (jx_ShM, z.2)) : ∃ n, jx_W jx_ShM d (some .int) jc_268 Q n 67 [u0, u1, u2, u3, some (.int x4)] [] σ := by
  unfold f_M_bars_67 at h
  by_cases c14 : 8 ≤ x4
  · rw [if_pos c14] at h
    suffices hh : ∃ n, jx_W jx_ShM d (some .int) jc_268 Q n 79 [u0, u1, u2, u3, some (.int x4)] [] σ by
      obtain ⟨n, hn⟩ := hh
      exact ⟨n + 3, And.intro (fun _ => hn) (fun zz => absurd c14 zz)⟩
    cases h
    exact ⟨2, And.intro hQ (And.intro rfl rfl)⟩
  · rw [if_neg c14] at h
    suffices hh : ∃ n, jx_W jx_ShM d (some .int) jc_268 Q n 74 [u0, u1, u2, u3, some (.int x4)] [] σ by
      obtain ⟨n, hn⟩ := hh
      exact ⟨n + 3, And.intro (fun zz => absurd zz c14) (fun _ => hn)⟩
    cases h
    exact ⟨3, And.intro hQ (And.intro rfl rfl)⟩
set_option maxRecDepth 20000 in
theorem s_M_bars_45 {N d : Nat} {Q : jw_Q} (hd : 8 ≤ d) : ∀ (k : Nat) {x3 : Int32} {x4 : Int32} {u0 : Option Value} {u1 : Option Value} {u2 : Option Value} {σ : jw_M} {z : (Int32 × jw_M)}, f_M_bars_45 N k x3 x4 σ = some z → Q (some (.int z.1)) (jx_ShM, z.2) → ∃ n, jx_W jx_ShM d (some .int) jc_268 Q n 45 [u0, u1, u2, some (.int x3), some (.int x4)] [] σ
  | 0, _, _, _, _, _, _, _, h, _ => by cases h
  | k + 1, x3, x4, u0, u1, u2, σ, z, h, hQ => by
    rw [f_M_bars_45] at h
    by_cases c13 : 8 ≤ x4
    · rw [if_pos c13] at h
      suffices hh : ∃ n, jx_W jx_ShM d (some .int) jc_268 Q n 67 [u0, u1, u2, some (.int x3), some (.int x4)] [] σ by
        obtain ⟨n, hn⟩ := hh
        exact ⟨n + 3, And.intro (fun _ => hn) (fun zz => absurd c13 zz)⟩
      obtain ⟨n, hn⟩ := s_M_bars_67 hd (u0 := u0) (u1 := u1) (u2 := u2) (u3 := some (.int x3)) h hQ
      exact ⟨n + 0, hn⟩
    · rw [if_neg c13] at h
      suffices hh : ∃ n, jx_W jx_ShM d (some .int) jc_268 Q n 52 [u0, u1, u2, some (.int x3), some (.int x4)] [] σ by
        obtain ⟨n, hn⟩ := hh
        exact ⟨n + 3, And.intro (fun zz => absurd zz c13) (fun _ => hn)⟩
      by_cases c15 : ((x3 >>> (x4 &&& 31)) &&& 1) = 0
      · rw [if_pos c15] at h
        suffices hh : ∃ n, jx_W jx_ShM d (some .int) jc_268 Q n 61 [u0, u1, u2, some (.int x3), some (.int x4)] [] σ by
          obtain ⟨n, hn⟩ := hh
          exact ⟨n + 6, And.intro (fun zz => absurd c15 zz) (fun _ => hn)⟩
        obtain ⟨n, hn⟩ := s_M_bars_45 hd k (u0 := u0) (u1 := u1) (u2 := u2) h hQ
        exact ⟨n + 2, hn⟩
      · rw [if_neg c15] at h
        suffices hh : ∃ n, jx_W jx_ShM d (some .int) jc_268 Q n 67 [u0, u1, u2, some (.int x3), some (.int x4)] [] σ by
          obtain ⟨n, hn⟩ := hh
          exact ⟨n + 6, And.intro (fun _ => hn) (fun zz => absurd zz c15)⟩
        obtain ⟨n, hn⟩ := s_M_bars_67 hd (u0 := u0) (u1 := u1) (u2 := u2) (u3 := some (.int x3)) h hQ
        exact ⟨n + 0, hn⟩
set_option maxRecDepth 20000 in
theorem s_M_bars {N d : Nat} {x1 : Int32} {x2 : Int32} (hd : 9 ≤ d) {σ : jw_M} {z : (Int32 × jw_M)} {Q : jw_Q} (h : f_M_bars N x1 x2 σ = some z) (hQ : Q (some (.int z.1)) (jx_ShM, z.2)) : jw_C jp_kd jp_ys d 268 [.ref 0, .int x1, .int x2] (jx_ShM, σ) Q := by
  obtain ⟨d, rfl⟩ : ∃ e, d = e + 1 := ⟨d - 1, by omega⟩
  replace hd : 8 ≤ d := by omega
  refine jx_C rfl rfl ?_
  unfold f_M_bars at h
  obtain ⟨z1, h2, h⟩ := Option.bind_eq_some_iff.mp h
  by_cases c3 : z1.1 = 0
  · rw [if_pos c3] at h
    suffices hh : ∃ n, jx_W jx_ShM d (some .int) jc_268 Q n 21 [some (.ref 0), some (.int x1), some (.int x2), none, none] [] z1.2 by
      obtain ⟨n, hn⟩ := hh
      exact ⟨n + 5, s_M_in (by omega) h2 (And.intro (fun _ => hn) (fun zz => absurd c3 zz))⟩
    cases h
    exact ⟨2, And.intro hQ (And.intro rfl rfl)⟩
  · rw [if_neg c3] at h
    suffices hh : ∃ n, jx_W jx_ShM d (some .int) jc_268 Q n 9 [some (.ref 0), some (.int x1), some (.int x2), none, none] [] z1.2 by
      obtain ⟨n, hn⟩ := hh
      exact ⟨n + 5, s_M_in (by omega) h2 (And.intro (fun zz => absurd zz c3) (fun _ => hn))⟩
    obtain ⟨z4, h5, h⟩ := Option.bind_eq_some_iff.mp h
    obtain ⟨z6, h7, h⟩ := Option.bind_eq_some_iff.mp h
    by_cases c8 : z6.1 = 0
    · rw [if_pos c8] at h
      suffices hh : ∃ n, jx_W jx_ShM d (some .int) jc_268 Q n 21 [some (.ref 0), some (.int x1), some (.int x2), none, none] [] z6.2 by
        obtain ⟨n, hn⟩ := hh
        exact ⟨n + 6, s_M_allLessons (by omega) h5 (s_M_in (by omega) h7 (And.intro (fun zz => absurd c8 zz) (fun _ => hn)))⟩
      cases h
      exact ⟨2, And.intro hQ (And.intro rfl rfl)⟩
    · rw [if_neg c8] at h
      suffices hh : ∃ n, jx_W jx_ShM d (some .int) jc_268 Q n 23 [some (.ref 0), some (.int x1), some (.int x2), none, none] [] z6.2 by
        obtain ⟨n, hn⟩ := hh
        exact ⟨n + 6, s_M_allLessons (by omega) h5 (s_M_in (by omega) h7 (And.intro (fun _ => hn) (fun zz => absurd zz c8)))⟩
      obtain ⟨z9, h10, h⟩ := Option.bind_eq_some_iff.mp h
      obtain ⟨z11, h12, h⟩ := Option.bind_eq_some_iff.mp h
      obtain ⟨n, hn⟩ := s_M_bars_45 hd N (u0 := some (.ref 0)) (u1 := some (.int x1)) (u2 := some (.int x2)) h hQ
      exact ⟨n + 15, s_M_planHours (by omega) h10 (s_M_findTaught (by omega) h12 (hn))⟩
set_option maxRecDepth 20000 in
theorem s_M_valueOf_123 {N d : Nat} {Dr : Nat} {Rec : Int32 → Int32 → Int32 → jw_M → Option (Int32 × jw_M)} {Q : jw_Q} {K20 : Int32 → Int32 → Int32 → Int32 → Int32 → Int32 → jw_M → Option (Int32 × jw_M)} (hRec : ∀ {d : Nat} {a1 : Int32} {a2 : Int32} {a3 : Int32} {σ : jw_M} {z : (Int32 × jw_M)} {Q : jw_Q}, Dr ≤ d → Rec a1 a2 a3 σ = some z → Q (some (.int z.1)) (jx_ShM, z.2) → jw_C jp_kd jp_ys d 269 [.ref 0, .int a1, .int a2, .int a3] (jx_ShM, σ) Q) (hd0 : 0 + Dr ≤ d) (hd : 6 ≤ d) (hK20 : ∀ {x1 : Int32} {x2 : Int32} {x3 : Int32} {x4 : Int32} {x5 : Int32} {x6 : Int32} {σ : jw_M} {z : (Int32 × jw_M)} {u7 : Option Value} {u8 : Option Value}, K20 x1 x2 x3 x4 x5 x6 σ = some z → Q (some (.int z.1)) (jx_ShM, z.2) → ∃ n, jx_W jx_ShM d (some .int) jc_269 Q n 20 [some (.ref 0), some (.int x1), some (.int x2), some (.int x3), some (.int x4), some (.int x5), some (.int x6), u7, u8] [] σ) {x1 : Int32} {x2 : Int32} {x3 : Int32} {x4 : Int32} {x6 : Int32} {y0 : Int32} {u5 : Option Value} {u7 : Option Value} {u8 : Option Value} {σ : jw_M} {z : (Int32 × jw_M)} (h : f_M_valueOf_123 N Rec K20 x1 x2 x3 x4 x6 y0 σ = some z) (hQ : Q (some (.int z.1)) (jx_ShM, z.2)) : ∃ n, jx_W jx_ShM d (some .int) jc_269 Q n 123 [some (.ref 0), some (.int x1), some (.int x2), some (.int x3), some (.int x4), u5, some (.int x6), u7, u8] [.int y0] σ := by
  unfold f_M_valueOf_123 at h
  obtain ⟨n, hn⟩ := hK20 (u7 := u7) (u8 := u8) h hQ
  exact ⟨n + 3, hn⟩
set_option maxRecDepth 20000 in
theorem s_M_valueOf_109 {N d : Nat} {Dr : Nat} {Rec : Int32 → Int32 → Int32 → jw_M → Option (Int32 × jw_M)} {Q : jw_Q} {K20 : Int32 → Int32 → Int32 → Int32 → Int32 → Int32 → jw_M → Option (Int32 × jw_M)} (hRec : ∀ {d : Nat} {a1 : Int32} {a2 : Int32} {a3 : Int32} {σ : jw_M} {z : (Int32 × jw_M)} {Q : jw_Q}, Dr ≤ d → Rec a1 a2 a3 σ = some z → Q (some (.int z.1)) (jx_ShM, z.2) → jw_C jp_kd jp_ys d 269 [.ref 0, .int a1, .int a2, .int a3] (jx_ShM, σ) Q) (hd0 : 0 + Dr ≤ d) (hd : 6 ≤ d) (hK20 : ∀ {x1 : Int32} {x2 : Int32} {x3 : Int32} {x4 : Int32} {x5 : Int32} {x6 : Int32} {σ : jw_M} {z : (Int32 × jw_M)} {u7 : Option Value} {u8 : Option Value}, K20 x1 x2 x3 x4 x5 x6 σ = some z → Q (some (.int z.1)) (jx_ShM, z.2) → ∃ n, jx_W jx_ShM d (some .int) jc_269 Q n 20 [some (.ref 0), some (.int x1), some (.int x2), some (.int x3), some (.int x4), some (.int x5), some (.int x6), u7, u8] [] σ) {x1 : Int32} {x2 : Int32} {x3 : Int32} {x5 : Int32} {x6 : Int32} {x7 : Int32} {x8 : Int32} {y0 : Int32} {u4 : Option Value} {σ : jw_M} {z : (Int32 × jw_M)} (h : f_M_valueOf_109 N Rec K20 x1 x2 x3 x5 x6 x7 x8 y0 σ = some z) (hQ : Q (some (.int z.1)) (jx_ShM, z.2)) : ∃ n, jx_W jx_ShM d (some .int) jc_269 Q n 109 [some (.ref 0), some (.int x1), some (.int x2), some (.int x3), u4, some (.int x5), some (.int x6), some (.int x7), some (.int x8)] [.int y0] σ := by
  unfold f_M_valueOf_109 at h
  by_cases c14 : x8 = 0
  · rw [if_pos c14] at h
    suffices hh : ∃ n, jx_W jx_ShM d (some .int) jc_269 Q n 121 [some (.ref 0), some (.int x1), some (.int x2), some (.int x3), some (.int y0), some (.int x5), some (.int x6), some (.int x7), some (.int x8)] [] σ by
      obtain ⟨n, hn⟩ := hh
      exact ⟨n + 3, And.intro (fun _ => hn) (fun zz => absurd c14 zz)⟩
    obtain ⟨n, hn⟩ := s_M_valueOf_123 hRec hd0 hd hK20 (u5 := some (.int x5)) (u7 := some (.int x7)) (u8 := some (.int x8)) h hQ
    exact ⟨n + 1, hn⟩
  · rw [if_neg c14] at h
    suffices hh : ∃ n, jx_W jx_ShM d (some .int) jc_269 Q n 116 [some (.ref 0), some (.int x1), some (.int x2), some (.int x3), some (.int y0), some (.int x5), some (.int x6), some (.int x7), some (.int x8)] [] σ by
      obtain ⟨n, hn⟩ := hh
      exact ⟨n + 3, And.intro (fun zz => absurd zz c14) (fun _ => hn)⟩
    obtain ⟨n, hn⟩ := s_M_valueOf_123 hRec hd0 hd hK20 (u5 := some (.int x5)) (u7 := some (.int x7)) (u8 := some (.int x8)) h hQ
    exact ⟨n + 2, hn⟩
set_option maxRecDepth 20000 in
theorem s_M_valueOf_95 {N d : Nat} {Dr : Nat} {Rec : Int32 → Int32 → Int32 → jw_M → Option (Int32 × jw_M)} {Q : jw_Q} {K20 : Int32 → Int32 → Int32 → Int32 → Int32 → Int32 → jw_M → Option (Int32 × jw_M)} (hRec : ∀ {d : Nat} {a1 : Int32} {a2 : Int32} {a3 : Int32} {σ : jw_M} {z : (Int32 × jw_M)} {Q : jw_Q}, Dr ≤ d → Rec a1 a2 a3 σ = some z → Q (some (.int z.1)) (jx_ShM, z.2) → jw_C jp_kd jp_ys d 269 [.ref 0, .int a1, .int a2, .int a3] (jx_ShM, σ) Q) (hd0 : 0 + Dr ≤ d) (hd : 6 ≤ d) (hK20 : ∀ {x1 : Int32} {x2 : Int32} {x3 : Int32} {x4 : Int32} {x5 : Int32} {x6 : Int32} {σ : jw_M} {z : (Int32 × jw_M)} {u7 : Option Value} {u8 : Option Value}, K20 x1 x2 x3 x4 x5 x6 σ = some z → Q (some (.int z.1)) (jx_ShM, z.2) → ∃ n, jx_W jx_ShM d (some .int) jc_269 Q n 20 [some (.ref 0), some (.int x1), some (.int x2), some (.int x3), some (.int x4), some (.int x5), some (.int x6), u7, u8] [] σ) {x1 : Int32} {x2 : Int32} {x3 : Int32} {x4 : Int32} {x5 : Int32} {x6 : Int32} {x7 : Int32} {y0 : Int32} {u8 : Option Value} {σ : jw_M} {z : (Int32 × jw_M)} (h : f_M_valueOf_95 N Rec K20 x1 x2 x3 x4 x5 x6 x7 y0 σ = some z) (hQ : Q (some (.int z.1)) (jx_ShM, z.2)) : ∃ n, jx_W jx_ShM d (some .int) jc_269 Q n 95 [some (.ref 0), some (.int x1), some (.int x2), some (.int x3), some (.int x4), some (.int x5), some (.int x6), some (.int x7), u8] [.int y0] σ := by
  unfold f_M_valueOf_95 at h
  by_cases c13 : y0 = 0
  · rw [if_pos c13] at h
    suffices hh : ∃ n, jx_W jx_ShM d (some .int) jc_269 Q n 107 [some (.ref 0), some (.int x1), some (.int x2), some (.int x3), some (.int x4), some (.int x5), some (.int x6), some (.int x7), some (.int y0)] [] σ by
      obtain ⟨n, hn⟩ := hh
      exact ⟨n + 3, And.intro (fun _ => hn) (fun zz => absurd c13 zz)⟩
    obtain ⟨n, hn⟩ := s_M_valueOf_109 hRec hd0 hd hK20 (u4 := some (.int x4)) h hQ
    exact ⟨n + 1, hn⟩
  · rw [if_neg c13] at h
    suffices hh : ∃ n, jx_W jx_ShM d (some .int) jc_269 Q n 102 [some (.ref 0), some (.int x1), some (.int x2), some (.int x3), some (.int x4), some (.int x5), some (.int x6), some (.int x7), some (.int y0)] [] σ by
      obtain ⟨n, hn⟩ := hh
      exact ⟨n + 3, And.intro (fun zz => absurd zz c13) (fun _ => hn)⟩
    obtain ⟨n, hn⟩ := s_M_valueOf_109 hRec hd0 hd hK20 (u4 := some (.int x4)) h hQ
    exact ⟨n + 2, hn⟩
set_option maxRecDepth 20000 in
theorem s_M_valueOf_90 {N d : Nat} {Dr : Nat} {Rec : Int32 → Int32 → Int32 → jw_M → Option (Int32 × jw_M)} {Q : jw_Q} {K20 : Int32 → Int32 → Int32 → Int32 → Int32 → Int32 → jw_M → Option (Int32 × jw_M)} (hRec : ∀ {d : Nat} {a1 : Int32} {a2 : Int32} {a3 : Int32} {σ : jw_M} {z : (Int32 × jw_M)} {Q : jw_Q}, Dr ≤ d → Rec a1 a2 a3 σ = some z → Q (some (.int z.1)) (jx_ShM, z.2) → jw_C jp_kd jp_ys d 269 [.ref 0, .int a1, .int a2, .int a3] (jx_ShM, σ) Q) (hd0 : 0 + Dr ≤ d) (hd : 6 ≤ d) (hK20 : ∀ {x1 : Int32} {x2 : Int32} {x3 : Int32} {x4 : Int32} {x5 : Int32} {x6 : Int32} {σ : jw_M} {z : (Int32 × jw_M)} {u7 : Option Value} {u8 : Option Value}, K20 x1 x2 x3 x4 x5 x6 σ = some z → Q (some (.int z.1)) (jx_ShM, z.2) → ∃ n, jx_W jx_ShM d (some .int) jc_269 Q n 20 [some (.ref 0), some (.int x1), some (.int x2), some (.int x3), some (.int x4), some (.int x5), some (.int x6), u7, u8] [] σ) {x1 : Int32} {x2 : Int32} {x3 : Int32} {x4 : Int32} {x5 : Int32} {x6 : Int32} {x7 : Int32} {u8 : Option Value} {σ : jw_M} {z : (Int32 × jw_M)} (h : f_M_valueOf_90 N Rec K20 x1 x2 x3 x4 x5 x6 x7 σ = some z) (hQ : Q (some (.int z.1)) (jx_ShM, z.2)) : ∃ n, jx_W jx_ShM d (some .int) jc_269 Q n 90 [some (.ref 0), some (.int x1), some (.int x2), some (.int x3), some (.int x4), some (.int x5), some (.int x6), some (.int x7), u8] [] σ := by
  unfold f_M_valueOf_90 at h
  obtain ⟨n, hn⟩ := s_M_valueOf_95 hRec hd0 hd hK20 (u8 := u8) h hQ
  exact ⟨n + 2, hn⟩
set_option maxRecDepth 20000 in
theorem s_M_valueOf_94 {N d : Nat} {Dr : Nat} {Rec : Int32 → Int32 → Int32 → jw_M → Option (Int32 × jw_M)} {Q : jw_Q} {K20 : Int32 → Int32 → Int32 → Int32 → Int32 → Int32 → jw_M → Option (Int32 × jw_M)} (hRec : ∀ {d : Nat} {a1 : Int32} {a2 : Int32} {a3 : Int32} {σ : jw_M} {z : (Int32 × jw_M)} {Q : jw_Q}, Dr ≤ d → Rec a1 a2 a3 σ = some z → Q (some (.int z.1)) (jx_ShM, z.2) → jw_C jp_kd jp_ys d 269 [.ref 0, .int a1, .int a2, .int a3] (jx_ShM, σ) Q) (hd0 : 0 + Dr ≤ d) (hd : 6 ≤ d) (hK20 : ∀ {x1 : Int32} {x2 : Int32} {x3 : Int32} {x4 : Int32} {x5 : Int32} {x6 : Int32} {σ : jw_M} {z : (Int32 × jw_M)} {u7 : Option Value} {u8 : Option Value}, K20 x1 x2 x3 x4 x5 x6 σ = some z → Q (some (.int z.1)) (jx_ShM, z.2) → ∃ n, jx_W jx_ShM d (some .int) jc_269 Q n 20 [some (.ref 0), some (.int x1), some (.int x2), some (.int x3), some (.int x4), some (.int x5), some (.int x6), u7, u8] [] σ) {x1 : Int32} {x2 : Int32} {x3 : Int32} {x4 : Int32} {x5 : Int32} {x6 : Int32} {x7 : Int32} {u8 : Option Value} {σ : jw_M} {z : (Int32 × jw_M)} (h : f_M_valueOf_94 N Rec K20 x1 x2 x3 x4 x5 x6 x7 σ = some z) (hQ : Q (some (.int z.1)) (jx_ShM, z.2)) : ∃ n, jx_W jx_ShM d (some .int) jc_269 Q n 94 [some (.ref 0), some (.int x1), some (.int x2), some (.int x3), some (.int x4), some (.int x5), some (.int x6), some (.int x7), u8] [] σ := by
  unfold f_M_valueOf_94 at h
  obtain ⟨n, hn⟩ := s_M_valueOf_95 hRec hd0 hd hK20 (u8 := u8) h hQ
  exact ⟨n + 1, hn⟩
set_option maxRecDepth 20000 in
theorem s_M_valueOf_53 {N d : Nat} {Dr : Nat} {Rec : Int32 → Int32 → Int32 → jw_M → Option (Int32 × jw_M)} {Q : jw_Q} {K20 : Int32 → Int32 → Int32 → Int32 → Int32 → Int32 → jw_M → Option (Int32 × jw_M)} (hRec : ∀ {d : Nat} {a1 : Int32} {a2 : Int32} {a3 : Int32} {σ : jw_M} {z : (Int32 × jw_M)} {Q : jw_Q}, Dr ≤ d → Rec a1 a2 a3 σ = some z → Q (some (.int z.1)) (jx_ShM, z.2) → jw_C jp_kd jp_ys d 269 [.ref 0, .int a1, .int a2, .int a3] (jx_ShM, σ) Q) (hd0 : 0 + Dr ≤ d) (hd : 6 ≤ d) (hK20 : ∀ {x1 : Int32} {x2 : Int32} {x3 : Int32} {x4 : Int32} {x5 : Int32} {x6 : Int32} {σ : jw_M} {z : (Int32 × jw_M)} {u7 : Option Value} {u8 : Option Value}, K20 x1 x2 x3 x4 x5 x6 σ = some z → Q (some (.int z.1)) (jx_ShM, z.2) → ∃ n, jx_W jx_ShM d (some .int) jc_269 Q n 20 [some (.ref 0), some (.int x1), some (.int x2), some (.int x3), some (.int x4), some (.int x5), some (.int x6), u7, u8] [] σ) {x1 : Int32} {x2 : Int32} {x3 : Int32} {x4 : Int32} {x5 : Int32} {x6 : Int32} {y0 : Int32} {y2 : Int32} {y3 : Int32} {y4 : Int32} {u7 : Option Value} {u8 : Option Value} {σ : jw_M} {z : (Int32 × jw_M)} (h : f_M_valueOf_53 N Rec K20 x1 x2 x3 x4 x5 x6 y0 y2 y3 y4 σ = some z) (hQ : Q (some (.int z.1)) (jx_ShM, z.2)) : ∃ n, jx_W jx_ShM d (some .int) jc_269 Q n 53 [some (.ref 0), some (.int x1), some (.int x2), some (.int x3), some (.int x4), some (.int x5), some (.int x6), u7, u8] [.int y4, .int y3, .int y2, .ref 0, .int y0] σ := by
  unfold f_M_valueOf_53 at h
  obtain ⟨z8, h9, h⟩ := Option.bind_eq_some_iff.mp h
  obtain ⟨z10, h11, h⟩ := Option.bind_eq_some_iff.mp h
  by_cases c12 : x4 < 0
  · rw [if_pos c12] at h
    suffices hh : ∃ n, jx_W jx_ShM d (some .int) jc_269 Q n 90 [some (.ref 0), some (.int x1), some (.int x2), some (.int x3), some (.int x4), some (.int x5), some (.int x6), some (.int (y0 + z8.1)), u8] [] z10 by
      obtain ⟨n, hn⟩ := hh
      exact ⟨n + 8, hRec (by omega) h9 (s_M_load (by omega) h11 (And.intro (fun _ => hn) (fun zz => absurd c12 zz)))⟩
    obtain ⟨n, hn⟩ := s_M_valueOf_90 hRec hd0 hd hK20 (u8 := u8) h hQ
    exact ⟨n + 0, hn⟩
  · rw [if_neg c12] at h
    suffices hh : ∃ n, jx_W jx_ShM d (some .int) jc_269 Q n 69 [some (.ref 0), some (.int x1), some (.int x2), some (.int x3), some (.int x4), some (.int x5), some (.int x6), some (.int (y0 + z8.1)), u8] [] z10 by
      obtain ⟨n, hn⟩ := hh
      exact ⟨n + 8, hRec (by omega) h9 (s_M_load (by omega) h11 (And.intro (fun zz => absurd zz c12) (fun _ => hn)))⟩
    by_cases c15 : x3 = 0
    · rw [if_pos c15] at h
      suffices hh : ∃ n, jx_W jx_ShM d (some .int) jc_269 Q n 83 [some (.ref 0), some (.int x1), some (.int x2), some (.int x3), some (.int x4), some (.int x5), some (.int x6), some (.int (y0 + z8.1)), u8] [] z10 by
        obtain ⟨n, hn⟩ := hh
        exact ⟨n + 2, And.intro (fun _ => hn) (fun zz => absurd c15 zz)⟩
      by_cases c16 : x5 ≤ (y0 + z8.1)
      · rw [if_pos c16] at h
        suffices hh : ∃ n, jx_W jx_ShM d (some .int) jc_269 Q n 94 [some (.ref 0), some (.int x1), some (.int x2), some (.int x3), some (.int x4), some (.int x5), some (.int x6), some (.int (y0 + z8.1)), u8] [] z10 by
          obtain ⟨n, hn⟩ := hh
          exact ⟨n + 3, And.intro (fun _ => hn) (fun zz => absurd c16 zz)⟩
        obtain ⟨n, hn⟩ := s_M_valueOf_94 hRec hd0 hd hK20 (u8 := u8) h hQ
        exact ⟨n + 0, hn⟩
      · rw [if_neg c16] at h
        suffices hh : ∃ n, jx_W jx_ShM d (some .int) jc_269 Q n 90 [some (.ref 0), some (.int x1), some (.int x2), some (.int x3), some (.int x4), some (.int x5), some (.int x6), some (.int (y0 + z8.1)), u8] [] z10 by
          obtain ⟨n, hn⟩ := hh
          exact ⟨n + 3, And.intro (fun zz => absurd zz c16) (fun _ => hn)⟩
        obtain ⟨n, hn⟩ := s_M_valueOf_90 hRec hd0 hd hK20 (u8 := u8) h hQ
        exact ⟨n + 0, hn⟩
    · rw [if_neg c15] at h
      suffices hh : ∃ n, jx_W jx_ShM d (some .int) jc_269 Q n 73 [some (.ref 0), some (.int x1), some (.int x2), some (.int x3), some (.int x4), some (.int x5), some (.int x6), some (.int (y0 + z8.1)), u8] [] z10 by
        obtain ⟨n, hn⟩ := hh
        exact ⟨n + 2, And.intro (fun zz => absurd zz c15) (fun _ => hn)⟩
      by_cases c17 : (y0 + z8.1) ≤ x5
      · rw [if_pos c17] at h
        suffices hh : ∃ n, jx_W jx_ShM d (some .int) jc_269 Q n 94 [some (.ref 0), some (.int x1), some (.int x2), some (.int x3), some (.int x4), some (.int x5), some (.int x6), some (.int (y0 + z8.1)), u8] [] z10 by
          obtain ⟨n, hn⟩ := hh
          exact ⟨n + 3, And.intro (fun _ => hn) (fun zz => absurd c17 zz)⟩
        obtain ⟨n, hn⟩ := s_M_valueOf_94 hRec hd0 hd hK20 (u8 := u8) h hQ
        exact ⟨n + 0, hn⟩
      · rw [if_neg c17] at h
        suffices hh : ∃ n, jx_W jx_ShM d (some .int) jc_269 Q n 80 [some (.ref 0), some (.int x1), some (.int x2), some (.int x3), some (.int x4), some (.int x5), some (.int x6), some (.int (y0 + z8.1)), u8] [] z10 by
          obtain ⟨n, hn⟩ := hh
          exact ⟨n + 3, And.intro (fun zz => absurd zz c17) (fun _ => hn)⟩
        obtain ⟨n, hn⟩ := s_M_valueOf_90 hRec hd0 hd hK20 (u8 := u8) h hQ
        exact ⟨n + 1, hn⟩
set_option maxRecDepth 20000 in
theorem s_M_valueOf_20 {N d : Nat} {Dr : Nat} {Rec : Int32 → Int32 → Int32 → jw_M → Option (Int32 × jw_M)} {Q : jw_Q} (hRec : ∀ {d : Nat} {a1 : Int32} {a2 : Int32} {a3 : Int32} {σ : jw_M} {z : (Int32 × jw_M)} {Q : jw_Q}, Dr ≤ d → Rec a1 a2 a3 σ = some z → Q (some (.int z.1)) (jx_ShM, z.2) → jw_C jp_kd jp_ys d 269 [.ref 0, .int a1, .int a2, .int a3] (jx_ShM, σ) Q) (hd0 : 0 + Dr ≤ d) (hd : 6 ≤ d) : ∀ (k : Nat) {x1 : Int32} {x2 : Int32} {x3 : Int32} {x4 : Int32} {x5 : Int32} {x6 : Int32} {u7 : Option Value} {u8 : Option Value} {σ : jw_M} {z : (Int32 × jw_M)}, f_M_valueOf_20 N Rec k x1 x2 x3 x4 x5 x6 σ = some z → Q (some (.int z.1)) (jx_ShM, z.2) → ∃ n, jx_W jx_ShM d (some .int) jc_269 Q n 20 [some (.ref 0), some (.int x1), some (.int x2), some (.int x3), some (.int x4), some (.int x5), some (.int x6), u7, u8] [] σ
  | 0, _, _, _, _, _, _, _, _, _, _, h, _ => by cases h
  | k + 1, x1, x2, x3, x4, x5, x6, u7, u8, σ, z, h, hQ => by
    rw [f_M_valueOf_20] at h
    by_cases c4 : (σ.1 3 2) < x6
    · rw [if_pos c4] at h
      suffices hh : ∃ n, jx_W jx_ShM d (some .int) jc_269 Q n 131 [some (.ref 0), some (.int x1), some (.int x2), some (.int x3), some (.int x4), some (.int x5), some (.int x6), u7, u8] [] σ by
        obtain ⟨n, hn⟩ := hh
        exact ⟨n + 6, And.intro (jx_in_ok rfl) (And.intro (fun _ => hn) (fun zz => absurd c4 zz))⟩
      cases h
      exact ⟨5, And.intro hQ (And.intro rfl rfl)⟩
    · rw [if_neg c4] at h
      suffices hh : ∃ n, jx_W jx_ShM d (some .int) jc_269 Q n 31 [some (.ref 0), some (.int x1), some (.int x2), some (.int x3), some (.int x4), some (.int x5), some (.int x6), u7, u8] [] σ by
        obtain ⟨n, hn⟩ := hh
        exact ⟨n + 6, And.intro (jx_in_ok rfl) (And.intro (fun zz => absurd zz c4) (fun _ => hn))⟩
      obtain ⟨z5, h6, h⟩ := Option.bind_eq_some_iff.mp h
      by_cases c7 : x3 = 0
      · rw [if_pos c7] at h
        suffices hh : ∃ n, jx_W jx_ShM d (some .int) jc_269 Q n 48 [some (.ref 0), some (.int x1), some (.int x2), some (.int x3), some (.int x4), some (.int x5), some (.int x6), u7, u8] [.int (x2 - 1), .int (x1 + 1), .ref 0, .int z5.1] z5.2 by
          obtain ⟨n, hn⟩ := hh
          exact ⟨n + 12, s_M_goes (by omega) h6 (And.intro (fun zz => absurd c7 zz) (fun _ => hn))⟩
        obtain ⟨n, hn⟩ := s_M_valueOf_53 hRec hd0 hd (s_M_valueOf_20 hRec hd0 hd k) (u7 := u7) (u8 := u8) h hQ
        exact ⟨n + 2, hn⟩
      · rw [if_neg c7] at h
        suffices hh : ∃ n, jx_W jx_ShM d (some .int) jc_269 Q n 52 [some (.ref 0), some (.int x1), some (.int x2), some (.int x3), some (.int x4), some (.int x5), some (.int x6), u7, u8] [.int (x2 - 1), .int (x1 + 1), .ref 0, .int z5.1] z5.2 by
          obtain ⟨n, hn⟩ := hh
          exact ⟨n + 12, s_M_goes (by omega) h6 (And.intro (fun _ => hn) (fun zz => absurd zz c7))⟩
        obtain ⟨n, hn⟩ := s_M_valueOf_53 hRec hd0 hd (s_M_valueOf_20 hRec hd0 hd k) (u7 := u7) (u8 := u8) h hQ
        exact ⟨n + 1, hn⟩
set_option maxRecDepth 20000 in
theorem s_M_valueOf {N : Nat} : ∀ (r : Nat) {d : Nat} {x1 : Int32} {x2 : Int32} {x3 : Int32} {σ : jw_M} {z : (Int32 × jw_M)} {Q : jw_Q}, 7 + 1 * r ≤ d → f_M_valueOf N r x1 x2 x3 σ = some z → Q (some (.int z.1)) (jx_ShM, z.2) → jw_C jp_kd jp_ys d 269 [.ref 0, .int x1, .int x2, .int x3] (jx_ShM, σ) Q
  | 0, _, _, _, _, _, _, _, _, h, _ => by cases h
  | r + 1, d, x1, x2, x3, σ, z, Q, hd, h, hQ => by
    obtain ⟨d, rfl⟩ : ∃ e, d = e + 1 := ⟨d - 1, by omega⟩
    have hd0 : 0 + (7 + 1 * r) ≤ d := by omega
    replace hd : 6 ≤ d := by omega
    have hRec := @s_M_valueOf N r
    refine jx_C rfl rfl ?_
    rw [f_M_valueOf] at h
    by_cases c1 : x2 = 0
    · rw [if_pos c1] at h
      suffices hh : ∃ n, jx_W jx_ShM d (some .int) jc_269 Q n 4 [some (.ref 0), some (.int x1), some (.int x2), some (.int x3), none, none, none, none, none] [] σ by
        obtain ⟨n, hn⟩ := hh
        exact ⟨n + 2, And.intro (fun zz => absurd c1 zz) (fun _ => hn)⟩
      cases h
      exact ⟨2, And.intro hQ (And.intro rfl rfl)⟩
    · rw [if_neg c1] at h
      suffices hh : ∃ n, jx_W jx_ShM d (some .int) jc_269 Q n 6 [some (.ref 0), some (.int x1), some (.int x2), some (.int x3), none, none, none, none, none] [] σ by
        obtain ⟨n, hn⟩ := hh
        exact ⟨n + 2, And.intro (fun _ => hn) (fun zz => absurd zz c1)⟩
      obtain ⟨z2, h3, h⟩ := Option.bind_eq_some_iff.mp h
      obtain ⟨n, hn⟩ := s_M_valueOf_20 hRec hd0 hd N (u7 := none) (u8 := none) h hQ
      exact ⟨n + 9, s_M_save (by omega) h3 (hn)⟩
set_option maxRecDepth 20000 in
theorem s_M_game {N d : Nat} {x1 : Int32} (hd : 72 ≤ d) {σ : jw_M} {z : (Int32 × jw_M)} {Q : jw_Q} (h : f_M_game N x1 σ = some z) (hQ : Q (some (.int z.1)) (jx_ShM, z.2)) : jw_C jp_kd jp_ys d 270 [.ref 0, .int x1] (jx_ShM, σ) Q := by
  obtain ⟨d, rfl⟩ : ∃ e, d = e + 1 := ⟨d - 1, by omega⟩
  replace hd : 71 ≤ d := by omega
  refine jx_C rfl rfl ?_
  unfold f_M_game at h
  obtain ⟨z1, h2, h⟩ := Option.bind_eq_some_iff.mp h
  by_cases c3 : z1.1 = 0
  · rw [if_pos c3] at h
    suffices hh : ∃ n, jx_W jx_ShM d (some .int) jc_270 Q n 23 [some (.ref 0), some (.int x1)] [] z1.2 by
      obtain ⟨n, hn⟩ := hh
      exact ⟨n + 5, s_M_in (by omega) h2 (And.intro (fun _ => hn) (fun zz => absurd c3 zz))⟩
    cases h
    exact ⟨2, And.intro hQ (And.intro rfl rfl)⟩
  · rw [if_neg c3] at h
    suffices hh : ∃ n, jx_W jx_ShM d (some .int) jc_270 Q n 9 [some (.ref 0), some (.int x1)] [] z1.2 by
      obtain ⟨n, hn⟩ := hh
      exact ⟨n + 5, s_M_in (by omega) h2 (And.intro (fun zz => absurd zz c3) (fun _ => hn))⟩
    obtain ⟨z4, h5, h⟩ := Option.bind_eq_some_iff.mp h
    obtain ⟨z6, h7, h⟩ := Option.bind_eq_some_iff.mp h
    cases h
    exact ⟨9, s_M_planHours (by omega) h5 (s_M_valueOf 64 (by omega) h7 (And.intro hQ (And.intro rfl rfl)))⟩
set_option maxRecDepth 20000 in
theorem s_M_play {N d : Nat} {x1 : Int32} (hd : 72 ≤ d) {σ : jw_M} {z : (Int32 × jw_M)} {Q : jw_Q} (h : f_M_play N x1 σ = some z) (hQ : Q (some (.int z.1)) (jx_ShM, z.2)) : jw_C jp_kd jp_ys d 271 [.ref 0, .int x1] (jx_ShM, σ) Q := by
  obtain ⟨d, rfl⟩ : ∃ e, d = e + 1 := ⟨d - 1, by omega⟩
  replace hd : 71 ≤ d := by omega
  refine jx_C rfl rfl ?_
  unfold f_M_play at h
  obtain ⟨z1, h2, h⟩ := Option.bind_eq_some_iff.mp h
  by_cases c3 : z1.1 = 0
  · rw [if_pos c3] at h
    suffices hh : ∃ n, jx_W jx_ShM d (some .int) jc_271 Q n 9 [some (.ref 0), some (.int x1), none] [] z1.2 by
      obtain ⟨n, hn⟩ := hh
      exact ⟨n + 5, s_M_in (by omega) h2 (And.intro (fun zz => absurd c3 zz) (fun _ => hn))⟩
    cases h
    exact ⟨2, And.intro hQ (And.intro rfl rfl)⟩
  · rw [if_neg c3] at h
    suffices hh : ∃ n, jx_W jx_ShM d (some .int) jc_271 Q n 11 [some (.ref 0), some (.int x1), none] [] z1.2 by
      obtain ⟨n, hn⟩ := hh
      exact ⟨n + 5, s_M_in (by omega) h2 (And.intro (fun _ => hn) (fun zz => absurd zz c3))⟩
    obtain ⟨z4, h5, h⟩ := Option.bind_eq_some_iff.mp h
    by_cases c6 : z4.1 = 0
    · rw [if_pos c6] at h
      suffices hh : ∃ n, jx_W jx_ShM d (some .int) jc_271 Q n 21 [some (.ref 0), some (.int x1), none] [] z4.2 by
        obtain ⟨n, hn⟩ := hh
        exact ⟨n + 3, s_M_isOver (by omega) h5 (And.intro (fun _ => hn) (fun zz => absurd c6 zz))⟩
      obtain ⟨z7, h8, h⟩ := Option.bind_eq_some_iff.mp h
      obtain ⟨z9, h10, h⟩ := Option.bind_eq_some_iff.mp h
      cases h
      exact ⟨11, s_M_planHours (by omega) h8 (s_M_valueOf 64 (by omega) h10 (And.intro hQ (And.intro rfl rfl)))⟩
    · rw [if_neg c6] at h
      suffices hh : ∃ n, jx_W jx_ShM d (some .int) jc_271 Q n 18 [some (.ref 0), some (.int x1), none] [] z4.2 by
        obtain ⟨n, hn⟩ := hh
        exact ⟨n + 3, s_M_isOver (by omega) h5 (And.intro (fun zz => absurd zz c6) (fun _ => hn))⟩
      cases h
      exact ⟨2, And.intro hQ (And.intro rfl rfl)⟩
