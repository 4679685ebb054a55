set_option maxRecDepth 20000 in
theorem s_M_emptySeats_2 {N d : Nat} {Q : jw_Q} (hd : 0 ≤ d) : ∀ (k : Nat) {x1 : Int32} {σ : jw_M} {z : jw_M}, f_M_emptySeats_2 N k x1 σ = some z → Q none (jx_ShM, z) → ∃ n, jx_W jx_ShM d none jc_226 Q n 2 [some (.ref 0), some (.int x1)] [] σ
  | 0, _, _, _, h, _ => by cases h
  | k + 1, x1, σ, z, h, hQ => by
    rw [f_M_emptySeats_2] at h
    by_cases c1 : 8 ≤ x1
    · rw [if_pos c1] at h
      suffices hh : ∃ n, jx_W jx_ShM d none jc_226 Q n 21 [some (.ref 0), some (.int x1)] [] σ by
        obtain ⟨n, hn⟩ := hh
        exact ⟨n + 3, And.intro (fun _ => hn) (fun zz => absurd c1 zz)⟩
      cases h
      exact ⟨1, And.intro hQ (And.intro rfl rfl)⟩
    · rw [if_neg c1] at h
      suffices hh : ∃ n, jx_W jx_ShM d none jc_226 Q n 8 [some (.ref 0), some (.int x1)] [] σ by
        obtain ⟨n, hn⟩ := hh
        exact ⟨n + 3, And.intro (fun zz => absurd zz c1) (fun _ => hn)⟩
      cases c2 : jx_in x1 8 with
      | false => rw [c2, cond_false] at h; cases h
      | true =>
        rw [c2, cond_true] at h
        obtain ⟨n, hn⟩ := s_M_emptySeats_2 hd k h hQ
        exact ⟨n + 7, And.intro (jx_in_ok c2) (hn)⟩
set_option maxRecDepth 20000 in
theorem s_M_emptySeats {N d : Nat} (hd : 1 ≤ d) {σ : jw_M} {z : jw_M} {Q : jw_Q} (h : f_M_emptySeats N  σ = some z) (hQ : Q none (jx_ShM, z)) : jw_C jp_kd jp_ys d 226 [.ref 0] (jx_ShM, σ) Q := by
  obtain ⟨d, rfl⟩ : ∃ e, d = e + 1 := ⟨d - 1, by omega⟩
  replace hd : 0 ≤ d := by omega
  refine jx_C rfl rfl ?_
  unfold f_M_emptySeats at h
  obtain ⟨n, hn⟩ := s_M_emptySeats_2 hd N h hQ
  exact ⟨n + 2, hn⟩
set_option maxRecDepth 20000 in
theorem s_M_isOpen_29 {N d : Nat} {Q : jw_Q} (hd : 1 ≤ d) {x2 : Int32} {u1 : Option Value} {u3 : Option Value} {σ : jw_M} {z : (Int32 × jw_M)} (h : f_M_isOpen_29 N x2 σ = some z) (hQ : Q (some (.int z.1)) (jx_ShM, z.2)) : ∃ n, jx_W jx_ShM d (some .boolean) jc_227 Q n 29 [some (.ref 0), u1, some (.int x2), u3] [] σ := by
  unfold f_M_isOpen_29 at h
  obtain ⟨z7, h8, h⟩ := Option.bind_eq_some_iff.mp h
  obtain ⟨z9, h10, h⟩ := Option.bind_eq_some_iff.mp h
  obtain ⟨z11, h12, h⟩ := Option.bind_eq_some_iff.mp h
  by_cases c13 : z11.1 = 0
  · rw [if_pos c13] at h
    suffices hh : ∃ n, jx_W jx_ShM d (some .boolean) jc_227 Q n 72 [some (.ref 0), u1, some (.int x2), u3] [] z11.2 by
      obtain ⟨n, hn⟩ := hh
      exact ⟨n + 14, And.intro (jx_in_ok rfl) (s_M_lessonNumber (by omega) h8 (s_M_lessonNumber (by omega) h10 (s_M_in (by omega) h12 (And.intro (fun _ => hn) (fun zz => absurd c13 zz)))))⟩
    cases h
    exact ⟨2, And.intro (Or.inl rfl) (And.intro hQ (And.intro rfl rfl))⟩
  · rw [if_neg c13] at h
    suffices hh : ∃ n, jx_W jx_ShM d (some .boolean) jc_227 Q n 53 [some (.ref 0), u1, some (.int x2), u3] [] z11.2 by
      obtain ⟨n, hn⟩ := hh
      exact ⟨n + 14, And.intro (jx_in_ok rfl) (s_M_lessonNumber (by omega) h8 (s_M_lessonNumber (by omega) h10 (s_M_in (by omega) h12 (And.intro (fun zz => absurd zz c13) (fun _ => hn)))))⟩
    cases c14 : jx_in x2 8 with
    | false => rw [c14, cond_false] at h; cases h
    | true =>
      rw [c14, cond_true] at h
      obtain ⟨z15, h16, h⟩ := Option.bind_eq_some_iff.mp h
      by_cases c17 : z15.1 ≤ (z11.2.1 10 (x2).toNatClampNeg)
      · rw [if_pos c17] at h
        suffices hh : ∃ n, jx_W jx_ShM d (some .boolean) jc_227 Q n 72 [some (.ref 0), u1, some (.int x2), u3] [] z15.2 by
          obtain ⟨n, hn⟩ := hh
          exact ⟨n + 9, And.intro (jx_in_ok c14) (s_M_lessonNumber (by omega) h16 (And.intro (fun _ => hn) (fun zz => absurd c17 zz)))⟩
        cases h
        exact ⟨2, And.intro (Or.inl rfl) (And.intro hQ (And.intro rfl rfl))⟩
      · rw [if_neg c17] at h
        suffices hh : ∃ n, jx_W jx_ShM d (some .boolean) jc_227 Q n 68 [some (.ref 0), u1, some (.int x2), u3] [] z15.2 by
          obtain ⟨n, hn⟩ := hh
          exact ⟨n + 9, And.intro (jx_in_ok c14) (s_M_lessonNumber (by omega) h16 (And.intro (fun zz => absurd zz c17) (fun _ => hn)))⟩
        cases h
        exact ⟨3, And.intro (Or.inr rfl) (And.intro hQ (And.intro rfl rfl))⟩
set_option maxRecDepth 20000 in
theorem s_M_isOpen {N d : Nat} {x1 : Int32} {x2 : Int32} (hd : 2 ≤ d) {σ : jw_M} {z : (Int32 × jw_M)} {Q : jw_Q} (h : f_M_isOpen N x1 x2 σ = some z) (hQ : Q (some (.int z.1)) (jx_ShM, z.2)) : jw_C jp_kd jp_ys d 227 [.ref 0, .int x1, .int x2] (jx_ShM, σ) Q := by
  obtain ⟨d, rfl⟩ : ∃ e, d = e + 1 := ⟨d - 1, by omega⟩
  replace hd : 1 ≤ d := by omega
  refine jx_C rfl rfl ?_
  unfold f_M_isOpen at h
  obtain ⟨z1, h2, h⟩ := Option.bind_eq_some_iff.mp h
  obtain ⟨z3, h4, h⟩ := Option.bind_eq_some_iff.mp h
  by_cases c5 : z3.1 = 0
  · rw [if_pos c5] at h
    suffices hh : ∃ n, jx_W jx_ShM d (some .boolean) jc_227 Q n 16 [some (.ref 0), some (.int x1), some (.int x2), some (.int z1.1)] [] z3.2 by
      obtain ⟨n, hn⟩ := hh
      exact ⟨n + 10, s_M_lessonNumber (by omega) h2 (s_M_hasLearnt (by omega) h4 (And.intro (fun zz => absurd c5 zz) (fun _ => hn)))⟩
    by_cases c6 : z1.1 < 0
    · rw [if_pos c6] at h
      suffices hh : ∃ n, jx_W jx_ShM d (some .boolean) jc_227 Q n 29 [some (.ref 0), some (.int x1), some (.int x2), some (.int z1.1)] [] z3.2 by
        obtain ⟨n, hn⟩ := hh
        exact ⟨n + 2, And.intro (fun _ => hn) (fun zz => absurd c6 zz)⟩
      obtain ⟨n, hn⟩ := s_M_isOpen_29 hd (u1 := some (.int x1)) (u3 := some (.int z1.1)) h hQ
      exact ⟨n + 0, hn⟩
    · rw [if_neg c6] at h
      suffices hh : ∃ n, jx_W jx_ShM d (some .boolean) jc_227 Q n 20 [some (.ref 0), some (.int x1), some (.int x2), some (.int z1.1)] [] z3.2 by
        obtain ⟨n, hn⟩ := hh
        exact ⟨n + 2, And.intro (fun zz => absurd zz c6) (fun _ => hn)⟩
      obtain ⟨z18, h19, h⟩ := Option.bind_eq_some_iff.mp h
      by_cases c20 : z18.1 = 0
      · rw [if_pos c20] at h
        suffices hh : ∃ n, jx_W jx_ShM d (some .boolean) jc_227 Q n 72 [some (.ref 0), some (.int x1), some (.int x2), some (.int z1.1)] [] z18.2 by
          obtain ⟨n, hn⟩ := hh
          exact ⟨n + 5, s_M_hasLearnt (by omega) h19 (And.intro (fun _ => hn) (fun zz => absurd c20 zz))⟩
        cases h
        exact ⟨2, And.intro (Or.inl rfl) (And.intro hQ (And.intro rfl rfl))⟩
      · rw [if_neg c20] at h
        suffices hh : ∃ n, jx_W jx_ShM d (some .boolean) jc_227 Q n 29 [some (.ref 0), some (.int x1), some (.int x2), some (.int z1.1)] [] z18.2 by
          obtain ⟨n, hn⟩ := hh
          exact ⟨n + 5, s_M_hasLearnt (by omega) h19 (And.intro (fun zz => absurd zz c20) (fun _ => hn))⟩
        obtain ⟨n, hn⟩ := s_M_isOpen_29 hd (u1 := some (.int x1)) (u3 := some (.int z1.1)) h hQ
        exact ⟨n + 0, hn⟩
  · rw [if_neg c5] at h
    suffices hh : ∃ n, jx_W jx_ShM d (some .boolean) jc_227 Q n 72 [some (.ref 0), some (.int x1), some (.int x2), some (.int z1.1)] [] z3.2 by
      obtain ⟨n, hn⟩ := hh
      exact ⟨n + 10, s_M_lessonNumber (by omega) h2 (s_M_hasLearnt (by omega) h4 (And.intro (fun _ => hn) (fun zz => absurd zz c5)))⟩
    cases h
    exact ⟨2, And.intro (Or.inl rfl) (And.intro hQ (And.intro rfl rfl))⟩
set_option maxRecDepth 20000 in
theorem s_M_factOf {N d : Nat} {x1 : Int32} {x2 : Int32} (hd : 2 ≤ d) {σ : jw_M} {z : (Int32 × jw_M)} {Q : jw_Q} (h : f_M_factOf N x1 x2 σ = some z) (hQ : Q (some (.int z.1)) (jx_ShM, z.2)) : jw_C jp_kd jp_ys d 222 [.ref 0, .int x1, .int x2] (jx_ShM, σ) Q := by
  obtain ⟨d, rfl⟩ : ∃ e, d = e + 1 := ⟨d - 1, by omega⟩
  replace hd : 1 ≤ d := by omega
  refine jx_C rfl rfl ?_
  unfold f_M_factOf at h
  by_cases c11 : x2 = 0
  · rw [if_pos c11] at h
    suffices hh : ∃ n, jx_W jx_ShM d (some .int) jc_222 Q n 32 [some (.ref 0), some (.int x1), some (.int x2)] [] σ by
      obtain ⟨n, hn⟩ := hh
      exact ⟨n + 2, And.intro (fun _ => hn) (fun zz => absurd c11 zz)⟩
    cases h
    exact ⟨5, And.intro (jx_in_ok rfl) (And.intro hQ (And.intro rfl rfl))⟩
  · rw [if_neg c11] at h
    by_cases c10 : x2 = 1
    · rw [if_pos c10] at h
      suffices hh : ∃ n, jx_W jx_ShM d (some .int) jc_222 Q n 39 [some (.ref 0), some (.int x1), some (.int x2)] [] σ by
        obtain ⟨n, hn⟩ := hh
        exact ⟨n + 2, And.intro (fun zz => absurd zz c11) (fun _ => And.intro (fun _ => hn) (fun zz => absurd c10 zz))⟩
      cases c1 : jx_in (2 + x1) 56 with
      | false => rw [c1, cond_false] at h; cases h
      | true =>
        rw [c1, cond_true] at h
        obtain ⟨z2, h3, h⟩ := Option.bind_eq_some_iff.mp h
        cases h
        exact ⟨8, And.intro (jx_in_ok c1) (s_M_ones (by omega) h3 (And.intro hQ (And.intro rfl rfl)))⟩
    · rw [if_neg c10] at h
      by_cases c9 : x2 = 2
      · rw [if_pos c9] at h
        suffices hh : ∃ n, jx_W jx_ShM d (some .int) jc_222 Q n 51 [some (.ref 0), some (.int x1), some (.int x2)] [] σ by
          obtain ⟨n, hn⟩ := hh
          exact ⟨n + 2, And.intro (fun zz => absurd zz c11) (fun _ => And.intro (fun zz => absurd zz c10) (fun _ => And.intro (fun _ => hn) (fun zz => absurd c9 zz)))⟩
        obtain ⟨z4, h5, h⟩ := Option.bind_eq_some_iff.mp h
        cases h
        exact ⟨5, s_M_of (by omega) h5 (And.intro hQ (And.intro rfl rfl))⟩
      · rw [if_neg c9] at h
        by_cases c8 : x2 = 3
        · rw [if_pos c8] at h
          suffices hh : ∃ n, jx_W jx_ShM d (some .int) jc_222 Q n 58 [some (.ref 0), some (.int x1), some (.int x2)] [] σ by
            obtain ⟨n, hn⟩ := hh
            exact ⟨n + 2, And.intro (fun zz => absurd zz c11) (fun _ => And.intro (fun zz => absurd zz c10) (fun _ => And.intro (fun zz => absurd zz c9) (fun _ => And.intro (fun _ => hn) (fun zz => absurd c8 zz))))⟩
          obtain ⟨z6, h7, h⟩ := Option.bind_eq_some_iff.mp h
          cases h
          exact ⟨5, s_M_of (by omega) h7 (And.intro hQ (And.intro rfl rfl))⟩
        · rw [if_neg c8] at h
          cases h
          exact ⟨4, And.intro (fun zz => absurd zz c11) (fun _ => And.intro (fun zz => absurd zz c10) (fun _ => And.intro (fun zz => absurd zz c9) (fun _ => And.intro (fun zz => absurd zz c8) (fun _ => And.intro hQ (And.intro rfl rfl)))))⟩
set_option maxRecDepth 20000 in
theorem s_M_told {N d : Nat} {x0 : Int32} (hd : 1 ≤ d) {σ : jw_M} {z : (Int32 × jw_M)} {Q : jw_Q} (h : f_M_told N x0 σ = some z) (hQ : Q (some (.int z.1)) (jx_ShM, z.2)) : jw_C jp_kd jp_ys d 223 [.int x0] (jx_ShM, σ) Q := by
  obtain ⟨d, rfl⟩ : ∃ e, d = e + 1 := ⟨d - 1, by omega⟩
  replace hd : 0 ≤ d := by omega
  refine jx_C rfl rfl ?_
  unfold f_M_told at h
  by_cases c1 : x0 = 0
  · rw [if_pos c1] at h
    suffices hh : ∃ n, jx_W jx_ShM d (some .int) jc_223 Q n 8 [some (.int x0)] [] σ by
      obtain ⟨n, hn⟩ := hh
      exact ⟨n + 2, And.intro (fun _ => hn) (fun zz => absurd c1 zz)⟩
    cases h
    exact ⟨2, And.intro hQ (And.intro rfl rfl)⟩
  · rw [if_neg c1] at h
    suffices hh : ∃ n, jx_W jx_ShM d (some .int) jc_223 Q n 4 [some (.int x0)] [] σ by
      obtain ⟨n, hn⟩ := hh
      exact ⟨n + 2, And.intro (fun zz => absurd zz c1) (fun _ => hn)⟩
    cases h
    exact ⟨3, And.intro hQ (And.intro rfl rfl)⟩
set_option maxRecDepth 20000 in
theorem s_M_joined_76 {N d : Nat} {Q : jw_Q} (hd : 1 ≤ d) {y0 : Int32} {u0 : Option Value} {u1 : Option Value} {u2 : Option Value} {u3 : Option Value} {σ : jw_M} {z : (Int32 × jw_M)} (h : f_M_joined_76 N y0 σ = some z) (hQ : Q (some (.int z.1)) (jx_ShM, z.2)) : ∃ n, jx_W jx_ShM d (some .int) jc_224 Q n 76 [u0, u1, u2, u3] [.int y0] σ := by
  unfold f_M_joined_76 at h
  obtain ⟨z3, h4, h⟩ := Option.bind_eq_some_iff.mp h
  cases h
  exact ⟨2, s_M_told (by omega) h4 (And.intro hQ (And.intro rfl rfl))⟩
set_option maxRecDepth 20000 in
theorem s_M_joined {N d : Nat} {x0 : Int32} {x1 : Int32} {x2 : Int32} {x3 : Int32} (hd : 2 ≤ d) {σ : jw_M} {z : (Int32 × jw_M)} {Q : jw_Q} (h : f_M_joined N x0 x1 x2 x3 σ = some z) (hQ : Q (some (.int z.1)) (jx_ShM, z.2)) : jw_C jp_kd jp_ys d 224 [.int x0, .int x1, .int x2, .int x3] (jx_ShM, σ) Q := by
  obtain ⟨d, rfl⟩ : ∃ e, d = e + 1 := ⟨d - 1, by omega⟩
  replace hd : 1 ≤ d := by omega
  refine jx_C rfl rfl ?_
  unfold f_M_joined at h
  by_cases c9 : x0 = 2
  · rw [if_pos c9] at h
    suffices hh : ∃ n, jx_W jx_ShM d (some .int) jc_224 Q n 28 [some (.int x0), some (.int x1), some (.int x2), some (.int x3)] [] σ by
      obtain ⟨n, hn⟩ := hh
      exact ⟨n + 2, And.intro (fun _ => hn) (fun zz => absurd c9 zz)⟩
    by_cases c1 : x1 = 60
    · rw [if_pos c1] at h
      suffices hh : ∃ n, jx_W jx_ShM d (some .int) jc_224 Q n 34 [some (.int x0), some (.int x1), some (.int x2), some (.int x3)] [] σ by
        obtain ⟨n, hn⟩ := hh
        exact ⟨n + 3, And.intro (fun zz => absurd c1 zz) (fun _ => hn)⟩
      by_cases c2 : x3 ≤ x2
      · rw [if_pos c2] at h
        suffices hh : ∃ n, jx_W jx_ShM d (some .int) jc_224 Q n 43 [some (.int x0), some (.int x1), some (.int x2), some (.int x3)] [] σ by
          obtain ⟨n, hn⟩ := hh
          exact ⟨n + 3, And.intro (fun _ => hn) (fun zz => absurd c2 zz)⟩
        obtain ⟨n, hn⟩ := s_M_joined_76 hd (u0 := some (.int x0)) (u1 := some (.int x1)) (u2 := some (.int x2)) (u3 := some (.int x3)) h hQ
        exact ⟨n + 2, hn⟩
      · rw [if_neg c2] at h
        suffices hh : ∃ n, jx_W jx_ShM d (some .int) jc_224 Q n 39 [some (.int x0), some (.int x1), some (.int x2), some (.int x3)] [] σ by
          obtain ⟨n, hn⟩ := hh
          exact ⟨n + 3, And.intro (fun zz => absurd zz c2) (fun _ => hn)⟩
        obtain ⟨n, hn⟩ := s_M_joined_76 hd (u0 := some (.int x0)) (u1 := some (.int x1)) (u2 := some (.int x2)) (u3 := some (.int x3)) h hQ
        exact ⟨n + 2, hn⟩
    · rw [if_neg c1] at h
      suffices hh : ∃ n, jx_W jx_ShM d (some .int) jc_224 Q n 47 [some (.int x0), some (.int x1), some (.int x2), some (.int x3)] [] σ by
        obtain ⟨n, hn⟩ := hh
        exact ⟨n + 3, And.intro (fun _ => hn) (fun zz => absurd zz c1)⟩
      by_cases c5 : x1 = 61
      · rw [if_pos c5] at h
        suffices hh : ∃ n, jx_W jx_ShM d (some .int) jc_224 Q n 53 [some (.int x0), some (.int x1), some (.int x2), some (.int x3)] [] σ by
          obtain ⟨n, hn⟩ := hh
          exact ⟨n + 3, And.intro (fun zz => absurd c5 zz) (fun _ => hn)⟩
        by_cases c6 : x2 = x3
        · rw [if_pos c6] at h
          suffices hh : ∃ n, jx_W jx_ShM d (some .int) jc_224 Q n 58 [some (.int x0), some (.int x1), some (.int x2), some (.int x3)] [] σ by
            obtain ⟨n, hn⟩ := hh
            exact ⟨n + 3, And.intro (fun zz => absurd c6 zz) (fun _ => hn)⟩
          obtain ⟨n, hn⟩ := s_M_joined_76 hd (u0 := some (.int x0)) (u1 := some (.int x1)) (u2 := some (.int x2)) (u3 := some (.int x3)) h hQ
          exact ⟨n + 2, hn⟩
        · rw [if_neg c6] at h
          suffices hh : ∃ n, jx_W jx_ShM d (some .int) jc_224 Q n 62 [some (.int x0), some (.int x1), some (.int x2), some (.int x3)] [] σ by
            obtain ⟨n, hn⟩ := hh
            exact ⟨n + 3, And.intro (fun _ => hn) (fun zz => absurd zz c6)⟩
          obtain ⟨n, hn⟩ := s_M_joined_76 hd (u0 := some (.int x0)) (u1 := some (.int x1)) (u2 := some (.int x2)) (u3 := some (.int x3)) h hQ
          exact ⟨n + 2, hn⟩
      · rw [if_neg c5] at h
        suffices hh : ∃ n, jx_W jx_ShM d (some .int) jc_224 Q n 66 [some (.int x0), some (.int x1), some (.int x2), some (.int x3)] [] σ by
          obtain ⟨n, hn⟩ := hh
          exact ⟨n + 3, And.intro (fun _ => hn) (fun zz => absurd zz c5)⟩
        by_cases c7 : x2 ≤ x3
        · rw [if_pos c7] at h
          suffices hh : ∃ n, jx_W jx_ShM d (some .int) jc_224 Q n 75 [some (.int x0), some (.int x1), some (.int x2), some (.int x3)] [] σ by
            obtain ⟨n, hn⟩ := hh
            exact ⟨n + 3, And.intro (fun _ => hn) (fun zz => absurd c7 zz)⟩
          obtain ⟨n, hn⟩ := s_M_joined_76 hd (u0 := some (.int x0)) (u1 := some (.int x1)) (u2 := some (.int x2)) (u3 := some (.int x3)) h hQ
          exact ⟨n + 1, hn⟩
        · rw [if_neg c7] at h
          suffices hh : ∃ n, jx_W jx_ShM d (some .int) jc_224 Q n 71 [some (.int x0), some (.int x1), some (.int x2), some (.int x3)] [] σ by
            obtain ⟨n, hn⟩ := hh
            exact ⟨n + 3, And.intro (fun zz => absurd zz c7) (fun _ => hn)⟩
          obtain ⟨n, hn⟩ := s_M_joined_76 hd (u0 := some (.int x0)) (u1 := some (.int x1)) (u2 := some (.int x2)) (u3 := some (.int x3)) h hQ
          exact ⟨n + 2, hn⟩
  · rw [if_neg c9] at h
    by_cases c8 : x0 = 4
    · rw [if_pos c8] at h
      suffices hh : ∃ n, jx_W jx_ShM d (some .int) jc_224 Q n 80 [some (.int x0), some (.int x1), some (.int x2), some (.int x3)] [] σ by
        obtain ⟨n, hn⟩ := hh
        exact ⟨n + 2, And.intro (fun zz => absurd zz c9) (fun _ => And.intro (fun _ => hn) (fun zz => absurd c8 zz))⟩
      cases h
      exact ⟨4, And.intro hQ (And.intro rfl rfl)⟩
    · rw [if_neg c8] at h
      cases h
      exact ⟨6, And.intro (fun zz => absurd zz c9) (fun _ => And.intro (fun zz => absurd zz c8) (fun _ => And.intro hQ (And.intro rfl rfl)))⟩
set_option maxRecDepth 20000 in
theorem s_M_holds_195 {N d : Nat} {Q : jw_Q} (hd : 2 ≤ d) {u0 : Option Value} {u1 : Option Value} {u2 : Option Value} {u3 : Option Value} {u4 : Option Value} {u5 : Option Value} {u6 : Option Value} {u7 : Option Value} {u8 : Option Value} {σ : jw_M} {z : (Int32 × jw_M)} (h : f_M_holds_195 N  σ = some z) (hQ : Q (some (.int z.1)) (jx_ShM, z.2)) : ∃ n, jx_W jx_ShM d (some .boolean) jc_225 Q n 195 [u0, u1, u2, u3, u4, u5, u6, u7, u8] [] σ := by
  unfold f_M_holds_195 at h
  cases h
  exact ⟨3, And.intro (Or.inr rfl) (And.intro hQ (And.intro rfl rfl))⟩
set_option maxRecDepth 20000 in
theorem s_M_holds_174 {N d : Nat} {Q : jw_Q} {K35 : Int32 → Int32 → Int32 → Int32 → Int32 → jw_M → Option (Int32 × jw_M)} (hd : 2 ≤ d) (hK35 : ∀ {x2 : Int32} {x3 : Int32} {x4 : Int32} {x5 : Int32} {x6 : Int32} {σ : jw_M} {z : (Int32 × jw_M)} {u1 : Option Value} {u7 : Option Value} {u8 : Option Value}, K35 x2 x3 x4 x5 x6 σ = some z → Q (some (.int z.1)) (jx_ShM, z.2) → ∃ n, jx_W jx_ShM d (some .boolean) jc_225 Q n 35 [some (.ref 0), u1, some (.int x2), some (.int x3), some (.int x4), some (.int x5), some (.int x6), u7, u8] [] σ) {x2 : Int32} {x3 : Int32} {x4 : Int32} {x5 : Int32} {x6 : Int32} {u1 : Option Value} {u7 : Option Value} {u8 : Option Value} {σ : jw_M} {z : (Int32 × jw_M)} (h : f_M_holds_174 N K35 x2 x3 x4 x5 x6 σ = some z) (hQ : Q (some (.int z.1)) (jx_ShM, z.2)) : ∃ n, jx_W jx_ShM d (some .boolean) jc_225 Q n 174 [some (.ref 0), u1, some (.int x2), some (.int x3), some (.int x4), some (.int x5), some (.int x6), u7, u8] [] σ := by
  unfold f_M_holds_174 at h
  obtain ⟨n, hn⟩ := hK35 (u1 := u1) (u7 := u7) (u8 := u8) h hQ
  exact ⟨n + 2, hn⟩
set_option maxRecDepth 20000 in
theorem s_M_holds_103 {N d : Nat} {Q : jw_Q} {K35 : Int32 → Int32 → Int32 → Int32 → Int32 → jw_M → Option (Int32 × jw_M)} (hd : 2 ≤ d) (hK35 : ∀ {x2 : Int32} {x3 : Int32} {x4 : Int32} {x5 : Int32} {x6 : Int32} {σ : jw_M} {z : (Int32 × jw_M)} {u1 : Option Value} {u7 : Option Value} {u8 : Option Value}, K35 x2 x3 x4 x5 x6 σ = some z → Q (some (.int z.1)) (jx_ShM, z.2) → ∃ n, jx_W jx_ShM d (some .boolean) jc_225 Q n 35 [some (.ref 0), u1, some (.int x2), some (.int x3), some (.int x4), some (.int x5), some (.int x6), u7, u8] [] σ) {x2 : Int32} {x3 : Int32} {x4 : Int32} {x5 : Int32} {x6 : Int32} {y1 : Int32} {y2 : Int32} {u1 : Option Value} {u7 : Option Value} {u8 : Option Value} {σ : jw_M} {z : (Int32 × jw_M)} (h : f_M_holds_103 N K35 x2 x3 x4 x5 x6 y1 y2 σ = some z) (hQ : Q (some (.int z.1)) (jx_ShM, z.2)) : ∃ n, jx_W jx_ShM d (some .boolean) jc_225 Q n 103 [some (.ref 0), u1, some (.int x2), some (.int x3), some (.int x4), some (.int x5), some (.int x6), u7, u8] [.int y2, .int y1, .ref 9] σ := by
  unfold f_M_holds_103 at h
  cases c16 : jx_in y1 200 with
  | false => rw [c16, cond_false] at h; cases h
  | true =>
    rw [c16, cond_true] at h
    obtain ⟨n, hn⟩ := s_M_holds_174 hd hK35 (u1 := u1) (u7 := u7) (u8 := u8) h hQ
    exact ⟨n + 3, And.intro (jx_in_ok c16) (hn)⟩
set_option maxRecDepth 20000 in
theorem s_M_holds_35 {N d : Nat} {Q : jw_Q} (hd : 2 ≤ d) : ∀ (k : Nat) {x2 : Int32} {x3 : Int32} {x4 : Int32} {x5 : Int32} {x6 : Int32} {u1 : Option Value} {u7 : Option Value} {u8 : Option Value} {σ : jw_M} {z : (Int32 × jw_M)}, f_M_holds_35 N k x2 x3 x4 x5 x6 σ = some z → Q (some (.int z.1)) (jx_ShM, z.2) → ∃ n, jx_W jx_ShM d (some .boolean) jc_225 Q n 35 [some (.ref 0), u1, some (.int x2), some (.int x3), some (.int x4), some (.int x5), some (.int x6), u7, u8] [] σ
  | 0, _, _, _, _, _, _, _, _, _, _, h, _ => by cases h
  | k + 1, x2, x3, x4, x5, x6, u1, u7, u8, σ, z, h, hQ => by
    rw [f_M_holds_35] at h
    by_cases c3 : (x3 + x4) ≤ x6
    · rw [if_pos c3] at h
      suffices hh : ∃ n, jx_W jx_ShM d (some .boolean) jc_225 Q n 180 [some (.ref 0), u1, some (.int x2), some (.int x3), some (.int x4), some (.int x5), some (.int x6), u7, u8] [] σ by
        obtain ⟨n, hn⟩ := hh
        exact ⟨n + 5, And.intro (fun _ => hn) (fun zz => absurd c3 zz)⟩
      by_cases c4 : x4 = 0
      · rw [if_pos c4] at h
        suffices hh : ∃ n, jx_W jx_ShM d (some .boolean) jc_225 Q n 195 [some (.ref 0), u1, some (.int x2), some (.int x3), some (.int x4), some (.int x5), some (.int x6), u7, u8] [] σ by
          obtain ⟨n, hn⟩ := hh
          exact ⟨n + 2, And.intro (fun _ => hn) (fun zz => absurd c4 zz)⟩
        obtain ⟨n, hn⟩ := s_M_holds_195 hd (u0 := some (.ref 0)) (u1 := u1) (u2 := some (.int x2)) (u3 := some (.int x3)) (u4 := some (.int x4)) (u5 := some (.int x5)) (u6 := some (.int x6)) (u7 := u7) (u8 := u8) h hQ
        exact ⟨n + 0, hn⟩
      · rw [if_neg c4] at h
        suffices hh : ∃ n, jx_W jx_ShM d (some .boolean) jc_225 Q n 185 [some (.ref 0), u1, some (.int x2), some (.int x3), some (.int x4), some (.int x5), some (.int x6), u7, u8] [] σ by
          obtain ⟨n, hn⟩ := hh
          exact ⟨n + 2, And.intro (fun zz => absurd zz c4) (fun _ => hn)⟩
        by_cases c5 : (σ.1 9 0) = 1
        · rw [if_pos c5] at h
          suffices hh : ∃ n, jx_W jx_ShM d (some .boolean) jc_225 Q n 195 [some (.ref 0), u1, some (.int x2), some (.int x3), some (.int x4), some (.int x5), some (.int x6), u7, u8] [] σ by
            obtain ⟨n, hn⟩ := hh
            exact ⟨n + 6, And.intro (jx_in_ok rfl) (And.intro (fun zz => absurd c5 zz) (fun _ => hn))⟩
          obtain ⟨n, hn⟩ := s_M_holds_195 hd (u0 := some (.ref 0)) (u1 := u1) (u2 := some (.int x2)) (u3 := some (.int x3)) (u4 := some (.int x4)) (u5 := some (.int x5)) (u6 := some (.int x6)) (u7 := u7) (u8 := u8) h hQ
          exact ⟨n + 0, hn⟩
        · rw [if_neg c5] at h
          suffices hh : ∃ n, jx_W jx_ShM d (some .boolean) jc_225 Q n 199 [some (.ref 0), u1, some (.int x2), some (.int x3), some (.int x4), some (.int x5), some (.int x6), u7, u8] [] σ by
            obtain ⟨n, hn⟩ := hh
            exact ⟨n + 6, And.intro (jx_in_ok rfl) (And.intro (fun _ => hn) (fun zz => absurd zz c5))⟩
          cases h
          exact ⟨2, And.intro (Or.inl rfl) (And.intro hQ (And.intro rfl rfl))⟩
    · rw [if_neg c3] at h
      suffices hh : ∃ n, jx_W jx_ShM d (some .boolean) jc_225 Q n 44 [some (.ref 0), u1, some (.int x2), some (.int x3), some (.int x4), some (.int x5), some (.int x6), u7, u8] [] σ by
        obtain ⟨n, hn⟩ := hh
        exact ⟨n + 5, And.intro (fun zz => absurd zz c3) (fun _ => hn)⟩
      cases c6 : jx_in (126 + (2 * x6)) 526 with
      | false => rw [c6, cond_false] at h; cases h
      | true =>
        rw [c6, cond_true] at h
        cases c7 : jx_in ((126 + (2 * x6)) + 1) 526 with
        | false => rw [c7, cond_false] at h; cases h
        | true =>
          rw [c7, cond_true] at h
          by_cases c8 : 1 < (σ.1 3 ((126 + (2 * x6))).toNatClampNeg)
          · rw [if_pos c8] at h
            suffices hh : ∃ n, jx_W jx_ShM d (some .boolean) jc_225 Q n 110 [some (.ref 0), u1, some (.int x2), some (.int x3), some (.int x4), some (.int x5), some (.int x6), some (.int (σ.1 3 ((126 + (2 * x6))).toNatClampNeg)), some (.int (σ.1 3 (((126 + (2 * x6)) + 1)).toNatClampNeg))] [] σ by
              obtain ⟨n, hn⟩ := hh
              exact ⟨n + 23, And.intro (jx_in_ok c6) (And.intro (jx_in_ok c7) (And.intro (fun _ => hn) (fun zz => absurd c8 zz)))⟩
            by_cases c9 : (σ.1 3 ((126 + (2 * x6))).toNatClampNeg) = 3
            · rw [if_pos c9] at h
              suffices hh : ∃ n, jx_W jx_ShM d (some .boolean) jc_225 Q n 116 [some (.ref 0), u1, some (.int x2), some (.int x3), some (.int x4), some (.int x5), some (.int x6), some (.int (σ.1 3 ((126 + (2 * x6))).toNatClampNeg)), some (.int (σ.1 3 (((126 + (2 * x6)) + 1)).toNatClampNeg))] [] σ by
                obtain ⟨n, hn⟩ := hh
                exact ⟨n + 3, And.intro (fun zz => absurd c9 zz) (fun _ => hn)⟩
              cases c10 : jx_in (x5 - 1) 200 with
              | false => rw [c10, cond_false] at h; cases h
              | true =>
                rw [c10, cond_true] at h
                obtain ⟨n, hn⟩ := s_M_holds_174 hd (s_M_holds_35 hd k) (u1 := u1) (u7 := some (.int (σ.1 3 ((126 + (2 * x6))).toNatClampNeg))) (u8 := some (.int (σ.1 3 (((126 + (2 * x6)) + 1)).toNatClampNeg))) h hQ
                exact ⟨n + 15, And.intro (jx_in_ok c10) (And.intro (jx_in_ok c10) (hn))⟩
            · rw [if_neg c9] at h
              suffices hh : ∃ n, jx_W jx_ShM d (some .boolean) jc_225 Q n 139 [some (.ref 0), u1, some (.int x2), some (.int x3), some (.int x4), some (.int x5), some (.int x6), some (.int (σ.1 3 ((126 + (2 * x6))).toNatClampNeg)), some (.int (σ.1 3 (((126 + (2 * x6)) + 1)).toNatClampNeg))] [] σ by
                obtain ⟨n, hn⟩ := hh
                exact ⟨n + 3, And.intro (fun _ => hn) (fun zz => absurd zz c9)⟩
              cases c11 : jx_in ((x5 + (-1)) - 1) 200 with
              | false => rw [c11, cond_false] at h; cases h
              | true =>
                rw [c11, cond_true] at h
                cases c12 : jx_in (x5 + (-1)) 200 with
                | false => rw [c12, cond_false] at h; cases h
                | true =>
                  rw [c12, cond_true] at h
                  obtain ⟨z13, h14, h⟩ := Option.bind_eq_some_iff.mp h
                  obtain ⟨n, hn⟩ := s_M_holds_174 hd (s_M_holds_35 hd k) (u1 := u1) (u7 := some (.int (σ.1 3 ((126 + (2 * x6))).toNatClampNeg))) (u8 := some (.int (σ.1 3 (((126 + (2 * x6)) + 1)).toNatClampNeg))) h hQ
                  exact ⟨n + 20, And.intro (jx_in_ok c11) (And.intro (jx_in_ok c12) (s_M_joined (by omega) h14 (And.intro (jx_in_ok c11) (hn))))⟩
          · rw [if_neg c8] at h
            suffices hh : ∃ n, jx_W jx_ShM d (some .boolean) jc_225 Q n 80 [some (.ref 0), u1, some (.int x2), some (.int x3), some (.int x4), some (.int x5), some (.int x6), some (.int (σ.1 3 ((126 + (2 * x6))).toNatClampNeg)), some (.int (σ.1 3 (((126 + (2 * x6)) + 1)).toNatClampNeg))] [] σ by
              obtain ⟨n, hn⟩ := hh
              exact ⟨n + 23, And.intro (jx_in_ok c6) (And.intro (jx_in_ok c7) (And.intro (fun zz => absurd zz c8) (fun _ => hn)))⟩
            by_cases c15 : (σ.1 3 ((126 + (2 * x6))).toNatClampNeg) = 0
            · rw [if_pos c15] at h
              suffices hh : ∃ n, jx_W jx_ShM d (some .boolean) jc_225 Q n 91 [some (.ref 0), u1, some (.int x2), some (.int x3), some (.int x4), some (.int x5), some (.int x6), some (.int (σ.1 3 ((126 + (2 * x6))).toNatClampNeg)), some (.int (σ.1 3 (((126 + (2 * x6)) + 1)).toNatClampNeg))] [.int x5, .ref 9] σ by
                obtain ⟨n, hn⟩ := hh
                exact ⟨n + 5, And.intro (fun zz => absurd c15 zz) (fun _ => hn)⟩
              obtain ⟨n, hn⟩ := s_M_holds_103 hd (s_M_holds_35 hd k) (u1 := u1) (u7 := some (.int (σ.1 3 ((126 + (2 * x6))).toNatClampNeg))) (u8 := some (.int (σ.1 3 (((126 + (2 * x6)) + 1)).toNatClampNeg))) h hQ
              exact ⟨n + 2, hn⟩
            · rw [if_neg c15] at h
              suffices hh : ∃ n, jx_W jx_ShM d (some .boolean) jc_225 Q n 96 [some (.ref 0), u1, some (.int x2), some (.int x3), some (.int x4), some (.int x5), some (.int x6), some (.int (σ.1 3 ((126 + (2 * x6))).toNatClampNeg)), some (.int (σ.1 3 (((126 + (2 * x6)) + 1)).toNatClampNeg))] [.int x5, .ref 9] σ by
                obtain ⟨n, hn⟩ := hh
                exact ⟨n + 5, And.intro (fun _ => hn) (fun zz => absurd zz c15)⟩
              obtain ⟨z17, h18, h⟩ := Option.bind_eq_some_iff.mp h
              obtain ⟨n, hn⟩ := s_M_holds_103 hd (s_M_holds_35 hd k) (u1 := u1) (u7 := some (.int (σ.1 3 ((126 + (2 * x6))).toNatClampNeg))) (u8 := some (.int (σ.1 3 (((126 + (2 * x6)) + 1)).toNatClampNeg))) h hQ
              exact ⟨n + 4, s_M_factOf (by omega) h18 (hn)⟩
set_option maxRecDepth 20000 in
theorem s_M_holds {N d : Nat} {x1 : Int32} {x2 : Int32} (hd : 3 ≤ d) {σ : jw_M} {z : (Int32 × jw_M)} {Q : jw_Q} (h : f_M_holds N x1 x2 σ = some z) (hQ : Q (some (.int z.1)) (jx_ShM, z.2)) : jw_C jp_kd jp_ys d 225 [.ref 0, .int x1, .int x2] (jx_ShM, σ) Q := by
  obtain ⟨d, rfl⟩ : ∃ e, d = e + 1 := ⟨d - 1, by omega⟩
  replace hd : 2 ≤ d := by omega
  refine jx_C rfl rfl ?_
  unfold f_M_holds at h
  cases c1 : jx_in ((94 + (4 * x1)) + 2) 526 with
  | false => rw [c1, cond_false] at h; cases h
  | true =>
    rw [c1, cond_true] at h
    cases c2 : jx_in ((94 + (4 * x1)) + 3) 526 with
    | false => rw [c2, cond_false] at h; cases h
    | true =>
      rw [c2, cond_true] at h
      obtain ⟨n, hn⟩ := s_M_holds_35 hd N (u1 := some (.int x1)) (u7 := none) (u8 := none) h hQ
      exact ⟨n + 26, And.intro (jx_in_ok c1) (And.intro (jx_in_ok c2) (hn))⟩
set_option maxRecDepth 20000 in
theorem s_M_ruleFor_58 {N d : Nat} {Q : jw_Q} {K2 : Int32 → Int32 → jw_M → Option (Int32 × jw_M)} (hd : 3 ≤ d) (hK2 : ∀ {x1 : Int32} {x2 : Int32} {σ : jw_M} {z : (Int32 × jw_M)}, K2 x1 x2 σ = some z → Q (some (.int z.1)) (jx_ShM, z.2) → ∃ n, jx_W jx_ShM d (some .int) jc_228 Q n 2 [some (.ref 0), some (.int x1), some (.int x2)] [] σ) {x1 : Int32} {x2 : Int32} {σ : jw_M} {z : (Int32 × jw_M)} (h : f_M_ruleFor_58 N K2 x1 x2 σ = some z) (hQ : Q (some (.int z.1)) (jx_ShM, z.2)) : ∃ n, jx_W jx_ShM d (some .int) jc_228 Q n 58 [some (.ref 0), some (.int x1), some (.int x2)] [] σ := by
  unfold f_M_ruleFor_58 at h
  obtain ⟨n, hn⟩ := hK2 h hQ
  exact ⟨n + 2, hn⟩
set_option maxRecDepth 20000 in
theorem s_M_ruleFor_2 {N d : Nat} {Q : jw_Q} (hd : 3 ≤ d) : ∀ (k : Nat) {x1 : Int32} {x2 : Int32} {σ : jw_M} {z : (Int32 × jw_M)}, f_M_ruleFor_2 N k x1 x2 σ = some z → Q (some (.int z.1)) (jx_ShM, z.2) → ∃ n, jx_W jx_ShM d (some .int) jc_228 Q n 2 [some (.ref 0), some (.int x1), some (.int x2)] [] σ
  | 0, _, _, _, _, h, _ => by cases h
  | k + 1, x1, x2, σ, z, h, hQ => by
    rw [f_M_ruleFor_2] at h
    by_cases c1 : (σ.1 3 4) ≤ x2
    · rw [if_pos c1] at h
      suffices hh : ∃ n, jx_W jx_ShM d (some .int) jc_228 Q n 64 [some (.ref 0), some (.int x1), some (.int x2)] [] σ by
        obtain ⟨n, hn⟩ := hh
        exact ⟨n + 6, And.intro (jx_in_ok rfl) (And.intro (fun _ => hn) (fun zz => absurd c1 zz))⟩
      cases h
      exact ⟨2, And.intro hQ (And.intro rfl rfl)⟩
    · rw [if_neg c1] at h
      suffices hh : ∃ n, jx_W jx_ShM d (some .int) jc_228 Q n 12 [some (.ref 0), some (.int x1), some (.int x2)] [] σ by
        obtain ⟨n, hn⟩ := hh
        exact ⟨n + 6, And.intro (jx_in_ok rfl) (And.intro (fun zz => absurd zz c1) (fun _ => hn))⟩
      obtain ⟨z2, h3, h⟩ := Option.bind_eq_some_iff.mp h
      cases c4 : jx_in (94 + (4 * x2)) 526 with
      | false => rw [c4, cond_false] at h; cases h
      | true =>
        rw [c4, cond_true] at h
        obtain ⟨z5, h6, h⟩ := Option.bind_eq_some_iff.mp h
        by_cases c7 : z5.1 = 0
        · rw [if_pos c7] at h
          suffices hh : ∃ n, jx_W jx_ShM d (some .int) jc_228 Q n 58 [some (.ref 0), some (.int x1), some (.int x2)] [] z5.2 by
            obtain ⟨n, hn⟩ := hh
            exact ⟨n + 14, s_M_of (by omega) h3 (And.intro (jx_in_ok c4) (s_M_isUnder (by omega) h6 (And.intro (fun _ => hn) (fun zz => absurd c7 zz))))⟩
          obtain ⟨n, hn⟩ := s_M_ruleFor_58 hd (s_M_ruleFor_2 hd k) h hQ
          exact ⟨n + 0, hn⟩
        · rw [if_neg c7] at h
          suffices hh : ∃ n, jx_W jx_ShM d (some .int) jc_228 Q n 35 [some (.ref 0), some (.int x1), some (.int x2)] [] z5.2 by
            obtain ⟨n, hn⟩ := hh
            exact ⟨n + 14, s_M_of (by omega) h3 (And.intro (jx_in_ok c4) (s_M_isUnder (by omega) h6 (And.intro (fun zz => absurd zz c7) (fun _ => hn))))⟩
          obtain ⟨z8, h9, h⟩ := Option.bind_eq_some_iff.mp h
          by_cases c10 : z8.1 = 0
          · rw [if_pos c10] at h
            suffices hh : ∃ n, jx_W jx_ShM d (some .int) jc_228 Q n 58 [some (.ref 0), some (.int x1), some (.int x2)] [] z8.2 by
              obtain ⟨n, hn⟩ := hh
              exact ⟨n + 5, s_M_holds (by omega) h9 (And.intro (fun _ => hn) (fun zz => absurd c10 zz))⟩
            obtain ⟨n, hn⟩ := s_M_ruleFor_58 hd (s_M_ruleFor_2 hd k) h hQ
            exact ⟨n + 0, hn⟩
          · rw [if_neg c10] at h
            suffices hh : ∃ n, jx_W jx_ShM d (some .int) jc_228 Q n 44 [some (.ref 0), some (.int x1), some (.int x2)] [] z8.2 by
              obtain ⟨n, hn⟩ := hh
              exact ⟨n + 5, s_M_holds (by omega) h9 (And.intro (fun zz => absurd zz c10) (fun _ => hn))⟩
            cases c11 : jx_in ((94 + (4 * x2)) + 1) 526 with
            | false => rw [c11, cond_false] at h; cases h
            | true =>
              rw [c11, cond_true] at h
              cases h
              exact ⟨11, And.intro (jx_in_ok c11) (And.intro hQ (And.intro rfl rfl))⟩
set_option maxRecDepth 20000 in
theorem s_M_ruleFor {N d : Nat} {x1 : Int32} (hd : 4 ≤ d) {σ : jw_M} {z : (Int32 × jw_M)} {Q : jw_Q} (h : f_M_ruleFor N x1 σ = some z) (hQ : Q (some (.int z.1)) (jx_ShM, z.2)) : jw_C jp_kd jp_ys d 228 [.ref 0, .int x1] (jx_ShM, σ) Q := by
  obtain ⟨d, rfl⟩ : ∃ e, d = e + 1 := ⟨d - 1, by omega⟩
  replace hd : 3 ≤ d := by omega
  refine jx_C rfl rfl ?_
  unfold f_M_ruleFor at h
  obtain ⟨n, hn⟩ := s_M_ruleFor_2 hd N h hQ
  exact ⟨n + 2, hn⟩
set_option maxRecDepth 20000 in
theorem s_M_lacks {N d : Nat} {x1 : Int32} {x2 : Int32} (hd : 2 ≤ d) {σ : jw_M} {z : (Int32 × jw_M)} {Q : jw_Q} (h : f_M_lacks N x1 x2 σ = some z) (hQ : Q (some (.int z.1)) (jx_ShM, z.2)) : jw_C jp_kd jp_ys d 229 [.ref 0, .int x1, .int x2] (jx_ShM, σ) Q := by
  obtain ⟨d, rfl⟩ : ∃ e, d = e + 1 := ⟨d - 1, by omega⟩
  replace hd : 1 ≤ d := by omega
  refine jx_C rfl rfl ?_
  unfold f_M_lacks at h
  obtain ⟨z1, h2, h⟩ := Option.bind_eq_some_iff.mp h
  obtain ⟨z3, h4, h⟩ := Option.bind_eq_some_iff.mp h
  cases h
  exact ⟨10, s_M_lessonNumber (by omega) h2 (s_M_pointsOf (by omega) h4 (And.intro hQ (And.intro rfl rfl)))⟩
set_option maxRecDepth 20000 in
theorem s_M_choiceOf_91 {N d : Nat} {Q : jw_Q} {K12 : Int32 → Int32 → Int32 → Int32 → jw_M → Option (Int32 × jw_M)} (hd : 4 ≤ d) (hK12 : ∀ {x1 : Int32} {x2 : Int32} {x3 : Int32} {x4 : Int32} {σ : jw_M} {z : (Int32 × jw_M)} {u5 : Option Value}, K12 x1 x2 x3 x4 σ = some z → Q (some (.int z.1)) (jx_ShM, z.2) → ∃ n, jx_W jx_ShM d (some .int) jc_230 Q n 12 [some (.ref 0), some (.int x1), some (.int x2), some (.int x3), some (.int x4), u5] [] σ) {x1 : Int32} {x2 : Int32} {x3 : Int32} {x4 : Int32} {u5 : Option Value} {σ : jw_M} {z : (Int32 × jw_M)} (h : f_M_choiceOf_91 N K12 x1 x2 x3 x4 σ = some z) (hQ : Q (some (.int z.1)) (jx_ShM, z.2)) : ∃ n, jx_W jx_ShM d (some .int) jc_230 Q n 91 [some (.ref 0), some (.int x1), some (.int x2), some (.int x3), some (.int x4), u5] [] σ := by
  unfold f_M_choiceOf_91 at h
  obtain ⟨n, hn⟩ := hK12 (u5 := u5) h hQ
  exact ⟨n + 2, hn⟩
set_option maxRecDepth 20000 in
theorem s_M_choiceOf_90 {N d : Nat} {Q : jw_Q} {K12 : Int32 → Int32 → Int32 → Int32 → jw_M → Option (Int32 × jw_M)} (hd : 4 ≤ d) (hK12 : ∀ {x1 : Int32} {x2 : Int32} {x3 : Int32} {x4 : Int32} {σ : jw_M} {z : (Int32 × jw_M)} {u5 : Option Value}, K12 x1 x2 x3 x4 σ = some z → Q (some (.int z.1)) (jx_ShM, z.2) → ∃ n, jx_W jx_ShM d (some .int) jc_230 Q n 12 [some (.ref 0), some (.int x1), some (.int x2), some (.int x3), some (.int x4), u5] [] σ) {x1 : Int32} {x2 : Int32} {x4 : Int32} {y0 : Int32} {u3 : Option Value} {u5 : Option Value} {σ : jw_M} {z : (Int32 × jw_M)} (h : f_M_choiceOf_90 N K12 x1 x2 x4 y0 σ = some z) (hQ : Q (some (.int z.1)) (jx_ShM, z.2)) : ∃ n, jx_W jx_ShM d (some .int) jc_230 Q n 90 [some (.ref 0), some (.int x1), some (.int x2), u3, some (.int x4), u5] [.int y0] σ := by
  unfold f_M_choiceOf_90 at h
  obtain ⟨n, hn⟩ := s_M_choiceOf_91 hd hK12 (u5 := u5) h hQ
  exact ⟨n + 1, hn⟩
set_option maxRecDepth 20000 in
theorem s_M_choiceOf_77 {N d : Nat} {Q : jw_Q} {K12 : Int32 → Int32 → Int32 → Int32 → jw_M → Option (Int32 × jw_M)} (hd : 4 ≤ d) (hK12 : ∀ {x1 : Int32} {x2 : Int32} {x3 : Int32} {x4 : Int32} {σ : jw_M} {z : (Int32 × jw_M)} {u5 : Option Value}, K12 x1 x2 x3 x4 σ = some z → Q (some (.int z.1)) (jx_ShM, z.2) → ∃ n, jx_W jx_ShM d (some .int) jc_230 Q n 12 [some (.ref 0), some (.int x1), some (.int x2), some (.int x3), some (.int x4), u5] [] σ) {x1 : Int32} {x2 : Int32} {x3 : Int32} {x4 : Int32} {y0 : Int32} {u5 : Option Value} {σ : jw_M} {z : (Int32 × jw_M)} (h : f_M_choiceOf_77 N K12 x1 x2 x3 x4 y0 σ = some z) (hQ : Q (some (.int z.1)) (jx_ShM, z.2)) : ∃ n, jx_W jx_ShM d (some .int) jc_230 Q n 77 [some (.ref 0), some (.int x1), some (.int x2), some (.int x3), some (.int x4), u5] [.int y0] σ := by
  unfold f_M_choiceOf_77 at h
  by_cases c9 : y0 = 0
  · rw [if_pos c9] at h
    suffices hh : ∃ n, jx_W jx_ShM d (some .int) jc_230 Q n 89 [some (.ref 0), some (.int x1), some (.int x2), some (.int x3), some (.int x4), some (.int y0)] [] σ by
      obtain ⟨n, hn⟩ := hh
      exact ⟨n + 3, And.intro (fun _ => hn) (fun zz => absurd c9 zz)⟩
    obtain ⟨n, hn⟩ := s_M_choiceOf_90 hd hK12 (u3 := some (.int x3)) (u5 := some (.int y0)) h hQ
    exact ⟨n + 1, hn⟩
  · rw [if_neg c9] at h
    suffices hh : ∃ n, jx_W jx_ShM d (some .int) jc_230 Q n 84 [some (.ref 0), some (.int x1), some (.int x2), some (.int x3), some (.int x4), some (.int y0)] [] σ by
      obtain ⟨n, hn⟩ := hh
      exact ⟨n + 3, And.intro (fun zz => absurd zz c9) (fun _ => hn)⟩
    obtain ⟨n, hn⟩ := s_M_choiceOf_90 hd hK12 (u3 := some (.int x3)) (u5 := some (.int y0)) h hQ
    exact ⟨n + 2, hn⟩
set_option maxRecDepth 20000 in
theorem s_M_choiceOf_72 {N d : Nat} {Q : jw_Q} {K12 : Int32 → Int32 → Int32 → Int32 → jw_M → Option (Int32 × jw_M)} (hd : 4 ≤ d) (hK12 : ∀ {x1 : Int32} {x2 : Int32} {x3 : Int32} {x4 : Int32} {σ : jw_M} {z : (Int32 × jw_M)} {u5 : Option Value}, K12 x1 x2 x3 x4 σ = some z → Q (some (.int z.1)) (jx_ShM, z.2) → ∃ n, jx_W jx_ShM d (some .int) jc_230 Q n 12 [some (.ref 0), some (.int x1), some (.int x2), some (.int x3), some (.int x4), u5] [] σ) {x1 : Int32} {x2 : Int32} {x3 : Int32} {x4 : Int32} {u5 : Option Value} {σ : jw_M} {z : (Int32 × jw_M)} (h : f_M_choiceOf_72 N K12 x1 x2 x3 x4 σ = some z) (hQ : Q (some (.int z.1)) (jx_ShM, z.2)) : ∃ n, jx_W jx_ShM d (some .int) jc_230 Q n 72 [some (.ref 0), some (.int x1), some (.int x2), some (.int x3), some (.int x4), u5] [] σ := by
  unfold f_M_choiceOf_72 at h
  obtain ⟨n, hn⟩ := s_M_choiceOf_77 hd hK12 (u5 := u5) h hQ
  exact ⟨n + 2, hn⟩
set_option maxRecDepth 20000 in
theorem s_M_choiceOf_76 {N d : Nat} {Q : jw_Q} {K12 : Int32 → Int32 → Int32 → Int32 → jw_M → Option (Int32 × jw_M)} (hd : 4 ≤ d) (hK12 : ∀ {x1 : Int32} {x2 : Int32} {x3 : Int32} {x4 : Int32} {σ : jw_M} {z : (Int32 × jw_M)} {u5 : Option Value}, K12 x1 x2 x3 x4 σ = some z → Q (some (.int z.1)) (jx_ShM, z.2) → ∃ n, jx_W jx_ShM d (some .int) jc_230 Q n 12 [some (.ref 0), some (.int x1), some (.int x2), some (.int x3), some (.int x4), u5] [] σ) {x1 : Int32} {x2 : Int32} {x3 : Int32} {x4 : Int32} {u5 : Option Value} {σ : jw_M} {z : (Int32 × jw_M)} (h : f_M_choiceOf_76 N K12 x1 x2 x3 x4 σ = some z) (hQ : Q (some (.int z.1)) (jx_ShM, z.2)) : ∃ n, jx_W jx_ShM d (some .int) jc_230 Q n 76 [some (.ref 0), some (.int x1), some (.int x2), some (.int x3), some (.int x4), u5] [] σ := by
  unfold f_M_choiceOf_76 at h
  obtain ⟨n, hn⟩ := s_M_choiceOf_77 hd hK12 (u5 := u5) h hQ
  exact ⟨n + 1, hn⟩
set_option maxRecDepth 20000 in
theorem s_M_choiceOf_12 {N d : Nat} {Q : jw_Q} (hd : 4 ≤ d) : ∀ (k : Nat) {x1 : Int32} {x2 : Int32} {x3 : Int32} {x4 : Int32} {u5 : Option Value} {σ : jw_M} {z : (Int32 × jw_M)}, f_M_choiceOf_12 N k x1 x2 x3 x4 σ = some z → Q (some (.int z.1)) (jx_ShM, z.2) → ∃ n, jx_W jx_ShM d (some .int) jc_230 Q n 12 [some (.ref 0), some (.int x1), some (.int x2), some (.int x3), some (.int x4), u5] [] σ
  | 0, _, _, _, _, _, _, _, h, _ => by cases h
  | k + 1, x1, x2, x3, x4, u5, σ, z, h, hQ => by
    rw [f_M_choiceOf_12] at h
    by_cases c3 : (σ.1 3 3) ≤ x4
    · rw [if_pos c3] at h
      suffices hh : ∃ n, jx_W jx_ShM d (some .int) jc_230 Q n 97 [some (.ref 0), some (.int x1), some (.int x2), some (.int x3), some (.int x4), u5] [] σ by
        obtain ⟨n, hn⟩ := hh
        exact ⟨n + 6, And.intro (jx_in_ok rfl) (And.intro (fun _ => hn) (fun zz => absurd c3 zz))⟩
      cases h
      exact ⟨2, And.intro hQ (And.intro rfl rfl)⟩
    · rw [if_neg c3] at h
      suffices hh : ∃ n, jx_W jx_ShM d (some .int) jc_230 Q n 23 [some (.ref 0), some (.int x1), some (.int x2), some (.int x3), some (.int x4), u5] [] σ by
        obtain ⟨n, hn⟩ := hh
        exact ⟨n + 6, And.intro (jx_in_ok rfl) (And.intro (fun zz => absurd zz c3) (fun _ => hn))⟩
      by_cases c4 : x2 = 2
      · rw [if_pos c4] at h
        suffices hh : ∃ n, jx_W jx_ShM d (some .int) jc_230 Q n 97 [some (.ref 0), some (.int x1), some (.int x2), some (.int x3), some (.int x4), u5] [] σ by
          obtain ⟨n, hn⟩ := hh
          exact ⟨n + 3, And.intro (fun _ => hn) (fun zz => absurd c4 zz)⟩
        cases h
        exact ⟨2, And.intro hQ (And.intro rfl rfl)⟩
      · rw [if_neg c4] at h
        suffices hh : ∃ n, jx_W jx_ShM d (some .int) jc_230 Q n 28 [some (.ref 0), some (.int x1), some (.int x2), some (.int x3), some (.int x4), u5] [] σ by
          obtain ⟨n, hn⟩ := hh
          exact ⟨n + 3, And.intro (fun zz => absurd zz c4) (fun _ => hn)⟩
        obtain ⟨z5, h6, h⟩ := Option.bind_eq_some_iff.mp h
        by_cases c7 : z5.1 = 0
        · rw [if_pos c7] at h
          suffices hh : ∃ n, jx_W jx_ShM d (some .int) jc_230 Q n 38 [some (.ref 0), some (.int x1), some (.int x2), some (.int x3), some (.int x4), u5] [] z5.2 by
            obtain ⟨n, hn⟩ := hh
            exact ⟨n + 5, s_M_isOpen (by omega) h6 (And.intro (fun zz => absurd c7 zz) (fun _ => hn))⟩
          obtain ⟨n, hn⟩ := s_M_choiceOf_91 hd (s_M_choiceOf_12 hd k) (u5 := u5) h hQ
          exact ⟨n + 1, hn⟩
        · rw [if_neg c7] at h
          suffices hh : ∃ n, jx_W jx_ShM d (some .int) jc_230 Q n 41 [some (.ref 0), some (.int x1), some (.int x2), some (.int x3), some (.int x4), u5] [] z5.2 by
            obtain ⟨n, hn⟩ := hh
            exact ⟨n + 5, s_M_isOpen (by omega) h6 (And.intro (fun _ => hn) (fun zz => absurd zz c7))⟩
          by_cases c8 : x3 = 8
          · rw [if_pos c8] at h
            suffices hh : ∃ n, jx_W jx_ShM d (some .int) jc_230 Q n 72 [some (.ref 0), some (.int x1), some (.int x2), some (.int x3), some (.int x4), u5] [] z5.2 by
              obtain ⟨n, hn⟩ := hh
              exact ⟨n + 3, And.intro (fun _ => hn) (fun zz => absurd c8 zz)⟩
            obtain ⟨n, hn⟩ := s_M_choiceOf_72 hd (s_M_choiceOf_12 hd k) (u5 := u5) h hQ
            exact ⟨n + 0, hn⟩
          · rw [if_neg c8] at h
            suffices hh : ∃ n, jx_W jx_ShM d (some .int) jc_230 Q n 47 [some (.ref 0), some (.int x1), some (.int x2), some (.int x3), some (.int x4), u5] [] z5.2 by
              obtain ⟨n, hn⟩ := hh
              exact ⟨n + 3, And.intro (fun zz => absurd zz c8) (fun _ => hn)⟩
            by_cases c10 : x2 = 0
            · rw [if_pos c10] at h
              suffices hh : ∃ n, jx_W jx_ShM d (some .int) jc_230 Q n 72 [some (.ref 0), some (.int x1), some (.int x2), some (.int x3), some (.int x4), u5] [] z5.2 by
                obtain ⟨n, hn⟩ := hh
                exact ⟨n + 2, And.intro (fun _ => hn) (fun zz => absurd c10 zz)⟩
              obtain ⟨n, hn⟩ := s_M_choiceOf_72 hd (s_M_choiceOf_12 hd k) (u5 := u5) h hQ
              exact ⟨n + 0, hn⟩
            · rw [if_neg c10] at h
              suffices hh : ∃ n, jx_W jx_ShM d (some .int) jc_230 Q n 51 [some (.ref 0), some (.int x1), some (.int x2), some (.int x3), some (.int x4), u5] [] z5.2 by
                obtain ⟨n, hn⟩ := hh
                exact ⟨n + 2, And.intro (fun zz => absurd zz c10) (fun _ => hn)⟩
              by_cases c11 : x2 = 1
              · rw [if_pos c11] at h
                suffices hh : ∃ n, jx_W jx_ShM d (some .int) jc_230 Q n 56 [some (.ref 0), some (.int x1), some (.int x2), some (.int x3), some (.int x4), u5] [] z5.2 by
                  obtain ⟨n, hn⟩ := hh
                  exact ⟨n + 3, And.intro (fun zz => absurd c11 zz) (fun _ => hn)⟩
                obtain ⟨z12, h13, h⟩ := Option.bind_eq_some_iff.mp h
                obtain ⟨z14, h15, h⟩ := Option.bind_eq_some_iff.mp h
                by_cases c16 : z14.1 ≤ z12.1
                · rw [if_pos c16] at h
                  suffices hh : ∃ n, jx_W jx_ShM d (some .int) jc_230 Q n 76 [some (.ref 0), some (.int x1), some (.int x2), some (.int x3), some (.int x4), u5] [] z14.2 by
                    obtain ⟨n, hn⟩ := hh
                    exact ⟨n + 9, s_M_lacks (by omega) h13 (s_M_lacks (by omega) h15 (And.intro (fun _ => hn) (fun zz => absurd c16 zz)))⟩
                  obtain ⟨n, hn⟩ := s_M_choiceOf_76 hd (s_M_choiceOf_12 hd k) (u5 := u5) h hQ
                  exact ⟨n + 0, hn⟩
                · rw [if_neg c16] at h
                  suffices hh : ∃ n, jx_W jx_ShM d (some .int) jc_230 Q n 72 [some (.ref 0), some (.int x1), some (.int x2), some (.int x3), some (.int x4), u5] [] z14.2 by
                    obtain ⟨n, hn⟩ := hh
                    exact ⟨n + 9, s_M_lacks (by omega) h13 (s_M_lacks (by omega) h15 (And.intro (fun zz => absurd zz c16) (fun _ => hn)))⟩
                  obtain ⟨n, hn⟩ := s_M_choiceOf_72 hd (s_M_choiceOf_12 hd k) (u5 := u5) h hQ
                  exact ⟨n + 0, hn⟩
              · rw [if_neg c11] at h
                suffices hh : ∃ n, jx_W jx_ShM d (some .int) jc_230 Q n 76 [some (.ref 0), some (.int x1), some (.int x2), some (.int x3), some (.int x4), u5] [] z5.2 by
                  obtain ⟨n, hn⟩ := hh
                  exact ⟨n + 3, And.intro (fun _ => hn) (fun zz => absurd zz c11)⟩
                obtain ⟨n, hn⟩ := s_M_choiceOf_76 hd (s_M_choiceOf_12 hd k) (u5 := u5) h hQ
                exact ⟨n + 0, hn⟩
set_option maxRecDepth 20000 in
theorem s_M_choiceOf {N d : Nat} {x1 : Int32} (hd : 5 ≤ d) {σ : jw_M} {z : (Int32 × jw_M)} {Q : jw_Q} (h : f_M_choiceOf N x1 σ = some z) (hQ : Q (some (.int z.1)) (jx_ShM, z.2)) : jw_C jp_kd jp_ys d 230 [.ref 0, .int x1] (jx_ShM, σ) Q := by
  obtain ⟨d, rfl⟩ : ∃ e, d = e + 1 := ⟨d - 1, by omega⟩
  replace hd : 4 ≤ d := by omega
  refine jx_C rfl rfl ?_
  unfold f_M_choiceOf at h
  obtain ⟨z1, h2, h⟩ := Option.bind_eq_some_iff.mp h
  obtain ⟨n, hn⟩ := s_M_choiceOf_12 hd N (u5 := none) h hQ
  exact ⟨n + 8, s_M_ruleFor (by omega) h2 (hn)⟩
set_option maxRecDepth 20000 in
theorem s_M_shadowOf {N d : Nat} {x1 : Int32} {x2 : Int32} (hd : 6 ≤ d) {σ : jw_M} {z : (Int32 × jw_M)} {Q : jw_Q} (h : f_M_shadowOf N x1 x2 σ = some z) (hQ : Q (some (.int z.1)) (jx_ShM, z.2)) : jw_C jp_kd jp_ys d 194 [.ref 0, .int x1, .int x2] (jx_ShM, σ) Q := by
  obtain ⟨d, rfl⟩ : ∃ e, d = e + 1 := ⟨d - 1, by omega⟩
  replace hd : 5 ≤ d := by omega
  refine jx_C rfl rfl ?_
  unfold f_M_shadowOf at h
  obtain ⟨z1, h2, h⟩ := Option.bind_eq_some_iff.mp h
  by_cases c3 : z1.1 = 0
  · rw [if_pos c3] at h
    suffices hh : ∃ n, jx_W jx_ShM d (some .int) jc_194 Q n 18 [some (.ref 0), some (.int x1), some (.int x2)] [] z1.2 by
      obtain ⟨n, hn⟩ := hh
      exact ⟨n + 4, s_M_isShadow (by omega) h2 (And.intro (fun _ => hn) (fun zz => absurd c3 zz))⟩
    cases h
    exact ⟨2, And.intro hQ (And.intro rfl rfl)⟩
  · rw [if_neg c3] at h
    suffices hh : ∃ n, jx_W jx_ShM d (some .int) jc_194 Q n 8 [some (.ref 0), some (.int x1), some (.int x2)] [] z1.2 by
      obtain ⟨n, hn⟩ := hh
      exact ⟨n + 4, s_M_isShadow (by omega) h2 (And.intro (fun zz => absurd zz c3) (fun _ => hn))⟩
    obtain ⟨z4, h5, h⟩ := Option.bind_eq_some_iff.mp h
    by_cases c6 : z4.1 = 0
    · rw [if_pos c6] at h
      suffices hh : ∃ n, jx_W jx_ShM d (some .int) jc_194 Q n 18 [some (.ref 0), some (.int x1), some (.int x2)] [] z4.2 by
        obtain ⟨n, hn⟩ := hh
        exact ⟨n + 5, s_M_in (by omega) h5 (And.intro (fun zz => absurd c6 zz) (fun _ => hn))⟩
      cases h
      exact ⟨2, And.intro hQ (And.intro rfl rfl)⟩
    · rw [if_neg c6] at h
      suffices hh : ∃ n, jx_W jx_ShM d (some .int) jc_194 Q n 20 [some (.ref 0), some (.int x1), some (.int x2)] [] z4.2 by
        obtain ⟨n, hn⟩ := hh
        exact ⟨n + 5, s_M_in (by omega) h5 (And.intro (fun _ => hn) (fun zz => absurd zz c6))⟩
      by_cases c31 : x2 = 3
      · rw [if_pos c31] at h
        suffices hh : ∃ n, jx_W jx_ShM d (some .int) jc_194 Q n 52 [some (.ref 0), some (.int x1), some (.int x2)] [] z4.2 by
          obtain ⟨n, hn⟩ := hh
          exact ⟨n + 2, And.intro (fun _ => hn) (fun zz => absurd c31 zz)⟩
        cases c7 : jx_in (2 + x1) 56 with
        | false => rw [c7, cond_false] at h; cases h
        | true =>
          rw [c7, cond_true] at h
          obtain ⟨z8, h9, h⟩ := Option.bind_eq_some_iff.mp h
          cases h
          exact ⟨8, And.intro (jx_in_ok c7) (s_M_ones (by omega) h9 (And.intro hQ (And.intro rfl rfl)))⟩
      · rw [if_neg c31] at h
        by_cases c30 : x2 = 4
        · rw [if_pos c30] at h
          suffices hh : ∃ n, jx_W jx_ShM d (some .int) jc_194 Q n 64 [some (.ref 0), some (.int x1), some (.int x2)] [] z4.2 by
            obtain ⟨n, hn⟩ := hh
            exact ⟨n + 2, And.intro (fun zz => absurd zz c31) (fun _ => And.intro (fun _ => hn) (fun zz => absurd c30 zz))⟩
          obtain ⟨z10, h11, h⟩ := Option.bind_eq_some_iff.mp h
          obtain ⟨z12, h13, h⟩ := Option.bind_eq_some_iff.mp h
          obtain ⟨z14, h15, h⟩ := Option.bind_eq_some_iff.mp h
          cases h
          exact ⟨14, s_M_of (by omega) h11 (s_M_of (by omega) h13 (And.intro (jx_in_ok rfl) (s_M_paceBy (by omega) h15 (And.intro hQ (And.intro rfl rfl)))))⟩
        · rw [if_neg c30] at h
          by_cases c29 : x2 = 5
          · rw [if_pos c29] at h
            suffices hh : ∃ n, jx_W jx_ShM d (some .int) jc_194 Q n 86 [some (.ref 0), some (.int x1), some (.int x2)] [] z4.2 by
              obtain ⟨n, hn⟩ := hh
              exact ⟨n + 2, And.intro (fun zz => absurd zz c31) (fun _ => And.intro (fun zz => absurd zz c30) (fun _ => And.intro (fun _ => hn) (fun zz => absurd c29 zz)))⟩
            obtain ⟨z16, h17, h⟩ := Option.bind_eq_some_iff.mp h
            obtain ⟨z18, h19, h⟩ := Option.bind_eq_some_iff.mp h
            cases h
            exact ⟨6, s_M_emptySeats (by omega) h17 (s_M_choiceOf (by omega) h19 (And.intro hQ (And.intro rfl rfl)))⟩
          · rw [if_neg c29] at h
            by_cases c28 : x2 = 6
            · rw [if_pos c28] at h
              suffices hh : ∃ n, jx_W jx_ShM d (some .int) jc_194 Q n 96 [some (.ref 0), some (.int x1), some (.int x2)] [] z4.2 by
                obtain ⟨n, hn⟩ := hh
                exact ⟨n + 2, And.intro (fun zz => absurd zz c31) (fun _ => And.intro (fun zz => absurd zz c30) (fun _ => And.intro (fun zz => absurd zz c29) (fun _ => And.intro (fun _ => hn) (fun zz => absurd c28 zz))))⟩
              obtain ⟨z20, h21, h⟩ := Option.bind_eq_some_iff.mp h
              obtain ⟨z22, h23, h⟩ := Option.bind_eq_some_iff.mp h
              obtain ⟨z24, h25, h⟩ := Option.bind_eq_some_iff.mp h
              cases h
              exact ⟨14, s_M_of (by omega) h21 (s_M_of (by omega) h23 (And.intro (jx_in_ok rfl) (s_M_lengthBy (by omega) h25 (And.intro hQ (And.intro rfl rfl)))))⟩
            · rw [if_neg c28] at h
              obtain ⟨z26, h27, h⟩ := Option.bind_eq_some_iff.mp h
              cases h
              exact ⟨7, And.intro (fun zz => absurd zz c31) (fun _ => And.intro (fun zz => absurd zz c30) (fun _ => And.intro (fun zz => absurd zz c29) (fun _ => And.intro (fun zz => absurd zz c28) (fun _ => s_M_of (by omega) h27 (And.intro hQ (And.intro rfl rfl))))))⟩
set_option maxRecDepth 20000 in
theorem s_M_becomes {N d : Nat} {x1 : Int32} {x2 : Int32} (hd : 1 ≤ d) {σ : jw_M} {z : (Int32 × jw_M)} {Q : jw_Q} (h : f_M_becomes N x1 x2 σ = some z) (hQ : Q (some (.int z.1)) (jx_ShM, z.2)) : jw_C jp_kd jp_ys d 195 [.ref 0, .int x1, .int x2] (jx_ShM, σ) Q := by
  obtain ⟨d, rfl⟩ : ∃ e, d = e + 1 := ⟨d - 1, by omega⟩
  replace hd : 0 ≤ d := by omega
  refine jx_C rfl rfl ?_
  unfold f_M_becomes at h
  cases c1 : jx_in x1 526 with
  | false => rw [c1, cond_false] at h; cases h
  | true =>
    rw [c1, cond_true] at h
    cases h
    exact ⟨12, And.intro (jx_in_ok c1) (And.intro (jx_in_ok c1) (And.intro hQ (And.intro rfl rfl)))⟩
set_option maxRecDepth 20000 in
theorem s_M_change {N d : Nat} {x1 : Int32} {x2 : Int32} {x3 : Int32} (hd : 3 ≤ d) {σ : jw_M} {z : (Int32 × jw_M)} {Q : jw_Q} (h : f_M_change N x1 x2 x3 σ = some z) (hQ : Q (some (.int z.1)) (jx_ShM, z.2)) : jw_C jp_kd jp_ys d 196 [.ref 0, .int x1, .int x2, .int x3] (jx_ShM, σ) Q := by
  obtain ⟨d, rfl⟩ : ∃ e, d = e + 1 := ⟨d - 1, by omega⟩
  replace hd : 2 ≤ d := by omega
  refine jx_C rfl rfl ?_
  unfold f_M_change at h
  obtain ⟨z1, h2, h⟩ := Option.bind_eq_some_iff.mp h
  by_cases c3 : z1.1 = 0
  · rw [if_pos c3] at h
    suffices hh : ∃ n, jx_W jx_ShM d (some .int) jc_196 Q n 43 [some (.ref 0), some (.int x1), some (.int x2), some (.int x3)] [] z1.2 by
      obtain ⟨n, hn⟩ := hh
      exact ⟨n + 4, s_M_isShadow (by omega) h2 (And.intro (fun _ => hn) (fun zz => absurd c3 zz))⟩
    cases h
    exact ⟨2, And.intro hQ (And.intro rfl rfl)⟩
  · rw [if_neg c3] at h
    suffices hh : ∃ n, jx_W jx_ShM d (some .int) jc_196 Q n 8 [some (.ref 0), some (.int x1), some (.int x2), some (.int x3)] [] z1.2 by
      obtain ⟨n, hn⟩ := hh
      exact ⟨n + 4, s_M_isShadow (by omega) h2 (And.intro (fun zz => absurd zz c3) (fun _ => hn))⟩
    obtain ⟨z4, h5, h⟩ := Option.bind_eq_some_iff.mp h
    by_cases c6 : z4.1 = 0
    · rw [if_pos c6] at h
      suffices hh : ∃ n, jx_W jx_ShM d (some .int) jc_196 Q n 43 [some (.ref 0), some (.int x1), some (.int x2), some (.int x3)] [] z4.2 by
        obtain ⟨n, hn⟩ := hh
        exact ⟨n + 5, s_M_in (by omega) h5 (And.intro (fun _ => hn) (fun zz => absurd c6 zz))⟩
      cases h
      exact ⟨2, And.intro hQ (And.intro rfl rfl)⟩
    · rw [if_neg c6] at h
      suffices hh : ∃ n, jx_W jx_ShM d (some .int) jc_196 Q n 17 [some (.ref 0), some (.int x1), some (.int x2), some (.int x3)] [] z4.2 by
        obtain ⟨n, hn⟩ := hh
        exact ⟨n + 5, s_M_in (by omega) h5 (And.intro (fun zz => absurd zz c6) (fun _ => hn))⟩
      obtain ⟨z7, h8, h⟩ := Option.bind_eq_some_iff.mp h
      by_cases c9 : z7.1 = 0
      · rw [if_pos c9] at h
        suffices hh : ∃ n, jx_W jx_ShM d (some .int) jc_196 Q n 43 [some (.ref 0), some (.int x1), some (.int x2), some (.int x3)] [] z7.2 by
          obtain ⟨n, hn⟩ := hh
          exact ⟨n + 5, s_M_in (by omega) h8 (And.intro (fun _ => hn) (fun zz => absurd c9 zz))⟩
        cases h
        exact ⟨2, And.intro hQ (And.intro rfl rfl)⟩
      · rw [if_neg c9] at h
        suffices hh : ∃ n, jx_W jx_ShM d (some .int) jc_196 Q n 27 [some (.ref 0), some (.int x1), some (.int x2), some (.int x3)] [] z7.2 by
          obtain ⟨n, hn⟩ := hh
          exact ⟨n + 5, s_M_in (by omega) h8 (And.intro (fun zz => absurd zz c9) (fun _ => hn))⟩
        obtain ⟨z10, h11, h⟩ := Option.bind_eq_some_iff.mp h
        cases h
        exact ⟨12, s_M_becomes (by omega) h11 (And.intro hQ (And.intro rfl rfl))⟩
set_option maxRecDepth 20000 in
theorem s_M_remake {N d : Nat} {x1 : Int32} {x2 : Int32} (hd : 3 ≤ d) {σ : jw_M} {z : (Int32 × jw_M)} {Q : jw_Q} (h : f_M_remake N x1 x2 σ = some z) (hQ : Q (some (.int z.1)) (jx_ShM, z.2)) : jw_C jp_kd jp_ys d 197 [.ref 0, .int x1, .int x2] (jx_ShM, σ) Q := by
  obtain ⟨d, rfl⟩ : ∃ e, d = e + 1 := ⟨d - 1, by omega⟩
  replace hd : 2 ≤ d := by omega
  refine jx_C rfl rfl ?_
  unfold f_M_remake at h
  obtain ⟨z1, h2, h⟩ := Option.bind_eq_some_iff.mp h
  by_cases c3 : z1.1 = 0
  · rw [if_pos c3] at h
    suffices hh : ∃ n, jx_W jx_ShM d (some .int) jc_197 Q n 31 [some (.ref 0), some (.int x1), some (.int x2)] [] z1.2 by
      obtain ⟨n, hn⟩ := hh
      exact ⟨n + 4, s_M_isShadow (by omega) h2 (And.intro (fun _ => hn) (fun zz => absurd c3 zz))⟩
    cases h
    exact ⟨2, And.intro hQ (And.intro rfl rfl)⟩
  · rw [if_neg c3] at h
    suffices hh : ∃ n, jx_W jx_ShM d (some .int) jc_197 Q n 8 [some (.ref 0), some (.int x1), some (.int x2)] [] z1.2 by
      obtain ⟨n, hn⟩ := hh
      exact ⟨n + 4, s_M_isShadow (by omega) h2 (And.intro (fun zz => absurd zz c3) (fun _ => hn))⟩
    obtain ⟨z4, h5, h⟩ := Option.bind_eq_some_iff.mp h
    by_cases c6 : z4.1 = 0
    · rw [if_pos c6] at h
      suffices hh : ∃ n, jx_W jx_ShM d (some .int) jc_197 Q n 31 [some (.ref 0), some (.int x1), some (.int x2)] [] z4.2 by
        obtain ⟨n, hn⟩ := hh
        exact ⟨n + 5, s_M_in (by omega) h5 (And.intro (fun _ => hn) (fun zz => absurd c6 zz))⟩
      cases h
      exact ⟨2, And.intro hQ (And.intro rfl rfl)⟩
    · rw [if_neg c6] at h
      suffices hh : ∃ n, jx_W jx_ShM d (some .int) jc_197 Q n 17 [some (.ref 0), some (.int x1), some (.int x2)] [] z4.2 by
        obtain ⟨n, hn⟩ := hh
        exact ⟨n + 5, s_M_in (by omega) h5 (And.intro (fun zz => absurd zz c6) (fun _ => hn))⟩
      obtain ⟨z7, h8, h⟩ := Option.bind_eq_some_iff.mp h
      cases h
      exact ⟨10, s_M_becomes (by omega) h8 (And.intro hQ (And.intro rfl rfl))⟩
set_option maxRecDepth 20000 in
theorem s_M_lesson {N d : Nat} {x1 : Int32} {x2 : Int32} {x3 : Int32} {x4 : Int32} {x5 : Int32} (hd : 2 ≤ d) {σ : jw_M} {z : (Int32 × jw_M)} {Q : jw_Q} (h : f_M_lesson N x1 x2 x3 x4 x5 σ = some z) (hQ : Q (some (.int z.1)) (jx_ShM, z.2)) : jw_C jp_kd jp_ys d 198 [.ref 0, .int x1, .int x2, .int x3, .int x4, .int x5] (jx_ShM, σ) Q := by
  obtain ⟨d, rfl⟩ : ∃ e, d = e + 1 := ⟨d - 1, by omega⟩
  replace hd : 1 ≤ d := by omega
  refine jx_C rfl rfl ?_
  unfold f_M_lesson at h
  obtain ⟨z1, h2, h⟩ := Option.bind_eq_some_iff.mp h
  by_cases c3 : z1.1 = 0
  · rw [if_pos c3] at h
    suffices hh : ∃ n, jx_W jx_ShM d (some .int) jc_198 Q n 58 [some (.ref 0), some (.int x1), some (.int x2), some (.int x3), some (.int x4), some (.int x5), none] [] z1.2 by
      obtain ⟨n, hn⟩ := hh
      exact ⟨n + 5, s_M_in (by omega) h2 (And.intro (fun _ => hn) (fun zz => absurd c3 zz))⟩
    cases h
    exact ⟨2, And.intro hQ (And.intro rfl rfl)⟩
  · rw [if_neg c3] at h
    suffices hh : ∃ n, jx_W jx_ShM d (some .int) jc_198 Q n 10 [some (.ref 0), some (.int x1), some (.int x2), some (.int x3), some (.int x4), some (.int x5), none] [] z1.2 by
      obtain ⟨n, hn⟩ := hh
      exact ⟨n + 5, s_M_in (by omega) h2 (And.intro (fun zz => absurd zz c3) (fun _ => hn))⟩
    obtain ⟨z4, h5, h⟩ := Option.bind_eq_some_iff.mp h
    by_cases c6 : z4.1 = 0
    · rw [if_pos c6] at h
      suffices hh : ∃ n, jx_W jx_ShM d (some .int) jc_198 Q n 58 [some (.ref 0), some (.int x1), some (.int x2), some (.int x3), some (.int x4), some (.int x5), none] [] z4.2 by
        obtain ⟨n, hn⟩ := hh
        exact ⟨n + 10, And.intro (jx_in_ok rfl) (s_M_in (by omega) h5 (And.intro (fun _ => hn) (fun zz => absurd c6 zz)))⟩
      cases h
      exact ⟨2, And.intro hQ (And.intro rfl rfl)⟩
    · rw [if_neg c6] at h
      suffices hh : ∃ n, jx_W jx_ShM d (some .int) jc_198 Q n 26 [some (.ref 0), some (.int x1), some (.int x2), some (.int x3), some (.int x4), some (.int x5), none] [] z4.2 by
        obtain ⟨n, hn⟩ := hh
        exact ⟨n + 10, And.intro (jx_in_ok rfl) (s_M_in (by omega) h5 (And.intro (fun zz => absurd zz c6) (fun _ => hn)))⟩
      obtain ⟨z7, h8, h⟩ := Option.bind_eq_some_iff.mp h
      by_cases c9 : z7.1 = 0
      · rw [if_pos c9] at h
        suffices hh : ∃ n, jx_W jx_ShM d (some .int) jc_198 Q n 58 [some (.ref 0), some (.int x1), some (.int x2), some (.int x3), some (.int x4), some (.int x5), none] [] z7.2 by
          obtain ⟨n, hn⟩ := hh
          exact ⟨n + 5, s_M_in (by omega) h8 (And.intro (fun _ => hn) (fun zz => absurd c9 zz))⟩
        cases h
        exact ⟨2, And.intro hQ (And.intro rfl rfl)⟩
      · rw [if_neg c9] at h
        suffices hh : ∃ n, jx_W jx_ShM d (some .int) jc_198 Q n 36 [some (.ref 0), some (.int x1), some (.int x2), some (.int x3), some (.int x4), some (.int x5), none] [] z7.2 by
          obtain ⟨n, hn⟩ := hh
          exact ⟨n + 5, s_M_in (by omega) h8 (And.intro (fun zz => absurd zz c9) (fun _ => hn))⟩
        obtain ⟨z10, h11, h⟩ := Option.bind_eq_some_iff.mp h
        by_cases c12 : z10.1 = 0
        · rw [if_pos c12] at h
          suffices hh : ∃ n, jx_W jx_ShM d (some .int) jc_198 Q n 58 [some (.ref 0), some (.int x1), some (.int x2), some (.int x3), some (.int x4), some (.int x5), none] [] z10.2 by
            obtain ⟨n, hn⟩ := hh
            exact ⟨n + 5, s_M_in (by omega) h11 (And.intro (fun _ => hn) (fun zz => absurd c12 zz))⟩
          cases h
          exact ⟨2, And.intro hQ (And.intro rfl rfl)⟩
        · rw [if_neg c12] at h
          suffices hh : ∃ n, jx_W jx_ShM d (some .int) jc_198 Q n 47 [some (.ref 0), some (.int x1), some (.int x2), some (.int x3), some (.int x4), some (.int x5), none] [] z10.2 by
            obtain ⟨n, hn⟩ := hh
            exact ⟨n + 5, s_M_in (by omega) h11 (And.intro (fun zz => absurd zz c12) (fun _ => hn))⟩
          obtain ⟨z13, h14, h⟩ := Option.bind_eq_some_iff.mp h
          by_cases c15 : z13.1 = 0
          · rw [if_pos c15] at h
            suffices hh : ∃ n, jx_W jx_ShM d (some .int) jc_198 Q n 58 [some (.ref 0), some (.int x1), some (.int x2), some (.int x3), some (.int x4), some (.int x5), none] [] z13.2 by
              obtain ⟨n, hn⟩ := hh
              exact ⟨n + 5, s_M_in (by omega) h14 (And.intro (fun zz => absurd c15 zz) (fun _ => hn))⟩
            cases h
            exact ⟨2, And.intro hQ (And.intro rfl rfl)⟩
          · rw [if_neg c15] at h
            suffices hh : ∃ n, jx_W jx_ShM d (some .int) jc_198 Q n 60 [some (.ref 0), some (.int x1), some (.int x2), some (.int x3), some (.int x4), some (.int x5), none] [] z13.2 by
              obtain ⟨n, hn⟩ := hh
              exact ⟨n + 5, s_M_in (by omega) h14 (And.intro (fun _ => hn) (fun zz => absurd zz c15))⟩
            by_cases c16 : (z13.2.1 3 3) = 8
            · rw [if_pos c16] at h
              suffices hh : ∃ n, jx_W jx_ShM d (some .int) jc_198 Q n 71 [some (.ref 0), some (.int x1), some (.int x2), some (.int x3), some (.int x4), some (.int x5), none] [] z13.2 by
                obtain ⟨n, hn⟩ := hh
                exact ⟨n + 6, And.intro (jx_in_ok rfl) (And.intro (fun zz => absurd c16 zz) (fun _ => hn))⟩
              cases h
              exact ⟨2, And.intro hQ (And.intro rfl rfl)⟩
            · rw [if_neg c16] at h
              suffices hh : ∃ n, jx_W jx_ShM d (some .int) jc_198 Q n 74 [some (.ref 0), some (.int x1), some (.int x2), some (.int x3), some (.int x4), some (.int x5), none] [] z13.2 by
                obtain ⟨n, hn⟩ := hh
                exact ⟨n + 6, And.intro (jx_in_ok rfl) (And.intro (fun _ => hn) (fun zz => absurd zz c16))⟩
              cases c17 : jx_in (24 + (5 * (z13.2.1 3 3))) 526 with
              | false => rw [c17, cond_false] at h; cases h
              | true =>
                rw [c17, cond_true] at h
                cases c18 : jx_in ((24 + (5 * (z13.2.1 3 3))) + 1) 526 with
                | false => rw [c18, cond_false] at h; cases h
                | true =>
                  rw [c18, cond_true] at h
                  cases c19 : jx_in ((24 + (5 * (z13.2.1 3 3))) + 2) 526 with
                  | false => rw [c19, cond_false] at h; cases h
                  | true =>
                    rw [c19, cond_true] at h
                    cases c20 : jx_in ((24 + (5 * (z13.2.1 3 3))) + 3) 526 with
                    | false => rw [c20, cond_false] at h; cases h
                    | true =>
                      rw [c20, cond_true] at h
                      cases c21 : jx_in ((24 + (5 * (z13.2.1 3 3))) + 4) 526 with
                      | false => rw [c21, cond_false] at h; cases h
                      | true =>
                        rw [c21, cond_true] at h
                        cases h
                        exact ⟨57, And.intro (jx_in_ok rfl) (And.intro (jx_in_ok c17) (And.intro (jx_in_ok c18) (And.intro (jx_in_ok c19) (And.intro (jx_in_ok c20) (And.intro (jx_in_ok c21) (And.intro (jx_in_ok rfl) (And.intro (jx_in_ok rfl) (And.intro (jx_in_ok rfl) (And.intro hQ (And.intro rfl rfl))))))))))⟩
