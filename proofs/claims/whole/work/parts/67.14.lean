set_option maxRecDepth 20000 in
theorem s_M_learntBy_29 {N d : Nat} {Q : jw_Q} {K4 : Int32 → Int32 → Int32 → jw_M → Option (Int32 × jw_M)} (hd : 1 ≤ d) (hK4 : ∀ {x1 : Int32} {x2 : Int32} {x3 : Int32} {σ : jw_M} {z : (Int32 × jw_M)}, K4 x1 x2 x3 σ = some z → Q (some (.int z.1)) (jx_ShM, z.2) → ∃ n, jx_W jx_ShM d (some .int) jc_199 Q n 4 [some (.ref 0), some (.int x1), some (.int x2), some (.int x3)] [] σ) {x1 : Int32} {x3 : Int32} {y0 : Int32} {y1 : Int32} {u2 : Option Value} {σ : jw_M} {z : (Int32 × jw_M)} (h : f_M_learntBy_29 N K4 x1 x3 y0 y1 σ = some z) (hQ : Q (some (.int z.1)) (jx_ShM, z.2)) : ∃ n, jx_W jx_ShM d (some .int) jc_199 Q n 29 [some (.ref 0), some (.int x1), u2, some (.int x3)] [.int y1, .int y0] σ := by
  unfold f_M_learntBy_29 at h
  obtain ⟨n, hn⟩ := hK4 h hQ
  exact ⟨n + 4, hn⟩
set_option maxRecDepth 20000 in
theorem s_M_learntBy_4 {N d : Nat} {Q : jw_Q} (hd : 1 ≤ d) : ∀ (k : Nat) {x1 : Int32} {x2 : Int32} {x3 : Int32} {σ : jw_M} {z : (Int32 × jw_M)}, f_M_learntBy_4 N k x1 x2 x3 σ = some z → Q (some (.int z.1)) (jx_ShM, z.2) → ∃ n, jx_W jx_ShM d (some .int) jc_199 Q n 4 [some (.ref 0), some (.int x1), some (.int x2), some (.int x3)] [] σ
  | 0, _, _, _, _, _, h, _ => by cases h
  | k + 1, x1, x2, x3, σ, z, h, hQ => by
    rw [f_M_learntBy_4] at h
    by_cases c1 : (σ.1 3 2) ≤ x3
    · rw [if_pos c1] at h
      suffices hh : ∃ n, jx_W jx_ShM d (some .int) jc_199 Q n 37 [some (.ref 0), some (.int x1), some (.int x2), some (.int x3)] [] σ by
        obtain ⟨n, hn⟩ := hh
        exact ⟨n + 6, And.intro (jx_in_ok rfl) (And.intro (fun _ => hn) (fun zz => absurd c1 zz))⟩
      cases h
      exact ⟨2, And.intro hQ (And.intro rfl rfl)⟩
    · rw [if_neg c1] at h
      suffices hh : ∃ n, jx_W jx_ShM d (some .int) jc_199 Q n 14 [some (.ref 0), some (.int x1), some (.int x2), some (.int x3)] [] σ by
        obtain ⟨n, hn⟩ := hh
        exact ⟨n + 6, And.intro (jx_in_ok rfl) (And.intro (fun zz => absurd zz c1) (fun _ => hn))⟩
      obtain ⟨z2, h3, h⟩ := Option.bind_eq_some_iff.mp h
      by_cases c4 : z2.1 = 0
      · rw [if_pos c4] at h
        suffices hh : ∃ n, jx_W jx_ShM d (some .int) jc_199 Q n 28 [some (.ref 0), some (.int x1), some (.int x2), some (.int x3)] [.int x2] z2.2 by
          obtain ⟨n, hn⟩ := hh
          exact ⟨n + 6, s_M_hasLearnt (by omega) h3 (And.intro (fun _ => hn) (fun zz => absurd c4 zz))⟩
        obtain ⟨n, hn⟩ := s_M_learntBy_29 hd (s_M_learntBy_4 hd k) (u2 := some (.int x2)) h hQ
        exact ⟨n + 1, hn⟩
      · rw [if_neg c4] at h
        suffices hh : ∃ n, jx_W jx_ShM d (some .int) jc_199 Q n 24 [some (.ref 0), some (.int x1), some (.int x2), some (.int x3)] [.int x2] z2.2 by
          obtain ⟨n, hn⟩ := hh
          exact ⟨n + 6, s_M_hasLearnt (by omega) h3 (And.intro (fun zz => absurd zz c4) (fun _ => hn))⟩
        obtain ⟨n, hn⟩ := s_M_learntBy_29 hd (s_M_learntBy_4 hd k) (u2 := some (.int x2)) h hQ
        exact ⟨n + 2, hn⟩
set_option maxRecDepth 20000 in
theorem s_M_learntBy {N d : Nat} {x1 : Int32} (hd : 2 ≤ d) {σ : jw_M} {z : (Int32 × jw_M)} {Q : jw_Q} (h : f_M_learntBy N x1 σ = some z) (hQ : Q (some (.int z.1)) (jx_ShM, z.2)) : jw_C jp_kd jp_ys d 199 [.ref 0, .int x1] (jx_ShM, σ) Q := by
  obtain ⟨d, rfl⟩ : ∃ e, d = e + 1 := ⟨d - 1, by omega⟩
  replace hd : 1 ≤ d := by omega
  refine jx_C rfl rfl ?_
  unfold f_M_learntBy at h
  obtain ⟨n, hn⟩ := s_M_learntBy_4 hd N h hQ
  exact ⟨n + 4, hn⟩
set_option maxRecDepth 20000 in
theorem s_M_lessonOf {N d : Nat} {x1 : Int32} {x2 : Int32} (hd : 3 ≤ d) {σ : jw_M} {z : (Int32 × jw_M)} {Q : jw_Q} (h : f_M_lessonOf N x1 x2 σ = some z) (hQ : Q (some (.int z.1)) (jx_ShM, z.2)) : jw_C jp_kd jp_ys d 200 [.ref 0, .int x1, .int x2] (jx_ShM, σ) Q := by
  obtain ⟨d, rfl⟩ : ∃ e, d = e + 1 := ⟨d - 1, by omega⟩
  replace hd : 2 ≤ d := by omega
  refine jx_C rfl rfl ?_
  unfold f_M_lessonOf at h
  obtain ⟨z1, h2, h⟩ := Option.bind_eq_some_iff.mp h
  by_cases c3 : z1.1 = 0
  · rw [if_pos c3] at h
    suffices hh : ∃ n, jx_W jx_ShM d (some .int) jc_200 Q n 17 [some (.ref 0), some (.int x1), some (.int x2)] [] z1.2 by
      obtain ⟨n, hn⟩ := hh
      exact ⟨n + 4, s_M_isLesson (by omega) h2 (And.intro (fun _ => hn) (fun zz => absurd c3 zz))⟩
    cases h
    exact ⟨2, And.intro hQ (And.intro rfl rfl)⟩
  · rw [if_neg c3] at h
    suffices hh : ∃ n, jx_W jx_ShM d (some .int) jc_200 Q n 8 [some (.ref 0), some (.int x1), some (.int x2)] [] z1.2 by
      obtain ⟨n, hn⟩ := hh
      exact ⟨n + 4, s_M_isLesson (by omega) h2 (And.intro (fun zz => absurd zz c3) (fun _ => hn))⟩
    obtain ⟨z4, h5, h⟩ := Option.bind_eq_some_iff.mp h
    by_cases c6 : z4.1 = 0
    · rw [if_pos c6] at h
      suffices hh : ∃ n, jx_W jx_ShM d (some .int) jc_200 Q n 17 [some (.ref 0), some (.int x1), some (.int x2)] [] z4.2 by
        obtain ⟨n, hn⟩ := hh
        exact ⟨n + 5, s_M_in (by omega) h5 (And.intro (fun zz => absurd c6 zz) (fun _ => hn))⟩
      cases h
      exact ⟨2, And.intro hQ (And.intro rfl rfl)⟩
    · rw [if_neg c6] at h
      suffices hh : ∃ n, jx_W jx_ShM d (some .int) jc_200 Q n 19 [some (.ref 0), some (.int x1), some (.int x2)] [] z4.2 by
        obtain ⟨n, hn⟩ := hh
        exact ⟨n + 5, s_M_in (by omega) h5 (And.intro (fun _ => hn) (fun zz => absurd zz c6))⟩
      by_cases c7 : 5 ≤ x2
      · rw [if_pos c7] at h
        suffices hh : ∃ n, jx_W jx_ShM d (some .int) jc_200 Q n 33 [some (.ref 0), some (.int x1), some (.int x2)] [] z4.2 by
          obtain ⟨n, hn⟩ := hh
          exact ⟨n + 3, And.intro (fun _ => hn) (fun zz => absurd c7 zz)⟩
        obtain ⟨z8, h9, h⟩ := Option.bind_eq_some_iff.mp h
        cases h
        exact ⟨4, s_M_learntBy (by omega) h9 (And.intro hQ (And.intro rfl rfl))⟩
      · rw [if_neg c7] at h
        suffices hh : ∃ n, jx_W jx_ShM d (some .int) jc_200 Q n 24 [some (.ref 0), some (.int x1), some (.int x2)] [] z4.2 by
          obtain ⟨n, hn⟩ := hh
          exact ⟨n + 3, And.intro (fun zz => absurd zz c7) (fun _ => hn)⟩
        obtain ⟨z10, h11, h⟩ := Option.bind_eq_some_iff.mp h
        cases h
        exact ⟨6, s_M_lessonNumber (by omega) h11 (And.intro hQ (And.intro rfl rfl))⟩
set_option maxRecDepth 20000 in
theorem s_M_points {N d : Nat} {x1 : Int32} {x2 : Int32} (hd : 3 ≤ d) {σ : jw_M} {z : (Int32 × jw_M)} {Q : jw_Q} (h : f_M_points N x1 x2 σ = some z) (hQ : Q (some (.int z.1)) (jx_ShM, z.2)) : jw_C jp_kd jp_ys d 201 [.ref 0, .int x1, .int x2] (jx_ShM, σ) Q := by
  obtain ⟨d, rfl⟩ : ∃ e, d = e + 1 := ⟨d - 1, by omega⟩
  replace hd : 2 ≤ d := by omega
  refine jx_C rfl rfl ?_
  unfold f_M_points at h
  obtain ⟨z1, h2, h⟩ := Option.bind_eq_some_iff.mp h
  by_cases c3 : z1.1 = 0
  · rw [if_pos c3] at h
    suffices hh : ∃ n, jx_W jx_ShM d (some .int) jc_201 Q n 25 [some (.ref 0), some (.int x1), some (.int x2)] [] z1.2 by
      obtain ⟨n, hn⟩ := hh
      exact ⟨n + 4, s_M_isShadow (by omega) h2 (And.intro (fun _ => hn) (fun zz => absurd c3 zz))⟩
    cases h
    exact ⟨2, And.intro hQ (And.intro rfl rfl)⟩
  · rw [if_neg c3] at h
    suffices hh : ∃ n, jx_W jx_ShM d (some .int) jc_201 Q n 8 [some (.ref 0), some (.int x1), some (.int x2)] [] z1.2 by
      obtain ⟨n, hn⟩ := hh
      exact ⟨n + 4, s_M_isShadow (by omega) h2 (And.intro (fun zz => absurd zz c3) (fun _ => hn))⟩
    obtain ⟨z4, h5, h⟩ := Option.bind_eq_some_iff.mp h
    by_cases c6 : z4.1 = 0
    · rw [if_pos c6] at h
      suffices hh : ∃ n, jx_W jx_ShM d (some .int) jc_201 Q n 25 [some (.ref 0), some (.int x1), some (.int x2)] [] z4.2 by
        obtain ⟨n, hn⟩ := hh
        exact ⟨n + 4, s_M_isLesson (by omega) h5 (And.intro (fun _ => hn) (fun zz => absurd c6 zz))⟩
      cases h
      exact ⟨2, And.intro hQ (And.intro rfl rfl)⟩
    · rw [if_neg c6] at h
      suffices hh : ∃ n, jx_W jx_ShM d (some .int) jc_201 Q n 16 [some (.ref 0), some (.int x1), some (.int x2)] [] z4.2 by
        obtain ⟨n, hn⟩ := hh
        exact ⟨n + 4, s_M_isLesson (by omega) h5 (And.intro (fun zz => absurd zz c6) (fun _ => hn))⟩
      obtain ⟨z7, h8, h⟩ := Option.bind_eq_some_iff.mp h
      cases h
      exact ⟨6, s_M_pointsOf (by omega) h8 (And.intro hQ (And.intro rfl rfl))⟩
set_option maxRecDepth 20000 in
theorem s_M_dusk {N d : Nat} {x1 : Int32} (hd : 2 ≤ d) {σ : jw_M} {z : (Int32 × jw_M)} {Q : jw_Q} (h : f_M_dusk N x1 σ = some z) (hQ : Q (some (.int z.1)) (jx_ShM, z.2)) : jw_C jp_kd jp_ys d 202 [.ref 0, .int x1] (jx_ShM, σ) Q := by
  obtain ⟨d, rfl⟩ : ∃ e, d = e + 1 := ⟨d - 1, by omega⟩
  replace hd : 1 ≤ d := by omega
  refine jx_C rfl rfl ?_
  unfold f_M_dusk at h
  obtain ⟨z1, h2, h⟩ := Option.bind_eq_some_iff.mp h
  by_cases c3 : z1.1 = 0
  · rw [if_pos c3] at h
    suffices hh : ∃ n, jx_W jx_ShM d (some .int) jc_202 Q n 10 [some (.ref 0), some (.int x1)] [] z1.2 by
      obtain ⟨n, hn⟩ := hh
      exact ⟨n + 5, s_M_in (by omega) h2 (And.intro (fun zz => absurd c3 zz) (fun _ => hn))⟩
    cases h
    exact ⟨2, And.intro hQ (And.intro rfl rfl)⟩
  · rw [if_neg c3] at h
    suffices hh : ∃ n, jx_W jx_ShM d (some .int) jc_202 Q n 12 [some (.ref 0), some (.int x1)] [] z1.2 by
      obtain ⟨n, hn⟩ := hh
      exact ⟨n + 5, s_M_in (by omega) h2 (And.intro (fun _ => hn) (fun zz => absurd zz c3))⟩
    by_cases c4 : (z1.2.1 1 0) ≤ x1
    · rw [if_pos c4] at h
      suffices hh : ∃ n, jx_W jx_ShM d (some .int) jc_202 Q n 27 [some (.ref 0), some (.int x1)] [] z1.2 by
        obtain ⟨n, hn⟩ := hh
        exact ⟨n + 6, And.intro (jx_in_ok rfl) (And.intro (fun _ => hn) (fun zz => absurd c4 zz))⟩
      obtain ⟨z5, h6, h⟩ := Option.bind_eq_some_iff.mp h
      cases h
      exact ⟨5, s_M_becomes (by omega) h6 (And.intro hQ (And.intro rfl rfl))⟩
    · rw [if_neg c4] at h
      suffices hh : ∃ n, jx_W jx_ShM d (some .int) jc_202 Q n 22 [some (.ref 0), some (.int x1)] [] z1.2 by
        obtain ⟨n, hn⟩ := hh
        exact ⟨n + 6, And.intro (jx_in_ok rfl) (And.intro (fun zz => absurd zz c4) (fun _ => hn))⟩
      cases h
      exact ⟨3, And.intro hQ (And.intro rfl rfl)⟩
set_option maxRecDepth 20000 in
theorem s_M_anew_9 {N d : Nat} {Q : jw_Q} (hd : 0 ≤ d) : ∀ (k : Nat) {x1 : Int32} {x2 : Int32} {σ : jw_M} {z : (Int32 × jw_M)}, f_M_anew_9 N k x1 x2 σ = some z → Q (some (.int z.1)) (jx_ShM, z.2) → ∃ n, jx_W jx_ShM d (some .int) jc_203 Q n 9 [some (.ref 0), some (.int x1), some (.int x2)] [] σ
  | 0, _, _, _, _, h, _ => by cases h
  | k + 1, x1, x2, σ, z, h, hQ => by
    rw [f_M_anew_9] at h
    by_cases c1 : 56 ≤ x2
    · rw [if_pos c1] at h
      suffices hh : ∃ n, jx_W jx_ShM d (some .int) jc_203 Q n 28 [some (.ref 0), some (.int x1), some (.int x2)] [] σ by
        obtain ⟨n, hn⟩ := hh
        exact ⟨n + 3, And.intro (fun _ => hn) (fun zz => absurd c1 zz)⟩
      cases h
      exact ⟨2, And.intro hQ (And.intro rfl rfl)⟩
    · rw [if_neg c1] at h
      suffices hh : ∃ n, jx_W jx_ShM d (some .int) jc_203 Q n 15 [some (.ref 0), some (.int x1), some (.int x2)] [] σ by
        obtain ⟨n, hn⟩ := hh
        exact ⟨n + 3, And.intro (fun zz => absurd zz c1) (fun _ => hn)⟩
      cases c2 : jx_in x2 56 with
      | false => rw [c2, cond_false] at h; cases h
      | true =>
        rw [c2, cond_true] at h
        obtain ⟨n, hn⟩ := s_M_anew_9 hd k h hQ
        exact ⟨n + 7, And.intro (jx_in_ok c2) (hn)⟩
set_option maxRecDepth 20000 in
theorem s_M_anew {N d : Nat} (hd : 1 ≤ d) {σ : jw_M} {z : (Int32 × jw_M)} {Q : jw_Q} (h : f_M_anew N  σ = some z) (hQ : Q (some (.int z.1)) (jx_ShM, z.2)) : jw_C jp_kd jp_ys d 203 [.ref 0] (jx_ShM, σ) Q := by
  obtain ⟨d, rfl⟩ : ∃ e, d = e + 1 := ⟨d - 1, by omega⟩
  replace hd : 0 ≤ d := by omega
  refine jx_C rfl rfl ?_
  unfold f_M_anew at h
  obtain ⟨n, hn⟩ := s_M_anew_9 hd N h hQ
  exact ⟨n + 7, And.intro (jx_in_ok rfl) (hn)⟩
set_option maxRecDepth 20000 in
theorem s_M_state {N d : Nat} {x1 : Int32} (hd : 2 ≤ d) {σ : jw_M} {z : (Int32 × jw_M)} {Q : jw_Q} (h : f_M_state N x1 σ = some z) (hQ : Q (some (.int z.1)) (jx_ShM, z.2)) : jw_C jp_kd jp_ys d 204 [.ref 0, .int x1] (jx_ShM, σ) Q := by
  obtain ⟨d, rfl⟩ : ∃ e, d = e + 1 := ⟨d - 1, by omega⟩
  replace hd : 1 ≤ d := by omega
  refine jx_C rfl rfl ?_
  unfold f_M_state at h
  by_cases c7 : x1 = 0
  · rw [if_pos c7] at h
    suffices hh : ∃ n, jx_W jx_ShM d (some .int) jc_204 Q n 32 [some (.ref 0), some (.int x1)] [] σ by
      obtain ⟨n, hn⟩ := hh
      exact ⟨n + 2, And.intro (fun _ => hn) (fun zz => absurd c7 zz)⟩
    cases h
    exact ⟨5, And.intro (jx_in_ok rfl) (And.intro hQ (And.intro rfl rfl))⟩
  · rw [if_neg c7] at h
    by_cases c6 : x1 = 1
    · rw [if_pos c6] at h
      suffices hh : ∃ n, jx_W jx_ShM d (some .int) jc_204 Q n 39 [some (.ref 0), some (.int x1)] [] σ by
        obtain ⟨n, hn⟩ := hh
        exact ⟨n + 2, And.intro (fun zz => absurd zz c7) (fun _ => And.intro (fun _ => hn) (fun zz => absurd c6 zz))⟩
      cases h
      exact ⟨5, And.intro (jx_in_ok rfl) (And.intro hQ (And.intro rfl rfl))⟩
    · rw [if_neg c6] at h
      by_cases c5 : x1 = 2
      · rw [if_pos c5] at h
        suffices hh : ∃ n, jx_W jx_ShM d (some .int) jc_204 Q n 46 [some (.ref 0), some (.int x1)] [] σ by
          obtain ⟨n, hn⟩ := hh
          exact ⟨n + 2, And.intro (fun zz => absurd zz c7) (fun _ => And.intro (fun zz => absurd zz c6) (fun _ => And.intro (fun _ => hn) (fun zz => absurd c5 zz)))⟩
        cases h
        exact ⟨5, And.intro (jx_in_ok rfl) (And.intro hQ (And.intro rfl rfl))⟩
      · rw [if_neg c5] at h
        by_cases c4 : x1 = 3
        · rw [if_pos c4] at h
          suffices hh : ∃ n, jx_W jx_ShM d (some .int) jc_204 Q n 53 [some (.ref 0), some (.int x1)] [] σ by
            obtain ⟨n, hn⟩ := hh
            exact ⟨n + 2, And.intro (fun zz => absurd zz c7) (fun _ => And.intro (fun zz => absurd zz c6) (fun _ => And.intro (fun zz => absurd zz c5) (fun _ => And.intro (fun _ => hn) (fun zz => absurd c4 zz))))⟩
          obtain ⟨z1, h2, h⟩ := Option.bind_eq_some_iff.mp h
          by_cases c3 : z1.1 = 0
          · rw [if_pos c3] at h
            suffices hh : ∃ n, jx_W jx_ShM d (some .int) jc_204 Q n 64 [some (.ref 0), some (.int x1)] [] z1.2 by
              obtain ⟨n, hn⟩ := hh
              exact ⟨n + 3, s_M_isOver (by omega) h2 (And.intro (fun _ => hn) (fun zz => absurd c3 zz))⟩
            cases h
            exact ⟨2, And.intro hQ (And.intro rfl rfl)⟩
          · rw [if_neg c3] at h
            suffices hh : ∃ n, jx_W jx_ShM d (some .int) jc_204 Q n 60 [some (.ref 0), some (.int x1)] [] z1.2 by
              obtain ⟨n, hn⟩ := hh
              exact ⟨n + 3, s_M_isOver (by omega) h2 (And.intro (fun zz => absurd zz c3) (fun _ => hn))⟩
            cases h
            exact ⟨3, And.intro hQ (And.intro rfl rfl)⟩
        · rw [if_neg c4] at h
          cases h
          exact ⟨4, And.intro (fun zz => absurd zz c7) (fun _ => And.intro (fun zz => absurd zz c6) (fun _ => And.intro (fun zz => absurd zz c5) (fun _ => And.intro (fun zz => absurd zz c4) (fun _ => And.intro hQ (And.intro rfl rfl)))))⟩
set_option maxRecDepth 20000 in
theorem s_M_feed_30 {N d : Nat} {Q : jw_Q} (hd : 1 ≤ d) : ∀ (k : Nat) {x1 : Int64} {x3 : Int32} {x4 : Int32} {u2 : Option Value} {σ : jw_M} {z : (Int32 × jw_M)}, f_M_feed_30 N k x1 x3 x4 σ = some z → Q (some (.int z.1)) (jx_ShM, z.2) → ∃ n, jx_W jx_ShM d (some .int) jc_205 Q n 30 [some (.ref 0), some (.long x1), u2, some (.int x3), some (.int x4)] [] σ
  | 0, _, _, _, _, _, _, h, _ => by cases h
  | k + 1, x1, x3, x4, u2, σ, z, h, hQ => by
    rw [f_M_feed_30] at h
    by_cases c5 : x3 ≤ x4
    · rw [if_pos c5] at h
      suffices hh : ∃ n, jx_W jx_ShM d (some .int) jc_205 Q n 73 [some (.ref 0), some (.long x1), u2, some (.int x3), some (.int x4)] [] σ by
        obtain ⟨n, hn⟩ := hh
        exact ⟨n + 3, And.intro (fun _ => hn) (fun zz => absurd c5 zz)⟩
      cases h
      exact ⟨3, And.intro hQ (And.intro rfl rfl)⟩
    · rw [if_neg c5] at h
      suffices hh : ∃ n, jx_W jx_ShM d (some .int) jc_205 Q n 36 [some (.ref 0), some (.long x1), u2, some (.int x3), some (.int x4)] [] σ by
        obtain ⟨n, hn⟩ := hh
        exact ⟨n + 3, And.intro (fun zz => absurd zz c5) (fun _ => hn)⟩
      cases c6 : jx_in (σ.1 0 7) 200 with
      | false => rw [c6, cond_false] at h; cases h
      | true =>
        rw [c6, cond_true] at h
        obtain ⟨n, hn⟩ := s_M_feed_30 hd k (u2 := u2) h hQ
        exact ⟨n + 21, And.intro (jx_in_ok c6) (hn)⟩
set_option maxRecDepth 20000 in
theorem s_M_feed {N d : Nat} {x1 : Int64} {x3 : Int32} (hd : 2 ≤ d) {σ : jw_M} {z : (Int32 × jw_M)} {Q : jw_Q} (h : f_M_feed N x1 x3 σ = some z) (hQ : Q (some (.int z.1)) (jx_ShM, z.2)) : jw_C jp_kd jp_ys d 205 [.ref 0, .long x1, .int x3] (jx_ShM, σ) Q := by
  obtain ⟨d, rfl⟩ : ∃ e, d = e + 1 := ⟨d - 1, by omega⟩
  replace hd : 1 ≤ d := by omega
  refine jx_C rfl rfl ?_
  unfold f_M_feed at h
  obtain ⟨z1, h2, h⟩ := Option.bind_eq_some_iff.mp h
  by_cases c3 : z1.1 = 0
  · rw [if_pos c3] at h
    suffices hh : ∃ n, jx_W jx_ShM d (some .int) jc_205 Q n 10 [some (.ref 0), some (.long x1), none, some (.int x3), none] [] z1.2 by
      obtain ⟨n, hn⟩ := hh
      exact ⟨n + 5, s_M_in (by omega) h2 (And.intro (fun zz => absurd c3 zz) (fun _ => hn))⟩
    cases h
    exact ⟨2, And.intro hQ (And.intro rfl rfl)⟩
  · rw [if_neg c3] at h
    suffices hh : ∃ n, jx_W jx_ShM d (some .int) jc_205 Q n 12 [some (.ref 0), some (.long x1), none, some (.int x3), none] [] z1.2 by
      obtain ⟨n, hn⟩ := hh
      exact ⟨n + 5, s_M_in (by omega) h2 (And.intro (fun _ => hn) (fun zz => absurd zz c3))⟩
    by_cases c4 : ((z1.2.1 0 7) + x3) ≤ 200
    · rw [if_pos c4] at h
      suffices hh : ∃ n, jx_W jx_ShM d (some .int) jc_205 Q n 27 [some (.ref 0), some (.long x1), none, some (.int x3), none] [] z1.2 by
        obtain ⟨n, hn⟩ := hh
        exact ⟨n + 6, And.intro (fun _ => hn) (fun zz => absurd c4 zz)⟩
      obtain ⟨n, hn⟩ := s_M_feed_30 hd N (u2 := none) h hQ
      exact ⟨n + 2, hn⟩
    · rw [if_neg c4] at h
      suffices hh : ∃ n, jx_W jx_ShM d (some .int) jc_205 Q n 24 [some (.ref 0), some (.long x1), none, some (.int x3), none] [] z1.2 by
        obtain ⟨n, hn⟩ := hh
        exact ⟨n + 6, And.intro (fun zz => absurd zz c4) (fun _ => hn)⟩
      cases h
      exact ⟨2, And.intro hQ (And.intro rfl rfl)⟩
set_option maxRecDepth 20000 in
theorem s_M_byteAt {N d : Nat} {x1 : Int32} (hd : 1 ≤ d) {σ : jw_M} {z : (Int32 × jw_M)} {Q : jw_Q} (h : f_M_byteAt N x1 σ = some z) (hQ : Q (some (.int z.1)) (jx_ShM, z.2)) : jw_C jp_kd jp_ys d 206 [.ref 0, .int x1] (jx_ShM, σ) Q := by
  obtain ⟨d, rfl⟩ : ∃ e, d = e + 1 := ⟨d - 1, by omega⟩
  replace hd : 0 ≤ d := by omega
  refine jx_C rfl rfl ?_
  unfold f_M_byteAt at h
  by_cases c1 : (σ.1 0 7) ≤ x1
  · rw [if_pos c1] at h
    suffices hh : ∃ n, jx_W jx_ShM d (some .int) jc_206 Q n 17 [some (.ref 0), some (.int x1)] [] σ by
      obtain ⟨n, hn⟩ := hh
      exact ⟨n + 4, And.intro (fun _ => hn) (fun zz => absurd c1 zz)⟩
    cases h
    exact ⟨2, And.intro hQ (And.intro rfl rfl)⟩
  · rw [if_neg c1] at h
    suffices hh : ∃ n, jx_W jx_ShM d (some .int) jc_206 Q n 8 [some (.ref 0), some (.int x1)] [] σ by
      obtain ⟨n, hn⟩ := hh
      exact ⟨n + 4, And.intro (fun zz => absurd zz c1) (fun _ => hn)⟩
    cases c2 : jx_in x1 200 with
    | false => rw [c2, cond_false] at h; cases h
    | true =>
      rw [c2, cond_true] at h
      cases h
      exact ⟨6, And.intro (jx_in_ok c2) (And.intro hQ (And.intro rfl rfl))⟩
set_option maxRecDepth 20000 in
theorem s_M_isLetter {N d : Nat} {x0 : Int32} (hd : 2 ≤ d) {σ : jw_M} {z : (Int32 × jw_M)} {Q : jw_Q} (h : f_M_isLetter N x0 σ = some z) (hQ : Q (some (.int z.1)) (jx_ShM, z.2)) : jw_C jp_kd jp_ys d 207 [.int x0] (jx_ShM, σ) Q := by
  obtain ⟨d, rfl⟩ : ∃ e, d = e + 1 := ⟨d - 1, by omega⟩
  replace hd : 1 ≤ d := by omega
  refine jx_C rfl rfl ?_
  unfold f_M_isLetter at h
  obtain ⟨z1, h2, h⟩ := Option.bind_eq_some_iff.mp h
  by_cases c3 : z1.1 = 0 ∨ z1.1 = 1
  · rw [if_pos c3] at h
    cases h
    exact ⟨5, s_M_in (by omega) h2 (And.intro c3 (And.intro hQ (And.intro rfl rfl)))⟩
  · rw [if_neg c3] at h
    cases h
set_option maxRecDepth 20000 in
theorem s_M_isDigit {N d : Nat} {x0 : Int32} (hd : 2 ≤ d) {σ : jw_M} {z : (Int32 × jw_M)} {Q : jw_Q} (h : f_M_isDigit N x0 σ = some z) (hQ : Q (some (.int z.1)) (jx_ShM, z.2)) : jw_C jp_kd jp_ys d 208 [.int x0] (jx_ShM, σ) Q := by
  obtain ⟨d, rfl⟩ : ∃ e, d = e + 1 := ⟨d - 1, by omega⟩
  replace hd : 1 ≤ d := by omega
  refine jx_C rfl rfl ?_
  unfold f_M_isDigit at h
  obtain ⟨z1, h2, h⟩ := Option.bind_eq_some_iff.mp h
  by_cases c3 : z1.1 = 0 ∨ z1.1 = 1
  · rw [if_pos c3] at h
    cases h
    exact ⟨5, s_M_in (by omega) h2 (And.intro c3 (And.intro hQ (And.intro rfl rfl)))⟩
  · rw [if_neg c3] at h
    cases h
set_option maxRecDepth 20000 in
theorem s_M_advance_266 {N d : Nat} {Q : jw_Q} {K207 : jw_M → Option jw_M} (hd : 2 ≤ d) (hK207 : ∀ {σ : jw_M} {z : jw_M} {u1 : Option Value}, K207  σ = some z → Q none (jx_ShM, z) → ∃ n, jx_W jx_ShM d none jc_209 Q n 207 [some (.ref 0), u1] [] σ) {y1 : Int32} {u1 : Option Value} {σ : jw_M} {z : jw_M} (h : f_M_advance_266 N K207 y1 σ = some z) (hQ : Q none (jx_ShM, z)) : ∃ n, jx_W jx_ShM d none jc_209 Q n 266 [some (.ref 0), u1] [.int y1, .ref 0] σ := by
  unfold f_M_advance_266 at h
  obtain ⟨n, hn⟩ := hK207 (u1 := u1) h hQ
  exact ⟨n + 8, hn⟩
set_option maxRecDepth 20000 in
theorem s_M_advance_207 {N d : Nat} {Q : jw_Q} (hd : 2 ≤ d) : ∀ (k : Nat) {u1 : Option Value} {σ : jw_M} {z : jw_M}, f_M_advance_207 N k  σ = some z → Q none (jx_ShM, z) → ∃ n, jx_W jx_ShM d none jc_209 Q n 207 [some (.ref 0), u1] [] σ
  | 0, _, _, _, h, _ => by cases h
  | k + 1, u1, σ, z, h, hQ => by
    rw [f_M_advance_207] at h
    by_cases c21 : (σ.1 0 8) = 2
    · rw [if_pos c21] at h
      suffices hh : ∃ n, jx_W jx_ShM d none jc_209 Q n 215 [some (.ref 0), u1] [] σ by
        obtain ⟨n, hn⟩ := hh
        exact ⟨n + 4, And.intro (fun zz => absurd c21 zz) (fun _ => hn)⟩
      obtain ⟨z22, h23, h⟩ := Option.bind_eq_some_iff.mp h
      obtain ⟨z24, h25, h⟩ := Option.bind_eq_some_iff.mp h
      by_cases c26 : z24.1 = 0
      · rw [if_pos c26] at h
        suffices hh : ∃ n, jx_W jx_ShM d none jc_209 Q n 282 [some (.ref 0), u1] [] z24.2 by
          obtain ⟨n, hn⟩ := hh
          exact ⟨n + 6, s_M_byteAt (by omega) h23 (s_M_isDigit (by omega) h25 (And.intro (fun _ => hn) (fun zz => absurd c26 zz)))⟩
        cases h
        exact ⟨1, And.intro hQ (And.intro rfl rfl)⟩
      · rw [if_neg c26] at h
        suffices hh : ∃ n, jx_W jx_ShM d none jc_209 Q n 229 [some (.ref 0), u1] [] z24.2 by
          obtain ⟨n, hn⟩ := hh
          exact ⟨n + 6, s_M_byteAt (by omega) h23 (s_M_isDigit (by omega) h25 (And.intro (fun zz => absurd zz c26) (fun _ => hn)))⟩
        by_cases c27 : 4 ≤ ((z24.2.1 0 10) - (z24.2.1 0 9))
        · rw [if_pos c27] at h
          suffices hh : ∃ n, jx_W jx_ShM d none jc_209 Q n 265 [some (.ref 0), u1] [.ref 0] z24.2 by
            obtain ⟨n, hn⟩ := hh
            exact ⟨n + 8, And.intro (fun _ => hn) (fun zz => absurd c27 zz)⟩
          obtain ⟨n, hn⟩ := s_M_advance_266 hd (s_M_advance_207 hd k) (u1 := u1) h hQ
          exact ⟨n + 1, hn⟩
        · rw [if_neg c27] at h
          suffices hh : ∃ n, jx_W jx_ShM d none jc_209 Q n 243 [some (.ref 0), u1] [.ref 0] z24.2 by
            obtain ⟨n, hn⟩ := hh
            exact ⟨n + 8, And.intro (fun zz => absurd zz c27) (fun _ => hn)⟩
          obtain ⟨z28, h29, h⟩ := Option.bind_eq_some_iff.mp h
          obtain ⟨n, hn⟩ := s_M_advance_266 hd (s_M_advance_207 hd k) (u1 := u1) h hQ
          exact ⟨n + 12, s_M_byteAt (by omega) h29 (hn)⟩
    · rw [if_neg c21] at h
      suffices hh : ∃ n, jx_W jx_ShM d none jc_209 Q n 282 [some (.ref 0), u1] [] σ by
        obtain ⟨n, hn⟩ := hh
        exact ⟨n + 4, And.intro (fun _ => hn) (fun zz => absurd zz c21)⟩
      cases h
      exact ⟨1, And.intro hQ (And.intro rfl rfl)⟩
set_option maxRecDepth 20000 in
theorem s_M_advance_191 {N d : Nat} {Q : jw_Q} {K126 : jw_M → Option jw_M} (hd : 2 ≤ d) (hK126 : ∀ {σ : jw_M} {z : jw_M} {u1 : Option Value}, K126  σ = some z → Q none (jx_ShM, z) → ∃ n, jx_W jx_ShM d none jc_209 Q n 126 [some (.ref 0), u1] [] σ) {y1 : Int64} {u1 : Option Value} {σ : jw_M} {z : jw_M} (h : f_M_advance_191 N K126 y1 σ = some z) (hQ : Q none (jx_ShM, z)) : ∃ n, jx_W jx_ShM d none jc_209 Q n 191 [some (.ref 0), u1] [.long y1, .ref 0] σ := by
  unfold f_M_advance_191 at h
  obtain ⟨n, hn⟩ := hK126 (u1 := u1) h hQ
  exact ⟨n + 8, hn⟩
set_option maxRecDepth 20000 in
theorem s_M_advance_126 {N d : Nat} {Q : jw_Q} (hd : 2 ≤ d) : ∀ (k : Nat) {u1 : Option Value} {σ : jw_M} {z : jw_M}, f_M_advance_126 N k  σ = some z → Q none (jx_ShM, z) → ∃ n, jx_W jx_ShM d none jc_209 Q n 126 [some (.ref 0), u1] [] σ
  | 0, _, _, _, h, _ => by cases h
  | k + 1, u1, σ, z, h, hQ => by
    rw [f_M_advance_126] at h
    by_cases c15 : (σ.1 0 8) = 1
    · rw [if_pos c15] at h
      suffices hh : ∃ n, jx_W jx_ShM d none jc_209 Q n 134 [some (.ref 0), u1] [] σ by
        obtain ⟨n, hn⟩ := hh
        exact ⟨n + 4, And.intro (fun zz => absurd c15 zz) (fun _ => hn)⟩
      obtain ⟨z16, h17, h⟩ := Option.bind_eq_some_iff.mp h
      obtain ⟨z18, h19, h⟩ := Option.bind_eq_some_iff.mp h
      by_cases c20 : z18.1 = 0
      · rw [if_pos c20] at h
        suffices hh : ∃ n, jx_W jx_ShM d none jc_209 Q n 207 [some (.ref 0), u1] [] z18.2 by
          obtain ⟨n, hn⟩ := hh
          exact ⟨n + 6, s_M_byteAt (by omega) h17 (s_M_isLetter (by omega) h19 (And.intro (fun _ => hn) (fun zz => absurd c20 zz)))⟩
        obtain ⟨n, hn⟩ := s_M_advance_207 hd N (u1 := u1) h hQ
        exact ⟨n + 0, hn⟩
      · rw [if_neg c20] at h
        suffices hh : ∃ n, jx_W jx_ShM d none jc_209 Q n 148 [some (.ref 0), u1] [] z18.2 by
          obtain ⟨n, hn⟩ := hh
          exact ⟨n + 6, s_M_byteAt (by omega) h17 (s_M_isLetter (by omega) h19 (And.intro (fun zz => absurd zz c20) (fun _ => hn)))⟩
        by_cases c30 : 8 ≤ ((z18.2.1 0 10) - (z18.2.1 0 9))
        · rw [if_pos c30] at h
          suffices hh : ∃ n, jx_W jx_ShM d none jc_209 Q n 188 [some (.ref 0), u1] [.ref 0] z18.2 by
            obtain ⟨n, hn⟩ := hh
            exact ⟨n + 8, And.intro (fun _ => hn) (fun zz => absurd c30 zz)⟩
          obtain ⟨n, hn⟩ := s_M_advance_191 hd (s_M_advance_126 hd k) (u1 := u1) h hQ
          exact ⟨n + 1, hn⟩
        · rw [if_neg c30] at h
          suffices hh : ∃ n, jx_W jx_ShM d none jc_209 Q n 163 [some (.ref 0), u1] [.ref 0] z18.2 by
            obtain ⟨n, hn⟩ := hh
            exact ⟨n + 8, And.intro (fun zz => absurd zz c30) (fun _ => hn)⟩
          obtain ⟨z31, h32, h⟩ := Option.bind_eq_some_iff.mp h
          obtain ⟨n, hn⟩ := s_M_advance_191 hd (s_M_advance_126 hd k) (u1 := u1) h hQ
          exact ⟨n + 13, s_M_byteAt (by omega) h32 (hn)⟩
    · rw [if_neg c15] at h
      suffices hh : ∃ n, jx_W jx_ShM d none jc_209 Q n 207 [some (.ref 0), u1] [] σ by
        obtain ⟨n, hn⟩ := hh
        exact ⟨n + 4, And.intro (fun _ => hn) (fun zz => absurd zz c15)⟩
      obtain ⟨n, hn⟩ := s_M_advance_207 hd N (u1 := u1) h hQ
      exact ⟨n + 0, hn⟩
set_option maxRecDepth 20000 in
theorem s_M_advance_105 {N d : Nat} {Q : jw_Q} (hd : 2 ≤ d) {y1 : Int32} {u1 : Option Value} {σ : jw_M} {z : jw_M} (h : f_M_advance_105 N y1 σ = some z) (hQ : Q none (jx_ShM, z)) : ∃ n, jx_W jx_ShM d none jc_209 Q n 105 [some (.ref 0), u1] [.int y1, .ref 0] σ := by
  unfold f_M_advance_105 at h
  by_cases c14 : ((jx_w σ 0 12 y1).1 0 8) = 3
  · rw [if_pos c14] at h
    suffices hh : ∃ n, jx_W jx_ShM d none jc_209 Q n 116 [some (.ref 0), u1] [] (jx_w σ 0 12 y1) by
      obtain ⟨n, hn⟩ := hh
      exact ⟨n + 5, And.intro (fun zz => absurd c14 zz) (fun _ => hn)⟩
    obtain ⟨n, hn⟩ := s_M_advance_126 hd N (u1 := u1) h hQ
    exact ⟨n + 6, hn⟩
  · rw [if_neg c14] at h
    suffices hh : ∃ n, jx_W jx_ShM d none jc_209 Q n 126 [some (.ref 0), u1] [] (jx_w σ 0 12 y1) by
      obtain ⟨n, hn⟩ := hh
      exact ⟨n + 5, And.intro (fun _ => hn) (fun zz => absurd zz c14)⟩
    obtain ⟨n, hn⟩ := s_M_advance_126 hd N (u1 := u1) h hQ
    exact ⟨n + 0, hn⟩
set_option maxRecDepth 20000 in
theorem s_M_advance_83 {N d : Nat} {Q : jw_Q} (hd : 2 ≤ d) {x1 : Int32} {y1 : Int32} {σ : jw_M} {z : jw_M} (h : f_M_advance_83 N x1 y1 σ = some z) (hQ : Q none (jx_ShM, z)) : ∃ n, jx_W jx_ShM d none jc_209 Q n 83 [some (.ref 0), some (.int x1)] [.int y1, .ref 0] σ := by
  unfold f_M_advance_83 at h
  by_cases c13 : ((jx_wl (jx_w σ 0 8 y1) 0 11 0).1 0 8) = 2
  · rw [if_pos c13] at h
    suffices hh : ∃ n, jx_W jx_ShM d none jc_209 Q n 100 [some (.ref 0), some (.int x1)] [.ref 0] (jx_wl (jx_w σ 0 8 y1) 0 11 0) by
      obtain ⟨n, hn⟩ := hh
      exact ⟨n + 9, And.intro (fun zz => absurd c13 zz) (fun _ => hn)⟩
    obtain ⟨n, hn⟩ := s_M_advance_105 hd (u1 := some (.int x1)) h hQ
    exact ⟨n + 2, hn⟩
  · rw [if_neg c13] at h
    suffices hh : ∃ n, jx_W jx_ShM d none jc_209 Q n 104 [some (.ref 0), some (.int x1)] [.ref 0] (jx_wl (jx_w σ 0 8 y1) 0 11 0) by
      obtain ⟨n, hn⟩ := hh
      exact ⟨n + 9, And.intro (fun _ => hn) (fun zz => absurd zz c13)⟩
    obtain ⟨n, hn⟩ := s_M_advance_105 hd (u1 := some (.int x1)) h hQ
    exact ⟨n + 1, hn⟩
set_option maxRecDepth 20000 in
theorem s_M_advance_8 {N d : Nat} {Q : jw_Q} (hd : 2 ≤ d) : ∀ (k : Nat) {u1 : Option Value} {σ : jw_M} {z : jw_M}, f_M_advance_8 N k  σ = some z → Q none (jx_ShM, z) → ∃ n, jx_W jx_ShM d none jc_209 Q n 8 [some (.ref 0), u1] [] σ
  | 0, _, _, _, h, _ => by cases h
  | k + 1, u1, σ, z, h, hQ => by
    rw [f_M_advance_8] at h
    obtain ⟨z1, h2, h⟩ := Option.bind_eq_some_iff.mp h
    by_cases c3 : z1.1 = 32
    · rw [if_pos c3] at h
      suffices hh : ∃ n, jx_W jx_ShM d none jc_209 Q n 21 [some (.ref 0), u1] [] z1.2 by
        obtain ⟨n, hn⟩ := hh
        exact ⟨n + 6, s_M_byteAt (by omega) h2 (And.intro (fun zz => absurd c3 zz) (fun _ => hn))⟩
      obtain ⟨n, hn⟩ := s_M_advance_8 hd k (u1 := u1) h hQ
      exact ⟨n + 7, hn⟩
    · rw [if_neg c3] at h
      suffices hh : ∃ n, jx_W jx_ShM d none jc_209 Q n 34 [some (.ref 0), u1] [] z1.2 by
        obtain ⟨n, hn⟩ := hh
        exact ⟨n + 6, s_M_byteAt (by omega) h2 (And.intro (fun _ => hn) (fun zz => absurd zz c3))⟩
      obtain ⟨z4, h5, h⟩ := Option.bind_eq_some_iff.mp h
      by_cases c6 : 0 ≤ z4.1
      · rw [if_pos c6] at h
        suffices hh : ∃ n, jx_W jx_ShM d none jc_209 Q n 60 [some (.ref 0), some (.int z4.1)] [.ref 0] z4.2 by
          obtain ⟨n, hn⟩ := hh
          exact ⟨n + 12, s_M_byteAt (by omega) h5 (And.intro (fun _ => hn) (fun zz => absurd c6 zz))⟩
        obtain ⟨z7, h8, h⟩ := Option.bind_eq_some_iff.mp h
        by_cases c9 : z7.1 = 0
        · rw [if_pos c9] at h
          suffices hh : ∃ n, jx_W jx_ShM d none jc_209 Q n 71 [some (.ref 0), some (.int z4.1)] [.ref 0] z7.2 by
            obtain ⟨n, hn⟩ := hh
            exact ⟨n + 3, s_M_isLetter (by omega) h8 (And.intro (fun _ => hn) (fun zz => absurd c9 zz))⟩
          obtain ⟨z10, h11, h⟩ := Option.bind_eq_some_iff.mp h
          by_cases c12 : z10.1 = 0
          · rw [if_pos c12] at h
            suffices hh : ∃ n, jx_W jx_ShM d none jc_209 Q n 82 [some (.ref 0), some (.int z4.1)] [.ref 0] z10.2 by
              obtain ⟨n, hn⟩ := hh
              exact ⟨n + 3, s_M_isDigit (by omega) h11 (And.intro (fun _ => hn) (fun zz => absurd c12 zz))⟩
            obtain ⟨n, hn⟩ := s_M_advance_83 hd h hQ
            exact ⟨n + 1, hn⟩
          · rw [if_neg c12] at h
            suffices hh : ∃ n, jx_W jx_ShM d none jc_209 Q n 78 [some (.ref 0), some (.int z4.1)] [.ref 0] z10.2 by
              obtain ⟨n, hn⟩ := hh
              exact ⟨n + 3, s_M_isDigit (by omega) h11 (And.intro (fun zz => absurd zz c12) (fun _ => hn))⟩
            obtain ⟨n, hn⟩ := s_M_advance_83 hd h hQ
            exact ⟨n + 2, hn⟩
        · rw [if_neg c9] at h
          suffices hh : ∃ n, jx_W jx_ShM d none jc_209 Q n 67 [some (.ref 0), some (.int z4.1)] [.ref 0] z7.2 by
            obtain ⟨n, hn⟩ := hh
            exact ⟨n + 3, s_M_isLetter (by omega) h8 (And.intro (fun zz => absurd zz c9) (fun _ => hn))⟩
          obtain ⟨n, hn⟩ := s_M_advance_83 hd h hQ
          exact ⟨n + 2, hn⟩
      · rw [if_neg c6] at h
        suffices hh : ∃ n, jx_W jx_ShM d none jc_209 Q n 56 [some (.ref 0), some (.int z4.1)] [.ref 0] z4.2 by
          obtain ⟨n, hn⟩ := hh
          exact ⟨n + 12, s_M_byteAt (by omega) h5 (And.intro (fun zz => absurd zz c6) (fun _ => hn))⟩
        obtain ⟨n, hn⟩ := s_M_advance_83 hd h hQ
        exact ⟨n + 2, hn⟩
set_option maxRecDepth 20000 in
theorem s_M_advance {N d : Nat} (hd : 3 ≤ d) {σ : jw_M} {z : jw_M} {Q : jw_Q} (h : f_M_advance N  σ = some z) (hQ : Q none (jx_ShM, z)) : jw_C jp_kd jp_ys d 209 [.ref 0] (jx_ShM, σ) Q := by
  obtain ⟨d, rfl⟩ : ∃ e, d = e + 1 := ⟨d - 1, by omega⟩
  replace hd : 2 ≤ d := by omega
  refine jx_C rfl rfl ?_
  unfold f_M_advance at h
  obtain ⟨n, hn⟩ := s_M_advance_8 hd N (u1 := none) h hQ
  exact ⟨n + 4, hn⟩
set_option maxRecDepth 20000 in
theorem s_M_isWord {N d : Nat} {x1 : Int64} (hd : 1 ≤ d) {σ : jw_M} {z : (Int32 × jw_M)} {Q : jw_Q} (h : f_M_isWord N x1 σ = some z) (hQ : Q (some (.int z.1)) (jx_ShM, z.2)) : jw_C jp_kd jp_ys d 210 [.ref 0, .long x1] (jx_ShM, σ) Q := by
  obtain ⟨d, rfl⟩ : ∃ e, d = e + 1 := ⟨d - 1, by omega⟩
  replace hd : 0 ≤ d := by omega
  refine jx_C rfl rfl ?_
  unfold f_M_isWord at h
  by_cases c1 : (σ.1 0 8) = 1
  · rw [if_pos c1] at h
    suffices hh : ∃ n, jx_W jx_ShM d (some .boolean) jc_210 Q n 8 [some (.ref 0), some (.long x1), none] [] σ by
      obtain ⟨n, hn⟩ := hh
      exact ⟨n + 4, And.intro (fun zz => absurd c1 zz) (fun _ => hn)⟩
    by_cases c2 : (lg_cmp (σ.2 0 11) x1) = 0
    · rw [if_pos c2] at h
      suffices hh : ∃ n, jx_W jx_ShM d (some .boolean) jc_210 Q n 17 [some (.ref 0), some (.long x1), none] [] σ by
        obtain ⟨n, hn⟩ := hh
        exact ⟨n + 5, And.intro (fun zz => absurd c2 zz) (fun _ => hn)⟩
      cases h
      exact ⟨3, And.intro (Or.inr rfl) (And.intro hQ (And.intro rfl rfl))⟩
    · rw [if_neg c2] at h
      suffices hh : ∃ n, jx_W jx_ShM d (some .boolean) jc_210 Q n 21 [some (.ref 0), some (.long x1), none] [] σ by
        obtain ⟨n, hn⟩ := hh
        exact ⟨n + 5, And.intro (fun _ => hn) (fun zz => absurd zz c2)⟩
      cases h
      exact ⟨2, And.intro (Or.inl rfl) (And.intro hQ (And.intro rfl rfl))⟩
  · rw [if_neg c1] at h
    suffices hh : ∃ n, jx_W jx_ShM d (some .boolean) jc_210 Q n 21 [some (.ref 0), some (.long x1), none] [] σ by
      obtain ⟨n, hn⟩ := hh
      exact ⟨n + 4, And.intro (fun _ => hn) (fun zz => absurd zz c1)⟩
    cases h
    exact ⟨2, And.intro (Or.inl rfl) (And.intro hQ (And.intro rfl rfl))⟩
set_option maxRecDepth 20000 in
theorem s_M_isMark {N d : Nat} {x1 : Int32} (hd : 1 ≤ d) {σ : jw_M} {z : (Int32 × jw_M)} {Q : jw_Q} (h : f_M_isMark N x1 σ = some z) (hQ : Q (some (.int z.1)) (jx_ShM, z.2)) : jw_C jp_kd jp_ys d 211 [.ref 0, .int x1] (jx_ShM, σ) Q := by
  obtain ⟨d, rfl⟩ : ∃ e, d = e + 1 := ⟨d - 1, by omega⟩
  replace hd : 0 ≤ d := by omega
  refine jx_C rfl rfl ?_
  unfold f_M_isMark at h
  by_cases c1 : (σ.1 0 8) = 3
  · rw [if_pos c1] at h
    suffices hh : ∃ n, jx_W jx_ShM d (some .boolean) jc_211 Q n 8 [some (.ref 0), some (.int x1)] [] σ by
      obtain ⟨n, hn⟩ := hh
      exact ⟨n + 4, And.intro (fun zz => absurd c1 zz) (fun _ => hn)⟩
    by_cases c2 : (σ.1 0 12) = x1
    · rw [if_pos c2] at h
      suffices hh : ∃ n, jx_W jx_ShM d (some .boolean) jc_211 Q n 16 [some (.ref 0), some (.int x1)] [] σ by
        obtain ⟨n, hn⟩ := hh
        exact ⟨n + 4, And.intro (fun zz => absurd c2 zz) (fun _ => hn)⟩
      cases h
      exact ⟨3, And.intro (Or.inr rfl) (And.intro hQ (And.intro rfl rfl))⟩
    · rw [if_neg c2] at h
      suffices hh : ∃ n, jx_W jx_ShM d (some .boolean) jc_211 Q n 20 [some (.ref 0), some (.int x1)] [] σ by
        obtain ⟨n, hn⟩ := hh
        exact ⟨n + 4, And.intro (fun _ => hn) (fun zz => absurd zz c2)⟩
      cases h
      exact ⟨2, And.intro (Or.inl rfl) (And.intro hQ (And.intro rfl rfl))⟩
  · rw [if_neg c1] at h
    suffices hh : ∃ n, jx_W jx_ShM d (some .boolean) jc_211 Q n 20 [some (.ref 0), some (.int x1)] [] σ by
      obtain ⟨n, hn⟩ := hh
      exact ⟨n + 4, And.intro (fun _ => hn) (fun zz => absurd zz c1)⟩
    cases h
    exact ⟨2, And.intro (Or.inl rfl) (And.intro hQ (And.intro rfl rfl))⟩
set_option maxRecDepth 20000 in
theorem s_M_step {N d : Nat} {x1 : Int32} {x2 : Int32} (hd : 1 ≤ d) {σ : jw_M} {z : jw_M} {Q : jw_Q} (h : f_M_step N x1 x2 σ = some z) (hQ : Q none (jx_ShM, z)) : jw_C jp_kd jp_ys d 212 [.ref 0, .int x1, .int x2] (jx_ShM, σ) Q := by
  obtain ⟨d, rfl⟩ : ∃ e, d = e + 1 := ⟨d - 1, by omega⟩
  replace hd : 0 ≤ d := by omega
  refine jx_C rfl rfl ?_
  unfold f_M_step at h
  cases c1 : jx_in (2 * (σ.1 0 16)) 400 with
  | false => rw [c1, cond_false] at h; cases h
  | true =>
    rw [c1, cond_true] at h
    cases c2 : jx_in ((2 * ((jx_w σ 8 ((2 * (σ.1 0 16))).toNatClampNeg x1).1 0 16)) + 1) 400 with
    | false => rw [c2, cond_false] at h; cases h
    | true =>
      rw [c2, cond_true] at h
      cases h
      exact ⟨25, And.intro (jx_in_ok c1) (And.intro (jx_in_ok c2) (And.intro hQ (And.intro rfl rfl)))⟩
set_option maxRecDepth 20000 in
theorem s_M_kindSeen {N d : Nat} (hd : 2 ≤ d) {σ : jw_M} {z : (Int32 × jw_M)} {Q : jw_Q} (h : f_M_kindSeen N  σ = some z) (hQ : Q (some (.int z.1)) (jx_ShM, z.2)) : jw_C jp_kd jp_ys d 213 [.ref 0] (jx_ShM, σ) Q := by
  obtain ⟨d, rfl⟩ : ∃ e, d = e + 1 := ⟨d - 1, by omega⟩
  replace hd : 1 ≤ d := by omega
  refine jx_C rfl rfl ?_
  unfold f_M_kindSeen at h
  obtain ⟨z1, h2, h⟩ := Option.bind_eq_some_iff.mp h
  by_cases c3 : z1.1 = 0
  · rw [if_pos c3] at h
    suffices hh : ∃ n, jx_W jx_ShM d (some .int) jc_213 Q n 14 [some (.ref 0)] [] z1.2 by
      obtain ⟨n, hn⟩ := hh
      exact ⟨n + 4, s_M_isWord (by omega) h2 (And.intro (fun _ => hn) (fun zz => absurd c3 zz))⟩
    obtain ⟨z4, h5, h⟩ := Option.bind_eq_some_iff.mp h
    by_cases c6 : z4.1 = 0
    · rw [if_pos c6] at h
      suffices hh : ∃ n, jx_W jx_ShM d (some .int) jc_213 Q n 28 [some (.ref 0)] [] z4.2 by
        obtain ⟨n, hn⟩ := hh
        exact ⟨n + 4, s_M_isWord (by omega) h5 (And.intro (fun _ => hn) (fun zz => absurd c6 zz))⟩
      obtain ⟨z7, h8, h⟩ := Option.bind_eq_some_iff.mp h
      by_cases c9 : z7.1 = 0
      · rw [if_pos c9] at h
        suffices hh : ∃ n, jx_W jx_ShM d (some .int) jc_213 Q n 42 [some (.ref 0)] [] z7.2 by
          obtain ⟨n, hn⟩ := hh
          exact ⟨n + 4, s_M_isWord (by omega) h8 (And.intro (fun _ => hn) (fun zz => absurd c9 zz))⟩
        obtain ⟨z10, h11, h⟩ := Option.bind_eq_some_iff.mp h
        by_cases c12 : z10.1 = 0
        · rw [if_pos c12] at h
          suffices hh : ∃ n, jx_W jx_ShM d (some .int) jc_213 Q n 56 [some (.ref 0)] [] z10.2 by
            obtain ⟨n, hn⟩ := hh
            exact ⟨n + 4, s_M_isWord (by omega) h11 (And.intro (fun _ => hn) (fun zz => absurd c12 zz))⟩
          obtain ⟨z13, h14, h⟩ := Option.bind_eq_some_iff.mp h
          by_cases c15 : z13.1 = 0
          · rw [if_pos c15] at h
            suffices hh : ∃ n, jx_W jx_ShM d (some .int) jc_213 Q n 70 [some (.ref 0)] [] z13.2 by
              obtain ⟨n, hn⟩ := hh
              exact ⟨n + 4, s_M_isWord (by omega) h14 (And.intro (fun _ => hn) (fun zz => absurd c15 zz))⟩
            obtain ⟨z16, h17, h⟩ := Option.bind_eq_some_iff.mp h
            by_cases c18 : z16.1 = 0
            · rw [if_pos c18] at h
              suffices hh : ∃ n, jx_W jx_ShM d (some .int) jc_213 Q n 84 [some (.ref 0)] [] z16.2 by
                obtain ⟨n, hn⟩ := hh
                exact ⟨n + 4, s_M_isWord (by omega) h17 (And.intro (fun _ => hn) (fun zz => absurd c18 zz))⟩
              cases h
              exact ⟨2, And.intro hQ (And.intro rfl rfl)⟩
            · rw [if_neg c18] at h
              suffices hh : ∃ n, jx_W jx_ShM d (some .int) jc_213 Q n 80 [some (.ref 0)] [] z16.2 by
                obtain ⟨n, hn⟩ := hh
                exact ⟨n + 4, s_M_isWord (by omega) h17 (And.intro (fun zz => absurd zz c18) (fun _ => hn))⟩
              cases h
              exact ⟨3, And.intro hQ (And.intro rfl rfl)⟩
          · rw [if_neg c15] at h
            suffices hh : ∃ n, jx_W jx_ShM d (some .int) jc_213 Q n 66 [some (.ref 0)] [] z13.2 by
              obtain ⟨n, hn⟩ := hh
              exact ⟨n + 4, s_M_isWord (by omega) h14 (And.intro (fun zz => absurd zz c15) (fun _ => hn))⟩
            cases h
            exact ⟨3, And.intro hQ (And.intro rfl rfl)⟩
        · rw [if_neg c12] at h
          suffices hh : ∃ n, jx_W jx_ShM d (some .int) jc_213 Q n 52 [some (.ref 0)] [] z10.2 by
            obtain ⟨n, hn⟩ := hh
            exact ⟨n + 4, s_M_isWord (by omega) h11 (And.intro (fun zz => absurd zz c12) (fun _ => hn))⟩
          cases h
          exact ⟨3, And.intro hQ (And.intro rfl rfl)⟩
      · rw [if_neg c9] at h
        suffices hh : ∃ n, jx_W jx_ShM d (some .int) jc_213 Q n 38 [some (.ref 0)] [] z7.2 by
          obtain ⟨n, hn⟩ := hh
          exact ⟨n + 4, s_M_isWord (by omega) h8 (And.intro (fun zz => absurd zz c9) (fun _ => hn))⟩
        cases h
        exact ⟨3, And.intro hQ (And.intro rfl rfl)⟩
    · rw [if_neg c6] at h
      suffices hh : ∃ n, jx_W jx_ShM d (some .int) jc_213 Q n 24 [some (.ref 0)] [] z4.2 by
        obtain ⟨n, hn⟩ := hh
        exact ⟨n + 4, s_M_isWord (by omega) h5 (And.intro (fun zz => absurd zz c6) (fun _ => hn))⟩
      cases h
      exact ⟨3, And.intro hQ (And.intro rfl rfl)⟩
  · rw [if_neg c3] at h
    suffices hh : ∃ n, jx_W jx_ShM d (some .int) jc_213 Q n 10 [some (.ref 0)] [] z1.2 by
      obtain ⟨n, hn⟩ := hh
      exact ⟨n + 4, s_M_isWord (by omega) h2 (And.intro (fun zz => absurd zz c3) (fun _ => hn))⟩
    cases h
    exact ⟨3, And.intro hQ (And.intro rfl rfl)⟩
set_option maxRecDepth 20000 in
theorem s_M_factSeen {N d : Nat} (hd : 2 ≤ d) {σ : jw_M} {z : (Int32 × jw_M)} {Q : jw_Q} (h : f_M_factSeen N  σ = some z) (hQ : Q (some (.int z.1)) (jx_ShM, z.2)) : jw_C jp_kd jp_ys d 214 [.ref 0] (jx_ShM, σ) Q := by
  obtain ⟨d, rfl⟩ : ∃ e, d = e + 1 := ⟨d - 1, by omega⟩
  replace hd : 1 ≤ d := by omega
  refine jx_C rfl rfl ?_
  unfold f_M_factSeen at h
  obtain ⟨z1, h2, h⟩ := Option.bind_eq_some_iff.mp h
  by_cases c3 : z1.1 = 0
  · rw [if_pos c3] at h
    suffices hh : ∃ n, jx_W jx_ShM d (some .int) jc_214 Q n 14 [some (.ref 0)] [] z1.2 by
      obtain ⟨n, hn⟩ := hh
      exact ⟨n + 4, s_M_isWord (by omega) h2 (And.intro (fun _ => hn) (fun zz => absurd c3 zz))⟩
    obtain ⟨z4, h5, h⟩ := Option.bind_eq_some_iff.mp h
    by_cases c6 : z4.1 = 0
    · rw [if_pos c6] at h
      suffices hh : ∃ n, jx_W jx_ShM d (some .int) jc_214 Q n 28 [some (.ref 0)] [] z4.2 by
        obtain ⟨n, hn⟩ := hh
        exact ⟨n + 4, s_M_isWord (by omega) h5 (And.intro (fun _ => hn) (fun zz => absurd c6 zz))⟩
      obtain ⟨z7, h8, h⟩ := Option.bind_eq_some_iff.mp h
      by_cases c9 : z7.1 = 0
      · rw [if_pos c9] at h
        suffices hh : ∃ n, jx_W jx_ShM d (some .int) jc_214 Q n 42 [some (.ref 0)] [] z7.2 by
          obtain ⟨n, hn⟩ := hh
          exact ⟨n + 4, s_M_isWord (by omega) h8 (And.intro (fun _ => hn) (fun zz => absurd c9 zz))⟩
        obtain ⟨z10, h11, h⟩ := Option.bind_eq_some_iff.mp h
        by_cases c12 : z10.1 = 0
        · rw [if_pos c12] at h
          suffices hh : ∃ n, jx_W jx_ShM d (some .int) jc_214 Q n 56 [some (.ref 0)] [] z10.2 by
            obtain ⟨n, hn⟩ := hh
            exact ⟨n + 4, s_M_isWord (by omega) h11 (And.intro (fun _ => hn) (fun zz => absurd c12 zz))⟩
          obtain ⟨z13, h14, h⟩ := Option.bind_eq_some_iff.mp h
          by_cases c15 : z13.1 = 0
          · rw [if_pos c15] at h
            suffices hh : ∃ n, jx_W jx_ShM d (some .int) jc_214 Q n 70 [some (.ref 0)] [] z13.2 by
              obtain ⟨n, hn⟩ := hh
              exact ⟨n + 4, s_M_isWord (by omega) h14 (And.intro (fun _ => hn) (fun zz => absurd c15 zz))⟩
            cases h
            exact ⟨2, And.intro hQ (And.intro rfl rfl)⟩
          · rw [if_neg c15] at h
            suffices hh : ∃ n, jx_W jx_ShM d (some .int) jc_214 Q n 66 [some (.ref 0)] [] z13.2 by
              obtain ⟨n, hn⟩ := hh
              exact ⟨n + 4, s_M_isWord (by omega) h14 (And.intro (fun zz => absurd zz c15) (fun _ => hn))⟩
            cases h
            exact ⟨3, And.intro hQ (And.intro rfl rfl)⟩
        · rw [if_neg c12] at h
          suffices hh : ∃ n, jx_W jx_ShM d (some .int) jc_214 Q n 52 [some (.ref 0)] [] z10.2 by
            obtain ⟨n, hn⟩ := hh
            exact ⟨n + 4, s_M_isWord (by omega) h11 (And.intro (fun zz => absurd zz c12) (fun _ => hn))⟩
          cases h
          exact ⟨3, And.intro hQ (And.intro rfl rfl)⟩
      · rw [if_neg c9] at h
        suffices hh : ∃ n, jx_W jx_ShM d (some .int) jc_214 Q n 38 [some (.ref 0)] [] z7.2 by
          obtain ⟨n, hn⟩ := hh
          exact ⟨n + 4, s_M_isWord (by omega) h8 (And.intro (fun zz => absurd zz c9) (fun _ => hn))⟩
        cases h
        exact ⟨3, And.intro hQ (And.intro rfl rfl)⟩
    · rw [if_neg c6] at h
      suffices hh : ∃ n, jx_W jx_ShM d (some .int) jc_214 Q n 24 [some (.ref 0)] [] z4.2 by
        obtain ⟨n, hn⟩ := hh
        exact ⟨n + 4, s_M_isWord (by omega) h5 (And.intro (fun zz => absurd zz c6) (fun _ => hn))⟩
      cases h
      exact ⟨3, And.intro hQ (And.intro rfl rfl)⟩
  · rw [if_neg c3] at h
    suffices hh : ∃ n, jx_W jx_ShM d (some .int) jc_214 Q n 10 [some (.ref 0)] [] z1.2 by
      obtain ⟨n, hn⟩ := hh
      exact ⟨n + 4, s_M_isWord (by omega) h2 (And.intro (fun zz => absurd zz c3) (fun _ => hn))⟩
    cases h
    exact ⟨3, And.intro hQ (And.intro rfl rfl)⟩
set_option maxRecDepth 20000 in
theorem s_M_readValue_69 {N d : Nat} {Q : jw_Q} (hd : 3 ≤ d) {y1 : Int32} {y2 : Int32} {u1 : Option Value} {σ : jw_M} {z : jw_M} (h : f_M_readValue_69 N y1 y2 σ = some z) (hQ : Q none (jx_ShM, z)) : ∃ n, jx_W jx_ShM d none jc_215 Q n 69 [some (.ref 0), u1] [.int y2, .int y1, .ref 0] σ := by
  unfold f_M_readValue_69 at h
  obtain ⟨z8, h9, h⟩ := Option.bind_eq_some_iff.mp h
  obtain ⟨z10, h11, h⟩ := Option.bind_eq_some_iff.mp h
  cases h
  exact ⟨4, s_M_step (by omega) h9 (s_M_advance (by omega) h11 (And.intro hQ (And.intro rfl rfl)))⟩
set_option maxRecDepth 20000 in
theorem s_M_readValue_57 {N d : Nat} {Q : jw_Q} (hd : 3 ≤ d) {x1 : Int32} {y1 : Int32} {σ : jw_M} {z : jw_M} (h : f_M_readValue_57 N x1 y1 σ = some z) (hQ : Q none (jx_ShM, z)) : ∃ n, jx_W jx_ShM d none jc_215 Q n 57 [some (.ref 0), some (.int x1)] [.int y1, .ref 0] σ := by
  unfold f_M_readValue_57 at h
  by_cases c7 : x1 < 0
  · rw [if_pos c7] at h
    suffices hh : ∃ n, jx_W jx_ShM d none jc_215 Q n 65 [some (.ref 0), some (.int x1)] [.int y1, .ref 0] σ by
      obtain ⟨n, hn⟩ := hh
      exact ⟨n + 2, And.intro (fun _ => hn) (fun zz => absurd c7 zz)⟩
    obtain ⟨n, hn⟩ := s_M_readValue_69 hd (u1 := some (.int x1)) h hQ
    exact ⟨n + 2, hn⟩
  · rw [if_neg c7] at h
    suffices hh : ∃ n, jx_W jx_ShM d none jc_215 Q n 61 [some (.ref 0), some (.int x1)] [.int y1, .ref 0] σ by
      obtain ⟨n, hn⟩ := hh
      exact ⟨n + 2, And.intro (fun zz => absurd zz c7) (fun _ => hn)⟩
    obtain ⟨n, hn⟩ := s_M_readValue_69 hd (u1 := some (.int x1)) h hQ
    exact ⟨n + 2, hn⟩
set_option maxRecDepth 20000 in
theorem s_M_readValue_37 {N d : Nat} {Q : jw_Q} (hd : 3 ≤ d) {x1 : Int32} {y1 : Int32} {σ : jw_M} {z : jw_M} (h : f_M_readValue_37 N x1 y1 σ = some z) (hQ : Q none (jx_ShM, z)) : ∃ n, jx_W jx_ShM d none jc_215 Q n 37 [some (.ref 0), some (.int x1)] [.int y1, .ref 0] σ := by
  unfold f_M_readValue_37 at h
  by_cases c4 : y1 = 0 ∨ y1 = 1
  · rw [if_pos c4] at h
    by_cases c5 : ((jx_w σ 0 13 y1).1 0 13) = 0
    · rw [if_pos c5] at h
      suffices hh : ∃ n, jx_W jx_ShM d none jc_215 Q n 76 [some (.ref 0), some (.int x1)] [] (jx_w σ 0 13 y1) by
        obtain ⟨n, hn⟩ := hh
        exact ⟨n + 4, And.intro c4 (And.intro (fun _ => hn) (fun zz => absurd c5 zz))⟩
      cases h
      exact ⟨1, And.intro hQ (And.intro rfl rfl)⟩
    · rw [if_neg c5] at h
      suffices hh : ∃ n, jx_W jx_ShM d none jc_215 Q n 47 [some (.ref 0), some (.int x1)] [] (jx_w σ 0 13 y1) by
        obtain ⟨n, hn⟩ := hh
        exact ⟨n + 4, And.intro c4 (And.intro (fun zz => absurd zz c5) (fun _ => hn))⟩
      by_cases c6 : x1 < 0
      · rw [if_pos c6] at h
        suffices hh : ∃ n, jx_W jx_ShM d none jc_215 Q n 56 [some (.ref 0), some (.int x1)] [.ref 0] (jx_w σ 0 13 y1) by
          obtain ⟨n, hn⟩ := hh
          exact ⟨n + 3, And.intro (fun _ => hn) (fun zz => absurd c6 zz)⟩
        obtain ⟨n, hn⟩ := s_M_readValue_57 hd h hQ
        exact ⟨n + 1, hn⟩
      · rw [if_neg c6] at h
        suffices hh : ∃ n, jx_W jx_ShM d none jc_215 Q n 52 [some (.ref 0), some (.int x1)] [.ref 0] (jx_w σ 0 13 y1) by
          obtain ⟨n, hn⟩ := hh
          exact ⟨n + 3, And.intro (fun zz => absurd zz c6) (fun _ => hn)⟩
        obtain ⟨n, hn⟩ := s_M_readValue_57 hd h hQ
        exact ⟨n + 2, hn⟩
  · rw [if_neg c4] at h
    cases h
set_option maxRecDepth 20000 in
theorem s_M_readValue_36 {N d : Nat} {Q : jw_Q} (hd : 3 ≤ d) {x1 : Int32} {σ : jw_M} {z : jw_M} (h : f_M_readValue_36 N x1 σ = some z) (hQ : Q none (jx_ShM, z)) : ∃ n, jx_W jx_ShM d none jc_215 Q n 36 [some (.ref 0), some (.int x1)] [.ref 0] σ := by
  unfold f_M_readValue_36 at h
  obtain ⟨n, hn⟩ := s_M_readValue_37 hd h hQ
  exact ⟨n + 1, hn⟩
set_option maxRecDepth 20000 in
theorem s_M_readValue_32 {N d : Nat} {Q : jw_Q} (hd : 3 ≤ d) {x1 : Int32} {σ : jw_M} {z : jw_M} (h : f_M_readValue_32 N x1 σ = some z) (hQ : Q none (jx_ShM, z)) : ∃ n, jx_W jx_ShM d none jc_215 Q n 32 [some (.ref 0), some (.int x1)] [.ref 0] σ := by
  unfold f_M_readValue_32 at h
  obtain ⟨n, hn⟩ := s_M_readValue_37 hd h hQ
  exact ⟨n + 2, hn⟩
set_option maxRecDepth 20000 in
theorem s_M_readValue {N d : Nat} (hd : 4 ≤ d) {σ : jw_M} {z : jw_M} {Q : jw_Q} (h : f_M_readValue N  σ = some z) (hQ : Q none (jx_ShM, z)) : jw_C jp_kd jp_ys d 215 [.ref 0] (jx_ShM, σ) Q := by
  obtain ⟨d, rfl⟩ : ∃ e, d = e + 1 := ⟨d - 1, by omega⟩
  replace hd : 3 ≤ d := by omega
  refine jx_C rfl rfl ?_
  unfold f_M_readValue at h
  obtain ⟨z1, h2, h⟩ := Option.bind_eq_some_iff.mp h
  by_cases c3 : (z1.2.1 0 13) = 0
  · rw [if_pos c3] at h
    suffices hh : ∃ n, jx_W jx_ShM d none jc_215 Q n 36 [some (.ref 0), some (.int z1.1)] [.ref 0] z1.2 by
      obtain ⟨n, hn⟩ := hh
      exact ⟨n + 7, s_M_factSeen (by omega) h2 (And.intro (fun _ => hn) (fun zz => absurd c3 zz))⟩
    obtain ⟨n, hn⟩ := s_M_readValue_36 hd h hQ
    exact ⟨n + 0, hn⟩
  · rw [if_neg c3] at h
    suffices hh : ∃ n, jx_W jx_ShM d none jc_215 Q n 13 [some (.ref 0), some (.int z1.1)] [.ref 0] z1.2 by
      obtain ⟨n, hn⟩ := hh
      exact ⟨n + 7, s_M_factSeen (by omega) h2 (And.intro (fun zz => absurd zz c3) (fun _ => hn))⟩
    by_cases c12 : 0 ≤ z1.1
    · rw [if_pos c12] at h
      suffices hh : ∃ n, jx_W jx_ShM d none jc_215 Q n 32 [some (.ref 0), some (.int z1.1)] [.ref 0] z1.2 by
        obtain ⟨n, hn⟩ := hh
        exact ⟨n + 2, And.intro (fun _ => hn) (fun zz => absurd c12 zz)⟩
      obtain ⟨n, hn⟩ := s_M_readValue_32 hd h hQ
      exact ⟨n + 0, hn⟩
    · rw [if_neg c12] at h
      suffices hh : ∃ n, jx_W jx_ShM d none jc_215 Q n 17 [some (.ref 0), some (.int z1.1)] [.ref 0] z1.2 by
        obtain ⟨n, hn⟩ := hh
        exact ⟨n + 2, And.intro (fun zz => absurd zz c12) (fun _ => hn)⟩
      by_cases c13 : (z1.2.1 0 8) = 2
      · rw [if_pos c13] at h
        suffices hh : ∃ n, jx_W jx_ShM d none jc_215 Q n 25 [some (.ref 0), some (.int z1.1)] [.ref 0] z1.2 by
          obtain ⟨n, hn⟩ := hh
          exact ⟨n + 4, And.intro (fun zz => absurd c13 zz) (fun _ => hn)⟩
        by_cases c14 : (z1.2.1 0 12) < 0
        · rw [if_pos c14] at h
          suffices hh : ∃ n, jx_W jx_ShM d none jc_215 Q n 36 [some (.ref 0), some (.int z1.1)] [.ref 0] z1.2 by
            obtain ⟨n, hn⟩ := hh
            exact ⟨n + 3, And.intro (fun _ => hn) (fun zz => absurd c14 zz)⟩
          obtain ⟨n, hn⟩ := s_M_readValue_36 hd h hQ
          exact ⟨n + 0, hn⟩
        · rw [if_neg c14] at h
          suffices hh : ∃ n, jx_W jx_ShM d none jc_215 Q n 32 [some (.ref 0), some (.int z1.1)] [.ref 0] z1.2 by
            obtain ⟨n, hn⟩ := hh
            exact ⟨n + 3, And.intro (fun zz => absurd zz c14) (fun _ => hn)⟩
          obtain ⟨n, hn⟩ := s_M_readValue_32 hd h hQ
          exact ⟨n + 0, hn⟩
      · rw [if_neg c13] at h
        suffices hh : ∃ n, jx_W jx_ShM d none jc_215 Q n 36 [some (.ref 0), some (.int z1.1)] [.ref 0] z1.2 by
          obtain ⟨n, hn⟩ := hh
          exact ⟨n + 4, And.intro (fun _ => hn) (fun zz => absurd zz c13)⟩
        obtain ⟨n, hn⟩ := s_M_readValue_36 hd h hQ
        exact ⟨n + 0, hn⟩
set_option maxRecDepth 20000 in
theorem s_M_readTest_63 {N d : Nat} {Q : jw_Q} (hd : 4 ≤ d) {x1 : Int32} {σ : jw_M} {z : jw_M} (h : f_M_readTest_63 N x1 σ = some z) (hQ : Q none (jx_ShM, z)) : ∃ n, jx_W jx_ShM d none jc_216 Q n 63 [some (.ref 0), some (.int x1)] [] σ := by
  unfold f_M_readTest_63 at h
  obtain ⟨z6, h7, h⟩ := Option.bind_eq_some_iff.mp h
  by_cases c8 : (z6.1 0 13) = 0
  · rw [if_pos c8] at h
    suffices hh : ∃ n, jx_W jx_ShM d none jc_216 Q n 80 [some (.ref 0), some (.int x1)] [] z6 by
      obtain ⟨n, hn⟩ := hh
      exact ⟨n + 5, s_M_readValue (by omega) h7 (And.intro (fun _ => hn) (fun zz => absurd c8 zz))⟩
    cases h
    exact ⟨1, And.intro hQ (And.intro rfl rfl)⟩
  · rw [if_neg c8] at h
    suffices hh : ∃ n, jx_W jx_ShM d none jc_216 Q n 74 [some (.ref 0), some (.int x1)] [] z6 by
      obtain ⟨n, hn⟩ := hh
      exact ⟨n + 5, s_M_readValue (by omega) h7 (And.intro (fun zz => absurd zz c8) (fun _ => hn))⟩
    obtain ⟨z9, h10, h⟩ := Option.bind_eq_some_iff.mp h
    cases h
    exact ⟨5, s_M_step (by omega) h10 (And.intro hQ (And.intro rfl rfl))⟩
set_option maxRecDepth 20000 in
theorem s_M_readTest_44 {N d : Nat} {Q : jw_Q} (hd : 4 ≤ d) {y1 : Int32} {u1 : Option Value} {σ : jw_M} {z : jw_M} (h : f_M_readTest_44 N y1 σ = some z) (hQ : Q none (jx_ShM, z)) : ∃ n, jx_W jx_ShM d none jc_216 Q n 44 [some (.ref 0), u1] [.int y1, .ref 0] σ := by
  unfold f_M_readTest_44 at h
  by_cases c4 : y1 = 0 ∨ y1 = 1
  · rw [if_pos c4] at h
    by_cases c5 : ((jx_w σ 0 13 y1).1 0 13) = 0
    · rw [if_pos c5] at h
      suffices hh : ∃ n, jx_W jx_ShM d none jc_216 Q n 63 [some (.ref 0), some (.int ((jx_w σ 0 13 y1).1 0 12))] [] (jx_w σ 0 13 y1) by
        obtain ⟨n, hn⟩ := hh
        exact ⟨n + 7, And.intro c4 (And.intro (fun _ => hn) (fun zz => absurd c5 zz))⟩
      obtain ⟨n, hn⟩ := s_M_readTest_63 hd h hQ
      exact ⟨n + 0, hn⟩
    · rw [if_neg c5] at h
      suffices hh : ∃ n, jx_W jx_ShM d none jc_216 Q n 59 [some (.ref 0), some (.int ((jx_w σ 0 13 y1).1 0 12))] [] (jx_w σ 0 13 y1) by
        obtain ⟨n, hn⟩ := hh
        exact ⟨n + 7, And.intro c4 (And.intro (fun zz => absurd zz c5) (fun _ => hn))⟩
      obtain ⟨z11, h12, h⟩ := Option.bind_eq_some_iff.mp h
      obtain ⟨n, hn⟩ := s_M_readTest_63 hd h hQ
      exact ⟨n + 2, s_M_advance (by omega) h12 (hn)⟩
  · rw [if_neg c4] at h
    cases h
set_option maxRecDepth 20000 in
theorem s_M_readTest_43 {N d : Nat} {Q : jw_Q} (hd : 4 ≤ d) {u1 : Option Value} {σ : jw_M} {z : jw_M} (h : f_M_readTest_43 N  σ = some z) (hQ : Q none (jx_ShM, z)) : ∃ n, jx_W jx_ShM d none jc_216 Q n 43 [some (.ref 0), u1] [.ref 0] σ := by
  unfold f_M_readTest_43 at h
  obtain ⟨n, hn⟩ := s_M_readTest_44 hd (u1 := u1) h hQ
  exact ⟨n + 1, hn⟩
set_option maxRecDepth 20000 in
theorem s_M_readTest_39 {N d : Nat} {Q : jw_Q} (hd : 4 ≤ d) {u1 : Option Value} {σ : jw_M} {z : jw_M} (h : f_M_readTest_39 N  σ = some z) (hQ : Q none (jx_ShM, z)) : ∃ n, jx_W jx_ShM d none jc_216 Q n 39 [some (.ref 0), u1] [.ref 0] σ := by
  unfold f_M_readTest_39 at h
  obtain ⟨n, hn⟩ := s_M_readTest_44 hd (u1 := u1) h hQ
  exact ⟨n + 2, hn⟩
set_option maxRecDepth 20000 in
theorem s_M_readTest {N d : Nat} (hd : 5 ≤ d) {σ : jw_M} {z : jw_M} {Q : jw_Q} (h : f_M_readTest N  σ = some z) (hQ : Q none (jx_ShM, z)) : jw_C jp_kd jp_ys d 216 [.ref 0] (jx_ShM, σ) Q := by
  obtain ⟨d, rfl⟩ : ∃ e, d = e + 1 := ⟨d - 1, by omega⟩
  replace hd : 4 ≤ d := by omega
  refine jx_C rfl rfl ?_
  unfold f_M_readTest at h
  obtain ⟨z1, h2, h⟩ := Option.bind_eq_some_iff.mp h
  by_cases c3 : (z1.1 0 13) = 0
  · rw [if_pos c3] at h
    suffices hh : ∃ n, jx_W jx_ShM d none jc_216 Q n 43 [some (.ref 0), none] [.ref 0] z1 by
      obtain ⟨n, hn⟩ := hh
      exact ⟨n + 6, s_M_readValue (by omega) h2 (And.intro (fun _ => hn) (fun zz => absurd c3 zz))⟩
    obtain ⟨n, hn⟩ := s_M_readTest_43 hd (u1 := none) h hQ
    exact ⟨n + 0, hn⟩
  · rw [if_neg c3] at h
    suffices hh : ∃ n, jx_W jx_ShM d none jc_216 Q n 12 [some (.ref 0), none] [.ref 0] z1 by
      obtain ⟨n, hn⟩ := hh
      exact ⟨n + 6, s_M_readValue (by omega) h2 (And.intro (fun zz => absurd zz c3) (fun _ => hn))⟩
    obtain ⟨z13, h14, h⟩ := Option.bind_eq_some_iff.mp h
    by_cases c15 : z13.1 = 0
    · rw [if_pos c15] at h
      suffices hh : ∃ n, jx_W jx_ShM d none jc_216 Q n 21 [some (.ref 0), none] [.ref 0] z13.2 by
        obtain ⟨n, hn⟩ := hh
        exact ⟨n + 4, s_M_isMark (by omega) h14 (And.intro (fun zz => absurd c15 zz) (fun _ => hn))⟩
      obtain ⟨z16, h17, h⟩ := Option.bind_eq_some_iff.mp h
      by_cases c18 : z16.1 = 0
      · rw [if_pos c18] at h
        suffices hh : ∃ n, jx_W jx_ShM d none jc_216 Q n 30 [some (.ref 0), none] [.ref 0] z16.2 by
          obtain ⟨n, hn⟩ := hh
          exact ⟨n + 4, s_M_isMark (by omega) h17 (And.intro (fun zz => absurd c18 zz) (fun _ => hn))⟩
        obtain ⟨z19, h20, h⟩ := Option.bind_eq_some_iff.mp h
        by_cases c21 : z19.1 = 0
        · rw [if_pos c21] at h
          suffices hh : ∃ n, jx_W jx_ShM d none jc_216 Q n 43 [some (.ref 0), none] [.ref 0] z19.2 by
            obtain ⟨n, hn⟩ := hh
            exact ⟨n + 4, s_M_isMark (by omega) h20 (And.intro (fun _ => hn) (fun zz => absurd c21 zz))⟩
          obtain ⟨n, hn⟩ := s_M_readTest_43 hd (u1 := none) h hQ
          exact ⟨n + 0, hn⟩
        · rw [if_neg c21] at h
          suffices hh : ∃ n, jx_W jx_ShM d none jc_216 Q n 39 [some (.ref 0), none] [.ref 0] z19.2 by
            obtain ⟨n, hn⟩ := hh
            exact ⟨n + 4, s_M_isMark (by omega) h20 (And.intro (fun zz => absurd zz c21) (fun _ => hn))⟩
          obtain ⟨n, hn⟩ := s_M_readTest_39 hd (u1 := none) h hQ
          exact ⟨n + 0, hn⟩
      · rw [if_neg c18] at h
        suffices hh : ∃ n, jx_W jx_ShM d none jc_216 Q n 39 [some (.ref 0), none] [.ref 0] z16.2 by
          obtain ⟨n, hn⟩ := hh
          exact ⟨n + 4, s_M_isMark (by omega) h17 (And.intro (fun _ => hn) (fun zz => absurd zz c18))⟩
        obtain ⟨n, hn⟩ := s_M_readTest_39 hd (u1 := none) h hQ
        exact ⟨n + 0, hn⟩
    · rw [if_neg c15] at h
      suffices hh : ∃ n, jx_W jx_ShM d none jc_216 Q n 39 [some (.ref 0), none] [.ref 0] z13.2 by
        obtain ⟨n, hn⟩ := hh
        exact ⟨n + 4, s_M_isMark (by omega) h14 (And.intro (fun _ => hn) (fun zz => absurd zz c15))⟩
      obtain ⟨n, hn⟩ := s_M_readTest_39 hd (u1 := none) h hQ
      exact ⟨n + 0, hn⟩
set_option maxRecDepth 20000 in
theorem s_M_readOne_140 {N d : Nat} {Dr : Nat} {Rec : jw_M → Option jw_M} {Q : jw_Q} (hRec : ∀ {d : Nat} {σ : jw_M} {z : jw_M} {Q : jw_Q}, Dr ≤ d → Rec  σ = some z → Q none (jx_ShM, z) → jw_C jp_kd jp_ys d 219 [.ref 0] (jx_ShM, σ) Q) (hd0 : 0 + Dr ≤ d) (hd : 5 ≤ d) {x1 : Int32} {σ : jw_M} {z : jw_M} (h : f_M_readOne_140 N Rec x1 σ = some z) (hQ : Q none (jx_ShM, z)) : ∃ n, jx_W jx_ShM d none jc_217 Q n 140 [some (.ref 0), some (.int x1)] [] σ := by
  unfold f_M_readOne_140 at h
  by_cases c5 : (σ.1 0 13) = 0
  · rw [if_pos c5] at h
    suffices hh : ∃ n, jx_W jx_ShM d none jc_217 Q n 160 [some (.ref 0), some (.int x1)] [] σ by
      obtain ⟨n, hn⟩ := hh
      exact ⟨n + 3, And.intro (fun _ => hn) (fun zz => absurd c5 zz)⟩
    cases h
    exact ⟨1, And.intro hQ (And.intro rfl rfl)⟩
  · rw [if_neg c5] at h
    suffices hh : ∃ n, jx_W jx_ShM d none jc_217 Q n 147 [some (.ref 0), some (.int x1)] [] σ by
      obtain ⟨n, hn⟩ := hh
      exact ⟨n + 3, And.intro (fun zz => absurd zz c5) (fun _ => hn)⟩
    by_cases c6 : (x1 - x1 / 2 * 2) = 1
    · rw [if_pos c6] at h
      suffices hh : ∃ n, jx_W jx_ShM d none jc_217 Q n 154 [some (.ref 0), some (.int x1)] [] σ by
        obtain ⟨n, hn⟩ := hh
        exact ⟨n + 5, And.intro (by decide) (And.intro (fun zz => absurd c6 zz) (fun _ => hn))⟩
      obtain ⟨z7, h8, h⟩ := Option.bind_eq_some_iff.mp h
      cases h
      exact ⟨5, s_M_step (by omega) h8 (And.intro hQ (And.intro rfl rfl))⟩
    · rw [if_neg c6] at h
      suffices hh : ∃ n, jx_W jx_ShM d none jc_217 Q n 160 [some (.ref 0), some (.int x1)] [] σ by
        obtain ⟨n, hn⟩ := hh
        exact ⟨n + 5, And.intro (by decide) (And.intro (fun _ => hn) (fun zz => absurd zz c6))⟩
      cases h
      exact ⟨1, And.intro hQ (And.intro rfl rfl)⟩
set_option maxRecDepth 20000 in
theorem s_M_readOne_136 {N d : Nat} {Dr : Nat} {Rec : jw_M → Option jw_M} {Q : jw_Q} (hRec : ∀ {d : Nat} {σ : jw_M} {z : jw_M} {Q : jw_Q}, Dr ≤ d → Rec  σ = some z → Q none (jx_ShM, z) → jw_C jp_kd jp_ys d 219 [.ref 0] (jx_ShM, σ) Q) (hd0 : 0 + Dr ≤ d) (hd : 5 ≤ d) {x1 : Int32} {σ : jw_M} {z : jw_M} (h : f_M_readOne_136 N Rec x1 σ = some z) (hQ : Q none (jx_ShM, z)) : ∃ n, jx_W jx_ShM d none jc_217 Q n 136 [some (.ref 0), some (.int x1)] [] σ := by
  unfold f_M_readOne_136 at h
  obtain ⟨z3, h4, h⟩ := Option.bind_eq_some_iff.mp h
  obtain ⟨n, hn⟩ := s_M_readOne_140 hRec hd0 hd h hQ
  exact ⟨n + 2, s_M_readTest (by omega) h4 (hn)⟩
set_option maxRecDepth 20000 in
theorem s_M_readOne_109 {N d : Nat} {Dr : Nat} {Rec : jw_M → Option jw_M} {Q : jw_Q} (hRec : ∀ {d : Nat} {σ : jw_M} {z : jw_M} {Q : jw_Q}, Dr ≤ d → Rec  σ = some z → Q none (jx_ShM, z) → jw_C jp_kd jp_ys d 219 [.ref 0] (jx_ShM, σ) Q) (hd0 : 0 + Dr ≤ d) (hd : 5 ≤ d) {x1 : Int32} {y1 : Int32} {σ : jw_M} {z : jw_M} (h : f_M_readOne_109 N Rec x1 y1 σ = some z) (hQ : Q none (jx_ShM, z)) : ∃ n, jx_W jx_ShM d none jc_217 Q n 109 [some (.ref 0), some (.int x1)] [.int y1, .ref 0] σ := by
  unfold f_M_readOne_109 at h
  by_cases c18 : y1 = 0 ∨ y1 = 1
  · rw [if_pos c18] at h
    by_cases c19 : ((jx_w σ 0 13 y1).1 0 13) = 0
    · rw [if_pos c19] at h
      suffices hh : ∃ n, jx_W jx_ShM d none jc_217 Q n 140 [some (.ref 0), some (.int x1)] [] (jx_w σ 0 13 y1) by
        obtain ⟨n, hn⟩ := hh
        exact ⟨n + 4, And.intro c18 (And.intro (fun _ => hn) (fun zz => absurd c19 zz))⟩
      obtain ⟨n, hn⟩ := s_M_readOne_140 hRec hd0 hd h hQ
      exact ⟨n + 0, hn⟩
    · rw [if_neg c19] at h
      suffices hh : ∃ n, jx_W jx_ShM d none jc_217 Q n 119 [some (.ref 0), some (.int x1)] [] (jx_w σ 0 13 y1) by
        obtain ⟨n, hn⟩ := hh
        exact ⟨n + 4, And.intro c18 (And.intro (fun zz => absurd zz c19) (fun _ => hn))⟩
      obtain ⟨z20, h21, h⟩ := Option.bind_eq_some_iff.mp h
      obtain ⟨n, hn⟩ := s_M_readOne_140 hRec hd0 hd h hQ
      exact ⟨n + 9, s_M_advance (by omega) h21 (hn)⟩
  · rw [if_neg c18] at h
    cases h
set_option maxRecDepth 20000 in
theorem s_M_readOne_108 {N d : Nat} {Dr : Nat} {Rec : jw_M → Option jw_M} {Q : jw_Q} (hRec : ∀ {d : Nat} {σ : jw_M} {z : jw_M} {Q : jw_Q}, Dr ≤ d → Rec  σ = some z → Q none (jx_ShM, z) → jw_C jp_kd jp_ys d 219 [.ref 0] (jx_ShM, σ) Q) (hd0 : 0 + Dr ≤ d) (hd : 5 ≤ d) {x1 : Int32} {σ : jw_M} {z : jw_M} (h : f_M_readOne_108 N Rec x1 σ = some z) (hQ : Q none (jx_ShM, z)) : ∃ n, jx_W jx_ShM d none jc_217 Q n 108 [some (.ref 0), some (.int x1)] [.ref 0] σ := by
  unfold f_M_readOne_108 at h
  obtain ⟨n, hn⟩ := s_M_readOne_109 hRec hd0 hd h hQ
  exact ⟨n + 1, hn⟩
set_option maxRecDepth 20000 in
theorem s_M_readOne_83 {N d : Nat} {Dr : Nat} {Rec : jw_M → Option jw_M} {Q : jw_Q} (hRec : ∀ {d : Nat} {σ : jw_M} {z : jw_M} {Q : jw_Q}, Dr ≤ d → Rec  σ = some z → Q none (jx_ShM, z) → jw_C jp_kd jp_ys d 219 [.ref 0] (jx_ShM, σ) Q) (hd0 : 0 + Dr ≤ d) (hd : 5 ≤ d) {x1 : Int32} {σ : jw_M} {z : jw_M} (h : f_M_readOne_83 N Rec x1 σ = some z) (hQ : Q none (jx_ShM, z)) : ∃ n, jx_W jx_ShM d none jc_217 Q n 83 [some (.ref 0), some (.int x1)] [] σ := by
  unfold f_M_readOne_83 at h
  obtain ⟨z15, h16, h⟩ := Option.bind_eq_some_iff.mp h
  by_cases c17 : (z15.1 0 13) = 0
  · rw [if_pos c17] at h
    suffices hh : ∃ n, jx_W jx_ShM d none jc_217 Q n 108 [some (.ref 0), some (.int x1)] [.ref 0] z15 by
      obtain ⟨n, hn⟩ := hh
      exact ⟨n + 6, hRec (by omega) h16 (And.intro (fun _ => hn) (fun zz => absurd c17 zz))⟩
    obtain ⟨n, hn⟩ := s_M_readOne_108 hRec hd0 hd h hQ
    exact ⟨n + 0, hn⟩
  · rw [if_neg c17] at h
    suffices hh : ∃ n, jx_W jx_ShM d none jc_217 Q n 95 [some (.ref 0), some (.int x1)] [.ref 0] z15 by
      obtain ⟨n, hn⟩ := hh
      exact ⟨n + 6, hRec (by omega) h16 (And.intro (fun zz => absurd zz c17) (fun _ => hn))⟩
    obtain ⟨z22, h23, h⟩ := Option.bind_eq_some_iff.mp h
    by_cases c24 : z22.1 = 0
    · rw [if_pos c24] at h
      suffices hh : ∃ n, jx_W jx_ShM d none jc_217 Q n 108 [some (.ref 0), some (.int x1)] [.ref 0] z22.2 by
        obtain ⟨n, hn⟩ := hh
        exact ⟨n + 4, s_M_isMark (by omega) h23 (And.intro (fun _ => hn) (fun zz => absurd c24 zz))⟩
      obtain ⟨n, hn⟩ := s_M_readOne_108 hRec hd0 hd h hQ
      exact ⟨n + 0, hn⟩
    · rw [if_neg c24] at h
      suffices hh : ∃ n, jx_W jx_ShM d none jc_217 Q n 104 [some (.ref 0), some (.int x1)] [.ref 0] z22.2 by
        obtain ⟨n, hn⟩ := hh
        exact ⟨n + 4, s_M_isMark (by omega) h23 (And.intro (fun zz => absurd zz c24) (fun _ => hn))⟩
      obtain ⟨n, hn⟩ := s_M_readOne_109 hRec hd0 hd h hQ
      exact ⟨n + 2, hn⟩
set_option maxRecDepth 20000 in
theorem s_M_readOne_59 {N d : Nat} {Dr : Nat} {Rec : jw_M → Option jw_M} {Q : jw_Q} (hRec : ∀ {d : Nat} {σ : jw_M} {z : jw_M} {Q : jw_Q}, Dr ≤ d → Rec  σ = some z → Q none (jx_ShM, z) → jw_C jp_kd jp_ys d 219 [.ref 0] (jx_ShM, σ) Q) (hd0 : 0 + Dr ≤ d) (hd : 5 ≤ d) {x1 : Int32} {y1 : Int32} {σ : jw_M} {z : jw_M} (h : f_M_readOne_59 N Rec x1 y1 σ = some z) (hQ : Q none (jx_ShM, z)) : ∃ n, jx_W jx_ShM d none jc_217 Q n 59 [some (.ref 0), some (.int x1)] [.int y1, .ref 0] σ := by
  unfold f_M_readOne_59 at h
  by_cases c13 : y1 = 0 ∨ y1 = 1
  · rw [if_pos c13] at h
    by_cases c14 : ((jx_w σ 0 13 y1).1 0 13) = 0
    · rw [if_pos c14] at h
      suffices hh : ∃ n, jx_W jx_ShM d none jc_217 Q n 83 [some (.ref 0), some (.int x1)] [] (jx_w σ 0 13 y1) by
        obtain ⟨n, hn⟩ := hh
        exact ⟨n + 4, And.intro c13 (And.intro (fun _ => hn) (fun zz => absurd c14 zz))⟩
      obtain ⟨n, hn⟩ := s_M_readOne_83 hRec hd0 hd h hQ
      exact ⟨n + 0, hn⟩
    · rw [if_neg c14] at h
      suffices hh : ∃ n, jx_W jx_ShM d none jc_217 Q n 69 [some (.ref 0), some (.int x1)] [] (jx_w σ 0 13 y1) by
        obtain ⟨n, hn⟩ := hh
        exact ⟨n + 4, And.intro c13 (And.intro (fun zz => absurd zz c14) (fun _ => hn))⟩
      obtain ⟨z25, h26, h⟩ := Option.bind_eq_some_iff.mp h
      obtain ⟨n, hn⟩ := s_M_readOne_83 hRec hd0 hd h hQ
      exact ⟨n + 8, s_M_advance (by omega) h26 (hn)⟩
  · rw [if_neg c13] at h
    cases h
set_option maxRecDepth 20000 in
theorem s_M_readOne_29 {N d : Nat} {Dr : Nat} {Rec : jw_M → Option jw_M} {Q : jw_Q} (hRec : ∀ {d : Nat} {σ : jw_M} {z : jw_M} {Q : jw_Q}, Dr ≤ d → Rec  σ = some z → Q none (jx_ShM, z) → jw_C jp_kd jp_ys d 219 [.ref 0] (jx_ShM, σ) Q) (hd0 : 0 + Dr ≤ d) (hd : 5 ≤ d) {x1 : Int32} {σ : jw_M} {z : jw_M} (h : f_M_readOne_29 N Rec x1 σ = some z) (hQ : Q none (jx_ShM, z)) : ∃ n, jx_W jx_ShM d none jc_217 Q n 29 [some (.ref 0), some (.int x1)] [] σ := by
  unfold f_M_readOne_29 at h
  by_cases c2 : (σ.1 0 13) = 0
  · rw [if_pos c2] at h
    suffices hh : ∃ n, jx_W jx_ShM d none jc_217 Q n 136 [some (.ref 0), some (.int x1)] [] σ by
      obtain ⟨n, hn⟩ := hh
      exact ⟨n + 3, And.intro (fun _ => hn) (fun zz => absurd c2 zz)⟩
    obtain ⟨n, hn⟩ := s_M_readOne_136 hRec hd0 hd h hQ
    exact ⟨n + 0, hn⟩
  · rw [if_neg c2] at h
    suffices hh : ∃ n, jx_W jx_ShM d none jc_217 Q n 36 [some (.ref 0), some (.int x1)] [] σ by
      obtain ⟨n, hn⟩ := hh
      exact ⟨n + 3, And.intro (fun zz => absurd zz c2) (fun _ => hn)⟩
    obtain ⟨z9, h10, h⟩ := Option.bind_eq_some_iff.mp h
    by_cases c11 : z9.1 = 0
    · rw [if_pos c11] at h
      suffices hh : ∃ n, jx_W jx_ShM d none jc_217 Q n 136 [some (.ref 0), some (.int x1)] [] z9.2 by
        obtain ⟨n, hn⟩ := hh
        exact ⟨n + 4, s_M_isMark (by omega) h10 (And.intro (fun _ => hn) (fun zz => absurd c11 zz))⟩
      obtain ⟨n, hn⟩ := s_M_readOne_136 hRec hd0 hd h hQ
      exact ⟨n + 0, hn⟩
    · rw [if_neg c11] at h
      suffices hh : ∃ n, jx_W jx_ShM d none jc_217 Q n 45 [some (.ref 0), some (.int x1)] [] z9.2 by
        obtain ⟨n, hn⟩ := hh
        exact ⟨n + 4, s_M_isMark (by omega) h10 (And.intro (fun zz => absurd zz c11) (fun _ => hn))⟩
      by_cases c12 : 3 ≤ (z9.2.1 0 17)
      · rw [if_pos c12] at h
        suffices hh : ∃ n, jx_W jx_ShM d none jc_217 Q n 58 [some (.ref 0), some (.int x1)] [.ref 0] z9.2 by
          obtain ⟨n, hn⟩ := hh
          exact ⟨n + 5, And.intro (fun _ => hn) (fun zz => absurd c12 zz)⟩
        obtain ⟨n, hn⟩ := s_M_readOne_59 hRec hd0 hd h hQ
        exact ⟨n + 1, hn⟩
      · rw [if_neg c12] at h
        suffices hh : ∃ n, jx_W jx_ShM d none jc_217 Q n 54 [some (.ref 0), some (.int x1)] [.ref 0] z9.2 by
          obtain ⟨n, hn⟩ := hh
          exact ⟨n + 5, And.intro (fun zz => absurd zz c12) (fun _ => hn)⟩
        obtain ⟨n, hn⟩ := s_M_readOne_59 hRec hd0 hd h hQ
        exact ⟨n + 2, hn⟩
set_option maxRecDepth 20000 in
theorem s_M_readOne_2 {N d : Nat} {Dr : Nat} {Rec : jw_M → Option jw_M} {Q : jw_Q} (hRec : ∀ {d : Nat} {σ : jw_M} {z : jw_M} {Q : jw_Q}, Dr ≤ d → Rec  σ = some z → Q none (jx_ShM, z) → jw_C jp_kd jp_ys d 219 [.ref 0] (jx_ShM, σ) Q) (hd0 : 0 + Dr ≤ d) (hd : 5 ≤ d) : ∀ (k : Nat) {x1 : Int32} {σ : jw_M} {z : jw_M}, f_M_readOne_2 N Rec k x1 σ = some z → Q none (jx_ShM, z) → ∃ n, jx_W jx_ShM d none jc_217 Q n 2 [some (.ref 0), some (.int x1)] [] σ
  | 0, _, _, _, h, _ => by cases h
  | k + 1, x1, σ, z, h, hQ => by
    rw [f_M_readOne_2] at h
    by_cases c1 : (σ.1 0 13) = 0
    · rw [if_pos c1] at h
      suffices hh : ∃ n, jx_W jx_ShM d none jc_217 Q n 29 [some (.ref 0), some (.int x1)] [] σ by
        obtain ⟨n, hn⟩ := hh
        exact ⟨n + 3, And.intro (fun _ => hn) (fun zz => absurd c1 zz)⟩
      obtain ⟨n, hn⟩ := s_M_readOne_29 hRec hd0 hd h hQ
      exact ⟨n + 0, hn⟩
    · rw [if_neg c1] at h
      suffices hh : ∃ n, jx_W jx_ShM d none jc_217 Q n 9 [some (.ref 0), some (.int x1)] [] σ by
        obtain ⟨n, hn⟩ := hh
        exact ⟨n + 3, And.intro (fun zz => absurd zz c1) (fun _ => hn)⟩
      obtain ⟨z27, h28, h⟩ := Option.bind_eq_some_iff.mp h
      by_cases c29 : z27.1 = 0
      · rw [if_pos c29] at h
        suffices hh : ∃ n, jx_W jx_ShM d none jc_217 Q n 29 [some (.ref 0), some (.int x1)] [] z27.2 by
          obtain ⟨n, hn⟩ := hh
          exact ⟨n + 4, s_M_isWord (by omega) h28 (And.intro (fun _ => hn) (fun zz => absurd c29 zz))⟩
        obtain ⟨n, hn⟩ := s_M_readOne_29 hRec hd0 hd h hQ
        exact ⟨n + 0, hn⟩
      · rw [if_neg c29] at h
        suffices hh : ∃ n, jx_W jx_ShM d none jc_217 Q n 19 [some (.ref 0), some (.int x1)] [] z27.2 by
          obtain ⟨n, hn⟩ := hh
          exact ⟨n + 4, s_M_isWord (by omega) h28 (And.intro (fun zz => absurd zz c29) (fun _ => hn))⟩
        obtain ⟨z30, h31, h⟩ := Option.bind_eq_some_iff.mp h
        obtain ⟨n, hn⟩ := s_M_readOne_2 hRec hd0 hd k h hQ
        exact ⟨n + 4, s_M_advance (by omega) h31 (hn)⟩
set_option maxRecDepth 20000 in
theorem s_M_readOne {N d : Nat} {Dr : Nat} {Rec : jw_M → Option jw_M} (hRec : ∀ {d : Nat} {σ : jw_M} {z : jw_M} {Q : jw_Q}, Dr ≤ d → Rec  σ = some z → Q none (jx_ShM, z) → jw_C jp_kd jp_ys d 219 [.ref 0] (jx_ShM, σ) Q) (hd0 : 1 + Dr ≤ d) (hd : 6 ≤ d) {σ : jw_M} {z : jw_M} {Q : jw_Q} (h : f_M_readOne N Rec  σ = some z) (hQ : Q none (jx_ShM, z)) : jw_C jp_kd jp_ys d 217 [.ref 0] (jx_ShM, σ) Q := by
  obtain ⟨d, rfl⟩ : ∃ e, d = e + 1 := ⟨d - 1, by omega⟩
  replace hd0 : 0 + Dr ≤ d := by omega
  replace hd : 5 ≤ d := by omega
  refine jx_C rfl rfl ?_
  unfold f_M_readOne at h
  obtain ⟨n, hn⟩ := s_M_readOne_2 hRec hd0 hd N h hQ
  exact ⟨n + 2, hn⟩
