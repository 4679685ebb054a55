set_option maxRecDepth 20000 in
theorem s_F_remake {N d : Nat} {x1 : Int32} {x2 : Int32} (hd : 2 ≤ d) {σ : jw_M} {z : (Int32 × jw_M)} {Q : jw_Q} (h : f_F_remake N x1 x2 σ = some z) (hQ : Q (some (.int z.1)) (jx_ShC, z.2)) : jw_C jp_kd jp_ys d 113 [.ref 0, .int x1, .int x2] (jx_ShC, σ) Q := by
  obtain ⟨d, rfl⟩ : ∃ e, d = e + 1 := ⟨d - 1, by omega⟩
  replace hd : 1 ≤ d := by omega
  refine jx_C rfl rfl ?_
  unfold f_F_remake at h
  obtain ⟨z1, h2, h⟩ := Option.bind_eq_some_iff.mp h
  by_cases c3 : z1.1 = 0
  · rw [if_pos c3] at h
    suffices hh : ∃ n, jx_W jx_ShC d (some .int) jc_113 Q n 20 [some (.ref 0), some (.int x1), some (.int x2), none] [] z1.2 by
      obtain ⟨n, hn⟩ := hh
      exact ⟨n + 5, s_S_isShadow (by omega) h2 (And.intro (fun _ => hn) (fun zz => absurd c3 zz))⟩
    cases h
    exact ⟨2, And.intro hQ (And.intro rfl rfl)⟩
  · rw [if_neg c3] at h
    suffices hh : ∃ n, jx_W jx_ShC d (some .int) jc_113 Q n 11 [some (.ref 0), some (.int x1), some (.int x2), none] [] z1.2 by
      obtain ⟨n, hn⟩ := hh
      exact ⟨n + 5, s_S_isShadow (by omega) h2 (And.intro (fun zz => absurd zz c3) (fun _ => hn))⟩
    obtain ⟨z4, h5, h⟩ := Option.bind_eq_some_iff.mp h
    by_cases c6 : z4.1 = 0
    · rw [if_pos c6] at h
      suffices hh : ∃ n, jx_W jx_ShC d (some .int) jc_113 Q n 20 [some (.ref 0), some (.int x1), some (.int x2), none] [] z4.2 by
        obtain ⟨n, hn⟩ := hh
        exact ⟨n + 5, s_F_isWithin (by omega) h5 (And.intro (fun zz => absurd c6 zz) (fun _ => hn))⟩
      cases h
      exact ⟨2, And.intro hQ (And.intro rfl rfl)⟩
    · rw [if_neg c6] at h
      suffices hh : ∃ n, jx_W jx_ShC d (some .int) jc_113 Q n 22 [some (.ref 0), some (.int x1), some (.int x2), none] [] z4.2 by
        obtain ⟨n, hn⟩ := hh
        exact ⟨n + 5, s_F_isWithin (by omega) h5 (And.intro (fun _ => hn) (fun zz => absurd zz c6))⟩
      cases c7 : jx_in x1 6 with
      | false => rw [c7, cond_false] at h; cases h
      | true =>
        rw [c7, cond_true] at h
        cases h
        exact ⟨14, And.intro (jx_in_ok c7) (And.intro (jx_in_ok c7) (And.intro hQ (And.intro rfl rfl)))⟩
set_option maxRecDepth 20000 in
theorem s_F_lesson {N d : Nat} {x1 : Int32} {x2 : Int32} {x3 : Int32} {x4 : Int32} {x5 : Int32} (hd : 2 ≤ d) {σ : jw_M} {z : (Int32 × jw_M)} {Q : jw_Q} (h : f_F_lesson N x1 x2 x3 x4 x5 σ = some z) (hQ : Q (some (.int z.1)) (jx_ShC, z.2)) : jw_C jp_kd jp_ys d 114 [.ref 0, .int x1, .int x2, .int x3, .int x4, .int x5] (jx_ShC, σ) Q := by
  obtain ⟨d, rfl⟩ : ∃ e, d = e + 1 := ⟨d - 1, by omega⟩
  replace hd : 1 ≤ d := by omega
  refine jx_C rfl rfl ?_
  unfold f_F_lesson at h
  obtain ⟨z1, h2, h⟩ := Option.bind_eq_some_iff.mp h
  by_cases c3 : z1.1 = 0
  · rw [if_pos c3] at h
    suffices hh : ∃ n, jx_W jx_ShC d (some .int) jc_114 Q n 59 [some (.ref 0), some (.int x1), some (.int x2), some (.int x3), some (.int x4), some (.int x5)] [] z1.2 by
      obtain ⟨n, hn⟩ := hh
      exact ⟨n + 5, s_F_isWithin (by omega) h2 (And.intro (fun _ => hn) (fun zz => absurd c3 zz))⟩
    cases h
    exact ⟨2, And.intro hQ (And.intro rfl rfl)⟩
  · rw [if_neg c3] at h
    suffices hh : ∃ n, jx_W jx_ShC d (some .int) jc_114 Q n 10 [some (.ref 0), some (.int x1), some (.int x2), some (.int x3), some (.int x4), some (.int x5)] [] z1.2 by
      obtain ⟨n, hn⟩ := hh
      exact ⟨n + 5, s_F_isWithin (by omega) h2 (And.intro (fun zz => absurd zz c3) (fun _ => hn))⟩
    obtain ⟨z4, h5, h⟩ := Option.bind_eq_some_iff.mp h
    by_cases c6 : z4.1 = 0
    · rw [if_pos c6] at h
      suffices hh : ∃ n, jx_W jx_ShC d (some .int) jc_114 Q n 59 [some (.ref 0), some (.int x1), some (.int x2), some (.int x3), some (.int x4), some (.int x5)] [] z4.2 by
        obtain ⟨n, hn⟩ := hh
        exact ⟨n + 9, s_F_isWithin (by omega) h5 (And.intro (fun _ => hn) (fun zz => absurd c6 zz))⟩
      cases h
      exact ⟨2, And.intro hQ (And.intro rfl rfl)⟩
    · rw [if_neg c6] at h
      suffices hh : ∃ n, jx_W jx_ShC d (some .int) jc_114 Q n 27 [some (.ref 0), some (.int x1), some (.int x2), some (.int x3), some (.int x4), some (.int x5)] [] z4.2 by
        obtain ⟨n, hn⟩ := hh
        exact ⟨n + 9, s_F_isWithin (by omega) h5 (And.intro (fun zz => absurd zz c6) (fun _ => hn))⟩
      obtain ⟨z7, h8, h⟩ := Option.bind_eq_some_iff.mp h
      by_cases c9 : z7.1 = 0
      · rw [if_pos c9] at h
        suffices hh : ∃ n, jx_W jx_ShC d (some .int) jc_114 Q n 59 [some (.ref 0), some (.int x1), some (.int x2), some (.int x3), some (.int x4), some (.int x5)] [] z7.2 by
          obtain ⟨n, hn⟩ := hh
          exact ⟨n + 5, s_F_isWithin (by omega) h8 (And.intro (fun _ => hn) (fun zz => absurd c9 zz))⟩
        cases h
        exact ⟨2, And.intro hQ (And.intro rfl rfl)⟩
      · rw [if_neg c9] at h
        suffices hh : ∃ n, jx_W jx_ShC d (some .int) jc_114 Q n 37 [some (.ref 0), some (.int x1), some (.int x2), some (.int x3), some (.int x4), some (.int x5)] [] z7.2 by
          obtain ⟨n, hn⟩ := hh
          exact ⟨n + 5, s_F_isWithin (by omega) h8 (And.intro (fun zz => absurd zz c9) (fun _ => hn))⟩
        obtain ⟨z10, h11, h⟩ := Option.bind_eq_some_iff.mp h
        by_cases c12 : z10.1 = 0
        · rw [if_pos c12] at h
          suffices hh : ∃ n, jx_W jx_ShC d (some .int) jc_114 Q n 59 [some (.ref 0), some (.int x1), some (.int x2), some (.int x3), some (.int x4), some (.int x5)] [] z10.2 by
            obtain ⟨n, hn⟩ := hh
            exact ⟨n + 5, s_F_isWithin (by omega) h11 (And.intro (fun _ => hn) (fun zz => absurd c12 zz))⟩
          cases h
          exact ⟨2, And.intro hQ (And.intro rfl rfl)⟩
        · rw [if_neg c12] at h
          suffices hh : ∃ n, jx_W jx_ShC d (some .int) jc_114 Q n 48 [some (.ref 0), some (.int x1), some (.int x2), some (.int x3), some (.int x4), some (.int x5)] [] z10.2 by
            obtain ⟨n, hn⟩ := hh
            exact ⟨n + 5, s_F_isWithin (by omega) h11 (And.intro (fun zz => absurd zz c12) (fun _ => hn))⟩
          obtain ⟨z13, h14, h⟩ := Option.bind_eq_some_iff.mp h
          by_cases c15 : z13.1 = 0
          · rw [if_pos c15] at h
            suffices hh : ∃ n, jx_W jx_ShC d (some .int) jc_114 Q n 59 [some (.ref 0), some (.int x1), some (.int x2), some (.int x3), some (.int x4), some (.int x5)] [] z13.2 by
              obtain ⟨n, hn⟩ := hh
              exact ⟨n + 5, s_F_isWithin (by omega) h14 (And.intro (fun zz => absurd c15 zz) (fun _ => hn))⟩
            cases h
            exact ⟨2, And.intro hQ (And.intro rfl rfl)⟩
          · rw [if_neg c15] at h
            suffices hh : ∃ n, jx_W jx_ShC d (some .int) jc_114 Q n 61 [some (.ref 0), some (.int x1), some (.int x2), some (.int x3), some (.int x4), some (.int x5)] [] z13.2 by
              obtain ⟨n, hn⟩ := hh
              exact ⟨n + 5, s_F_isWithin (by omega) h14 (And.intro (fun _ => hn) (fun zz => absurd zz c15))⟩
            by_cases c16 : (z13.2.1 1 5) < 8
            · rw [if_pos c16] at h
              suffices hh : ∃ n, jx_W jx_ShC d (some .int) jc_114 Q n 78 [some (.ref 0), some (.int x1), some (.int x2), some (.int x3), some (.int x4), some (.int x5)] [] z13.2 by
                obtain ⟨n, hn⟩ := hh
                exact ⟨n + 5, And.intro (fun _ => hn) (fun zz => absurd c16 zz)⟩
              obtain ⟨z17, h18, h⟩ := Option.bind_eq_some_iff.mp h
              cases h
              exact ⟨9, s_S_addLesson (by omega) h18 (And.intro hQ (And.intro rfl rfl))⟩
            · rw [if_neg c16] at h
              suffices hh : ∃ n, jx_W jx_ShC d (some .int) jc_114 Q n 73 [some (.ref 0), some (.int x1), some (.int x2), some (.int x3), some (.int x4), some (.int x5)] [] z13.2 by
                obtain ⟨n, hn⟩ := hh
                exact ⟨n + 5, And.intro (fun zz => absurd zz c16) (fun _ => hn)⟩
              cases h
              exact ⟨3, And.intro hQ (And.intro rfl rfl)⟩
set_option maxRecDepth 20000 in
theorem s_F_lessonOf {N d : Nat} {x1 : Int32} {x2 : Int32} (hd : 2 ≤ d) {σ : jw_M} {z : (Int32 × jw_M)} {Q : jw_Q} (h : f_F_lessonOf N x1 x2 σ = some z) (hQ : Q (some (.int z.1)) (jx_ShC, z.2)) : jw_C jp_kd jp_ys d 115 [.ref 0, .int x1, .int x2] (jx_ShC, σ) Q := by
  obtain ⟨d, rfl⟩ : ∃ e, d = e + 1 := ⟨d - 1, by omega⟩
  replace hd : 1 ≤ d := by omega
  refine jx_C rfl rfl ?_
  unfold f_F_lessonOf at h
  obtain ⟨z1, h2, h⟩ := Option.bind_eq_some_iff.mp h
  by_cases c3 : z1.1 = 0
  · rw [if_pos c3] at h
    suffices hh : ∃ n, jx_W jx_ShC d (some .int) jc_115 Q n 11 [some (.ref 0), some (.int x1), some (.int x2)] [] z1.2 by
      obtain ⟨n, hn⟩ := hh
      exact ⟨n + 5, s_S_isLesson (by omega) h2 (And.intro (fun zz => absurd c3 zz) (fun _ => hn))⟩
    cases h
    exact ⟨2, And.intro hQ (And.intro rfl rfl)⟩
  · rw [if_neg c3] at h
    suffices hh : ∃ n, jx_W jx_ShC d (some .int) jc_115 Q n 13 [some (.ref 0), some (.int x1), some (.int x2)] [] z1.2 by
      obtain ⟨n, hn⟩ := hh
      exact ⟨n + 5, s_S_isLesson (by omega) h2 (And.intro (fun _ => hn) (fun zz => absurd zz c3))⟩
    by_cases c16 : x2 = 0
    · rw [if_pos c16] at h
      suffices hh : ∃ n, jx_W jx_ShC d (some .int) jc_115 Q n 52 [some (.ref 0), some (.int x1), some (.int x2)] [] z1.2 by
        obtain ⟨n, hn⟩ := hh
        exact ⟨n + 2, And.intro (fun _ => hn) (fun zz => absurd c16 zz)⟩
      cases c4 : jx_in x1 8 with
      | false => rw [c4, cond_false] at h; cases h
      | true =>
        rw [c4, cond_true] at h
        cases h
        exact ⟨6, And.intro (jx_in_ok c4) (And.intro hQ (And.intro rfl rfl))⟩
    · rw [if_neg c16] at h
      by_cases c15 : x2 = 1
      · rw [if_pos c15] at h
        suffices hh : ∃ n, jx_W jx_ShC d (some .int) jc_115 Q n 62 [some (.ref 0), some (.int x1), some (.int x2)] [] z1.2 by
          obtain ⟨n, hn⟩ := hh
          exact ⟨n + 2, And.intro (fun zz => absurd zz c16) (fun _ => And.intro (fun _ => hn) (fun zz => absurd c15 zz))⟩
        cases c5 : jx_in x1 8 with
        | false => rw [c5, cond_false] at h; cases h
        | true =>
          rw [c5, cond_true] at h
          cases h
          exact ⟨6, And.intro (jx_in_ok c5) (And.intro hQ (And.intro rfl rfl))⟩
      · rw [if_neg c15] at h
        by_cases c14 : x2 = 2
        · rw [if_pos c14] at h
          suffices hh : ∃ n, jx_W jx_ShC d (some .int) jc_115 Q n 72 [some (.ref 0), some (.int x1), some (.int x2)] [] z1.2 by
            obtain ⟨n, hn⟩ := hh
            exact ⟨n + 2, And.intro (fun zz => absurd zz c16) (fun _ => And.intro (fun zz => absurd zz c15) (fun _ => And.intro (fun _ => hn) (fun zz => absurd c14 zz)))⟩
          cases c6 : jx_in x1 8 with
          | false => rw [c6, cond_false] at h; cases h
          | true =>
            rw [c6, cond_true] at h
            cases h
            exact ⟨6, And.intro (jx_in_ok c6) (And.intro hQ (And.intro rfl rfl))⟩
        · rw [if_neg c14] at h
          by_cases c13 : x2 = 3
          · rw [if_pos c13] at h
            suffices hh : ∃ n, jx_W jx_ShC d (some .int) jc_115 Q n 82 [some (.ref 0), some (.int x1), some (.int x2)] [] z1.2 by
              obtain ⟨n, hn⟩ := hh
              exact ⟨n + 2, And.intro (fun zz => absurd zz c16) (fun _ => And.intro (fun zz => absurd zz c15) (fun _ => And.intro (fun zz => absurd zz c14) (fun _ => And.intro (fun _ => hn) (fun zz => absurd c13 zz))))⟩
            cases c7 : jx_in x1 8 with
            | false => rw [c7, cond_false] at h; cases h
            | true =>
              rw [c7, cond_true] at h
              cases h
              exact ⟨6, And.intro (jx_in_ok c7) (And.intro hQ (And.intro rfl rfl))⟩
          · rw [if_neg c13] at h
            by_cases c12 : x2 = 4
            · rw [if_pos c12] at h
              suffices hh : ∃ n, jx_W jx_ShC d (some .int) jc_115 Q n 92 [some (.ref 0), some (.int x1), some (.int x2)] [] z1.2 by
                obtain ⟨n, hn⟩ := hh
                exact ⟨n + 2, And.intro (fun zz => absurd zz c16) (fun _ => And.intro (fun zz => absurd zz c15) (fun _ => And.intro (fun zz => absurd zz c14) (fun _ => And.intro (fun zz => absurd zz c13) (fun _ => And.intro (fun _ => hn) (fun zz => absurd c12 zz)))))⟩
              cases c8 : jx_in x1 8 with
              | false => rw [c8, cond_false] at h; cases h
              | true =>
                rw [c8, cond_true] at h
                cases h
                exact ⟨6, And.intro (jx_in_ok c8) (And.intro hQ (And.intro rfl rfl))⟩
            · rw [if_neg c12] at h
              by_cases c11 : x2 = 5
              · rw [if_pos c11] at h
                suffices hh : ∃ n, jx_W jx_ShC d (some .int) jc_115 Q n 102 [some (.ref 0), some (.int x1), some (.int x2)] [] z1.2 by
                  obtain ⟨n, hn⟩ := hh
                  exact ⟨n + 2, And.intro (fun zz => absurd zz c16) (fun _ => And.intro (fun zz => absurd zz c15) (fun _ => And.intro (fun zz => absurd zz c14) (fun _ => And.intro (fun zz => absurd zz c13) (fun _ => And.intro (fun zz => absurd zz c12) (fun _ => And.intro (fun _ => hn) (fun zz => absurd c11 zz))))))⟩
                obtain ⟨z9, h10, h⟩ := Option.bind_eq_some_iff.mp h
                cases h
                exact ⟨6, s_P_howManyLearnt (by omega) h10 (And.intro hQ (And.intro rfl rfl))⟩
              · rw [if_neg c11] at h
                cases h
                exact ⟨4, And.intro (fun zz => absurd zz c16) (fun _ => And.intro (fun zz => absurd zz c15) (fun _ => And.intro (fun zz => absurd zz c14) (fun _ => And.intro (fun zz => absurd zz c13) (fun _ => And.intro (fun zz => absurd zz c12) (fun _ => And.intro (fun zz => absurd zz c11) (fun _ => And.intro hQ (And.intro rfl rfl)))))))⟩
set_option maxRecDepth 20000 in
theorem s_F_points {N d : Nat} {x1 : Int32} {x2 : Int32} (hd : 2 ≤ d) {σ : jw_M} {z : (Int32 × jw_M)} {Q : jw_Q} (h : f_F_points N x1 x2 σ = some z) (hQ : Q (some (.int z.1)) (jx_ShC, z.2)) : jw_C jp_kd jp_ys d 116 [.ref 0, .int x1, .int x2] (jx_ShC, σ) Q := by
  obtain ⟨d, rfl⟩ : ∃ e, d = e + 1 := ⟨d - 1, by omega⟩
  replace hd : 1 ≤ d := by omega
  refine jx_C rfl rfl ?_
  unfold f_F_points at h
  obtain ⟨z1, h2, h⟩ := Option.bind_eq_some_iff.mp h
  by_cases c3 : z1.1 = 0
  · rw [if_pos c3] at h
    suffices hh : ∃ n, jx_W jx_ShC d (some .int) jc_116 Q n 42 [some (.ref 0), some (.int x1), some (.int x2)] [] z1.2 by
      obtain ⟨n, hn⟩ := hh
      exact ⟨n + 5, s_S_isShadow (by omega) h2 (And.intro (fun _ => hn) (fun zz => absurd c3 zz))⟩
    cases h
    exact ⟨2, And.intro hQ (And.intro rfl rfl)⟩
  · rw [if_neg c3] at h
    suffices hh : ∃ n, jx_W jx_ShC d (some .int) jc_116 Q n 11 [some (.ref 0), some (.int x1), some (.int x2)] [] z1.2 by
      obtain ⟨n, hn⟩ := hh
      exact ⟨n + 5, s_S_isShadow (by omega) h2 (And.intro (fun zz => absurd zz c3) (fun _ => hn))⟩
    obtain ⟨z4, h5, h⟩ := Option.bind_eq_some_iff.mp h
    by_cases c6 : z4.1 = 0
    · rw [if_pos c6] at h
      suffices hh : ∃ n, jx_W jx_ShC d (some .int) jc_116 Q n 42 [some (.ref 0), some (.int x1), some (.int x2)] [] z4.2 by
        obtain ⟨n, hn⟩ := hh
        exact ⟨n + 5, s_S_isLesson (by omega) h5 (And.intro (fun _ => hn) (fun zz => absurd c6 zz))⟩
      cases h
      exact ⟨2, And.intro hQ (And.intro rfl rfl)⟩
    · rw [if_neg c6] at h
      suffices hh : ∃ n, jx_W jx_ShC d (some .int) jc_116 Q n 22 [some (.ref 0), some (.int x1), some (.int x2)] [] z4.2 by
        obtain ⟨n, hn⟩ := hh
        exact ⟨n + 5, s_S_isLesson (by omega) h5 (And.intro (fun zz => absurd zz c6) (fun _ => hn))⟩
      cases c7 : jx_in ((x1 * 8) + x2) 48 with
      | false => rw [c7, cond_false] at h; cases h
      | true =>
        rw [c7, cond_true] at h
        cases h
        exact ⟨12, And.intro (jx_in_ok c7) (And.intro hQ (And.intro rfl rfl))⟩
set_option maxRecDepth 20000 in
theorem s_F_dusk {N d : Nat} {x1 : Int32} (hd : 2 ≤ d) {σ : jw_M} {z : (Int32 × jw_M)} {Q : jw_Q} (h : f_F_dusk N x1 σ = some z) (hQ : Q (some (.int z.1)) (jx_ShC, z.2)) : jw_C jp_kd jp_ys d 117 [.ref 0, .int x1] (jx_ShC, σ) Q := by
  obtain ⟨d, rfl⟩ : ∃ e, d = e + 1 := ⟨d - 1, by omega⟩
  replace hd : 1 ≤ d := by omega
  refine jx_C rfl rfl ?_
  unfold f_F_dusk at h
  obtain ⟨z1, h2, h⟩ := Option.bind_eq_some_iff.mp h
  by_cases c3 : z1.1 = 0
  · rw [if_pos c3] at h
    suffices hh : ∃ n, jx_W jx_ShC d (some .int) jc_117 Q n 10 [some (.ref 0), some (.int x1), none] [] z1.2 by
      obtain ⟨n, hn⟩ := hh
      exact ⟨n + 5, s_F_isWithin (by omega) h2 (And.intro (fun zz => absurd c3 zz) (fun _ => hn))⟩
    cases h
    exact ⟨2, And.intro hQ (And.intro rfl rfl)⟩
  · rw [if_neg c3] at h
    suffices hh : ∃ n, jx_W jx_ShC d (some .int) jc_117 Q n 12 [some (.ref 0), some (.int x1), none] [] z1.2 by
      obtain ⟨n, hn⟩ := hh
      exact ⟨n + 5, s_F_isWithin (by omega) h2 (And.intro (fun _ => hn) (fun zz => absurd zz c3))⟩
    by_cases c4 : (z1.2.1 27 0) ≤ x1
    · rw [if_pos c4] at h
      suffices hh : ∃ n, jx_W jx_ShC d (some .int) jc_117 Q n 29 [some (.ref 0), some (.int x1), none] [] z1.2 by
        obtain ⟨n, hn⟩ := hh
        exact ⟨n + 6, And.intro (fun _ => hn) (fun zz => absurd c4 zz)⟩
      cases h
      exact ⟨10, And.intro hQ (And.intro rfl rfl)⟩
    · rw [if_neg c4] at h
      suffices hh : ∃ n, jx_W jx_ShC d (some .int) jc_117 Q n 26 [some (.ref 0), some (.int x1), none] [] z1.2 by
        obtain ⟨n, hn⟩ := hh
        exact ⟨n + 6, And.intro (fun zz => absurd zz c4) (fun _ => hn)⟩
      cases h
      exact ⟨2, And.intro hQ (And.intro rfl rfl)⟩
set_option maxRecDepth 20000 in
theorem s_F_anew {N d : Nat} (hd : 4 ≤ d) {σ : jw_M} {z : (Int32 × jw_M)} {Q : jw_Q} (h : f_F_anew N  σ = some z) (hQ : Q (some (.int z.1)) (jx_ShC, z.2)) : jw_C jp_kd jp_ys d 118 [.ref 0] (jx_ShC, σ) Q := by
  obtain ⟨d, rfl⟩ : ∃ e, d = e + 1 := ⟨d - 1, by omega⟩
  replace hd : 3 ≤ d := by omega
  refine jx_C rfl rfl ?_
  unfold f_F_anew at h
  obtain ⟨z1, h2, h⟩ := Option.bind_eq_some_iff.mp h
  cases h
  exact ⟨11, s_P_clear (by omega) h2 (And.intro hQ (And.intro rfl rfl))⟩
set_option maxRecDepth 20000 in
theorem s_F_state {N d : Nat} {x1 : Int32} (hd : 2 ≤ d) {σ : jw_M} {z : (Int32 × jw_M)} {Q : jw_Q} (h : f_F_state N x1 σ = some z) (hQ : Q (some (.int z.1)) (jx_ShC, z.2)) : jw_C jp_kd jp_ys d 119 [.ref 0, .int x1] (jx_ShC, σ) Q := by
  obtain ⟨d, rfl⟩ : ∃ e, d = e + 1 := ⟨d - 1, by omega⟩
  replace hd : 1 ≤ d := by omega
  refine jx_C rfl rfl ?_
  unfold f_F_state at h
  by_cases c7 : x1 = 0
  · rw [if_pos c7] at h
    suffices hh : ∃ n, jx_W jx_ShC d (some .int) jc_119 Q n 32 [some (.ref 0), some (.int x1)] [] σ by
      obtain ⟨n, hn⟩ := hh
      exact ⟨n + 2, And.intro (fun _ => hn) (fun zz => absurd c7 zz)⟩
    cases h
    exact ⟨5, And.intro hQ (And.intro rfl rfl)⟩
  · rw [if_neg c7] at h
    by_cases c6 : x1 = 1
    · rw [if_pos c6] at h
      suffices hh : ∃ n, jx_W jx_ShC d (some .int) jc_119 Q n 43 [some (.ref 0), some (.int x1)] [] σ by
        obtain ⟨n, hn⟩ := hh
        exact ⟨n + 2, And.intro (fun zz => absurd zz c7) (fun _ => And.intro (fun _ => hn) (fun zz => absurd c6 zz))⟩
      cases h
      exact ⟨4, And.intro hQ (And.intro rfl rfl)⟩
    · rw [if_neg c6] at h
      by_cases c5 : x1 = 2
      · rw [if_pos c5] at h
        suffices hh : ∃ n, jx_W jx_ShC d (some .int) jc_119 Q n 51 [some (.ref 0), some (.int x1)] [] σ by
          obtain ⟨n, hn⟩ := hh
          exact ⟨n + 2, And.intro (fun zz => absurd zz c7) (fun _ => And.intro (fun zz => absurd zz c6) (fun _ => And.intro (fun _ => hn) (fun zz => absurd c5 zz)))⟩
        cases h
        exact ⟨5, And.intro hQ (And.intro rfl rfl)⟩
      · rw [if_neg c5] at h
        by_cases c4 : x1 = 3
        · rw [if_pos c4] at h
          suffices hh : ∃ n, jx_W jx_ShC d (some .int) jc_119 Q n 62 [some (.ref 0), some (.int x1)] [] σ by
            obtain ⟨n, hn⟩ := hh
            exact ⟨n + 2, And.intro (fun zz => absurd zz c7) (fun _ => And.intro (fun zz => absurd zz c6) (fun _ => And.intro (fun zz => absurd zz c5) (fun _ => And.intro (fun _ => hn) (fun zz => absurd c4 zz))))⟩
          obtain ⟨z1, h2, h⟩ := Option.bind_eq_some_iff.mp h
          by_cases c3 : z1.1 = 0
          · rw [if_pos c3] at h
            suffices hh : ∃ n, jx_W jx_ShC d (some .int) jc_119 Q n 83 [some (.ref 0), some (.int x1)] [] z1.2 by
              obtain ⟨n, hn⟩ := hh
              exact ⟨n + 7, s_S_isOver (by omega) (by decide) h2 (And.intro (fun _ => hn) (fun zz => absurd c3 zz))⟩
            cases h
            exact ⟨2, And.intro hQ (And.intro rfl rfl)⟩
          · rw [if_neg c3] at h
            suffices hh : ∃ n, jx_W jx_ShC d (some .int) jc_119 Q n 79 [some (.ref 0), some (.int x1)] [] z1.2 by
              obtain ⟨n, hn⟩ := hh
              exact ⟨n + 7, s_S_isOver (by omega) (by decide) h2 (And.intro (fun zz => absurd zz c3) (fun _ => hn))⟩
            cases h
            exact ⟨3, And.intro hQ (And.intro rfl rfl)⟩
        · rw [if_neg c4] at h
          cases h
          exact ⟨4, And.intro (fun zz => absurd zz c7) (fun _ => And.intro (fun zz => absurd zz c6) (fun _ => And.intro (fun zz => absurd zz c5) (fun _ => And.intro (fun zz => absurd zz c4) (fun _ => And.intro hQ (And.intro rfl rfl)))))⟩
set_option maxRecDepth 20000 in
theorem s_F_feed {N d : Nat} {x1 : Int64} {x3 : Int32} (hd : 2 ≤ d) {σ : jw_M} {z : (Int32 × jw_M)} {Q : jw_Q} (h : f_F_feed N x1 x3 σ = some z) (hQ : Q (some (.int z.1)) (jx_ShC, z.2)) : jw_C jp_kd jp_ys d 120 [.ref 0, .long x1, .int x3] (jx_ShC, σ) Q := by
  obtain ⟨d, rfl⟩ : ∃ e, d = e + 1 := ⟨d - 1, by omega⟩
  replace hd : 1 ≤ d := by omega
  refine jx_C rfl rfl ?_
  unfold f_F_feed at h
  obtain ⟨z1, h2, h⟩ := Option.bind_eq_some_iff.mp h
  by_cases c3 : z1.1 = 0
  · rw [if_pos c3] at h
    suffices hh : ∃ n, jx_W jx_ShC d (some .int) jc_120 Q n 10 [some (.ref 0), some (.long x1), none, some (.int x3)] [] z1.2 by
      obtain ⟨n, hn⟩ := hh
      exact ⟨n + 5, s_F_isWithin (by omega) h2 (And.intro (fun zz => absurd c3 zz) (fun _ => hn))⟩
    cases h
    exact ⟨2, And.intro hQ (And.intro rfl rfl)⟩
  · rw [if_neg c3] at h
    suffices hh : ∃ n, jx_W jx_ShC d (some .int) jc_120 Q n 12 [some (.ref 0), some (.long x1), none, some (.int x3)] [] z1.2 by
      obtain ⟨n, hn⟩ := hh
      exact ⟨n + 5, s_F_isWithin (by omega) h2 (And.intro (fun _ => hn) (fun zz => absurd zz c3))⟩
    by_cases c4 : ((z1.2.1 80 0) + x3) ≤ 200
    · rw [if_pos c4] at h
      suffices hh : ∃ n, jx_W jx_ShC d (some .int) jc_120 Q n 32 [some (.ref 0), some (.long x1), none, some (.int x3)] [] z1.2 by
        obtain ⟨n, hn⟩ := hh
        exact ⟨n + 7, And.intro (fun _ => hn) (fun zz => absurd c4 zz)⟩
      obtain ⟨z5, h6, h⟩ := Option.bind_eq_some_iff.mp h
      cases h
      exact ⟨6, s_D_take (by omega) h6 (And.intro hQ (And.intro rfl rfl))⟩
    · rw [if_neg c4] at h
      suffices hh : ∃ n, jx_W jx_ShC d (some .int) jc_120 Q n 27 [some (.ref 0), some (.long x1), none, some (.int x3)] [] z1.2 by
        obtain ⟨n, hn⟩ := hh
        exact ⟨n + 7, And.intro (fun zz => absurd zz c4) (fun _ => hn)⟩
      cases h
      exact ⟨3, And.intro hQ (And.intro rfl rfl)⟩
set_option maxRecDepth 20000 in
theorem s_F_rules {N d : Nat} (hd : 200 ≤ d) {σ : jw_M} {z : (Int32 × jw_M)} {Q : jw_Q} (h : f_F_rules N  σ = some z) (hQ : Q (some (.int z.1)) (jx_ShC, z.2)) : jw_C jp_kd jp_ys d 121 [.ref 0] (jx_ShC, σ) Q := by
  obtain ⟨d, rfl⟩ : ∃ e, d = e + 1 := ⟨d - 1, by omega⟩
  replace hd : 199 ≤ d := by omega
  refine jx_C rfl rfl ?_
  unfold f_F_rules at h
  obtain ⟨z1, h2, h⟩ := Option.bind_eq_some_iff.mp h
  by_cases c3 : z1.1 < 0
  · rw [if_pos c3] at h
    suffices hh : ∃ n, jx_W jx_ShC d (some .int) jc_121 Q n 29 [some (.ref 0), some (.int z1.1)] [] z1.2 by
      obtain ⟨n, hn⟩ := hh
      exact ⟨n + 6, s_D_readAll (by omega) h2 (And.intro (fun _ => hn) (fun zz => absurd c3 zz))⟩
    cases h
    exact ⟨2, And.intro hQ (And.intro rfl rfl)⟩
  · rw [if_neg c3] at h
    suffices hh : ∃ n, jx_W jx_ShC d (some .int) jc_121 Q n 12 [some (.ref 0), some (.int z1.1)] [] z1.2 by
      obtain ⟨n, hn⟩ := hh
      exact ⟨n + 6, s_D_readAll (by omega) h2 (And.intro (fun zz => absurd zz c3) (fun _ => hn))⟩
    obtain ⟨z4, h5, h⟩ := Option.bind_eq_some_iff.mp h
    cases h
    exact ⟨9, s_R_copyFrom (by omega) (by decide) h5 (And.intro hQ (And.intro rfl rfl))⟩
set_option maxRecDepth 20000 in
theorem s_F_hour {N d : Nat} (hd : 6 ≤ d) {σ : jw_M} {z : (Int32 × jw_M)} {Q : jw_Q} (h : f_F_hour N  σ = some z) (hQ : Q (some (.int z.1)) (jx_ShC, z.2)) : jw_C jp_kd jp_ys d 122 [.ref 0] (jx_ShC, σ) Q := by
  obtain ⟨d, rfl⟩ : ∃ e, d = e + 1 := ⟨d - 1, by omega⟩
  replace hd : 5 ≤ d := by omega
  refine jx_C rfl rfl ?_
  unfold f_F_hour at h
  obtain ⟨z1, h2, h⟩ := Option.bind_eq_some_iff.mp h
  by_cases c3 : z1.1 = 0
  · rw [if_pos c3] at h
    suffices hh : ∃ n, jx_W jx_ShC d (some .int) jc_122 Q n 22 [some (.ref 0)] [] z1.2 by
      obtain ⟨n, hn⟩ := hh
      exact ⟨n + 7, s_S_isOver (by omega) (by decide) h2 (And.intro (fun _ => hn) (fun zz => absurd c3 zz))⟩
    obtain ⟨z4, h5, h⟩ := Option.bind_eq_some_iff.mp h
    cases h
    exact ⟨8, s_S_goBy (by omega) (by decide) h5 (And.intro hQ (And.intro rfl rfl))⟩
  · rw [if_neg c3] at h
    suffices hh : ∃ n, jx_W jx_ShC d (some .int) jc_122 Q n 17 [some (.ref 0)] [] z1.2 by
      obtain ⟨n, hn⟩ := hh
      exact ⟨n + 7, s_S_isOver (by omega) (by decide) h2 (And.intro (fun zz => absurd zz c3) (fun _ => hn))⟩
    cases h
    exact ⟨3, And.intro hQ (And.intro rfl rfl)⟩
set_option maxRecDepth 20000 in
theorem s_F_learnt {N d : Nat} {x1 : Int32} (hd : 2 ≤ d) {σ : jw_M} {z : (Int32 × jw_M)} {Q : jw_Q} (h : f_F_learnt N x1 σ = some z) (hQ : Q (some (.int z.1)) (jx_ShC, z.2)) : jw_C jp_kd jp_ys d 123 [.ref 0, .int x1] (jx_ShC, σ) Q := by
  obtain ⟨d, rfl⟩ : ∃ e, d = e + 1 := ⟨d - 1, by omega⟩
  replace hd : 1 ≤ d := by omega
  refine jx_C rfl rfl ?_
  unfold f_F_learnt at h
  obtain ⟨z1, h2, h⟩ := Option.bind_eq_some_iff.mp h
  by_cases c3 : z1.1 = 0
  · rw [if_pos c3] at h
    suffices hh : ∃ n, jx_W jx_ShC d (some .int) jc_123 Q n 26 [some (.ref 0), some (.int x1)] [] z1.2 by
      obtain ⟨n, hn⟩ := hh
      exact ⟨n + 5, s_S_isShadow (by omega) h2 (And.intro (fun _ => hn) (fun zz => absurd c3 zz))⟩
    cases h
    exact ⟨2, And.intro hQ (And.intro rfl rfl)⟩
  · rw [if_neg c3] at h
    suffices hh : ∃ n, jx_W jx_ShC d (some .int) jc_123 Q n 11 [some (.ref 0), some (.int x1)] [] z1.2 by
      obtain ⟨n, hn⟩ := hh
      exact ⟨n + 5, s_S_isShadow (by omega) h2 (And.intro (fun zz => absurd zz c3) (fun _ => hn))⟩
    cases c4 : jx_in x1 6 with
    | false => rw [c4, cond_false] at h; cases h
    | true =>
      rw [c4, cond_true] at h
      cases h
      exact ⟨8, And.intro (jx_in_ok c4) (And.intro hQ (And.intro rfl rfl))⟩
set_option maxRecDepth 20000 in
theorem s_F_worthOfRest_18 {N d : Nat} {Q : jw_Q} (hd : 5 ≤ d) : ∀ (k : Nat) {x1 : Int32} {x2 : Int32} {x3 : Int32} {σ : jw_M} {z : (Int32 × jw_M)}, f_F_worthOfRest_18 N k x1 x2 x3 σ = some z → Q (some (.int z.1)) (jx_ShC, z.2) → ∃ n, jx_W jx_ShC d (some .int) jc_131 Q n 18 [some (.ref 0), some (.int x1), some (.int x2), some (.int x3)] [] σ
  | 0, _, _, _, _, _, h, _ => by cases h
  | k + 1, x1, x2, x3, σ, z, h, hQ => by
    rw [f_F_worthOfRest_18] at h
    by_cases c3 : x1 ≤ x3
    · rw [if_pos c3] at h
      suffices hh : ∃ n, jx_W jx_ShC d (some .int) jc_131 Q n 58 [some (.ref 0), some (.int x1), some (.int x2), some (.int x3)] [] σ by
        obtain ⟨n, hn⟩ := hh
        exact ⟨n + 3, And.intro (fun _ => hn) (fun zz => absurd c3 zz)⟩
      cases h
      exact ⟨2, And.intro hQ (And.intro rfl rfl)⟩
    · rw [if_neg c3] at h
      suffices hh : ∃ n, jx_W jx_ShC d (some .int) jc_131 Q n 23 [some (.ref 0), some (.int x1), some (.int x2), some (.int x3)] [] σ by
        obtain ⟨n, hn⟩ := hh
        exact ⟨n + 3, And.intro (fun zz => absurd zz c3) (fun _ => hn)⟩
      obtain ⟨z4, h5, h⟩ := Option.bind_eq_some_iff.mp h
      by_cases c6 : z4.1 = 0
      · rw [if_pos c6] at h
        suffices hh : ∃ n, jx_W jx_ShC d (some .int) jc_131 Q n 37 [some (.ref 0), some (.int x1), some (.int x2), some (.int x3)] [] z4.2 by
          obtain ⟨n, hn⟩ := hh
          exact ⟨n + 6, s_S_isOver (by omega) (by decide) h5 (And.intro (fun zz => absurd c6 zz) (fun _ => hn))⟩
        obtain ⟨z7, h8, h⟩ := Option.bind_eq_some_iff.mp h
        obtain ⟨n, hn⟩ := s_F_worthOfRest_18 hd k h hQ
        exact ⟨n + 11, s_S_goBy (by omega) (by decide) h8 (hn)⟩
      · rw [if_neg c6] at h
        suffices hh : ∃ n, jx_W jx_ShC d (some .int) jc_131 Q n 58 [some (.ref 0), some (.int x1), some (.int x2), some (.int x3)] [] z4.2 by
          obtain ⟨n, hn⟩ := hh
          exact ⟨n + 6, s_S_isOver (by omega) (by decide) h5 (And.intro (fun _ => hn) (fun zz => absurd zz c6))⟩
        cases h
        exact ⟨2, And.intro hQ (And.intro rfl rfl)⟩
set_option maxRecDepth 20000 in
theorem s_F_worthOfRest {N d : Nat} {x1 : Int32} (hd : 6 ≤ d) {σ : jw_M} {z : (Int32 × jw_M)} {Q : jw_Q} (h : f_F_worthOfRest N x1 σ = some z) (hQ : Q (some (.int z.1)) (jx_ShC, z.2)) : jw_C jp_kd jp_ys d 131 [.ref 0, .int x1] (jx_ShC, σ) Q := by
  obtain ⟨d, rfl⟩ : ∃ e, d = e + 1 := ⟨d - 1, by omega⟩
  replace hd : 5 ≤ d := by omega
  refine jx_C rfl rfl ?_
  unfold f_F_worthOfRest at h
  obtain ⟨z1, h2, h⟩ := Option.bind_eq_some_iff.mp h
  obtain ⟨n, hn⟩ := s_F_worthOfRest_18 hd N h hQ
  exact ⟨n + 10, s_P_copyFrom (by omega) (by decide) h2 (hn)⟩
set_option maxRecDepth 20000 in
theorem s_F_on {N d : Nat} {x1 : Int32} (hd : 7 ≤ d) {σ : jw_M} {z : (Int32 × jw_M)} {Q : jw_Q} (h : f_F_on N x1 σ = some z) (hQ : Q (some (.int z.1)) (jx_ShC, z.2)) : jw_C jp_kd jp_ys d 124 [.ref 0, .int x1] (jx_ShC, σ) Q := by
  obtain ⟨d, rfl⟩ : ∃ e, d = e + 1 := ⟨d - 1, by omega⟩
  replace hd : 6 ≤ d := by omega
  refine jx_C rfl rfl ?_
  unfold f_F_on at h
  obtain ⟨z1, h2, h⟩ := Option.bind_eq_some_iff.mp h
  by_cases c3 : z1.1 = 0
  · rw [if_pos c3] at h
    suffices hh : ∃ n, jx_W jx_ShC d (some .int) jc_124 Q n 18 [some (.ref 0), some (.int x1)] [] z1.2 by
      obtain ⟨n, hn⟩ := hh
      exact ⟨n + 5, s_F_isWithin (by omega) h2 (And.intro (fun _ => hn) (fun zz => absurd c3 zz))⟩
    cases h
    exact ⟨2, And.intro hQ (And.intro rfl rfl)⟩
  · rw [if_neg c3] at h
    suffices hh : ∃ n, jx_W jx_ShC d (some .int) jc_124 Q n 10 [some (.ref 0), some (.int x1)] [] z1.2 by
      obtain ⟨n, hn⟩ := hh
      exact ⟨n + 5, s_F_isWithin (by omega) h2 (And.intro (fun zz => absurd zz c3) (fun _ => hn))⟩
    obtain ⟨z4, h5, h⟩ := Option.bind_eq_some_iff.mp h
    cases h
    exact ⟨5, s_F_worthOfRest (by omega) h5 (And.intro hQ (And.intro rfl rfl))⟩
set_option maxRecDepth 20000 in
theorem s_F_when_61 {N d : Nat} {Q : jw_Q} (hd : 5 ≤ d) : ∀ (k : Nat) {x1 : Int32} {x2 : Int32} {x3 : Int32} {σ : jw_M} {z : (Int32 × jw_M)}, f_F_when_61 N k x1 x2 x3 σ = some z → Q (some (.int z.1)) (jx_ShC, z.2) → ∃ n, jx_W jx_ShC d (some .int) jc_125 Q n 61 [some (.ref 0), some (.int x1), some (.int x2), some (.int x3)] [] σ
  | 0, _, _, _, _, _, h, _ => by cases h
  | k + 1, x1, x2, x3, σ, z, h, hQ => by
    rw [f_F_when_61] at h
    by_cases c12 : (σ.1 1 14) ≤ x3
    · rw [if_pos c12] at h
      suffices hh : ∃ n, jx_W jx_ShC d (some .int) jc_125 Q n 105 [some (.ref 0), some (.int x1), some (.int x2), some (.int x3)] [] σ by
        obtain ⟨n, hn⟩ := hh
        exact ⟨n + 5, And.intro (fun _ => hn) (fun zz => absurd c12 zz)⟩
      cases h
      exact ⟨2, And.intro hQ (And.intro rfl rfl)⟩
    · rw [if_neg c12] at h
      suffices hh : ∃ n, jx_W jx_ShC d (some .int) jc_125 Q n 72 [some (.ref 0), some (.int x1), some (.int x2), some (.int x3)] [] σ by
        obtain ⟨n, hn⟩ := hh
        exact ⟨n + 5, And.intro (fun zz => absurd zz c12) (fun _ => hn)⟩
      obtain ⟨z13, h14, h⟩ := Option.bind_eq_some_iff.mp h
      obtain ⟨z15, h16, h⟩ := Option.bind_eq_some_iff.mp h
      by_cases c17 : z15.1 = 0
      · rw [if_pos c17] at h
        suffices hh : ∃ n, jx_W jx_ShC d (some .int) jc_125 Q n 99 [some (.ref 0), some (.int x1), some (.int x2), some (.int x3)] [] z15.2 by
          obtain ⟨n, hn⟩ := hh
          exact ⟨n + 13, s_S_goBy (by omega) (by decide) h14 (s_P_hasLearnt (by omega) h16 (And.intro (fun _ => hn) (fun zz => absurd c17 zz)))⟩
        obtain ⟨n, hn⟩ := s_F_when_61 hd k h hQ
        exact ⟨n + 2, hn⟩
      · rw [if_neg c17] at h
        suffices hh : ∃ n, jx_W jx_ShC d (some .int) jc_125 Q n 97 [some (.ref 0), some (.int x1), some (.int x2), some (.int x3)] [] z15.2 by
          obtain ⟨n, hn⟩ := hh
          exact ⟨n + 13, s_S_goBy (by omega) (by decide) h14 (s_P_hasLearnt (by omega) h16 (And.intro (fun zz => absurd zz c17) (fun _ => hn)))⟩
        cases h
        exact ⟨2, And.intro hQ (And.intro rfl rfl)⟩
set_option maxRecDepth 20000 in
theorem s_F_when {N d : Nat} {x1 : Int32} {x2 : Int32} (hd : 6 ≤ d) {σ : jw_M} {z : (Int32 × jw_M)} {Q : jw_Q} (h : f_F_when N x1 x2 σ = some z) (hQ : Q (some (.int z.1)) (jx_ShC, z.2)) : jw_C jp_kd jp_ys d 125 [.ref 0, .int x1, .int x2] (jx_ShC, σ) Q := by
  obtain ⟨d, rfl⟩ : ∃ e, d = e + 1 := ⟨d - 1, by omega⟩
  replace hd : 5 ≤ d := by omega
  refine jx_C rfl rfl ?_
  unfold f_F_when at h
  obtain ⟨z1, h2, h⟩ := Option.bind_eq_some_iff.mp h
  by_cases c3 : z1.1 = 0
  · rw [if_pos c3] at h
    suffices hh : ∃ n, jx_W jx_ShC d (some .int) jc_125 Q n 22 [some (.ref 0), some (.int x1), some (.int x2), none] [] z1.2 by
      obtain ⟨n, hn⟩ := hh
      exact ⟨n + 5, s_S_isShadow (by omega) h2 (And.intro (fun _ => hn) (fun zz => absurd c3 zz))⟩
    cases h
    exact ⟨2, And.intro hQ (And.intro rfl rfl)⟩
  · rw [if_neg c3] at h
    suffices hh : ∃ n, jx_W jx_ShC d (some .int) jc_125 Q n 11 [some (.ref 0), some (.int x1), some (.int x2), none] [] z1.2 by
      obtain ⟨n, hn⟩ := hh
      exact ⟨n + 5, s_S_isShadow (by omega) h2 (And.intro (fun zz => absurd zz c3) (fun _ => hn))⟩
    obtain ⟨z4, h5, h⟩ := Option.bind_eq_some_iff.mp h
    by_cases c6 : z4.1 = 0
    · rw [if_pos c6] at h
      suffices hh : ∃ n, jx_W jx_ShC d (some .int) jc_125 Q n 22 [some (.ref 0), some (.int x1), some (.int x2), none] [] z4.2 by
        obtain ⟨n, hn⟩ := hh
        exact ⟨n + 5, s_S_isLesson (by omega) h5 (And.intro (fun zz => absurd c6 zz) (fun _ => hn))⟩
      cases h
      exact ⟨2, And.intro hQ (And.intro rfl rfl)⟩
    · rw [if_neg c6] at h
      suffices hh : ∃ n, jx_W jx_ShC d (some .int) jc_125 Q n 24 [some (.ref 0), some (.int x1), some (.int x2), none] [] z4.2 by
        obtain ⟨n, hn⟩ := hh
        exact ⟨n + 5, s_S_isLesson (by omega) h5 (And.intro (fun _ => hn) (fun zz => absurd zz c6))⟩
      obtain ⟨z7, h8, h⟩ := Option.bind_eq_some_iff.mp h
      obtain ⟨z9, h10, h⟩ := Option.bind_eq_some_iff.mp h
      by_cases c11 : z9.1 = 0
      · rw [if_pos c11] at h
        suffices hh : ∃ n, jx_W jx_ShC d (some .int) jc_125 Q n 53 [some (.ref 0), some (.int x1), some (.int x2), none] [] z9.2 by
          obtain ⟨n, hn⟩ := hh
          exact ⟨n + 12, s_P_copyFrom (by omega) (by decide) h8 (s_P_hasLearnt (by omega) h10 (And.intro (fun _ => hn) (fun zz => absurd c11 zz)))⟩
        obtain ⟨n, hn⟩ := s_F_when_61 hd N h hQ
        exact ⟨n + 4, hn⟩
      · rw [if_neg c11] at h
        suffices hh : ∃ n, jx_W jx_ShC d (some .int) jc_125 Q n 50 [some (.ref 0), some (.int x1), some (.int x2), none] [] z9.2 by
          obtain ⟨n, hn⟩ := hh
          exact ⟨n + 12, s_P_copyFrom (by omega) (by decide) h8 (s_P_hasLearnt (by omega) h10 (And.intro (fun zz => absurd zz c11) (fun _ => hn)))⟩
        cases h
        exact ⟨2, And.intro hQ (And.intro rfl rfl)⟩
set_option maxRecDepth 20000 in
theorem s_F_letGo_47 {N d : Nat} {Q : jw_Q} {K11 : Int32 → Int32 → jw_M → Option (Int32 × jw_M)} (hd : 6 ≤ d) (hK11 : ∀ {x1 : Int32} {x2 : Int32} {σ : jw_M} {z : (Int32 × jw_M)}, K11 x1 x2 σ = some z → Q (some (.int z.1)) (jx_ShC, z.2) → ∃ n, jx_W jx_ShC d (some .int) jc_126 Q n 11 [some (.ref 0), some (.int x1), some (.int x2)] [] σ) {x1 : Int32} {x2 : Int32} {σ : jw_M} {z : (Int32 × jw_M)} (h : f_F_letGo_47 N K11 x1 x2 σ = some z) (hQ : Q (some (.int z.1)) (jx_ShC, z.2)) : ∃ n, jx_W jx_ShC d (some .int) jc_126 Q n 47 [some (.ref 0), some (.int x1), some (.int x2)] [] σ := by
  unfold f_F_letGo_47 at h
  obtain ⟨n, hn⟩ := hK11 h hQ
  exact ⟨n + 2, hn⟩
set_option maxRecDepth 20000 in
theorem s_F_letGo_11 {N d : Nat} {Q : jw_Q} (hd : 6 ≤ d) : ∀ (k : Nat) {x1 : Int32} {x2 : Int32} {σ : jw_M} {z : (Int32 × jw_M)}, f_F_letGo_11 N k x1 x2 σ = some z → Q (some (.int z.1)) (jx_ShC, z.2) → ∃ n, jx_W jx_ShC d (some .int) jc_126 Q n 11 [some (.ref 0), some (.int x1), some (.int x2)] [] σ
  | 0, _, _, _, _, h, _ => by cases h
  | k + 1, x1, x2, σ, z, h, hQ => by
    rw [f_F_letGo_11] at h
    by_cases c3 : (σ.1 1 0) ≤ x2
    · rw [if_pos c3] at h
      suffices hh : ∃ n, jx_W jx_ShC d (some .int) jc_126 Q n 53 [some (.ref 0), some (.int x1), some (.int x2)] [] σ by
        obtain ⟨n, hn⟩ := hh
        exact ⟨n + 5, And.intro (fun _ => hn) (fun zz => absurd c3 zz)⟩
      cases h
      exact ⟨2, And.intro hQ (And.intro rfl rfl)⟩
    · rw [if_neg c3] at h
      suffices hh : ∃ n, jx_W jx_ShC d (some .int) jc_126 Q n 22 [some (.ref 0), some (.int x1), some (.int x2)] [] σ by
        obtain ⟨n, hn⟩ := hh
        exact ⟨n + 5, And.intro (fun zz => absurd zz c3) (fun _ => hn)⟩
      cases c4 : jx_in x2 6 with
      | false => rw [c4, cond_false] at h; cases h
      | true =>
        rw [c4, cond_true] at h
        obtain ⟨z5, h6, h⟩ := Option.bind_eq_some_iff.mp h
        by_cases c7 : (σ.1 77 (x2).toNatClampNeg) = z5.1
        · rw [if_pos c7] at h
          suffices hh : ∃ n, jx_W jx_ShC d (some .int) jc_126 Q n 41 [some (.ref 0), some (.int x1), some (.int x2)] [] z5.2 by
            obtain ⟨n, hn⟩ := hh
            exact ⟨n + 9, And.intro (jx_in_ok c4) (s_S_allLessons (by omega) h6 (And.intro (fun zz => absurd c7 zz) (fun _ => hn)))⟩
          obtain ⟨n, hn⟩ := s_F_letGo_47 hd (s_F_letGo_11 hd k) h hQ
          exact ⟨n + 6, hn⟩
        · rw [if_neg c7] at h
          suffices hh : ∃ n, jx_W jx_ShC d (some .int) jc_126 Q n 47 [some (.ref 0), some (.int x1), some (.int x2)] [] z5.2 by
            obtain ⟨n, hn⟩ := hh
            exact ⟨n + 9, And.intro (jx_in_ok c4) (s_S_allLessons (by omega) h6 (And.intro (fun _ => hn) (fun zz => absurd zz c7)))⟩
          obtain ⟨n, hn⟩ := s_F_letGo_47 hd (s_F_letGo_11 hd k) h hQ
          exact ⟨n + 0, hn⟩
set_option maxRecDepth 20000 in
theorem s_F_letGo {N d : Nat} (hd : 7 ≤ d) {σ : jw_M} {z : (Int32 × jw_M)} {Q : jw_Q} (h : f_F_letGo N  σ = some z) (hQ : Q (some (.int z.1)) (jx_ShC, z.2)) : jw_C jp_kd jp_ys d 126 [.ref 0] (jx_ShC, σ) Q := by
  obtain ⟨d, rfl⟩ : ∃ e, d = e + 1 := ⟨d - 1, by omega⟩
  replace hd : 6 ≤ d := by omega
  refine jx_C rfl rfl ?_
  unfold f_F_letGo at h
  obtain ⟨z1, h2, h⟩ := Option.bind_eq_some_iff.mp h
  obtain ⟨n, hn⟩ := s_F_letGo_11 hd N h hQ
  exact ⟨n + 8, s_F_worthOfRest (by omega) h2 (hn)⟩
set_option maxRecDepth 20000 in
theorem s_F_crowd_92 {N d : Nat} {Q : jw_Q} {K41 : Int32 → Int32 → Int32 → Int32 → jw_M → Option (Int32 × jw_M)} (hd : 5 ≤ d) (hK41 : ∀ {x1 : Int32} {x2 : Int32} {x3 : Int32} {x4 : Int32} {σ : jw_M} {z : (Int32 × jw_M)}, K41 x1 x2 x3 x4 σ = some z → Q (some (.int z.1)) (jx_ShC, z.2) → ∃ n, jx_W jx_ShC d (some .int) jc_127 Q n 41 [some (.ref 0), some (.int x1), some (.int x2), some (.int x3), some (.int x4)] [] σ) {x1 : Int32} {x2 : Int32} {x3 : Int32} {x4 : Int32} {σ : jw_M} {z : (Int32 × jw_M)} (h : f_F_crowd_92 N K41 x1 x2 x3 x4 σ = some z) (hQ : Q (some (.int z.1)) (jx_ShC, z.2)) : ∃ n, jx_W jx_ShC d (some .int) jc_127 Q n 92 [some (.ref 0), some (.int x1), some (.int x2), some (.int x3), some (.int x4)] [] σ := by
  unfold f_F_crowd_92 at h
  obtain ⟨n, hn⟩ := hK41 h hQ
  exact ⟨n + 2, hn⟩
set_option maxRecDepth 20000 in
theorem s_F_crowd_41 {N d : Nat} {Q : jw_Q} (hd : 5 ≤ d) : ∀ (k : Nat) {x1 : Int32} {x2 : Int32} {x3 : Int32} {x4 : Int32} {σ : jw_M} {z : (Int32 × jw_M)}, f_F_crowd_41 N k x1 x2 x3 x4 σ = some z → Q (some (.int z.1)) (jx_ShC, z.2) → ∃ n, jx_W jx_ShC d (some .int) jc_127 Q n 41 [some (.ref 0), some (.int x1), some (.int x2), some (.int x3), some (.int x4)] [] σ
  | 0, _, _, _, _, _, _, h, _ => by cases h
  | k + 1, x1, x2, x3, x4, σ, z, h, hQ => by
    rw [f_F_crowd_41] at h
    by_cases c6 : (σ.1 1 14) ≤ x4
    · rw [if_pos c6] at h
      suffices hh : ∃ n, jx_W jx_ShC d (some .int) jc_127 Q n 98 [some (.ref 0), some (.int x1), some (.int x2), some (.int x3), some (.int x4)] [] σ by
        obtain ⟨n, hn⟩ := hh
        exact ⟨n + 5, And.intro (fun _ => hn) (fun zz => absurd c6 zz)⟩
      cases h
      exact ⟨2, And.intro hQ (And.intro rfl rfl)⟩
    · rw [if_neg c6] at h
      suffices hh : ∃ n, jx_W jx_ShC d (some .int) jc_127 Q n 53 [some (.ref 0), some (.int x1), some (.int x2), some (.int x3), some (.int x4)] [] σ by
        obtain ⟨n, hn⟩ := hh
        exact ⟨n + 5, And.intro (fun zz => absurd zz c6) (fun _ => hn)⟩
      obtain ⟨z7, h8, h⟩ := Option.bind_eq_some_iff.mp h
      cases c9 : jx_in x1 8 with
      | false => rw [c9, cond_false] at h; cases h
      | true =>
        rw [c9, cond_true] at h
        by_cases c10 : (z7.2.1 78 (x1).toNatClampNeg) ≤ x2
        · rw [if_pos c10] at h
          suffices hh : ∃ n, jx_W jx_ShC d (some .int) jc_127 Q n 92 [some (.ref 0), some (.int x1), some (.int x2), some (.int x3), some (.int x4)] [] z7.2 by
            obtain ⟨n, hn⟩ := hh
            exact ⟨n + 14, s_S_goBy (by omega) (by decide) h8 (And.intro (jx_in_ok c9) (And.intro (fun _ => hn) (fun zz => absurd c10 zz)))⟩
          obtain ⟨n, hn⟩ := s_F_crowd_92 hd (s_F_crowd_41 hd k) h hQ
          exact ⟨n + 0, hn⟩
        · rw [if_neg c10] at h
          suffices hh : ∃ n, jx_W jx_ShC d (some .int) jc_127 Q n 79 [some (.ref 0), some (.int x1), some (.int x2), some (.int x3), some (.int x4)] [] z7.2 by
            obtain ⟨n, hn⟩ := hh
            exact ⟨n + 14, s_S_goBy (by omega) (by decide) h8 (And.intro (jx_in_ok c9) (And.intro (fun zz => absurd zz c10) (fun _ => hn)))⟩
          obtain ⟨n, hn⟩ := s_F_crowd_92 hd (s_F_crowd_41 hd k) h hQ
          exact ⟨n + 8, And.intro (jx_in_ok c9) (hn)⟩
set_option maxRecDepth 20000 in
theorem s_F_crowd {N d : Nat} {x1 : Int32} (hd : 6 ≤ d) {σ : jw_M} {z : (Int32 × jw_M)} {Q : jw_Q} (h : f_F_crowd N x1 σ = some z) (hQ : Q (some (.int z.1)) (jx_ShC, z.2)) : jw_C jp_kd jp_ys d 127 [.ref 0, .int x1] (jx_ShC, σ) Q := by
  obtain ⟨d, rfl⟩ : ∃ e, d = e + 1 := ⟨d - 1, by omega⟩
  replace hd : 5 ≤ d := by omega
  refine jx_C rfl rfl ?_
  unfold f_F_crowd at h
  obtain ⟨z1, h2, h⟩ := Option.bind_eq_some_iff.mp h
  by_cases c3 : z1.1 = 0
  · rw [if_pos c3] at h
    suffices hh : ∃ n, jx_W jx_ShC d (some .int) jc_127 Q n 11 [some (.ref 0), some (.int x1), none, none, none] [] z1.2 by
      obtain ⟨n, hn⟩ := hh
      exact ⟨n + 5, s_S_isLesson (by omega) h2 (And.intro (fun zz => absurd c3 zz) (fun _ => hn))⟩
    cases h
    exact ⟨2, And.intro hQ (And.intro rfl rfl)⟩
  · rw [if_neg c3] at h
    suffices hh : ∃ n, jx_W jx_ShC d (some .int) jc_127 Q n 13 [some (.ref 0), some (.int x1), none, none, none] [] z1.2 by
      obtain ⟨n, hn⟩ := hh
      exact ⟨n + 5, s_S_isLesson (by omega) h2 (And.intro (fun _ => hn) (fun zz => absurd zz c3))⟩
    obtain ⟨z4, h5, h⟩ := Option.bind_eq_some_iff.mp h
    obtain ⟨n, hn⟩ := s_F_crowd_41 hd N h hQ
    exact ⟨n + 14, s_P_copyFrom (by omega) (by decide) h5 (hn)⟩
set_option maxRecDepth 20000 in
theorem s_F_worthiest_0_10_48 {N d : Nat} {Q : jw_Q} {K14 : Int32 → Int32 → Int32 → Int32 → Int32 → Int32 → jw_M → Option (Int32 × jw_M)} (hd : 6 ≤ d) (hK14 : ∀ {x2 : Int32} {x3 : Int32} {x4 : Int32} {x5 : Int32} {x6 : Int32} {x7 : Int32} {σ : jw_M} {z : (Int32 × jw_M)} {u8 : Option Value}, K14 x2 x3 x4 x5 x6 x7 σ = some z → Q (some (.int z.1)) (jx_ShC, z.2) → ∃ n, jx_W jx_ShC d (some .int) jc_132 Q n 14 [some (.ref 0), some (.ref 10), some (.int x2), some (.int x3), some (.int x4), some (.int x5), some (.int x6), some (.int x7), u8] [] σ) {x2 : Int32} {x3 : Int32} {x4 : Int32} {x5 : Int32} {x6 : Int32} {x7 : Int32} {u8 : Option Value} {σ : jw_M} {z : (Int32 × jw_M)} (h : f_F_worthiest_0_10_48 N K14 x2 x3 x4 x5 x6 x7 σ = some z) (hQ : Q (some (.int z.1)) (jx_ShC, z.2)) : ∃ n, jx_W jx_ShC d (some .int) jc_132 Q n 48 [some (.ref 0), some (.ref 10), some (.int x2), some (.int x3), some (.int x4), some (.int x5), some (.int x6), some (.int x7), u8] [] σ := by
  unfold f_F_worthiest_0_10_48 at h
  obtain ⟨n, hn⟩ := hK14 (u8 := u8) h hQ
  exact ⟨n + 2, hn⟩
set_option maxRecDepth 20000 in
theorem s_F_worthiest_0_10_14 {N d : Nat} {Q : jw_Q} (hd : 6 ≤ d) : ∀ (k : Nat) {x2 : Int32} {x3 : Int32} {x4 : Int32} {x5 : Int32} {x6 : Int32} {x7 : Int32} {u8 : Option Value} {σ : jw_M} {z : (Int32 × jw_M)}, f_F_worthiest_0_10_14 N k x2 x3 x4 x5 x6 x7 σ = some z → Q (some (.int z.1)) (jx_ShC, z.2) → ∃ n, jx_W jx_ShC d (some .int) jc_132 Q n 14 [some (.ref 0), some (.ref 10), some (.int x2), some (.int x3), some (.int x4), some (.int x5), some (.int x6), some (.int x7), u8] [] σ
  | 0, _, _, _, _, _, _, _, _, _, h, _ => by cases h
  | k + 1, x2, x3, x4, x5, x6, x7, u8, σ, z, h, hQ => by
    rw [f_F_worthiest_0_10_14] at h
    by_cases c2 : x3 < x7
    · rw [if_pos c2] at h
      suffices hh : ∃ n, jx_W jx_ShC d (some .int) jc_132 Q n 54 [some (.ref 0), some (.ref 10), some (.int x2), some (.int x3), some (.int x4), some (.int x5), some (.int x6), some (.int x7), u8] [] σ by
        obtain ⟨n, hn⟩ := hh
        exact ⟨n + 3, And.intro (fun _ => hn) (fun zz => absurd c2 zz)⟩
      cases c3 : jx_in x2 8 with
      | false => rw [c3, cond_false] at h; cases h
      | true =>
        rw [c3, cond_true] at h
        cases h
        exact ⟨6, And.intro (jx_in_ok c3) (And.intro hQ (And.intro rfl rfl))⟩
    · rw [if_neg c2] at h
      suffices hh : ∃ n, jx_W jx_ShC d (some .int) jc_132 Q n 20 [some (.ref 0), some (.ref 10), some (.int x2), some (.int x3), some (.int x4), some (.int x5), some (.int x6), some (.int x7), u8] [] σ by
        obtain ⟨n, hn⟩ := hh
        exact ⟨n + 3, And.intro (fun zz => absurd zz c2) (fun _ => hn)⟩
      cases c4 : jx_in x2 8 with
      | false => rw [c4, cond_false] at h; cases h
      | true =>
        rw [c4, cond_true] at h
        obtain ⟨z5, h6, h⟩ := Option.bind_eq_some_iff.mp h
        by_cases c7 : z5.1 ≤ x5
        · rw [if_pos c7] at h
          suffices hh : ∃ n, jx_W jx_ShC d (some .int) jc_132 Q n 48 [some (.ref 0), some (.ref 10), some (.int x2), some (.int x3), some (.int x4), some (.int x5), some (.int x6), some (.int x7), some (.int z5.1)] [] z5.2 by
            obtain ⟨n, hn⟩ := hh
            exact ⟨n + 11, And.intro (jx_in_ok c4) (s_F_worthOfRest (by omega) h6 (And.intro (fun _ => hn) (fun zz => absurd c7 zz)))⟩
          obtain ⟨n, hn⟩ := s_F_worthiest_0_10_48 hd (s_F_worthiest_0_10_14 hd k) (u8 := some (.int z5.1)) h hQ
          exact ⟨n + 0, hn⟩
        · rw [if_neg c7] at h
          suffices hh : ∃ n, jx_W jx_ShC d (some .int) jc_132 Q n 40 [some (.ref 0), some (.ref 10), some (.int x2), some (.int x3), some (.int x4), some (.int x5), some (.int x6), some (.int x7), some (.int z5.1)] [] z5.2 by
            obtain ⟨n, hn⟩ := hh
            exact ⟨n + 11, And.intro (jx_in_ok c4) (s_F_worthOfRest (by omega) h6 (And.intro (fun zz => absurd zz c7) (fun _ => hn)))⟩
          obtain ⟨n, hn⟩ := s_F_worthiest_0_10_48 hd (s_F_worthiest_0_10_14 hd k) (u8 := some (.int z5.1)) h hQ
          exact ⟨n + 4, hn⟩
set_option maxRecDepth 20000 in
theorem s_F_worthiest_0_10 {N d : Nat} {x2 : Int32} {x3 : Int32} (hd : 7 ≤ d) {σ : jw_M} {z : (Int32 × jw_M)} {Q : jw_Q} (h : f_F_worthiest_0_10 N x2 x3 σ = some z) (hQ : Q (some (.int z.1)) (jx_ShC, z.2)) : jw_C jp_kd jp_ys d 132 [.ref 0, .ref 10, .int x2, .int x3] (jx_ShC, σ) Q := by
  obtain ⟨d, rfl⟩ : ∃ e, d = e + 1 := ⟨d - 1, by omega⟩
  replace hd : 6 ≤ d := by omega
  refine jx_C rfl rfl ?_
  unfold f_F_worthiest_0_10 at h
  cases c1 : jx_in x2 8 with
  | false => rw [c1, cond_false] at h; cases h
  | true =>
    rw [c1, cond_true] at h
    obtain ⟨n, hn⟩ := s_F_worthiest_0_10_14 hd N (u8 := none) h hQ
    exact ⟨n + 10, And.intro (jx_in_ok c1) (hn)⟩
set_option maxRecDepth 20000 in
theorem s_F_worthiest_0_3_48 {N d : Nat} {Q : jw_Q} {K14 : Int32 → Int32 → Int32 → Int32 → Int32 → Int32 → jw_M → Option (Int32 × jw_M)} (hd : 6 ≤ d) (hK14 : ∀ {x2 : Int32} {x3 : Int32} {x4 : Int32} {x5 : Int32} {x6 : Int32} {x7 : Int32} {σ : jw_M} {z : (Int32 × jw_M)} {u8 : Option Value}, K14 x2 x3 x4 x5 x6 x7 σ = some z → Q (some (.int z.1)) (jx_ShC, z.2) → ∃ n, jx_W jx_ShC d (some .int) jc_132 Q n 14 [some (.ref 0), some (.ref 3), some (.int x2), some (.int x3), some (.int x4), some (.int x5), some (.int x6), some (.int x7), u8] [] σ) {x2 : Int32} {x3 : Int32} {x4 : Int32} {x5 : Int32} {x6 : Int32} {x7 : Int32} {u8 : Option Value} {σ : jw_M} {z : (Int32 × jw_M)} (h : f_F_worthiest_0_3_48 N K14 x2 x3 x4 x5 x6 x7 σ = some z) (hQ : Q (some (.int z.1)) (jx_ShC, z.2)) : ∃ n, jx_W jx_ShC d (some .int) jc_132 Q n 48 [some (.ref 0), some (.ref 3), some (.int x2), some (.int x3), some (.int x4), some (.int x5), some (.int x6), some (.int x7), u8] [] σ := by
  unfold f_F_worthiest_0_3_48 at h
  obtain ⟨n, hn⟩ := hK14 (u8 := u8) h hQ
  exact ⟨n + 2, hn⟩
set_option maxRecDepth 20000 in
theorem s_F_worthiest_0_3_14 {N d : Nat} {Q : jw_Q} (hd : 6 ≤ d) : ∀ (k : Nat) {x2 : Int32} {x3 : Int32} {x4 : Int32} {x5 : Int32} {x6 : Int32} {x7 : Int32} {u8 : Option Value} {σ : jw_M} {z : (Int32 × jw_M)}, f_F_worthiest_0_3_14 N k x2 x3 x4 x5 x6 x7 σ = some z → Q (some (.int z.1)) (jx_ShC, z.2) → ∃ n, jx_W jx_ShC d (some .int) jc_132 Q n 14 [some (.ref 0), some (.ref 3), some (.int x2), some (.int x3), some (.int x4), some (.int x5), some (.int x6), some (.int x7), u8] [] σ
  | 0, _, _, _, _, _, _, _, _, _, h, _ => by cases h
  | k + 1, x2, x3, x4, x5, x6, x7, u8, σ, z, h, hQ => by
    rw [f_F_worthiest_0_3_14] at h
    by_cases c2 : x3 < x7
    · rw [if_pos c2] at h
      suffices hh : ∃ n, jx_W jx_ShC d (some .int) jc_132 Q n 54 [some (.ref 0), some (.ref 3), some (.int x2), some (.int x3), some (.int x4), some (.int x5), some (.int x6), some (.int x7), u8] [] σ by
        obtain ⟨n, hn⟩ := hh
        exact ⟨n + 3, And.intro (fun _ => hn) (fun zz => absurd c2 zz)⟩
      cases c3 : jx_in x2 6 with
      | false => rw [c3, cond_false] at h; cases h
      | true =>
        rw [c3, cond_true] at h
        cases h
        exact ⟨6, And.intro (jx_in_ok c3) (And.intro hQ (And.intro rfl rfl))⟩
    · rw [if_neg c2] at h
      suffices hh : ∃ n, jx_W jx_ShC d (some .int) jc_132 Q n 20 [some (.ref 0), some (.ref 3), some (.int x2), some (.int x3), some (.int x4), some (.int x5), some (.int x6), some (.int x7), u8] [] σ by
        obtain ⟨n, hn⟩ := hh
        exact ⟨n + 3, And.intro (fun zz => absurd zz c2) (fun _ => hn)⟩
      cases c4 : jx_in x2 6 with
      | false => rw [c4, cond_false] at h; cases h
      | true =>
        rw [c4, cond_true] at h
        obtain ⟨z5, h6, h⟩ := Option.bind_eq_some_iff.mp h
        by_cases c7 : z5.1 ≤ x5
        · rw [if_pos c7] at h
          suffices hh : ∃ n, jx_W jx_ShC d (some .int) jc_132 Q n 48 [some (.ref 0), some (.ref 3), some (.int x2), some (.int x3), some (.int x4), some (.int x5), some (.int x6), some (.int x7), some (.int z5.1)] [] z5.2 by
            obtain ⟨n, hn⟩ := hh
            exact ⟨n + 11, And.intro (jx_in_ok c4) (s_F_worthOfRest (by omega) h6 (And.intro (fun _ => hn) (fun zz => absurd c7 zz)))⟩
          obtain ⟨n, hn⟩ := s_F_worthiest_0_3_48 hd (s_F_worthiest_0_3_14 hd k) (u8 := some (.int z5.1)) h hQ
          exact ⟨n + 0, hn⟩
        · rw [if_neg c7] at h
          suffices hh : ∃ n, jx_W jx_ShC d (some .int) jc_132 Q n 40 [some (.ref 0), some (.ref 3), some (.int x2), some (.int x3), some (.int x4), some (.int x5), some (.int x6), some (.int x7), some (.int z5.1)] [] z5.2 by
            obtain ⟨n, hn⟩ := hh
            exact ⟨n + 11, And.intro (jx_in_ok c4) (s_F_worthOfRest (by omega) h6 (And.intro (fun zz => absurd zz c7) (fun _ => hn)))⟩
          obtain ⟨n, hn⟩ := s_F_worthiest_0_3_48 hd (s_F_worthiest_0_3_14 hd k) (u8 := some (.int z5.1)) h hQ
          exact ⟨n + 4, hn⟩
set_option maxRecDepth 20000 in
theorem s_F_worthiest_0_3 {N d : Nat} {x2 : Int32} {x3 : Int32} (hd : 7 ≤ d) {σ : jw_M} {z : (Int32 × jw_M)} {Q : jw_Q} (h : f_F_worthiest_0_3 N x2 x3 σ = some z) (hQ : Q (some (.int z.1)) (jx_ShC, z.2)) : jw_C jp_kd jp_ys d 132 [.ref 0, .ref 3, .int x2, .int x3] (jx_ShC, σ) Q := by
  obtain ⟨d, rfl⟩ : ∃ e, d = e + 1 := ⟨d - 1, by omega⟩
  replace hd : 6 ≤ d := by omega
  refine jx_C rfl rfl ?_
  unfold f_F_worthiest_0_3 at h
  cases c1 : jx_in x2 6 with
  | false => rw [c1, cond_false] at h; cases h
  | true =>
    rw [c1, cond_true] at h
    obtain ⟨n, hn⟩ := s_F_worthiest_0_3_14 hd N (u8 := none) h hQ
    exact ⟨n + 10, And.intro (jx_in_ok c1) (hn)⟩
set_option maxRecDepth 20000 in
theorem s_F_quickFor {N d : Nat} {x1 : Int32} (hd : 8 ≤ d) {σ : jw_M} {z : (Int32 × jw_M)} {Q : jw_Q} (h : f_F_quickFor N x1 σ = some z) (hQ : Q (some (.int z.1)) (jx_ShC, z.2)) : jw_C jp_kd jp_ys d 128 [.ref 0, .int x1] (jx_ShC, σ) Q := by
  obtain ⟨d, rfl⟩ : ∃ e, d = e + 1 := ⟨d - 1, by omega⟩
  replace hd : 7 ≤ d := by omega
  refine jx_C rfl rfl ?_
  unfold f_F_quickFor at h
  obtain ⟨z1, h2, h⟩ := Option.bind_eq_some_iff.mp h
  by_cases c3 : z1.1 = 0
  · rw [if_pos c3] at h
    suffices hh : ∃ n, jx_W jx_ShC d (some .int) jc_128 Q n 28 [some (.ref 0), some (.int x1)] [] z1.2 by
      obtain ⟨n, hn⟩ := hh
      exact ⟨n + 5, s_S_isShadow (by omega) h2 (And.intro (fun _ => hn) (fun zz => absurd c3 zz))⟩
    cases h
    exact ⟨2, And.intro hQ (And.intro rfl rfl)⟩
  · rw [if_neg c3] at h
    suffices hh : ∃ n, jx_W jx_ShC d (some .int) jc_128 Q n 11 [some (.ref 0), some (.int x1)] [] z1.2 by
      obtain ⟨n, hn⟩ := hh
      exact ⟨n + 5, s_S_isShadow (by omega) h2 (And.intro (fun zz => absurd zz c3) (fun _ => hn))⟩
    obtain ⟨z4, h5, h⟩ := Option.bind_eq_some_iff.mp h
    cases h
    exact ⟨9, s_F_worthiest_0_3 (by omega) h5 (And.intro hQ (And.intro rfl rfl))⟩
set_option maxRecDepth 20000 in
theorem s_F_letGoBy_88 {N d : Nat} {Q : jw_Q} (hd : 6 ≤ d) {x1 : Int32} {x2 : Int32} {x3 : Int32} {u4 : Option Value} {σ : jw_M} {z : (Int32 × jw_M)} (h : f_F_letGoBy_88 N x1 x2 x3 σ = some z) (hQ : Q (some (.int z.1)) (jx_ShC, z.2)) : ∃ n, jx_W jx_ShC d (some .int) jc_129 Q n 88 [some (.ref 0), some (.int x1), some (.int x2), some (.int x3), u4] [] σ := by
  unfold f_F_letGoBy_88 at h
  cases c6 : jx_in x1 6 with
  | false => rw [c6, cond_false] at h; cases h
  | true =>
    rw [c6, cond_true] at h
    cases h
    exact ⟨8, And.intro (jx_in_ok c6) (And.intro hQ (And.intro rfl rfl))⟩
set_option maxRecDepth 20000 in
theorem s_F_letGoBy_82 {N d : Nat} {Q : jw_Q} {K29 : Int32 → Int32 → Int32 → Int32 → jw_M → Option (Int32 × jw_M)} (hd : 6 ≤ d) (hK29 : ∀ {x1 : Int32} {x2 : Int32} {x3 : Int32} {x4 : Int32} {σ : jw_M} {z : (Int32 × jw_M)}, K29 x1 x2 x3 x4 σ = some z → Q (some (.int z.1)) (jx_ShC, z.2) → ∃ n, jx_W jx_ShC d (some .int) jc_129 Q n 29 [some (.ref 0), some (.int x1), some (.int x2), some (.int x3), some (.int x4)] [] σ) {x1 : Int32} {x2 : Int32} {x3 : Int32} {x4 : Int32} {σ : jw_M} {z : (Int32 × jw_M)} (h : f_F_letGoBy_82 N K29 x1 x2 x3 x4 σ = some z) (hQ : Q (some (.int z.1)) (jx_ShC, z.2)) : ∃ n, jx_W jx_ShC d (some .int) jc_129 Q n 82 [some (.ref 0), some (.int x1), some (.int x2), some (.int x3), some (.int x4)] [] σ := by
  unfold f_F_letGoBy_82 at h
  obtain ⟨n, hn⟩ := hK29 h hQ
  exact ⟨n + 2, hn⟩
set_option maxRecDepth 20000 in
theorem s_F_letGoBy_29 {N d : Nat} {Q : jw_Q} (hd : 6 ≤ d) : ∀ (k : Nat) {x1 : Int32} {x2 : Int32} {x3 : Int32} {x4 : Int32} {σ : jw_M} {z : (Int32 × jw_M)}, f_F_letGoBy_29 N k x1 x2 x3 x4 σ = some z → Q (some (.int z.1)) (jx_ShC, z.2) → ∃ n, jx_W jx_ShC d (some .int) jc_129 Q n 29 [some (.ref 0), some (.int x1), some (.int x2), some (.int x3), some (.int x4)] [] σ
  | 0, _, _, _, _, _, _, h, _ => by cases h
  | k + 1, x1, x2, x3, x4, σ, z, h, hQ => by
    rw [f_F_letGoBy_29] at h
    by_cases c5 : 9 < x4
    · rw [if_pos c5] at h
      suffices hh : ∃ n, jx_W jx_ShC d (some .int) jc_129 Q n 88 [some (.ref 0), some (.int x1), some (.int x2), some (.int x3), some (.int x4)] [] σ by
        obtain ⟨n, hn⟩ := hh
        exact ⟨n + 3, And.intro (fun _ => hn) (fun zz => absurd c5 zz)⟩
      obtain ⟨n, hn⟩ := s_F_letGoBy_88 hd (u4 := some (.int x4)) h hQ
      exact ⟨n + 0, hn⟩
    · rw [if_neg c5] at h
      suffices hh : ∃ n, jx_W jx_ShC d (some .int) jc_129 Q n 36 [some (.ref 0), some (.int x1), some (.int x2), some (.int x3), some (.int x4)] [] σ by
        obtain ⟨n, hn⟩ := hh
        exact ⟨n + 3, And.intro (fun zz => absurd zz c5) (fun _ => hn)⟩
      by_cases c7 : x3 = (-3)
      · rw [if_pos c7] at h
        suffices hh : ∃ n, jx_W jx_ShC d (some .int) jc_129 Q n 42 [some (.ref 0), some (.int x1), some (.int x2), some (.int x3), some (.int x4)] [] σ by
          obtain ⟨n, hn⟩ := hh
          exact ⟨n + 3, And.intro (fun zz => absurd c7 zz) (fun _ => hn)⟩
        cases c8 : jx_in x1 6 with
        | false => rw [c8, cond_false] at h; cases h
        | true =>
          rw [c8, cond_true] at h
          obtain ⟨z9, h10, h⟩ := Option.bind_eq_some_iff.mp h
          obtain ⟨z11, h12, h⟩ := Option.bind_eq_some_iff.mp h
          by_cases c13 : (z9.2.1 77 (x1).toNatClampNeg) = z11.1
          · rw [if_pos c13] at h
            suffices hh : ∃ n, jx_W jx_ShC d (some .int) jc_129 Q n 79 [some (.ref 0), some (.int x1), some (.int x2), some (.int x3), some (.int x4)] [] z11.2 by
              obtain ⟨n, hn⟩ := hh
              exact ⟨n + 19, And.intro (jx_in_ok c8) (s_F_worthOfRest (by omega) h10 (And.intro (jx_in_ok c8) (s_S_allLessons (by omega) h12 (And.intro (fun zz => absurd c13 zz) (fun _ => hn)))))⟩
            obtain ⟨n, hn⟩ := s_F_letGoBy_82 hd (s_F_letGoBy_29 hd k) h hQ
            exact ⟨n + 2, hn⟩
          · rw [if_neg c13] at h
            suffices hh : ∃ n, jx_W jx_ShC d (some .int) jc_129 Q n 82 [some (.ref 0), some (.int x1), some (.int x2), some (.int x3), some (.int x4)] [] z11.2 by
              obtain ⟨n, hn⟩ := hh
              exact ⟨n + 19, And.intro (jx_in_ok c8) (s_F_worthOfRest (by omega) h10 (And.intro (jx_in_ok c8) (s_S_allLessons (by omega) h12 (And.intro (fun _ => hn) (fun zz => absurd zz c13)))))⟩
            obtain ⟨n, hn⟩ := s_F_letGoBy_82 hd (s_F_letGoBy_29 hd k) h hQ
            exact ⟨n + 0, hn⟩
      · rw [if_neg c7] at h
        suffices hh : ∃ n, jx_W jx_ShC d (some .int) jc_129 Q n 88 [some (.ref 0), some (.int x1), some (.int x2), some (.int x3), some (.int x4)] [] σ by
          obtain ⟨n, hn⟩ := hh
          exact ⟨n + 3, And.intro (fun _ => hn) (fun zz => absurd zz c7)⟩
        obtain ⟨n, hn⟩ := s_F_letGoBy_88 hd (u4 := some (.int x4)) h hQ
        exact ⟨n + 0, hn⟩
set_option maxRecDepth 20000 in
theorem s_F_letGoBy {N d : Nat} {x1 : Int32} (hd : 7 ≤ d) {σ : jw_M} {z : (Int32 × jw_M)} {Q : jw_Q} (h : f_F_letGoBy N x1 σ = some z) (hQ : Q (some (.int z.1)) (jx_ShC, z.2)) : jw_C jp_kd jp_ys d 129 [.ref 0, .int x1] (jx_ShC, σ) Q := by
  obtain ⟨d, rfl⟩ : ∃ e, d = e + 1 := ⟨d - 1, by omega⟩
  replace hd : 6 ≤ d := by omega
  refine jx_C rfl rfl ?_
  unfold f_F_letGoBy at h
  obtain ⟨z1, h2, h⟩ := Option.bind_eq_some_iff.mp h
  by_cases c3 : z1.1 = 0
  · rw [if_pos c3] at h
    suffices hh : ∃ n, jx_W jx_ShC d (some .int) jc_129 Q n 11 [some (.ref 0), some (.int x1), none, none, none] [] z1.2 by
      obtain ⟨n, hn⟩ := hh
      exact ⟨n + 5, s_S_isShadow (by omega) h2 (And.intro (fun zz => absurd c3 zz) (fun _ => hn))⟩
    cases h
    exact ⟨2, And.intro hQ (And.intro rfl rfl)⟩
  · rw [if_neg c3] at h
    suffices hh : ∃ n, jx_W jx_ShC d (some .int) jc_129 Q n 13 [some (.ref 0), some (.int x1), none, none, none] [] z1.2 by
      obtain ⟨n, hn⟩ := hh
      exact ⟨n + 5, s_S_isShadow (by omega) h2 (And.intro (fun _ => hn) (fun zz => absurd zz c3))⟩
    cases c4 : jx_in x1 6 with
    | false => rw [c4, cond_false] at h; cases h
    | true =>
      rw [c4, cond_true] at h
      obtain ⟨n, hn⟩ := s_F_letGoBy_29 hd N h hQ
      exact ⟨n + 10, And.intro (jx_in_ok c4) (hn)⟩
set_option maxRecDepth 20000 in
theorem s_F_roomFor {N d : Nat} {x1 : Int32} (hd : 8 ≤ d) {σ : jw_M} {z : (Int32 × jw_M)} {Q : jw_Q} (h : f_F_roomFor N x1 σ = some z) (hQ : Q (some (.int z.1)) (jx_ShC, z.2)) : jw_C jp_kd jp_ys d 130 [.ref 0, .int x1] (jx_ShC, σ) Q := by
  obtain ⟨d, rfl⟩ : ∃ e, d = e + 1 := ⟨d - 1, by omega⟩
  replace hd : 7 ≤ d := by omega
  refine jx_C rfl rfl ?_
  unfold f_F_roomFor at h
  obtain ⟨z1, h2, h⟩ := Option.bind_eq_some_iff.mp h
  by_cases c3 : z1.1 = 0
  · rw [if_pos c3] at h
    suffices hh : ∃ n, jx_W jx_ShC d (some .int) jc_130 Q n 28 [some (.ref 0), some (.int x1)] [] z1.2 by
      obtain ⟨n, hn⟩ := hh
      exact ⟨n + 5, s_S_isLesson (by omega) h2 (And.intro (fun _ => hn) (fun zz => absurd c3 zz))⟩
    cases h
    exact ⟨2, And.intro hQ (And.intro rfl rfl)⟩
  · rw [if_neg c3] at h
    suffices hh : ∃ n, jx_W jx_ShC d (some .int) jc_130 Q n 11 [some (.ref 0), some (.int x1)] [] z1.2 by
      obtain ⟨n, hn⟩ := hh
      exact ⟨n + 5, s_S_isLesson (by omega) h2 (And.intro (fun zz => absurd zz c3) (fun _ => hn))⟩
    obtain ⟨z4, h5, h⟩ := Option.bind_eq_some_iff.mp h
    cases h
    exact ⟨9, s_F_worthiest_0_10 (by omega) h5 (And.intro hQ (And.intro rfl rfl))⟩
