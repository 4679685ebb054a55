set_option maxRecDepth 20000 in
theorem s_M_plainFolds_30 {N d : Nat} {Q : jw_Q} (hd : 1 ≤ d) {x1 : Int32} {y1 : Int32} {σ : jw_M} {z : (Int32 × jw_M)} (h : f_M_plainFolds_30 N x1 y1 σ = some z) (hQ : Q (some (.int z.1)) (jx_ShM, z.2)) : ∃ n, jx_W jx_ShM d (some .int) jc_306 Q n 30 [some (.ref 0), some (.int x1)] [.int y1, .ref 0] σ := by
  unfold f_M_plainFolds_30 at h
  by_cases c5 : y1 = 0 ∨ y1 = 1
  · rw [if_pos c5] at h
    by_cases c6 : ((jx_w σ 0 41 y1).1 0 41) = 0
    · rw [if_pos c6] at h
      suffices hh : ∃ n, jx_W jx_ShM d (some .int) jc_306 Q n 44 [some (.ref 0), some (.int x1)] [] (jx_w σ 0 41 y1) by
        obtain ⟨n, hn⟩ := hh
        exact ⟨n + 4, And.intro c5 (And.intro (fun _ => hn) (fun zz => absurd c6 zz))⟩
      by_cases c7 : (((jx_w σ 0 41 y1).1 0 37) - ((jx_w σ 0 41 y1).1 0 38)) = 0
      · rw [if_pos c7] at h
        cases h
      · rw [if_neg c7] at h
        cases h
        exact ⟨8, And.intro c7 (And.intro hQ (And.intro rfl rfl))⟩
    · rw [if_neg c6] at h
      suffices hh : ∃ n, jx_W jx_ShM d (some .int) jc_306 Q n 40 [some (.ref 0), some (.int x1)] [] (jx_w σ 0 41 y1) by
        obtain ⟨n, hn⟩ := hh
        exact ⟨n + 4, And.intro c5 (And.intro (fun zz => absurd zz c6) (fun _ => hn))⟩
      cases h
      exact ⟨3, And.intro hQ (And.intro rfl rfl)⟩
  · rw [if_neg c5] at h
    cases h
set_option maxRecDepth 20000 in
theorem s_M_plainFolds_25 {N d : Nat} {Q : jw_Q} (hd : 1 ≤ d) {x1 : Int32} {σ : jw_M} {z : (Int32 × jw_M)} (h : f_M_plainFolds_25 N x1 σ = some z) (hQ : Q (some (.int z.1)) (jx_ShM, z.2)) : ∃ n, jx_W jx_ShM d (some .int) jc_306 Q n 25 [some (.ref 0), some (.int x1)] [.ref 0] σ := by
  unfold f_M_plainFolds_25 at h
  obtain ⟨n, hn⟩ := s_M_plainFolds_30 hd h hQ
  exact ⟨n + 2, hn⟩
set_option maxRecDepth 20000 in
theorem s_M_plainFolds {N d : Nat} {x1 : Int32} (hd : 2 ≤ d) {σ : jw_M} {z : (Int32 × jw_M)} {Q : jw_Q} (h : f_M_plainFolds N x1 σ = some z) (hQ : Q (some (.int z.1)) (jx_ShM, z.2)) : jw_C jp_kd jp_ys d 306 [.ref 0, .int x1] (jx_ShM, σ) Q := by
  obtain ⟨d, rfl⟩ : ∃ e, d = e + 1 := ⟨d - 1, by omega⟩
  replace hd : 1 ≤ d := by omega
  refine jx_C rfl rfl ?_
  unfold f_M_plainFolds at h
  obtain ⟨z1, h2, h⟩ := Option.bind_eq_some_iff.mp h
  by_cases c3 : (z1.1 0 41) = 0
  · rw [if_pos c3] at h
    suffices hh : ∃ n, jx_W jx_ShM d (some .int) jc_306 Q n 14 [some (.ref 0), some (.int x1)] [.ref 0] z1 by
      obtain ⟨n, hn⟩ := hh
      exact ⟨n + 7, s_M_ran (by omega) h2 (And.intro (fun zz => absurd c3 zz) (fun _ => hn))⟩
    by_cases c4 : (z1.1 0 37) = (z1.1 0 38)
    · rw [if_pos c4] at h
      suffices hh : ∃ n, jx_W jx_ShM d (some .int) jc_306 Q n 25 [some (.ref 0), some (.int x1)] [.ref 0] z1 by
        obtain ⟨n, hn⟩ := hh
        exact ⟨n + 5, And.intro (fun zz => absurd c4 zz) (fun _ => hn)⟩
      obtain ⟨n, hn⟩ := s_M_plainFolds_25 hd h hQ
      exact ⟨n + 0, hn⟩
    · rw [if_neg c4] at h
      suffices hh : ∃ n, jx_W jx_ShM d (some .int) jc_306 Q n 29 [some (.ref 0), some (.int x1)] [.ref 0] z1 by
        obtain ⟨n, hn⟩ := hh
        exact ⟨n + 5, And.intro (fun _ => hn) (fun zz => absurd zz c4)⟩
      obtain ⟨n, hn⟩ := s_M_plainFolds_30 hd h hQ
      exact ⟨n + 1, hn⟩
  · rw [if_neg c3] at h
    suffices hh : ∃ n, jx_W jx_ShM d (some .int) jc_306 Q n 25 [some (.ref 0), some (.int x1)] [.ref 0] z1 by
      obtain ⟨n, hn⟩ := hh
      exact ⟨n + 7, s_M_ran (by omega) h2 (And.intro (fun _ => hn) (fun zz => absurd zz c3))⟩
    obtain ⟨n, hn⟩ := s_M_plainFolds_25 hd h hQ
    exact ⟨n + 0, hn⟩
set_option maxRecDepth 20000 in
theorem s_M_slowFolds {N d : Nat} {x1 : Int32} (hd : 3 ≤ d) {σ : jw_M} {z : (Int32 × jw_M)} {Q : jw_Q} (h : f_M_slowFolds N x1 σ = some z) (hQ : Q (some (.int z.1)) (jx_ShM, z.2)) : jw_C jp_kd jp_ys d 307 [.ref 0, .int x1] (jx_ShM, σ) Q := by
  obtain ⟨d, rfl⟩ : ∃ e, d = e + 1 := ⟨d - 1, by omega⟩
  replace hd : 2 ≤ d := by omega
  refine jx_C rfl rfl ?_
  unfold f_M_slowFolds at h
  obtain ⟨z1, h2, h⟩ := Option.bind_eq_some_iff.mp h
  obtain ⟨z3, h4, h⟩ := Option.bind_eq_some_iff.mp h
  cases h
  exact ⟨9, s_M_ran (by omega) h2 (s_M_plainFolds (by omega) h4 (And.intro hQ (And.intro rfl rfl)))⟩
set_option maxRecDepth 20000 in
theorem s_M_folds {N d : Nat} {x1 : Int32} (hd : 4 ≤ d) {σ : jw_M} {z : (Int32 × jw_M)} {Q : jw_Q} (h : f_M_folds N x1 σ = some z) (hQ : Q (some (.int z.1)) (jx_ShM, z.2)) : jw_C jp_kd jp_ys d 308 [.ref 0, .int x1] (jx_ShM, σ) Q := by
  obtain ⟨d, rfl⟩ : ∃ e, d = e + 1 := ⟨d - 1, by omega⟩
  replace hd : 3 ≤ d := by omega
  refine jx_C rfl rfl ?_
  unfold f_M_folds at h
  by_cases c1 : (σ.1 0 36) = 4
  · rw [if_pos c1] at h
    suffices hh : ∃ n, jx_W jx_ShM d (some .int) jc_308 Q n 8 [some (.ref 0), some (.int x1), none] [] σ by
      obtain ⟨n, hn⟩ := hh
      exact ⟨n + 4, And.intro (fun zz => absurd c1 zz) (fun _ => hn)⟩
    obtain ⟨z2, h3, h⟩ := Option.bind_eq_some_iff.mp h
    cases h
    exact ⟨4, s_M_slowFolds (by omega) h3 (And.intro hQ (And.intro rfl rfl))⟩
  · rw [if_neg c1] at h
    suffices hh : ∃ n, jx_W jx_ShM d (some .int) jc_308 Q n 14 [some (.ref 0), some (.int x1), none] [] σ by
      obtain ⟨n, hn⟩ := hh
      exact ⟨n + 4, And.intro (fun _ => hn) (fun zz => absurd zz c1)⟩
    by_cases c4 : (σ.1 0 36) = 5
    · rw [if_pos c4] at h
      suffices hh : ∃ n, jx_W jx_ShM d (some .int) jc_308 Q n 28 [some (.ref 0), some (.int x1), none] [] σ by
        obtain ⟨n, hn⟩ := hh
        exact ⟨n + 4, And.intro (fun _ => hn) (fun zz => absurd c4 zz)⟩
      obtain ⟨z5, h6, h⟩ := Option.bind_eq_some_iff.mp h
      obtain ⟨z7, h8, h⟩ := Option.bind_eq_some_iff.mp h
      by_cases c9 : (z7.2.1 0 41) = 0
      · rw [if_pos c9] at h
        suffices hh : ∃ n, jx_W jx_ShM d (some .int) jc_308 Q n 51 [some (.ref 0), some (.int x1), some (.int z7.1)] [] z7.2 by
          obtain ⟨n, hn⟩ := hh
          exact ⟨n + 10, s_M_ran (by omega) h6 (s_M_slowFolds (by omega) h8 (And.intro (fun _ => hn) (fun zz => absurd c9 zz)))⟩
        obtain ⟨z10, h11, h⟩ := Option.bind_eq_some_iff.mp h
        cases h
        exact ⟨7, s_M_lies (by omega) h11 (And.intro hQ (And.intro rfl rfl))⟩
      · rw [if_neg c9] at h
        suffices hh : ∃ n, jx_W jx_ShM d (some .int) jc_308 Q n 47 [some (.ref 0), some (.int x1), some (.int z7.1)] [] z7.2 by
          obtain ⟨n, hn⟩ := hh
          exact ⟨n + 10, s_M_ran (by omega) h6 (s_M_slowFolds (by omega) h8 (And.intro (fun zz => absurd zz c9) (fun _ => hn)))⟩
        cases h
        exact ⟨3, And.intro hQ (And.intro rfl rfl)⟩
    · rw [if_neg c4] at h
      suffices hh : ∃ n, jx_W jx_ShM d (some .int) jc_308 Q n 22 [some (.ref 0), some (.int x1), none] [] σ by
        obtain ⟨n, hn⟩ := hh
        exact ⟨n + 4, And.intro (fun zz => absurd zz c4) (fun _ => hn)⟩
      obtain ⟨z12, h13, h⟩ := Option.bind_eq_some_iff.mp h
      cases h
      exact ⟨4, s_M_plainFolds (by omega) h13 (And.intro hQ (And.intro rfl rfl))⟩
set_option maxRecDepth 20000 in
theorem s_M_plainAsks {N d : Nat} {x1 : Int32} (hd : 6 ≤ d) {σ : jw_M} {z : (Int32 × jw_M)} {Q : jw_Q} (h : f_M_plainAsks N x1 σ = some z) (hQ : Q (some (.int z.1)) (jx_ShM, z.2)) : jw_C jp_kd jp_ys d 309 [.ref 0, .int x1] (jx_ShM, σ) Q := by
  obtain ⟨d, rfl⟩ : ∃ e, d = e + 1 := ⟨d - 1, by omega⟩
  replace hd : 5 ≤ d := by omega
  refine jx_C rfl rfl ?_
  unfold f_M_plainAsks at h
  obtain ⟨z1, h2, h⟩ := Option.bind_eq_some_iff.mp h
  obtain ⟨z3, h4, h⟩ := Option.bind_eq_some_iff.mp h
  cases h
  exact ⟨9, s_M_ran (by omega) h2 (s_M_turns (by omega) h4 (And.intro hQ (And.intro rfl rfl)))⟩
set_option maxRecDepth 20000 in
theorem s_M_asks {N d : Nat} {x1 : Int32} (hd : 7 ≤ d) {σ : jw_M} {z : (Int32 × jw_M)} {Q : jw_Q} (h : f_M_asks N x1 σ = some z) (hQ : Q (some (.int z.1)) (jx_ShM, z.2)) : jw_C jp_kd jp_ys d 310 [.ref 0, .int x1] (jx_ShM, σ) Q := by
  obtain ⟨d, rfl⟩ : ∃ e, d = e + 1 := ⟨d - 1, by omega⟩
  replace hd : 6 ≤ d := by omega
  refine jx_C rfl rfl ?_
  unfold f_M_asks at h
  by_cases c1 : (σ.1 0 36) = 3
  · rw [if_pos c1] at h
    suffices hh : ∃ n, jx_W jx_ShM d (some .int) jc_310 Q n 14 [some (.ref 0), some (.int x1), none] [] σ by
      obtain ⟨n, hn⟩ := hh
      exact ⟨n + 4, And.intro (fun _ => hn) (fun zz => absurd c1 zz)⟩
    obtain ⟨z2, h3, h⟩ := Option.bind_eq_some_iff.mp h
    obtain ⟨z4, h5, h⟩ := Option.bind_eq_some_iff.mp h
    obtain ⟨z6, h7, h⟩ := Option.bind_eq_some_iff.mp h
    cases h
    exact ⟨14, s_M_ran (by omega) h3 (s_M_plainAsks (by omega) h5 (s_M_folds (by omega) h7 (And.intro hQ (And.intro rfl rfl))))⟩
  · rw [if_neg c1] at h
    suffices hh : ∃ n, jx_W jx_ShM d (some .int) jc_310 Q n 8 [some (.ref 0), some (.int x1), none] [] σ by
      obtain ⟨n, hn⟩ := hh
      exact ⟨n + 4, And.intro (fun zz => absurd zz c1) (fun _ => hn)⟩
    obtain ⟨z8, h9, h⟩ := Option.bind_eq_some_iff.mp h
    cases h
    exact ⟨4, s_M_plainAsks (by omega) h9 (And.intro hQ (And.intro rfl rfl))⟩
set_option maxRecDepth 20000 in
theorem s_M_act_121 {N d : Nat} {Q : jw_Q} (hd : 7 ≤ d) {y0 : Int32} {u1 : Option Value} {u2 : Option Value} {u3 : Option Value} {u4 : Option Value} {u5 : Option Value} {σ : jw_M} {z : (Int32 × jw_M)} (h : f_M_act_121 N y0 σ = some z) (hQ : Q (some (.int z.1)) (jx_ShM, z.2)) : ∃ n, jx_W jx_ShM d (some .int) jc_311 Q n 121 [some (.ref 0), u1, u2, u3, u4, u5] [.int y0] σ := by
  unfold f_M_act_121 at h
  by_cases c16 : (σ.1 0 41) = 0
  · rw [if_pos c16] at h
    suffices hh : ∃ n, jx_W jx_ShM d (some .int) jc_311 Q n 135 [some (.ref 0), u1, u2, u3, (jw_clr u4), some (.int y0)] [] σ by
      obtain ⟨n, hn⟩ := hh
      exact ⟨n + 4, And.intro (fun _ => hn) (fun zz => absurd c16 zz)⟩
    cases h
    exact ⟨2, And.intro hQ (And.intro rfl rfl)⟩
  · rw [if_neg c16] at h
    suffices hh : ∃ n, jx_W jx_ShM d (some .int) jc_311 Q n 130 [some (.ref 0), u1, u2, u3, (jw_clr u4), some (.int y0)] [] σ by
      obtain ⟨n, hn⟩ := hh
      exact ⟨n + 4, And.intro (fun zz => absurd zz c16) (fun _ => hn)⟩
    cases h
    exact ⟨3, And.intro hQ (And.intro rfl rfl)⟩
set_option maxRecDepth 20000 in
theorem s_M_act_21 {N d : Nat} {Q : jw_Q} (hd : 7 ≤ d) {x1 : Int32} {x2 : Int32} {x3 : Int32} {y0 : Int32} {u4 : Option Value} {u5 : Option Value} {σ : jw_M} {z : (Int32 × jw_M)} (h : f_M_act_21 N x1 x2 x3 y0 σ = some z) (hQ : Q (some (.int z.1)) (jx_ShM, z.2)) : ∃ n, jx_W jx_ShM d (some .int) jc_311 Q n 21 [some (.ref 0), some (.int x1), some (.int x2), some (.int x3), u4, u5] [.int y0] σ := by
  unfold f_M_act_21 at h
  obtain ⟨z4, h5, h⟩ := Option.bind_eq_some_iff.mp h
  by_cases c6 : z4.1 = 0
  · rw [if_pos c6] at h
    suffices hh : ∃ n, jx_W jx_ShM d (some .int) jc_311 Q n 42 [some (.ref 0), some (.int x1), some (.int x2), some (.int x3), some (.int y0), u5] [] z4.2 by
      obtain ⟨n, hn⟩ := hh
      exact ⟨n + 6, s_M_in (by omega) h5 (And.intro (fun _ => hn) (fun zz => absurd c6 zz))⟩
    cases h
    exact ⟨2, And.intro hQ (And.intro rfl rfl)⟩
  · rw [if_neg c6] at h
    suffices hh : ∃ n, jx_W jx_ShM d (some .int) jc_311 Q n 32 [some (.ref 0), some (.int x1), some (.int x2), some (.int x3), some (.int y0), u5] [] z4.2 by
      obtain ⟨n, hn⟩ := hh
      exact ⟨n + 6, s_M_in (by omega) h5 (And.intro (fun zz => absurd zz c6) (fun _ => hn))⟩
    obtain ⟨z7, h8, h⟩ := Option.bind_eq_some_iff.mp h
    by_cases c9 : z7.1 = 0
    · rw [if_pos c9] at h
      suffices hh : ∃ n, jx_W jx_ShM d (some .int) jc_311 Q n 42 [some (.ref 0), some (.int x1), some (.int x2), some (.int x3), some (.int y0), u5] [] z7.2 by
        obtain ⟨n, hn⟩ := hh
        exact ⟨n + 5, s_M_in (by omega) h8 (And.intro (fun zz => absurd c9 zz) (fun _ => hn))⟩
      cases h
      exact ⟨2, And.intro hQ (And.intro rfl rfl)⟩
    · rw [if_neg c9] at h
      suffices hh : ∃ n, jx_W jx_ShM d (some .int) jc_311 Q n 44 [some (.ref 0), some (.int x1), some (.int x2), some (.int x3), some (.int y0), u5] [] z7.2 by
        obtain ⟨n, hn⟩ := hh
        exact ⟨n + 5, s_M_in (by omega) h8 (And.intro (fun _ => hn) (fun zz => absurd zz c9))⟩
      cases c10 : jx_in x1 4 with
      | false => rw [c10, cond_false] at h; cases h
      | true =>
        rw [c10, cond_true] at h
        obtain ⟨z11, h12, h⟩ := Option.bind_eq_some_iff.mp h
        by_cases c13 : x2 = 0
        · rw [if_pos c13] at h
          suffices hh : ∃ n, jx_W jx_ShM d (some .int) jc_311 Q n 82 [some (.ref 0), some (.int x1), some (.int x2), some (.int x3), some (.int y0), u5] [] (jx_w (jx_w z11.2 0 38 z11.1) 0 41 (0 : Int32)) by
            obtain ⟨n, hn⟩ := hh
            exact ⟨n + 21, And.intro (jx_in_ok c10) (s_M_of (by omega) h12 (And.intro (Or.inl rfl) (And.intro (fun zz => absurd c13 zz) (fun _ => hn))))⟩
          obtain ⟨z14, h15, h⟩ := Option.bind_eq_some_iff.mp h
          obtain ⟨n, hn⟩ := s_M_act_121 hd (u1 := some (.int x1)) (u2 := some (.int x2)) (u3 := some (.int x3)) (u4 := some (.int y0)) (u5 := u5) h hQ
          exact ⟨n + 4, s_M_lies (by omega) h15 (hn)⟩
        · rw [if_neg c13] at h
          suffices hh : ∃ n, jx_W jx_ShM d (some .int) jc_311 Q n 90 [some (.ref 0), some (.int x1), some (.int x2), some (.int x3), some (.int y0), u5] [] (jx_w (jx_w z11.2 0 38 z11.1) 0 41 (0 : Int32)) by
            obtain ⟨n, hn⟩ := hh
            exact ⟨n + 21, And.intro (jx_in_ok c10) (s_M_of (by omega) h12 (And.intro (Or.inl rfl) (And.intro (fun _ => hn) (fun zz => absurd zz c13))))⟩
          by_cases c17 : x2 = 1
          · rw [if_pos c17] at h
            suffices hh : ∃ n, jx_W jx_ShM d (some .int) jc_311 Q n 95 [some (.ref 0), some (.int x1), some (.int x2), some (.int x3), some (.int y0), u5] [] (jx_w (jx_w z11.2 0 38 z11.1) 0 41 (0 : Int32)) by
              obtain ⟨n, hn⟩ := hh
              exact ⟨n + 3, And.intro (fun zz => absurd c17 zz) (fun _ => hn)⟩
            obtain ⟨z18, h19, h⟩ := Option.bind_eq_some_iff.mp h
            obtain ⟨n, hn⟩ := s_M_act_121 hd (u1 := some (.int x1)) (u2 := some (.int x2)) (u3 := some (.int x3)) (u4 := some (.int y0)) (u5 := u5) h hQ
            exact ⟨n + 4, s_M_turns (by omega) h19 (hn)⟩
          · rw [if_neg c17] at h
            suffices hh : ∃ n, jx_W jx_ShM d (some .int) jc_311 Q n 103 [some (.ref 0), some (.int x1), some (.int x2), some (.int x3), some (.int y0), u5] [] (jx_w (jx_w z11.2 0 38 z11.1) 0 41 (0 : Int32)) by
              obtain ⟨n, hn⟩ := hh
              exact ⟨n + 3, And.intro (fun _ => hn) (fun zz => absurd zz c17)⟩
            by_cases c20 : x2 = 2
            · rw [if_pos c20] at h
              suffices hh : ∃ n, jx_W jx_ShM d (some .int) jc_311 Q n 108 [some (.ref 0), some (.int x1), some (.int x2), some (.int x3), some (.int y0), u5] [] (jx_w (jx_w z11.2 0 38 z11.1) 0 41 (0 : Int32)) by
                obtain ⟨n, hn⟩ := hh
                exact ⟨n + 3, And.intro (fun zz => absurd c20 zz) (fun _ => hn)⟩
              obtain ⟨z21, h22, h⟩ := Option.bind_eq_some_iff.mp h
              obtain ⟨n, hn⟩ := s_M_act_121 hd (u1 := some (.int x1)) (u2 := some (.int x2)) (u3 := some (.int x3)) (u4 := some (.int y0)) (u5 := u5) h hQ
              exact ⟨n + 4, s_M_folds (by omega) h22 (hn)⟩
            · rw [if_neg c20] at h
              suffices hh : ∃ n, jx_W jx_ShM d (some .int) jc_311 Q n 116 [some (.ref 0), some (.int x1), some (.int x2), some (.int x3), some (.int y0), u5] [] (jx_w (jx_w z11.2 0 38 z11.1) 0 41 (0 : Int32)) by
                obtain ⟨n, hn⟩ := hh
                exact ⟨n + 3, And.intro (fun _ => hn) (fun zz => absurd zz c20)⟩
              obtain ⟨z23, h24, h⟩ := Option.bind_eq_some_iff.mp h
              obtain ⟨n, hn⟩ := s_M_act_121 hd (u1 := some (.int x1)) (u2 := some (.int x2)) (u3 := some (.int x3)) (u4 := some (.int y0)) (u5 := u5) h hQ
              exact ⟨n + 3, s_M_asks (by omega) h24 (hn)⟩
set_option maxRecDepth 20000 in
theorem s_M_act {N d : Nat} {x1 : Int32} {x2 : Int32} {x3 : Int32} (hd : 8 ≤ d) {σ : jw_M} {z : (Int32 × jw_M)} {Q : jw_Q} (h : f_M_act N x1 x2 x3 σ = some z) (hQ : Q (some (.int z.1)) (jx_ShM, z.2)) : jw_C jp_kd jp_ys d 311 [.ref 0, .int x1, .int x2, .int x3] (jx_ShM, σ) Q := by
  obtain ⟨d, rfl⟩ : ∃ e, d = e + 1 := ⟨d - 1, by omega⟩
  replace hd : 7 ≤ d := by omega
  refine jx_C rfl rfl ?_
  unfold f_M_act at h
  obtain ⟨z1, h2, h⟩ := Option.bind_eq_some_iff.mp h
  by_cases c3 : z1.1 = 0
  · rw [if_pos c3] at h
    suffices hh : ∃ n, jx_W jx_ShM d (some .int) jc_311 Q n 20 [some (.ref 0), some (.int x1), some (.int x2), some (.int x3), none, none] [] z1.2 by
      obtain ⟨n, hn⟩ := hh
      exact ⟨n + 6, s_M_isSheet (by omega) h2 (And.intro (fun _ => hn) (fun zz => absurd c3 zz))⟩
    obtain ⟨n, hn⟩ := s_M_act_21 hd (u4 := none) (u5 := none) h hQ
    exact ⟨n + 1, hn⟩
  · rw [if_neg c3] at h
    suffices hh : ∃ n, jx_W jx_ShM d (some .int) jc_311 Q n 12 [some (.ref 0), some (.int x1), some (.int x2), some (.int x3), none, none] [] z1.2 by
      obtain ⟨n, hn⟩ := hh
      exact ⟨n + 6, s_M_isSheet (by omega) h2 (And.intro (fun zz => absurd zz c3) (fun _ => hn))⟩
    obtain ⟨z25, h26, h⟩ := Option.bind_eq_some_iff.mp h
    obtain ⟨n, hn⟩ := s_M_act_21 hd (u4 := none) (u5 := none) h hQ
    exact ⟨n + 4, s_M_kindOn (by omega) h26 (hn)⟩
set_option maxRecDepth 20000 in
theorem s_M_trace {N d : Nat} {x1 : Int32} (hd : 2 ≤ d) {σ : jw_M} {z : (Int32 × jw_M)} {Q : jw_Q} (h : f_M_trace N x1 σ = some z) (hQ : Q (some (.int z.1)) (jx_ShM, z.2)) : jw_C jp_kd jp_ys d 312 [.ref 0, .int x1] (jx_ShM, σ) Q := by
  obtain ⟨d, rfl⟩ : ∃ e, d = e + 1 := ⟨d - 1, by omega⟩
  replace hd : 1 ≤ d := by omega
  refine jx_C rfl rfl ?_
  unfold f_M_trace at h
  obtain ⟨z1, h2, h⟩ := Option.bind_eq_some_iff.mp h
  by_cases c3 : z1.1 = 0
  · rw [if_pos c3] at h
    suffices hh : ∃ n, jx_W jx_ShM d (some .int) jc_312 Q n 23 [some (.ref 0), some (.int x1)] [] z1.2 by
      obtain ⟨n, hn⟩ := hh
      exact ⟨n + 8, s_M_in (by omega) h2 (And.intro (fun _ => hn) (fun zz => absurd c3 zz))⟩
    cases h
    exact ⟨2, And.intro hQ (And.intro rfl rfl)⟩
  · rw [if_neg c3] at h
    suffices hh : ∃ n, jx_W jx_ShM d (some .int) jc_312 Q n 14 [some (.ref 0), some (.int x1)] [] z1.2 by
      obtain ⟨n, hn⟩ := hh
      exact ⟨n + 8, s_M_in (by omega) h2 (And.intro (fun zz => absurd zz c3) (fun _ => hn))⟩
    cases c4 : jx_in x1 30 with
    | false => rw [c4, cond_false] at h; cases h
    | true =>
      rw [c4, cond_true] at h
      cases h
      exact ⟨6, And.intro (jx_in_ok c4) (And.intro hQ (And.intro rfl rfl))⟩
set_option maxRecDepth 20000 in
theorem s_M_pairsThatQuarrel_4 {N d : Nat} {Q : jw_Q} (hd : 1 ≤ d) : ∀ (k : Nat) {x1 : Int32} {x2 : Int32} {σ : jw_M} {z : (Int32 × jw_M)}, f_M_pairsThatQuarrel_4 N k x1 x2 σ = some z → Q (some (.int z.1)) (jx_ShM, z.2) → ∃ n, jx_W jx_ShM d (some .int) jc_313 Q n 4 [some (.ref 0), some (.int x1), some (.int x2)] [] σ
  | 0, _, _, _, _, h, _ => by cases h
  | k + 1, x1, x2, σ, z, h, hQ => by
    rw [f_M_pairsThatQuarrel_4] at h
    by_cases c1 : (σ.1 3 2) ≤ x2
    · rw [if_pos c1] at h
      suffices hh : ∃ n, jx_W jx_ShM d (some .int) jc_313 Q n 35 [some (.ref 0), some (.int x1), some (.int x2)] [] σ by
        obtain ⟨n, hn⟩ := hh
        exact ⟨n + 6, And.intro (jx_in_ok rfl) (And.intro (fun _ => hn) (fun zz => absurd c1 zz))⟩
      cases h
      exact ⟨4, And.intro (by decide) (And.intro hQ (And.intro rfl rfl))⟩
    · rw [if_neg c1] at h
      suffices hh : ∃ n, jx_W jx_ShM d (some .int) jc_313 Q n 14 [some (.ref 0), some (.int x1), some (.int x2)] [] σ by
        obtain ⟨n, hn⟩ := hh
        exact ⟨n + 6, And.intro (jx_in_ok rfl) (And.intro (fun zz => absurd zz c1) (fun _ => hn))⟩
      cases c2 : jx_in (64 + x2) 526 with
      | false => rw [c2, cond_false] at h; cases h
      | true =>
        rw [c2, cond_true] at h
        obtain ⟨z3, h4, h⟩ := Option.bind_eq_some_iff.mp h
        obtain ⟨n, hn⟩ := s_M_pairsThatQuarrel_4 hd k h hQ
        exact ⟨n + 12, And.intro (jx_in_ok c2) (s_M_ones (by omega) h4 (hn))⟩
set_option maxRecDepth 20000 in
theorem s_M_pairsThatQuarrel {N d : Nat} (hd : 2 ≤ d) {σ : jw_M} {z : (Int32 × jw_M)} {Q : jw_Q} (h : f_M_pairsThatQuarrel N  σ = some z) (hQ : Q (some (.int z.1)) (jx_ShM, z.2)) : jw_C jp_kd jp_ys d 313 [.ref 0] (jx_ShM, σ) Q := by
  obtain ⟨d, rfl⟩ : ∃ e, d = e + 1 := ⟨d - 1, by omega⟩
  replace hd : 1 ≤ d := by omega
  refine jx_C rfl rfl ?_
  unfold f_M_pairsThatQuarrel at h
  obtain ⟨n, hn⟩ := s_M_pairsThatQuarrel_4 hd N h hQ
  exact ⟨n + 4, hn⟩
set_option maxRecDepth 20000 in
theorem s_M_many {N d : Nat} {x1 : Int32} (hd : 3 ≤ d) {σ : jw_M} {z : (Int32 × jw_M)} {Q : jw_Q} (h : f_M_many N x1 σ = some z) (hQ : Q (some (.int z.1)) (jx_ShM, z.2)) : jw_C jp_kd jp_ys d 314 [.ref 0, .int x1] (jx_ShM, σ) Q := by
  obtain ⟨d, rfl⟩ : ∃ e, d = e + 1 := ⟨d - 1, by omega⟩
  replace hd : 2 ≤ d := by omega
  refine jx_C rfl rfl ?_
  unfold f_M_many at h
  by_cases c10 : x1 = 0
  · rw [if_pos c10] at h
    suffices hh : ∃ n, jx_W jx_ShM d (some .int) jc_314 Q n 48 [some (.ref 0), some (.int x1)] [] σ by
      obtain ⟨n, hn⟩ := hh
      exact ⟨n + 2, And.intro (fun _ => hn) (fun zz => absurd c10 zz)⟩
    cases h
    exact ⟨5, And.intro (jx_in_ok rfl) (And.intro hQ (And.intro rfl rfl))⟩
  · rw [if_neg c10] at h
    by_cases c9 : x1 = 1
    · rw [if_pos c9] at h
      suffices hh : ∃ n, jx_W jx_ShM d (some .int) jc_314 Q n 55 [some (.ref 0), some (.int x1)] [] σ by
        obtain ⟨n, hn⟩ := hh
        exact ⟨n + 2, And.intro (fun zz => absurd zz c10) (fun _ => And.intro (fun _ => hn) (fun zz => absurd c9 zz))⟩
      cases h
      exact ⟨5, And.intro (jx_in_ok rfl) (And.intro hQ (And.intro rfl rfl))⟩
    · rw [if_neg c9] at h
      by_cases c8 : x1 = 2
      · rw [if_pos c8] at h
        suffices hh : ∃ n, jx_W jx_ShM d (some .int) jc_314 Q n 62 [some (.ref 0), some (.int x1)] [] σ by
          obtain ⟨n, hn⟩ := hh
          exact ⟨n + 2, And.intro (fun zz => absurd zz c10) (fun _ => And.intro (fun zz => absurd zz c9) (fun _ => And.intro (fun _ => hn) (fun zz => absurd c8 zz)))⟩
        cases h
        exact ⟨5, And.intro (jx_in_ok rfl) (And.intro hQ (And.intro rfl rfl))⟩
      · rw [if_neg c8] at h
        by_cases c7 : x1 = 3
        · rw [if_pos c7] at h
          suffices hh : ∃ n, jx_W jx_ShM d (some .int) jc_314 Q n 69 [some (.ref 0), some (.int x1)] [] σ by
            obtain ⟨n, hn⟩ := hh
            exact ⟨n + 2, And.intro (fun zz => absurd zz c10) (fun _ => And.intro (fun zz => absurd zz c9) (fun _ => And.intro (fun zz => absurd zz c8) (fun _ => And.intro (fun _ => hn) (fun zz => absurd c7 zz))))⟩
          cases h
          exact ⟨5, And.intro (jx_in_ok rfl) (And.intro hQ (And.intro rfl rfl))⟩
        · rw [if_neg c7] at h
          by_cases c6 : x1 = 4
          · rw [if_pos c6] at h
            suffices hh : ∃ n, jx_W jx_ShM d (some .int) jc_314 Q n 76 [some (.ref 0), some (.int x1)] [] σ by
              obtain ⟨n, hn⟩ := hh
              exact ⟨n + 2, And.intro (fun zz => absurd zz c10) (fun _ => And.intro (fun zz => absurd zz c9) (fun _ => And.intro (fun zz => absurd zz c8) (fun _ => And.intro (fun zz => absurd zz c7) (fun _ => And.intro (fun _ => hn) (fun zz => absurd c6 zz)))))⟩
            cases h
            exact ⟨3, And.intro hQ (And.intro rfl rfl)⟩
          · rw [if_neg c6] at h
            by_cases c5 : x1 = 5
            · rw [if_pos c5] at h
              suffices hh : ∃ n, jx_W jx_ShM d (some .int) jc_314 Q n 81 [some (.ref 0), some (.int x1)] [] σ by
                obtain ⟨n, hn⟩ := hh
                exact ⟨n + 2, And.intro (fun zz => absurd zz c10) (fun _ => And.intro (fun zz => absurd zz c9) (fun _ => And.intro (fun zz => absurd zz c8) (fun _ => And.intro (fun zz => absurd zz c7) (fun _ => And.intro (fun zz => absurd zz c6) (fun _ => And.intro (fun _ => hn) (fun zz => absurd c5 zz))))))⟩
              cases h
              exact ⟨3, And.intro hQ (And.intro rfl rfl)⟩
            · rw [if_neg c5] at h
              by_cases c4 : x1 = 6
              · rw [if_pos c4] at h
                suffices hh : ∃ n, jx_W jx_ShM d (some .int) jc_314 Q n 86 [some (.ref 0), some (.int x1)] [] σ by
                  obtain ⟨n, hn⟩ := hh
                  exact ⟨n + 2, And.intro (fun zz => absurd zz c10) (fun _ => And.intro (fun zz => absurd zz c9) (fun _ => And.intro (fun zz => absurd zz c8) (fun _ => And.intro (fun zz => absurd zz c7) (fun _ => And.intro (fun zz => absurd zz c6) (fun _ => And.intro (fun zz => absurd zz c5) (fun _ => And.intro (fun _ => hn) (fun zz => absurd c4 zz)))))))⟩
                cases h
                exact ⟨3, And.intro hQ (And.intro rfl rfl)⟩
              · rw [if_neg c4] at h
                by_cases c3 : x1 = 7
                · rw [if_pos c3] at h
                  suffices hh : ∃ n, jx_W jx_ShM d (some .int) jc_314 Q n 91 [some (.ref 0), some (.int x1)] [] σ by
                    obtain ⟨n, hn⟩ := hh
                    exact ⟨n + 2, And.intro (fun zz => absurd zz c10) (fun _ => And.intro (fun zz => absurd zz c9) (fun _ => And.intro (fun zz => absurd zz c8) (fun _ => And.intro (fun zz => absurd zz c7) (fun _ => And.intro (fun zz => absurd zz c6) (fun _ => And.intro (fun zz => absurd zz c5) (fun _ => And.intro (fun zz => absurd zz c4) (fun _ => And.intro (fun _ => hn) (fun zz => absurd c3 zz))))))))⟩
                  obtain ⟨z1, h2, h⟩ := Option.bind_eq_some_iff.mp h
                  cases h
                  exact ⟨3, s_M_pairsThatQuarrel (by omega) h2 (And.intro hQ (And.intro rfl rfl))⟩
                · rw [if_neg c3] at h
                  cases h
                  exact ⟨4, And.intro (fun zz => absurd zz c10) (fun _ => And.intro (fun zz => absurd zz c9) (fun _ => And.intro (fun zz => absurd zz c8) (fun _ => And.intro (fun zz => absurd zz c7) (fun _ => And.intro (fun zz => absurd zz c6) (fun _ => And.intro (fun zz => absurd zz c5) (fun _ => And.intro (fun zz => absurd zz c4) (fun _ => And.intro (fun zz => absurd zz c3) (fun _ => And.intro hQ (And.intro rfl rfl)))))))))⟩
set_option maxRecDepth 20000 in
theorem s_M_keep_28 {N d : Nat} {Q : jw_Q} (hd : 0 ≤ d) : ∀ (k : Nat) {x1 : Int32} {σ : jw_M} {z : (Int32 × jw_M)}, f_M_keep_28 N k x1 σ = some z → Q (some (.int z.1)) (jx_ShM, z.2) → ∃ n, jx_W jx_ShM d (some .int) jc_315 Q n 28 [some (.ref 0), some (.int x1)] [] σ
  | 0, _, _, _, h, _ => by cases h
  | k + 1, x1, σ, z, h, hQ => by
    rw [f_M_keep_28] at h
    by_cases c2 : 526 ≤ x1
    · rw [if_pos c2] at h
      suffices hh : ∃ n, jx_W jx_ShM d (some .int) jc_315 Q n 53 [some (.ref 0), some (.int x1)] [] σ by
        obtain ⟨n, hn⟩ := hh
        exact ⟨n + 3, And.intro (fun _ => hn) (fun zz => absurd c2 zz)⟩
      cases h
      exact ⟨5, And.intro (Or.inr rfl) (And.intro hQ (And.intro rfl rfl))⟩
    · rw [if_neg c2] at h
      suffices hh : ∃ n, jx_W jx_ShM d (some .int) jc_315 Q n 35 [some (.ref 0), some (.int x1)] [] σ by
        obtain ⟨n, hn⟩ := hh
        exact ⟨n + 3, And.intro (fun zz => absurd zz c2) (fun _ => hn)⟩
      cases c3 : jx_in x1 526 with
      | false => rw [c3, cond_false] at h; cases h
      | true =>
        rw [c3, cond_true] at h
        obtain ⟨n, hn⟩ := s_M_keep_28 hd k h hQ
        exact ⟨n + 10, And.intro (jx_in_ok c3) (And.intro (jx_in_ok c3) (hn))⟩
set_option maxRecDepth 20000 in
theorem s_M_keep_2 {N d : Nat} {Q : jw_Q} (hd : 0 ≤ d) : ∀ (k : Nat) {x1 : Int32} {σ : jw_M} {z : (Int32 × jw_M)}, f_M_keep_2 N k x1 σ = some z → Q (some (.int z.1)) (jx_ShM, z.2) → ∃ n, jx_W jx_ShM d (some .int) jc_315 Q n 2 [some (.ref 0), some (.int x1)] [] σ
  | 0, _, _, _, h, _ => by cases h
  | k + 1, x1, σ, z, h, hQ => by
    rw [f_M_keep_2] at h
    by_cases c1 : 56 ≤ x1
    · rw [if_pos c1] at h
      suffices hh : ∃ n, jx_W jx_ShM d (some .int) jc_315 Q n 26 [some (.ref 0), some (.int x1)] [] σ by
        obtain ⟨n, hn⟩ := hh
        exact ⟨n + 3, And.intro (fun _ => hn) (fun zz => absurd c1 zz)⟩
      obtain ⟨n, hn⟩ := s_M_keep_28 hd N h hQ
      exact ⟨n + 2, hn⟩
    · rw [if_neg c1] at h
      suffices hh : ∃ n, jx_W jx_ShM d (some .int) jc_315 Q n 8 [some (.ref 0), some (.int x1)] [] σ by
        obtain ⟨n, hn⟩ := hh
        exact ⟨n + 3, And.intro (fun zz => absurd zz c1) (fun _ => hn)⟩
      cases c4 : jx_in x1 56 with
      | false => rw [c4, cond_false] at h; cases h
      | true =>
        rw [c4, cond_true] at h
        obtain ⟨n, hn⟩ := s_M_keep_2 hd k h hQ
        exact ⟨n + 10, And.intro (jx_in_ok c4) (And.intro (jx_in_ok c4) (hn))⟩
set_option maxRecDepth 20000 in
theorem s_M_keep {N d : Nat} (hd : 1 ≤ d) {σ : jw_M} {z : (Int32 × jw_M)} {Q : jw_Q} (h : f_M_keep N  σ = some z) (hQ : Q (some (.int z.1)) (jx_ShM, z.2)) : jw_C jp_kd jp_ys d 315 [.ref 0] (jx_ShM, σ) Q := by
  obtain ⟨d, rfl⟩ : ∃ e, d = e + 1 := ⟨d - 1, by omega⟩
  replace hd : 0 ≤ d := by omega
  refine jx_C rfl rfl ?_
  unfold f_M_keep at h
  obtain ⟨n, hn⟩ := s_M_keep_2 hd N h hQ
  exact ⟨n + 2, hn⟩
set_option maxRecDepth 20000 in
theorem s_M_again_38 {N d : Nat} {Q : jw_Q} (hd : 0 ≤ d) : ∀ (k : Nat) {x1 : Int32} {σ : jw_M} {z : (Int32 × jw_M)}, f_M_again_38 N k x1 σ = some z → Q (some (.int z.1)) (jx_ShM, z.2) → ∃ n, jx_W jx_ShM d (some .int) jc_316 Q n 38 [some (.ref 0), some (.int x1)] [] σ
  | 0, _, _, _, h, _ => by cases h
  | k + 1, x1, σ, z, h, hQ => by
    rw [f_M_again_38] at h
    by_cases c3 : 526 ≤ x1
    · rw [if_pos c3] at h
      suffices hh : ∃ n, jx_W jx_ShM d (some .int) jc_316 Q n 63 [some (.ref 0), some (.int x1)] [] σ by
        obtain ⟨n, hn⟩ := hh
        exact ⟨n + 3, And.intro (fun _ => hn) (fun zz => absurd c3 zz)⟩
      cases h
      exact ⟨5, And.intro (jx_in_ok rfl) (And.intro hQ (And.intro rfl rfl))⟩
    · rw [if_neg c3] at h
      suffices hh : ∃ n, jx_W jx_ShM d (some .int) jc_316 Q n 45 [some (.ref 0), some (.int x1)] [] σ by
        obtain ⟨n, hn⟩ := hh
        exact ⟨n + 3, And.intro (fun zz => absurd zz c3) (fun _ => hn)⟩
      cases c4 : jx_in x1 526 with
      | false => rw [c4, cond_false] at h; cases h
      | true =>
        rw [c4, cond_true] at h
        obtain ⟨n, hn⟩ := s_M_again_38 hd k h hQ
        exact ⟨n + 10, And.intro (jx_in_ok c4) (And.intro (jx_in_ok c4) (hn))⟩
set_option maxRecDepth 20000 in
theorem s_M_again_12 {N d : Nat} {Q : jw_Q} (hd : 0 ≤ d) : ∀ (k : Nat) {x1 : Int32} {σ : jw_M} {z : (Int32 × jw_M)}, f_M_again_12 N k x1 σ = some z → Q (some (.int z.1)) (jx_ShM, z.2) → ∃ n, jx_W jx_ShM d (some .int) jc_316 Q n 12 [some (.ref 0), some (.int x1)] [] σ
  | 0, _, _, _, h, _ => by cases h
  | k + 1, x1, σ, z, h, hQ => by
    rw [f_M_again_12] at h
    by_cases c2 : 56 ≤ x1
    · rw [if_pos c2] at h
      suffices hh : ∃ n, jx_W jx_ShM d (some .int) jc_316 Q n 36 [some (.ref 0), some (.int x1)] [] σ by
        obtain ⟨n, hn⟩ := hh
        exact ⟨n + 3, And.intro (fun _ => hn) (fun zz => absurd c2 zz)⟩
      obtain ⟨n, hn⟩ := s_M_again_38 hd N h hQ
      exact ⟨n + 2, hn⟩
    · rw [if_neg c2] at h
      suffices hh : ∃ n, jx_W jx_ShM d (some .int) jc_316 Q n 18 [some (.ref 0), some (.int x1)] [] σ by
        obtain ⟨n, hn⟩ := hh
        exact ⟨n + 3, And.intro (fun zz => absurd zz c2) (fun _ => hn)⟩
      cases c5 : jx_in x1 56 with
      | false => rw [c5, cond_false] at h; cases h
      | true =>
        rw [c5, cond_true] at h
        obtain ⟨n, hn⟩ := s_M_again_12 hd k h hQ
        exact ⟨n + 10, And.intro (jx_in_ok c5) (And.intro (jx_in_ok c5) (hn))⟩
set_option maxRecDepth 20000 in
theorem s_M_again {N d : Nat} (hd : 1 ≤ d) {σ : jw_M} {z : (Int32 × jw_M)} {Q : jw_Q} (h : f_M_again N  σ = some z) (hQ : Q (some (.int z.1)) (jx_ShM, z.2)) : jw_C jp_kd jp_ys d 316 [.ref 0] (jx_ShM, σ) Q := by
  obtain ⟨d, rfl⟩ : ∃ e, d = e + 1 := ⟨d - 1, by omega⟩
  replace hd : 0 ≤ d := by omega
  refine jx_C rfl rfl ?_
  unfold f_M_again at h
  by_cases c1 : (σ.1 0 5) = 0
  · rw [if_pos c1] at h
    suffices hh : ∃ n, jx_W jx_ShM d (some .int) jc_316 Q n 7 [some (.ref 0), none] [] σ by
      obtain ⟨n, hn⟩ := hh
      exact ⟨n + 3, And.intro (fun zz => absurd c1 zz) (fun _ => hn)⟩
    cases h
    exact ⟨2, And.intro hQ (And.intro rfl rfl)⟩
  · rw [if_neg c1] at h
    suffices hh : ∃ n, jx_W jx_ShM d (some .int) jc_316 Q n 10 [some (.ref 0), none] [] σ by
      obtain ⟨n, hn⟩ := hh
      exact ⟨n + 3, And.intro (fun _ => hn) (fun zz => absurd zz c1)⟩
    obtain ⟨n, hn⟩ := s_M_again_12 hd N h hQ
    exact ⟨n + 2, hn⟩
