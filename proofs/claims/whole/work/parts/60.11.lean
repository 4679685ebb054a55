set_option maxRecDepth 20000 in
theorem s_F_ith {N d : Nat} {x1 : Int32} {x2 : Int32} (hd : 73 ≤ d) {σ : jw_M} {z : (Int32 × jw_M)} {Q : jw_Q} (h : f_F_ith N x1 x2 σ = some z) (hQ : Q (some (.int z.1)) (jx_ShC, z.2)) : jw_C jp_kd jp_ys d 147 [.ref 0, .int x1, .int x2] (jx_ShC, σ) Q := by
  obtain ⟨d, rfl⟩ : ∃ e, d = e + 1 := ⟨d - 1, by omega⟩
  replace hd : 72 ≤ d := by omega
  refine jx_C rfl rfl ?_
  unfold f_F_ith at h
  obtain ⟨z1, h2, h⟩ := Option.bind_eq_some_iff.mp h
  by_cases c3 : z1.1 = 0
  · rw [if_pos c3] at h
    suffices hh : ∃ n, jx_W jx_ShC d (some .int) jc_147 Q n 18 [some (.ref 0), some (.int x1), some (.int x2)] [] z1.2 by
      obtain ⟨n, hn⟩ := hh
      exact ⟨n + 5, s_F_isWithin (by omega) h2 (And.intro (fun _ => hn) (fun zz => absurd c3 zz))⟩
    cases h
    exact ⟨2, And.intro hQ (And.intro rfl rfl)⟩
  · rw [if_neg c3] at h
    suffices hh : ∃ n, jx_W jx_ShC d (some .int) jc_147 Q n 9 [some (.ref 0), some (.int x1), some (.int x2)] [] z1.2 by
      obtain ⟨n, hn⟩ := hh
      exact ⟨n + 5, s_F_isWithin (by omega) h2 (And.intro (fun zz => absurd zz c3) (fun _ => hn))⟩
    obtain ⟨z4, h5, h⟩ := Option.bind_eq_some_iff.mp h
    by_cases c6 : z4.1 = 0
    · rw [if_pos c6] at h
      suffices hh : ∃ n, jx_W jx_ShC d (some .int) jc_147 Q n 18 [some (.ref 0), some (.int x1), some (.int x2)] [] z4.2 by
        obtain ⟨n, hn⟩ := hh
        exact ⟨n + 5, s_F_isWithin (by omega) h5 (And.intro (fun zz => absurd c6 zz) (fun _ => hn))⟩
      cases h
      exact ⟨2, And.intro hQ (And.intro rfl rfl)⟩
    · rw [if_neg c6] at h
      suffices hh : ∃ n, jx_W jx_ShC d (some .int) jc_147 Q n 20 [some (.ref 0), some (.int x1), some (.int x2)] [] z4.2 by
        obtain ⟨n, hn⟩ := hh
        exact ⟨n + 5, s_F_isWithin (by omega) h5 (And.intro (fun _ => hn) (fun zz => absurd zz c6))⟩
      obtain ⟨z7, h8, h⟩ := Option.bind_eq_some_iff.mp h
      by_cases c9 : (z7.1 92 2) ≤ x2
      · rw [if_pos c9] at h
        suffices hh : ∃ n, jx_W jx_ShC d (some .int) jc_147 Q n 56 [some (.ref 0), some (.int x1), some (.int x2)] [] z7 by
          obtain ⟨n, hn⟩ := hh
          exact ⟨n + 12, s_L_walkAll (by omega) h8 (And.intro (fun _ => hn) (fun zz => absurd c9 zz))⟩
        cases h
        exact ⟨2, And.intro hQ (And.intro rfl rfl)⟩
      · rw [if_neg c9] at h
        suffices hh : ∃ n, jx_W jx_ShC d (some .int) jc_147 Q n 44 [some (.ref 0), some (.int x1), some (.int x2)] [] z7 by
          obtain ⟨n, hn⟩ := hh
          exact ⟨n + 12, s_L_walkAll (by omega) h8 (And.intro (fun zz => absurd zz c9) (fun _ => hn))⟩
        cases c10 : jx_in x2 4 with
        | false => rw [c10, cond_false] at h; cases h
        | true =>
          rw [c10, cond_true] at h
          cases h
          exact ⟨7, And.intro (jx_in_ok c10) (And.intro hQ (And.intro rfl rfl))⟩
set_option maxRecDepth 20000 in
theorem s_F_ways {N d : Nat} {x1 : Int32} (hd : 73 ≤ d) {σ : jw_M} {z : (Int32 × jw_M)} {Q : jw_Q} (h : f_F_ways N x1 σ = some z) (hQ : Q (some (.int z.1)) (jx_ShC, z.2)) : jw_C jp_kd jp_ys d 148 [.ref 0, .int x1] (jx_ShC, σ) Q := by
  obtain ⟨d, rfl⟩ : ∃ e, d = e + 1 := ⟨d - 1, by omega⟩
  replace hd : 72 ≤ d := by omega
  refine jx_C rfl rfl ?_
  unfold f_F_ways at h
  obtain ⟨z1, h2, h⟩ := Option.bind_eq_some_iff.mp h
  by_cases c3 : z1.1 = 0
  · rw [if_pos c3] at h
    suffices hh : ∃ n, jx_W jx_ShC d (some .int) jc_148 Q n 9 [some (.ref 0), some (.int x1)] [] z1.2 by
      obtain ⟨n, hn⟩ := hh
      exact ⟨n + 5, s_F_isWithin (by omega) h2 (And.intro (fun zz => absurd c3 zz) (fun _ => hn))⟩
    cases h
    exact ⟨2, And.intro hQ (And.intro rfl rfl)⟩
  · rw [if_neg c3] at h
    suffices hh : ∃ n, jx_W jx_ShC d (some .int) jc_148 Q n 11 [some (.ref 0), some (.int x1)] [] z1.2 by
      obtain ⟨n, hn⟩ := hh
      exact ⟨n + 5, s_F_isWithin (by omega) h2 (And.intro (fun _ => hn) (fun zz => absurd zz c3))⟩
    obtain ⟨z4, h5, h⟩ := Option.bind_eq_some_iff.mp h
    cases h
    exact ⟨11, s_L_walkAll (by omega) h5 (And.intro hQ (And.intro rfl rfl))⟩
set_option maxRecDepth 20000 in
theorem s_F_taught {N d : Nat} {x1 : Int32} {x2 : Int32} (hd : 73 ≤ d) {σ : jw_M} {z : (Int32 × jw_M)} {Q : jw_Q} (h : f_F_taught N x1 x2 σ = some z) (hQ : Q (some (.int z.1)) (jx_ShC, z.2)) : jw_C jp_kd jp_ys d 149 [.ref 0, .int x1, .int x2] (jx_ShC, σ) Q := by
  obtain ⟨d, rfl⟩ : ∃ e, d = e + 1 := ⟨d - 1, by omega⟩
  replace hd : 72 ≤ d := by omega
  refine jx_C rfl rfl ?_
  unfold f_F_taught at h
  obtain ⟨z1, h2, h⟩ := Option.bind_eq_some_iff.mp h
  by_cases c3 : z1.1 = 0
  · rw [if_pos c3] at h
    suffices hh : ∃ n, jx_W jx_ShC d (some .int) jc_149 Q n 20 [some (.ref 0), some (.int x1), some (.int x2)] [] z1.2 by
      obtain ⟨n, hn⟩ := hh
      exact ⟨n + 5, s_F_isWithin (by omega) h2 (And.intro (fun _ => hn) (fun zz => absurd c3 zz))⟩
    cases h
    exact ⟨2, And.intro hQ (And.intro rfl rfl)⟩
  · rw [if_neg c3] at h
    suffices hh : ∃ n, jx_W jx_ShC d (some .int) jc_149 Q n 9 [some (.ref 0), some (.int x1), some (.int x2)] [] z1.2 by
      obtain ⟨n, hn⟩ := hh
      exact ⟨n + 5, s_F_isWithin (by omega) h2 (And.intro (fun zz => absurd zz c3) (fun _ => hn))⟩
    obtain ⟨z4, h5, h⟩ := Option.bind_eq_some_iff.mp h
    by_cases c6 : z4.1 = 0
    · rw [if_pos c6] at h
      suffices hh : ∃ n, jx_W jx_ShC d (some .int) jc_149 Q n 20 [some (.ref 0), some (.int x1), some (.int x2)] [] z4.2 by
        obtain ⟨n, hn⟩ := hh
        exact ⟨n + 5, s_S_isSetOfLessons (by omega) h5 (And.intro (fun zz => absurd c6 zz) (fun _ => hn))⟩
      cases h
      exact ⟨2, And.intro hQ (And.intro rfl rfl)⟩
    · rw [if_neg c6] at h
      suffices hh : ∃ n, jx_W jx_ShC d (some .int) jc_149 Q n 22 [some (.ref 0), some (.int x1), some (.int x2)] [] z4.2 by
        obtain ⟨n, hn⟩ := hh
        exact ⟨n + 5, s_S_isSetOfLessons (by omega) h5 (And.intro (fun _ => hn) (fun zz => absurd zz c6))⟩
      obtain ⟨z7, h8, h⟩ := Option.bind_eq_some_iff.mp h
      by_cases c9 : 4 < (z7.1 92 7)
      · rw [if_pos c9] at h
        suffices hh : ∃ n, jx_W jx_ShC d (some .int) jc_149 Q n 56 [some (.ref 0), some (.int x1), some (.int x2)] [] z7 by
          obtain ⟨n, hn⟩ := hh
          exact ⟨n + 12, s_L_walkAll (by omega) h8 (And.intro (fun _ => hn) (fun zz => absurd c9 zz))⟩
        cases h
        exact ⟨2, And.intro hQ (And.intro rfl rfl)⟩
      · rw [if_neg c9] at h
        suffices hh : ∃ n, jx_W jx_ShC d (some .int) jc_149 Q n 46 [some (.ref 0), some (.int x1), some (.int x2)] [] z7 by
          obtain ⟨n, hn⟩ := hh
          exact ⟨n + 12, s_L_walkAll (by omega) h8 (And.intro (fun zz => absurd zz c9) (fun _ => hn))⟩
        cases h
        exact ⟨5, And.intro hQ (And.intro rfl rfl)⟩
set_option maxRecDepth 20000 in
theorem s_F_bars {N d : Nat} {x1 : Int32} {x2 : Int32} (hd : 73 ≤ d) {σ : jw_M} {z : (Int32 × jw_M)} {Q : jw_Q} (h : f_F_bars N x1 x2 σ = some z) (hQ : Q (some (.int z.1)) (jx_ShC, z.2)) : jw_C jp_kd jp_ys d 150 [.ref 0, .int x1, .int x2] (jx_ShC, σ) Q := by
  obtain ⟨d, rfl⟩ : ∃ e, d = e + 1 := ⟨d - 1, by omega⟩
  replace hd : 72 ≤ d := by omega
  refine jx_C rfl rfl ?_
  unfold f_F_bars at h
  obtain ⟨z1, h2, h⟩ := Option.bind_eq_some_iff.mp h
  by_cases c3 : z1.1 = 0
  · rw [if_pos c3] at h
    suffices hh : ∃ n, jx_W jx_ShC d (some .int) jc_150 Q n 20 [some (.ref 0), some (.int x1), some (.int x2), none] [] z1.2 by
      obtain ⟨n, hn⟩ := hh
      exact ⟨n + 5, s_F_isWithin (by omega) h2 (And.intro (fun _ => hn) (fun zz => absurd c3 zz))⟩
    cases h
    exact ⟨2, And.intro hQ (And.intro rfl rfl)⟩
  · rw [if_neg c3] at h
    suffices hh : ∃ n, jx_W jx_ShC d (some .int) jc_150 Q n 9 [some (.ref 0), some (.int x1), some (.int x2), none] [] z1.2 by
      obtain ⟨n, hn⟩ := hh
      exact ⟨n + 5, s_F_isWithin (by omega) h2 (And.intro (fun zz => absurd zz c3) (fun _ => hn))⟩
    obtain ⟨z4, h5, h⟩ := Option.bind_eq_some_iff.mp h
    by_cases c6 : z4.1 = 0
    · rw [if_pos c6] at h
      suffices hh : ∃ n, jx_W jx_ShC d (some .int) jc_150 Q n 20 [some (.ref 0), some (.int x1), some (.int x2), none] [] z4.2 by
        obtain ⟨n, hn⟩ := hh
        exact ⟨n + 5, s_S_isSetOfLessons (by omega) h5 (And.intro (fun zz => absurd c6 zz) (fun _ => hn))⟩
      cases h
      exact ⟨2, And.intro hQ (And.intro rfl rfl)⟩
    · rw [if_neg c6] at h
      suffices hh : ∃ n, jx_W jx_ShC d (some .int) jc_150 Q n 22 [some (.ref 0), some (.int x1), some (.int x2), none] [] z4.2 by
        obtain ⟨n, hn⟩ := hh
        exact ⟨n + 5, s_S_isSetOfLessons (by omega) h5 (And.intro (fun _ => hn) (fun zz => absurd zz c6))⟩
      obtain ⟨z7, h8, h⟩ := Option.bind_eq_some_iff.mp h
      by_cases c9 : (x2 &&& ((z7.1 92 8) ^^^ (-1))) = 0
      · rw [if_pos c9] at h
        suffices hh : ∃ n, jx_W jx_ShC d (some .int) jc_150 Q n 51 [some (.ref 0), some (.int x1), some (.int x2), some (.int (x2 &&& ((z7.1 92 8) ^^^ (-1))))] [] z7 by
          obtain ⟨n, hn⟩ := hh
          exact ⟨n + 17, s_L_walkAll (by omega) h8 (And.intro (fun zz => absurd c9 zz) (fun _ => hn))⟩
        cases h
        exact ⟨3, And.intro hQ (And.intro rfl rfl)⟩
      · rw [if_neg c9] at h
        suffices hh : ∃ n, jx_W jx_ShC d (some .int) jc_150 Q n 56 [some (.ref 0), some (.int x1), some (.int x2), some (.int (x2 &&& ((z7.1 92 8) ^^^ (-1))))] [] z7 by
          obtain ⟨n, hn⟩ := hh
          exact ⟨n + 17, s_L_walkAll (by omega) h8 (And.intro (fun _ => hn) (fun zz => absurd zz c9))⟩
        obtain ⟨z10, h11, h⟩ := Option.bind_eq_some_iff.mp h
        cases h
        exact ⟨3, s_J_numberOfTrailingZeros (by omega) h11 (And.intro hQ (And.intro rfl rfl))⟩
set_option maxRecDepth 20000 in
theorem s_F_game {N d : Nat} {x1 : Int32} (hd : 73 ≤ d) {σ : jw_M} {z : (Int32 × jw_M)} {Q : jw_Q} (h : f_F_game N x1 σ = some z) (hQ : Q (some (.int z.1)) (jx_ShC, z.2)) : jw_C jp_kd jp_ys d 151 [.ref 0, .int x1] (jx_ShC, σ) Q := by
  obtain ⟨d, rfl⟩ : ∃ e, d = e + 1 := ⟨d - 1, by omega⟩
  replace hd : 72 ≤ d := by omega
  refine jx_C rfl rfl ?_
  unfold f_F_game at h
  obtain ⟨z1, h2, h⟩ := Option.bind_eq_some_iff.mp h
  by_cases c3 : z1.1 = 0
  · rw [if_pos c3] at h
    suffices hh : ∃ n, jx_W jx_ShC d (some .int) jc_151 Q n 24 [some (.ref 0), some (.int x1)] [] z1.2 by
      obtain ⟨n, hn⟩ := hh
      exact ⟨n + 5, s_F_isWithin (by omega) h2 (And.intro (fun _ => hn) (fun zz => absurd c3 zz))⟩
    cases h
    exact ⟨2, And.intro hQ (And.intro rfl rfl)⟩
  · rw [if_neg c3] at h
    suffices hh : ∃ n, jx_W jx_ShC d (some .int) jc_151 Q n 9 [some (.ref 0), some (.int x1)] [] z1.2 by
      obtain ⟨n, hn⟩ := hh
      exact ⟨n + 5, s_F_isWithin (by omega) h2 (And.intro (fun zz => absurd zz c3) (fun _ => hn))⟩
    obtain ⟨z4, h5, h⟩ := Option.bind_eq_some_iff.mp h
    cases h
    exact ⟨8, s_L_valueOfGame (by omega) h5 (And.intro hQ (And.intro rfl rfl))⟩
set_option maxRecDepth 20000 in
theorem s_F_play {N d : Nat} {x1 : Int32} (hd : 73 ≤ d) {σ : jw_M} {z : (Int32 × jw_M)} {Q : jw_Q} (h : f_F_play N x1 σ = some z) (hQ : Q (some (.int z.1)) (jx_ShC, z.2)) : jw_C jp_kd jp_ys d 152 [.ref 0, .int x1] (jx_ShC, σ) Q := by
  obtain ⟨d, rfl⟩ : ∃ e, d = e + 1 := ⟨d - 1, by omega⟩
  replace hd : 72 ≤ d := by omega
  refine jx_C rfl rfl ?_
  unfold f_F_play at h
  obtain ⟨z1, h2, h⟩ := Option.bind_eq_some_iff.mp h
  by_cases c3 : z1.1 = 0
  · rw [if_pos c3] at h
    suffices hh : ∃ n, jx_W jx_ShC d (some .int) jc_152 Q n 9 [some (.ref 0), some (.int x1)] [] z1.2 by
      obtain ⟨n, hn⟩ := hh
      exact ⟨n + 5, s_F_isWithin (by omega) h2 (And.intro (fun zz => absurd c3 zz) (fun _ => hn))⟩
    cases h
    exact ⟨2, And.intro hQ (And.intro rfl rfl)⟩
  · rw [if_neg c3] at h
    suffices hh : ∃ n, jx_W jx_ShC d (some .int) jc_152 Q n 11 [some (.ref 0), some (.int x1)] [] z1.2 by
      obtain ⟨n, hn⟩ := hh
      exact ⟨n + 5, s_F_isWithin (by omega) h2 (And.intro (fun _ => hn) (fun zz => absurd zz c3))⟩
    obtain ⟨z4, h5, h⟩ := Option.bind_eq_some_iff.mp h
    by_cases c6 : z4.1 = 0
    · rw [if_pos c6] at h
      suffices hh : ∃ n, jx_W jx_ShC d (some .int) jc_152 Q n 31 [some (.ref 0), some (.int x1)] [] z4.2 by
        obtain ⟨n, hn⟩ := hh
        exact ⟨n + 7, s_S_isOver (by omega) (by decide) h5 (And.intro (fun _ => hn) (fun zz => absurd c6 zz))⟩
      obtain ⟨z7, h8, h⟩ := Option.bind_eq_some_iff.mp h
      cases h
      exact ⟨11, s_L_valueOfGame (by omega) h8 (And.intro hQ (And.intro rfl rfl))⟩
    · rw [if_neg c6] at h
      suffices hh : ∃ n, jx_W jx_ShC d (some .int) jc_152 Q n 28 [some (.ref 0), some (.int x1)] [] z4.2 by
        obtain ⟨n, hn⟩ := hh
        exact ⟨n + 7, s_S_isOver (by omega) (by decide) h5 (And.intro (fun zz => absurd zz c6) (fun _ => hn))⟩
      cases h
      exact ⟨2, And.intro hQ (And.intro rfl rfl)⟩
set_option maxRecDepth 20000 in
theorem s_F_report {N d : Nat} {x1 : Int32} {x2 : Int32} {x3 : Int32} {x4 : Int32} (hd : 2 ≤ d) {σ : jw_M} {z : (Int32 × jw_M)} {Q : jw_Q} (h : f_F_report N x1 x2 x3 x4 σ = some z) (hQ : Q (some (.int z.1)) (jx_ShC, z.2)) : jw_C jp_kd jp_ys d 153 [.ref 0, .int x1, .int x2, .int x3, .int x4] (jx_ShC, σ) Q := by
  obtain ⟨d, rfl⟩ : ∃ e, d = e + 1 := ⟨d - 1, by omega⟩
  replace hd : 1 ≤ d := by omega
  refine jx_C rfl rfl ?_
  unfold f_F_report at h
  obtain ⟨z1, h2, h⟩ := Option.bind_eq_some_iff.mp h
  by_cases c3 : z1.1 = 0
  · rw [if_pos c3] at h
    suffices hh : ∃ n, jx_W jx_ShC d (some .int) jc_153 Q n 42 [some (.ref 0), some (.int x1), some (.int x2), some (.int x3), some (.int x4)] [] z1.2 by
      obtain ⟨n, hn⟩ := hh
      exact ⟨n + 5, s_F_isWithin (by omega) h2 (And.intro (fun _ => hn) (fun zz => absurd c3 zz))⟩
    cases h
    exact ⟨2, And.intro hQ (And.intro rfl rfl)⟩
  · rw [if_neg c3] at h
    suffices hh : ∃ n, jx_W jx_ShC d (some .int) jc_153 Q n 9 [some (.ref 0), some (.int x1), some (.int x2), some (.int x3), some (.int x4)] [] z1.2 by
      obtain ⟨n, hn⟩ := hh
      exact ⟨n + 5, s_F_isWithin (by omega) h2 (And.intro (fun zz => absurd zz c3) (fun _ => hn))⟩
    obtain ⟨z4, h5, h⟩ := Option.bind_eq_some_iff.mp h
    by_cases c6 : z4.1 = 0
    · rw [if_pos c6] at h
      suffices hh : ∃ n, jx_W jx_ShC d (some .int) jc_153 Q n 42 [some (.ref 0), some (.int x1), some (.int x2), some (.int x3), some (.int x4)] [] z4.2 by
        obtain ⟨n, hn⟩ := hh
        exact ⟨n + 5, s_F_isWithin (by omega) h5 (And.intro (fun _ => hn) (fun zz => absurd c6 zz))⟩
      cases h
      exact ⟨2, And.intro hQ (And.intro rfl rfl)⟩
    · rw [if_neg c6] at h
      suffices hh : ∃ n, jx_W jx_ShC d (some .int) jc_153 Q n 19 [some (.ref 0), some (.int x1), some (.int x2), some (.int x3), some (.int x4)] [] z4.2 by
        obtain ⟨n, hn⟩ := hh
        exact ⟨n + 5, s_F_isWithin (by omega) h5 (And.intro (fun zz => absurd zz c6) (fun _ => hn))⟩
      obtain ⟨z7, h8, h⟩ := Option.bind_eq_some_iff.mp h
      by_cases c9 : z7.1 = 0
      · rw [if_pos c9] at h
        suffices hh : ∃ n, jx_W jx_ShC d (some .int) jc_153 Q n 42 [some (.ref 0), some (.int x1), some (.int x2), some (.int x3), some (.int x4)] [] z7.2 by
          obtain ⟨n, hn⟩ := hh
          exact ⟨n + 5, s_F_isWithin (by omega) h8 (And.intro (fun _ => hn) (fun zz => absurd c9 zz))⟩
        cases h
        exact ⟨2, And.intro hQ (And.intro rfl rfl)⟩
      · rw [if_neg c9] at h
        suffices hh : ∃ n, jx_W jx_ShC d (some .int) jc_153 Q n 30 [some (.ref 0), some (.int x1), some (.int x2), some (.int x3), some (.int x4)] [] z7.2 by
          obtain ⟨n, hn⟩ := hh
          exact ⟨n + 5, s_F_isWithin (by omega) h8 (And.intro (fun zz => absurd zz c9) (fun _ => hn))⟩
        obtain ⟨z10, h11, h⟩ := Option.bind_eq_some_iff.mp h
        by_cases c12 : z10.1 = 0
        · rw [if_pos c12] at h
          suffices hh : ∃ n, jx_W jx_ShC d (some .int) jc_153 Q n 42 [some (.ref 0), some (.int x1), some (.int x2), some (.int x3), some (.int x4)] [] z10.2 by
            obtain ⟨n, hn⟩ := hh
            exact ⟨n + 5, s_F_isWithin (by omega) h11 (And.intro (fun zz => absurd c12 zz) (fun _ => hn))⟩
          cases h
          exact ⟨2, And.intro hQ (And.intro rfl rfl)⟩
        · rw [if_neg c12] at h
          suffices hh : ∃ n, jx_W jx_ShC d (some .int) jc_153 Q n 44 [some (.ref 0), some (.int x1), some (.int x2), some (.int x3), some (.int x4)] [] z10.2 by
            obtain ⟨n, hn⟩ := hh
            exact ⟨n + 5, s_F_isWithin (by omega) h11 (And.intro (fun _ => hn) (fun zz => absurd zz c12))⟩
          by_cases c13 : (z10.2.1 1 12) < 6
          · rw [if_pos c13] at h
            suffices hh : ∃ n, jx_W jx_ShC d (some .int) jc_153 Q n 61 [some (.ref 0), some (.int x1), some (.int x2), some (.int x3), some (.int x4)] [] z10.2 by
              obtain ⟨n, hn⟩ := hh
              exact ⟨n + 5, And.intro (fun _ => hn) (fun zz => absurd c13 zz)⟩
            obtain ⟨z14, h15, h⟩ := Option.bind_eq_some_iff.mp h
            cases h
            exact ⟨8, s_S_addReport (by omega) h15 (And.intro hQ (And.intro rfl rfl))⟩
          · rw [if_neg c13] at h
            suffices hh : ∃ n, jx_W jx_ShC d (some .int) jc_153 Q n 56 [some (.ref 0), some (.int x1), some (.int x2), some (.int x3), some (.int x4)] [] z10.2 by
              obtain ⟨n, hn⟩ := hh
              exact ⟨n + 5, And.intro (fun zz => absurd zz c13) (fun _ => hn)⟩
            cases h
            exact ⟨3, And.intro hQ (And.intro rfl rfl)⟩
set_option maxRecDepth 20000 in
theorem s_F_forget {N d : Nat} (hd : 1 ≤ d) {σ : jw_M} {z : (Int32 × jw_M)} {Q : jw_Q} (h : f_F_forget N  σ = some z) (hQ : Q (some (.int z.1)) (jx_ShC, z.2)) : jw_C jp_kd jp_ys d 154 [.ref 0] (jx_ShC, σ) Q := by
  obtain ⟨d, rfl⟩ : ∃ e, d = e + 1 := ⟨d - 1, by omega⟩
  replace hd : 0 ≤ d := by omega
  refine jx_C rfl rfl ?_
  unfold f_F_forget at h
  cases h
  exact ⟨10, And.intro hQ (And.intro rfl rfl)⟩
set_option maxRecDepth 20000 in
theorem s_F_span {N d : Nat} {x1 : Int32} (hd : 6 ≤ d) {σ : jw_M} {z : (Int32 × jw_M)} {Q : jw_Q} (h : f_F_span N x1 σ = some z) (hQ : Q (some (.int z.1)) (jx_ShC, z.2)) : jw_C jp_kd jp_ys d 155 [.ref 0, .int x1] (jx_ShC, σ) Q := by
  obtain ⟨d, rfl⟩ : ∃ e, d = e + 1 := ⟨d - 1, by omega⟩
  replace hd : 5 ≤ d := by omega
  refine jx_C rfl rfl ?_
  unfold f_F_span at h
  obtain ⟨z1, h2, h⟩ := Option.bind_eq_some_iff.mp h
  by_cases c3 : z1.1 = 0
  · rw [if_pos c3] at h
    suffices hh : ∃ n, jx_W jx_ShC d (some .int) jc_155 Q n 9 [some (.ref 0), some (.int x1), none] [] z1.2 by
      obtain ⟨n, hn⟩ := hh
      exact ⟨n + 5, s_F_isWithin (by omega) h2 (And.intro (fun zz => absurd c3 zz) (fun _ => hn))⟩
    cases h
    exact ⟨2, And.intro hQ (And.intro rfl rfl)⟩
  · rw [if_neg c3] at h
    suffices hh : ∃ n, jx_W jx_ShC d (some .int) jc_155 Q n 11 [some (.ref 0), some (.int x1), none] [] z1.2 by
      obtain ⟨n, hn⟩ := hh
      exact ⟨n + 5, s_F_isWithin (by omega) h2 (And.intro (fun _ => hn) (fun zz => absurd zz c3))⟩
    by_cases c4 : x1 = 0
    · rw [if_pos c4] at h
      suffices hh : ∃ n, jx_W jx_ShC d (some .int) jc_155 Q n 15 [some (.ref 0), some (.int x1), none] [] z1.2 by
        obtain ⟨n, hn⟩ := hh
        exact ⟨n + 2, And.intro (fun zz => absurd c4 zz) (fun _ => hn)⟩
      obtain ⟨z5, h6, h⟩ := Option.bind_eq_some_iff.mp h
      cases h
      exact ⟨4, s_S_howManyFit (by omega) h6 (And.intro hQ (And.intro rfl rfl))⟩
    · rw [if_neg c4] at h
      suffices hh : ∃ n, jx_W jx_ShC d (some .int) jc_155 Q n 23 [some (.ref 0), some (.int x1), none] [] z1.2 by
        obtain ⟨n, hn⟩ := hh
        exact ⟨n + 2, And.intro (fun _ => hn) (fun zz => absurd zz c4)⟩
      obtain ⟨z7, h8, h⟩ := Option.bind_eq_some_iff.mp h
      by_cases c9 : 0 ≤ z7.1
      · rw [if_pos c9] at h
        suffices hh : ∃ n, jx_W jx_ShC d (some .int) jc_155 Q n 40 [some (.ref 0), some (.int x1), some (.int z7.1)] [] z7.2 by
          obtain ⟨n, hn⟩ := hh
          exact ⟨n + 7, s_S_firstFit (by omega) h8 (And.intro (fun _ => hn) (fun zz => absurd c9 zz))⟩
        by_cases c10 : x1 = 1
        · rw [if_pos c10] at h
          suffices hh : ∃ n, jx_W jx_ShC d (some .int) jc_155 Q n 45 [some (.ref 0), some (.int x1), some (.int z7.1)] [] z7.2 by
            obtain ⟨n, hn⟩ := hh
            exact ⟨n + 3, And.intro (fun zz => absurd c10 zz) (fun _ => hn)⟩
          cases h
          exact ⟨5, And.intro (by decide) (And.intro hQ (And.intro rfl rfl))⟩
        · rw [if_neg c10] at h
          suffices hh : ∃ n, jx_W jx_ShC d (some .int) jc_155 Q n 51 [some (.ref 0), some (.int x1), some (.int z7.1)] [] z7.2 by
            obtain ⟨n, hn⟩ := hh
            exact ⟨n + 3, And.intro (fun _ => hn) (fun zz => absurd zz c10)⟩
          cases h
          exact ⟨6, And.intro (by decide) (And.intro hQ (And.intro rfl rfl))⟩
      · rw [if_neg c9] at h
        suffices hh : ∃ n, jx_W jx_ShC d (some .int) jc_155 Q n 37 [some (.ref 0), some (.int x1), some (.int z7.1)] [] z7.2 by
          obtain ⟨n, hn⟩ := hh
          exact ⟨n + 7, s_S_firstFit (by omega) h8 (And.intro (fun zz => absurd zz c9) (fun _ => hn))⟩
        cases h
        exact ⟨2, And.intro hQ (And.intro rfl rfl)⟩
set_option maxRecDepth 20000 in
theorem s_F_liar_17 {N d : Nat} {Q : jw_Q} (hd : 5 ≤ d) : ∀ (k : Nat) {x1 : Int32} {σ : jw_M} {z : (Int32 × jw_M)}, f_F_liar_17 N k x1 σ = some z → Q (some (.int z.1)) (jx_ShC, z.2) → ∃ n, jx_W jx_ShC d (some .int) jc_156 Q n 17 [some (.ref 0), some (.int x1)] [] σ
  | 0, _, _, _, h, _ => by cases h
  | k + 1, x1, σ, z, h, hQ => by
    rw [f_F_liar_17] at h
    by_cases c4 : (σ.1 1 12) ≤ x1
    · rw [if_pos c4] at h
      suffices hh : ∃ n, jx_W jx_ShC d (some .int) jc_156 Q n 47 [some (.ref 0), some (.int x1)] [] σ by
        obtain ⟨n, hn⟩ := hh
        exact ⟨n + 5, And.intro (fun _ => hn) (fun zz => absurd c4 zz)⟩
      cases h
      exact ⟨2, And.intro hQ (And.intro rfl rfl)⟩
    · rw [if_neg c4] at h
      suffices hh : ∃ n, jx_W jx_ShC d (some .int) jc_156 Q n 28 [some (.ref 0), some (.int x1)] [] σ by
        obtain ⟨n, hn⟩ := hh
        exact ⟨n + 5, And.intro (fun zz => absurd zz c4) (fun _ => hn)⟩
      obtain ⟨z5, h6, h⟩ := Option.bind_eq_some_iff.mp h
      by_cases c7 : z5.1 < 0
      · rw [if_pos c7] at h
        suffices hh : ∃ n, jx_W jx_ShC d (some .int) jc_156 Q n 41 [some (.ref 0), some (.int x1)] [] z5.2 by
          obtain ⟨n, hn⟩ := hh
          exact ⟨n + 5, s_S_firstFit (by omega) h6 (And.intro (fun _ => hn) (fun zz => absurd c7 zz))⟩
        obtain ⟨n, hn⟩ := s_F_liar_17 hd k h hQ
        exact ⟨n + 2, hn⟩
      · rw [if_neg c7] at h
        suffices hh : ∃ n, jx_W jx_ShC d (some .int) jc_156 Q n 39 [some (.ref 0), some (.int x1)] [] z5.2 by
          obtain ⟨n, hn⟩ := hh
          exact ⟨n + 5, s_S_firstFit (by omega) h6 (And.intro (fun zz => absurd zz c7) (fun _ => hn))⟩
        cases h
        exact ⟨2, And.intro hQ (And.intro rfl rfl)⟩
set_option maxRecDepth 20000 in
theorem s_F_liar {N d : Nat} (hd : 6 ≤ d) {σ : jw_M} {z : (Int32 × jw_M)} {Q : jw_Q} (h : f_F_liar N  σ = some z) (hQ : Q (some (.int z.1)) (jx_ShC, z.2)) : jw_C jp_kd jp_ys d 156 [.ref 0] (jx_ShC, σ) Q := by
  obtain ⟨d, rfl⟩ : ∃ e, d = e + 1 := ⟨d - 1, by omega⟩
  replace hd : 5 ≤ d := by omega
  refine jx_C rfl rfl ?_
  unfold f_F_liar at h
  obtain ⟨z1, h2, h⟩ := Option.bind_eq_some_iff.mp h
  by_cases c3 : z1.1 < 0
  · rw [if_pos c3] at h
    suffices hh : ∃ n, jx_W jx_ShC d (some .int) jc_156 Q n 15 [some (.ref 0), none] [] z1.2 by
      obtain ⟨n, hn⟩ := hh
      exact ⟨n + 5, s_S_firstFit (by omega) h2 (And.intro (fun _ => hn) (fun zz => absurd c3 zz))⟩
    obtain ⟨n, hn⟩ := s_F_liar_17 hd N h hQ
    exact ⟨n + 2, hn⟩
  · rw [if_neg c3] at h
    suffices hh : ∃ n, jx_W jx_ShC d (some .int) jc_156 Q n 12 [some (.ref 0), none] [] z1.2 by
      obtain ⟨n, hn⟩ := hh
      exact ⟨n + 5, s_S_firstFit (by omega) h2 (And.intro (fun zz => absurd zz c3) (fun _ => hn))⟩
    cases h
    exact ⟨2, And.intro hQ (And.intro rfl rfl)⟩
set_option maxRecDepth 20000 in
theorem s_F_seed {N d : Nat} {x1 : Int32} (hd : 1 ≤ d) {σ : jw_M} {z : (Int32 × jw_M)} {Q : jw_Q} (h : f_F_seed N x1 σ = some z) (hQ : Q (some (.int z.1)) (jx_ShC, z.2)) : jw_C jp_kd jp_ys d 157 [.ref 0, .int x1] (jx_ShC, σ) Q := by
  obtain ⟨d, rfl⟩ : ∃ e, d = e + 1 := ⟨d - 1, by omega⟩
  replace hd : 0 ≤ d := by omega
  refine jx_C rfl rfl ?_
  unfold f_F_seed at h
  cases h
  exact ⟨10, And.intro hQ (And.intro rfl rfl)⟩
set_option maxRecDepth 20000 in
theorem s_F_lot {N d : Nat} (hd : 8 ≤ d) {σ : jw_M} {z : (Int32 × jw_M)} {Q : jw_Q} (h : f_F_lot N  σ = some z) (hQ : Q (some (.int z.1)) (jx_ShC, z.2)) : jw_C jp_kd jp_ys d 158 [.ref 0] (jx_ShC, σ) Q := by
  obtain ⟨d, rfl⟩ : ∃ e, d = e + 1 := ⟨d - 1, by omega⟩
  replace hd : 7 ≤ d := by omega
  refine jx_C rfl rfl ?_
  unfold f_F_lot at h
  obtain ⟨z1, h2, h⟩ := Option.bind_eq_some_iff.mp h
  by_cases c3 : z1.1 = 0
  · rw [if_pos c3] at h
    suffices hh : ∃ n, jx_W jx_ShC d (some .int) jc_158 Q n 22 [some (.ref 0)] [] z1.2 by
      obtain ⟨n, hn⟩ := hh
      exact ⟨n + 7, s_S_isOver (by omega) (by decide) h2 (And.intro (fun _ => hn) (fun zz => absurd c3 zz))⟩
    obtain ⟨z4, h5, h⟩ := Option.bind_eq_some_iff.mp h
    cases h
    exact ⟨7, s_S_goByLot (by omega) (by decide) h5 (And.intro hQ (And.intro rfl rfl))⟩
  · rw [if_neg c3] at h
    suffices hh : ∃ n, jx_W jx_ShC d (some .int) jc_158 Q n 17 [some (.ref 0)] [] z1.2 by
      obtain ⟨n, hn⟩ := hh
      exact ⟨n + 7, s_S_isOver (by omega) (by decide) h2 (And.intro (fun zz => absurd zz c3) (fun _ => hn))⟩
    cases h
    exact ⟨3, And.intro hQ (And.intro rfl rfl)⟩
set_option maxRecDepth 20000 in
theorem s_F_often_112 {N d : Nat} {Q : jw_Q} {K37 : Int32 → Int32 → Int32 → Int32 → Int32 → jw_M → Option (Int32 × jw_M)} (hd : 7 ≤ d) (hK37 : ∀ {x1 : Int32} {x2 : Int32} {x3 : Int32} {x4 : Int32} {x5 : Int32} {σ : jw_M} {z : (Int32 × jw_M)} {u6 : Option Value} {u7 : Option Value}, K37 x1 x2 x3 x4 x5 σ = some z → Q (some (.int z.1)) (jx_ShC, z.2) → ∃ n, jx_W jx_ShC d (some .int) jc_159 Q n 37 [some (.ref 0), some (.int x1), some (.int x2), some (.int x3), some (.int x4), some (.int x5), u6, u7] [] σ) {x1 : Int32} {x2 : Int32} {x3 : Int32} {x4 : Int32} {x5 : Int32} {u6 : Option Value} {u7 : Option Value} {σ : jw_M} {z : (Int32 × jw_M)} (h : f_F_often_112 N K37 x1 x2 x3 x4 x5 σ = some z) (hQ : Q (some (.int z.1)) (jx_ShC, z.2)) : ∃ n, jx_W jx_ShC d (some .int) jc_159 Q n 112 [some (.ref 0), some (.int x1), some (.int x2), some (.int x3), some (.int x4), some (.int x5), u6, u7] [] σ := by
  unfold f_F_often_112 at h
  obtain ⟨n, hn⟩ := hK37 (u6 := u6) (u7 := u7) h hQ
  exact ⟨n + 2, hn⟩
set_option maxRecDepth 20000 in
theorem s_F_often_69 {N d : Nat} {Q : jw_Q} {K37 : Int32 → Int32 → Int32 → Int32 → Int32 → jw_M → Option (Int32 × jw_M)} (hd : 7 ≤ d) (hK37 : ∀ {x1 : Int32} {x2 : Int32} {x3 : Int32} {x4 : Int32} {x5 : Int32} {σ : jw_M} {z : (Int32 × jw_M)} {u6 : Option Value} {u7 : Option Value}, K37 x1 x2 x3 x4 x5 σ = some z → Q (some (.int z.1)) (jx_ShC, z.2) → ∃ n, jx_W jx_ShC d (some .int) jc_159 Q n 37 [some (.ref 0), some (.int x1), some (.int x2), some (.int x3), some (.int x4), some (.int x5), u6, u7] [] σ) : ∀ (k : Nat) {x1 : Int32} {x2 : Int32} {x3 : Int32} {x4 : Int32} {x5 : Int32} {x6 : Int32} {x7 : Int32} {σ : jw_M} {z : (Int32 × jw_M)}, f_F_often_69 N K37 k x1 x2 x3 x4 x5 x6 x7 σ = some z → Q (some (.int z.1)) (jx_ShC, z.2) → ∃ n, jx_W jx_ShC d (some .int) jc_159 Q n 69 [some (.ref 0), some (.int x1), some (.int x2), some (.int x3), some (.int x4), some (.int x5), some (.int x6), some (.int x7)] [] σ
  | 0, _, _, _, _, _, _, _, _, _, h, _ => by cases h
  | k + 1, x1, x2, x3, x4, x5, x6, x7, σ, z, h, hQ => by
    rw [f_F_often_69] at h
    by_cases c10 : (σ.1 1 14) ≤ x7
    · rw [if_pos c10] at h
      suffices hh : ∃ n, jx_W jx_ShC d (some .int) jc_159 Q n 103 [some (.ref 0), some (.int x1), some (.int x2), some (.int x3), some (.int x4), some (.int x5), some (.int x6), some (.int x7)] [] σ by
        obtain ⟨n, hn⟩ := hh
        exact ⟨n + 5, And.intro (fun _ => hn) (fun zz => absurd c10 zz)⟩
      by_cases c11 : x6 < x2
      · rw [if_pos c11] at h
        suffices hh : ∃ n, jx_W jx_ShC d (some .int) jc_159 Q n 112 [some (.ref 0), some (.int x1), some (.int x2), some (.int x3), some (.int x4), some (.int x5), some (.int x6), some (.int x7)] [] σ by
          obtain ⟨n, hn⟩ := hh
          exact ⟨n + 3, And.intro (fun _ => hn) (fun zz => absurd c11 zz)⟩
        obtain ⟨n, hn⟩ := s_F_often_112 hd hK37 (u6 := some (.int x6)) (u7 := some (.int x7)) h hQ
        exact ⟨n + 0, hn⟩
      · rw [if_neg c11] at h
        suffices hh : ∃ n, jx_W jx_ShC d (some .int) jc_159 Q n 109 [some (.ref 0), some (.int x1), some (.int x2), some (.int x3), some (.int x4), some (.int x5), some (.int x6), some (.int x7)] [] σ by
          obtain ⟨n, hn⟩ := hh
          exact ⟨n + 3, And.intro (fun zz => absurd zz c11) (fun _ => hn)⟩
        obtain ⟨n, hn⟩ := s_F_often_112 hd hK37 (u6 := some (.int x6)) (u7 := some (.int x7)) h hQ
        exact ⟨n + 1, hn⟩
    · rw [if_neg c10] at h
      suffices hh : ∃ n, jx_W jx_ShC d (some .int) jc_159 Q n 81 [some (.ref 0), some (.int x1), some (.int x2), some (.int x3), some (.int x4), some (.int x5), some (.int x6), some (.int x7)] [] σ by
        obtain ⟨n, hn⟩ := hh
        exact ⟨n + 5, And.intro (fun zz => absurd zz c10) (fun _ => hn)⟩
      obtain ⟨z12, h13, h⟩ := Option.bind_eq_some_iff.mp h
      obtain ⟨n, hn⟩ := s_F_often_69 hd hK37 k h hQ
      exact ⟨n + 10, s_S_goByLot (by omega) (by decide) h13 (hn)⟩
set_option maxRecDepth 20000 in
theorem s_F_often_37 {N d : Nat} {Q : jw_Q} (hd : 7 ≤ d) : ∀ (k : Nat) {x1 : Int32} {x2 : Int32} {x3 : Int32} {x4 : Int32} {x5 : Int32} {u6 : Option Value} {u7 : Option Value} {σ : jw_M} {z : (Int32 × jw_M)}, f_F_often_37 N k x1 x2 x3 x4 x5 σ = some z → Q (some (.int z.1)) (jx_ShC, z.2) → ∃ n, jx_W jx_ShC d (some .int) jc_159 Q n 37 [some (.ref 0), some (.int x1), some (.int x2), some (.int x3), some (.int x4), some (.int x5), u6, u7] [] σ
  | 0, _, _, _, _, _, _, _, _, _, h, _ => by cases h
  | k + 1, x1, x2, x3, x4, x5, u6, u7, σ, z, h, hQ => by
    rw [f_F_often_37] at h
    by_cases c7 : x1 ≤ x5
    · rw [if_pos c7] at h
      suffices hh : ∃ n, jx_W jx_ShC d (some .int) jc_159 Q n 118 [some (.ref 0), some (.int x1), some (.int x2), some (.int x3), some (.int x4), some (.int x5), u6, u7] [] σ by
        obtain ⟨n, hn⟩ := hh
        exact ⟨n + 3, And.intro (fun _ => hn) (fun zz => absurd c7 zz)⟩
      cases h
      exact ⟨6, And.intro hQ (And.intro rfl rfl)⟩
    · rw [if_neg c7] at h
      suffices hh : ∃ n, jx_W jx_ShC d (some .int) jc_159 Q n 43 [some (.ref 0), some (.int x1), some (.int x2), some (.int x3), some (.int x4), some (.int x5), u6, u7] [] σ by
        obtain ⟨n, hn⟩ := hh
        exact ⟨n + 3, And.intro (fun zz => absurd zz c7) (fun _ => hn)⟩
      obtain ⟨z8, h9, h⟩ := Option.bind_eq_some_iff.mp h
      obtain ⟨n, hn⟩ := s_F_often_69 hd (s_F_often_37 hd k) N h hQ
      exact ⟨n + 12, s_P_copyFrom (by omega) (by decide) h9 (hn)⟩
set_option maxRecDepth 20000 in
theorem s_F_often {N d : Nat} {x1 : Int32} {x2 : Int32} (hd : 8 ≤ d) {σ : jw_M} {z : (Int32 × jw_M)} {Q : jw_Q} (h : f_F_often N x1 x2 σ = some z) (hQ : Q (some (.int z.1)) (jx_ShC, z.2)) : jw_C jp_kd jp_ys d 159 [.ref 0, .int x1, .int x2] (jx_ShC, σ) Q := by
  obtain ⟨d, rfl⟩ : ∃ e, d = e + 1 := ⟨d - 1, by omega⟩
  replace hd : 7 ≤ d := by omega
  refine jx_C rfl rfl ?_
  unfold f_F_often at h
  obtain ⟨z1, h2, h⟩ := Option.bind_eq_some_iff.mp h
  by_cases c3 : z1.1 = 0
  · rw [if_pos c3] at h
    suffices hh : ∃ n, jx_W jx_ShC d (some .int) jc_159 Q n 21 [some (.ref 0), some (.int x1), some (.int x2), none, none, none, none, none] [] z1.2 by
      obtain ⟨n, hn⟩ := hh
      exact ⟨n + 5, s_F_isWithin (by omega) h2 (And.intro (fun _ => hn) (fun zz => absurd c3 zz))⟩
    cases h
    exact ⟨2, And.intro hQ (And.intro rfl rfl)⟩
  · rw [if_neg c3] at h
    suffices hh : ∃ n, jx_W jx_ShC d (some .int) jc_159 Q n 10 [some (.ref 0), some (.int x1), some (.int x2), none, none, none, none, none] [] z1.2 by
      obtain ⟨n, hn⟩ := hh
      exact ⟨n + 5, s_F_isWithin (by omega) h2 (And.intro (fun zz => absurd zz c3) (fun _ => hn))⟩
    obtain ⟨z4, h5, h⟩ := Option.bind_eq_some_iff.mp h
    by_cases c6 : z4.1 = 0
    · rw [if_pos c6] at h
      suffices hh : ∃ n, jx_W jx_ShC d (some .int) jc_159 Q n 21 [some (.ref 0), some (.int x1), some (.int x2), none, none, none, none, none] [] z4.2 by
        obtain ⟨n, hn⟩ := hh
        exact ⟨n + 5, s_F_isWithin (by omega) h5 (And.intro (fun zz => absurd c6 zz) (fun _ => hn))⟩
      cases h
      exact ⟨2, And.intro hQ (And.intro rfl rfl)⟩
    · rw [if_neg c6] at h
      suffices hh : ∃ n, jx_W jx_ShC d (some .int) jc_159 Q n 23 [some (.ref 0), some (.int x1), some (.int x2), none, none, none, none, none] [] z4.2 by
        obtain ⟨n, hn⟩ := hh
        exact ⟨n + 5, s_F_isWithin (by omega) h5 (And.intro (fun _ => hn) (fun zz => absurd zz c6))⟩
      obtain ⟨n, hn⟩ := s_F_often_37 hd N (u6 := none) (u7 := none) h hQ
      exact ⟨n + 8, hn⟩
set_option maxRecDepth 20000 in
theorem s_F_prove {N d : Nat} {x1 : Int32} (hd : 73 ≤ d) {σ : jw_M} {z : (Int32 × jw_M)} {Q : jw_Q} (h : f_F_prove N x1 σ = some z) (hQ : Q (some (.int z.1)) (jx_ShC, z.2)) : jw_C jp_kd jp_ys d 160 [.ref 0, .int x1] (jx_ShC, σ) Q := by
  obtain ⟨d, rfl⟩ : ∃ e, d = e + 1 := ⟨d - 1, by omega⟩
  replace hd : 72 ≤ d := by omega
  refine jx_C rfl rfl ?_
  unfold f_F_prove at h
  obtain ⟨z1, h2, h⟩ := Option.bind_eq_some_iff.mp h
  by_cases c3 : z1.1 = 0
  · rw [if_pos c3] at h
    suffices hh : ∃ n, jx_W jx_ShC d (some .int) jc_160 Q n 9 [some (.ref 0), some (.int x1)] [] z1.2 by
      obtain ⟨n, hn⟩ := hh
      exact ⟨n + 5, s_F_isWithin (by omega) h2 (And.intro (fun zz => absurd c3 zz) (fun _ => hn))⟩
    cases h
    exact ⟨2, And.intro hQ (And.intro rfl rfl)⟩
  · rw [if_neg c3] at h
    suffices hh : ∃ n, jx_W jx_ShC d (some .int) jc_160 Q n 11 [some (.ref 0), some (.int x1)] [] z1.2 by
      obtain ⟨n, hn⟩ := hh
      exact ⟨n + 5, s_F_isWithin (by omega) h2 (And.intro (fun _ => hn) (fun zz => absurd zz c3))⟩
    obtain ⟨z4, h5, h⟩ := Option.bind_eq_some_iff.mp h
    obtain ⟨z6, h7, h⟩ := Option.bind_eq_some_iff.mp h
    cases h
    exact ⟨13, s_L_walkAll (by omega) h5 (s_L_makeRows (by omega) h7 (And.intro hQ (And.intro rfl rfl)))⟩
set_option maxRecDepth 20000 in
theorem s_F_row_20 {N d : Nat} {Q : jw_Q} (hd : 1 ≤ d) {x2 : Int32} {y1 : Int32} {u0 : Option Value} {u1 : Option Value} {σ : jw_M} {z : (Int32 × jw_M)} (h : f_F_row_20 N x2 y1 σ = some z) (hQ : Q (some (.int z.1)) (jx_ShC, z.2)) : ∃ n, jx_W jx_ShC d (some .int) jc_161 Q n 20 [u0, u1, some (.int x2)] [.int y1, .ref 116] σ := by
  unfold f_F_row_20 at h
  cases c4 : jx_in y1 4 with
  | false => rw [c4, cond_false] at h; cases h
  | true =>
    rw [c4, cond_true] at h
    rcases jx_ix4 (jx_in_ok c4) with rfl | rfl | rfl | rfl
    · try rw [show (117 + (0 : Int32).toNatClampNeg) = 117 from by decide] at h
      cases c5 : jx_in x2 3 with
      | false => rw [c5, cond_false] at h; cases h
      | true =>
        rw [c5, cond_true] at h
        cases h
        exact ⟨5, And.intro (jx_in_ok c4) (And.intro (jx_in_ok c5) (And.intro hQ (And.intro rfl rfl)))⟩
    · try rw [show (117 + (1 : Int32).toNatClampNeg) = 118 from by decide] at h
      cases c5 : jx_in x2 3 with
      | false => rw [c5, cond_false] at h; cases h
      | true =>
        rw [c5, cond_true] at h
        cases h
        exact ⟨5, And.intro (jx_in_ok c4) (And.intro (jx_in_ok c5) (And.intro hQ (And.intro rfl rfl)))⟩
    · try rw [show (117 + (2 : Int32).toNatClampNeg) = 119 from by decide] at h
      cases c5 : jx_in x2 3 with
      | false => rw [c5, cond_false] at h; cases h
      | true =>
        rw [c5, cond_true] at h
        cases h
        exact ⟨5, And.intro (jx_in_ok c4) (And.intro (jx_in_ok c5) (And.intro hQ (And.intro rfl rfl)))⟩
    · try rw [show (117 + (3 : Int32).toNatClampNeg) = 120 from by decide] at h
      cases c5 : jx_in x2 3 with
      | false => rw [c5, cond_false] at h; cases h
      | true =>
        rw [c5, cond_true] at h
        cases h
        exact ⟨5, And.intro (jx_in_ok c4) (And.intro (jx_in_ok c5) (And.intro hQ (And.intro rfl rfl)))⟩
set_option maxRecDepth 20000 in
theorem s_F_row {N d : Nat} {x1 : Int32} {x2 : Int32} (hd : 2 ≤ d) {σ : jw_M} {z : (Int32 × jw_M)} {Q : jw_Q} (h : f_F_row N x1 x2 σ = some z) (hQ : Q (some (.int z.1)) (jx_ShC, z.2)) : jw_C jp_kd jp_ys d 161 [.ref 0, .int x1, .int x2] (jx_ShC, σ) Q := by
  obtain ⟨d, rfl⟩ : ∃ e, d = e + 1 := ⟨d - 1, by omega⟩
  replace hd : 1 ≤ d := by omega
  refine jx_C rfl rfl ?_
  unfold f_F_row at h
  obtain ⟨z1, h2, h⟩ := Option.bind_eq_some_iff.mp h
  by_cases c3 : z1.1 = 0
  · rw [if_pos c3] at h
    suffices hh : ∃ n, jx_W jx_ShC d (some .int) jc_161 Q n 26 [some (.ref 0), some (.int x1), some (.int x2)] [] z1.2 by
      obtain ⟨n, hn⟩ := hh
      exact ⟨n + 6, s_L_hasRowPart (by omega) h2 (And.intro (fun _ => hn) (fun zz => absurd c3 zz))⟩
    cases h
    exact ⟨2, And.intro hQ (And.intro rfl rfl)⟩
  · rw [if_neg c3] at h
    suffices hh : ∃ n, jx_W jx_ShC d (some .int) jc_161 Q n 12 [some (.ref 0), some (.int x1), some (.int x2)] [] z1.2 by
      obtain ⟨n, hn⟩ := hh
      exact ⟨n + 6, s_L_hasRowPart (by omega) h2 (And.intro (fun zz => absurd zz c3) (fun _ => hn))⟩
    obtain ⟨n, hn⟩ := s_F_row_20 hd (u0 := some (.ref 0)) (u1 := some (.int x1)) h hQ
    exact ⟨n + 4, hn⟩
set_option maxRecDepth 20000 in
theorem s_F_alterRow_36 {N d : Nat} {Q : jw_Q} (hd : 1 ≤ d) {x2 : Int32} {x3 : Int32} {x4 : Int32} {y1 : Int32} {u0 : Option Value} {u1 : Option Value} {σ : jw_M} {z : (Int32 × jw_M)} (h : f_F_alterRow_36 N x2 x3 x4 y1 σ = some z) (hQ : Q (some (.int z.1)) (jx_ShC, z.2)) : ∃ n, jx_W jx_ShC d (some .int) jc_162 Q n 36 [u0, u1, some (.int x2), some (.int x3), some (.int x4)] [.int y1, .ref 116] σ := by
  unfold f_F_alterRow_36 at h
  cases c6 : jx_in y1 4 with
  | false => rw [c6, cond_false] at h; cases h
  | true =>
    rw [c6, cond_true] at h
    rcases jx_ix4 (jx_in_ok c6) with rfl | rfl | rfl | rfl
    · try rw [show (117 + (0 : Int32).toNatClampNeg) = 117 from by decide] at h
      cases c7 : jx_in x2 3 with
      | false => rw [c7, cond_false] at h; cases h
      | true =>
        rw [c7, cond_true] at h
        cases h
        exact ⟨6, And.intro (jx_in_ok c6) (And.intro (jx_in_ok c7) (And.intro hQ (And.intro rfl rfl)))⟩
    · try rw [show (117 + (1 : Int32).toNatClampNeg) = 118 from by decide] at h
      cases c7 : jx_in x2 3 with
      | false => rw [c7, cond_false] at h; cases h
      | true =>
        rw [c7, cond_true] at h
        cases h
        exact ⟨6, And.intro (jx_in_ok c6) (And.intro (jx_in_ok c7) (And.intro hQ (And.intro rfl rfl)))⟩
    · try rw [show (117 + (2 : Int32).toNatClampNeg) = 119 from by decide] at h
      cases c7 : jx_in x2 3 with
      | false => rw [c7, cond_false] at h; cases h
      | true =>
        rw [c7, cond_true] at h
        cases h
        exact ⟨6, And.intro (jx_in_ok c6) (And.intro (jx_in_ok c7) (And.intro hQ (And.intro rfl rfl)))⟩
    · try rw [show (117 + (3 : Int32).toNatClampNeg) = 120 from by decide] at h
      cases c7 : jx_in x2 3 with
      | false => rw [c7, cond_false] at h; cases h
      | true =>
        rw [c7, cond_true] at h
        cases h
        exact ⟨6, And.intro (jx_in_ok c6) (And.intro (jx_in_ok c7) (And.intro hQ (And.intro rfl rfl)))⟩
set_option maxRecDepth 20000 in
theorem s_F_alterRow_23 {N d : Nat} {Q : jw_Q} (hd : 1 ≤ d) {x1 : Int32} {x2 : Int32} {x3 : Int32} {y1 : Int32} {u4 : Option Value} {σ : jw_M} {z : (Int32 × jw_M)} (h : f_F_alterRow_23 N x1 x2 x3 y1 σ = some z) (hQ : Q (some (.int z.1)) (jx_ShC, z.2)) : ∃ n, jx_W jx_ShC d (some .int) jc_162 Q n 23 [some (.ref 0), some (.int x1), some (.int x2), some (.int x3), u4] [.int y1, .ref 116] σ := by
  unfold f_F_alterRow_23 at h
  cases c4 : jx_in y1 4 with
  | false => rw [c4, cond_false] at h; cases h
  | true =>
    rw [c4, cond_true] at h
    rcases jx_ix4 (jx_in_ok c4) with rfl | rfl | rfl | rfl
    · try rw [show (117 + (0 : Int32).toNatClampNeg) = 117 from by decide] at h
      cases c5 : jx_in x2 3 with
      | false => rw [c5, cond_false] at h; cases h
      | true =>
        rw [c5, cond_true] at h
        obtain ⟨n, hn⟩ := s_F_alterRow_36 hd (u0 := some (.ref 0)) (u1 := some (.int x1)) h hQ
        exact ⟨n + 8, And.intro (jx_in_ok c4) (And.intro (jx_in_ok c5) (hn))⟩
    · try rw [show (117 + (1 : Int32).toNatClampNeg) = 118 from by decide] at h
      cases c5 : jx_in x2 3 with
      | false => rw [c5, cond_false] at h; cases h
      | true =>
        rw [c5, cond_true] at h
        obtain ⟨n, hn⟩ := s_F_alterRow_36 hd (u0 := some (.ref 0)) (u1 := some (.int x1)) h hQ
        exact ⟨n + 8, And.intro (jx_in_ok c4) (And.intro (jx_in_ok c5) (hn))⟩
    · try rw [show (117 + (2 : Int32).toNatClampNeg) = 119 from by decide] at h
      cases c5 : jx_in x2 3 with
      | false => rw [c5, cond_false] at h; cases h
      | true =>
        rw [c5, cond_true] at h
        obtain ⟨n, hn⟩ := s_F_alterRow_36 hd (u0 := some (.ref 0)) (u1 := some (.int x1)) h hQ
        exact ⟨n + 8, And.intro (jx_in_ok c4) (And.intro (jx_in_ok c5) (hn))⟩
    · try rw [show (117 + (3 : Int32).toNatClampNeg) = 120 from by decide] at h
      cases c5 : jx_in x2 3 with
      | false => rw [c5, cond_false] at h; cases h
      | true =>
        rw [c5, cond_true] at h
        obtain ⟨n, hn⟩ := s_F_alterRow_36 hd (u0 := some (.ref 0)) (u1 := some (.int x1)) h hQ
        exact ⟨n + 8, And.intro (jx_in_ok c4) (And.intro (jx_in_ok c5) (hn))⟩
set_option maxRecDepth 20000 in
theorem s_F_alterRow {N d : Nat} {x1 : Int32} {x2 : Int32} {x3 : Int32} (hd : 2 ≤ d) {σ : jw_M} {z : (Int32 × jw_M)} {Q : jw_Q} (h : f_F_alterRow N x1 x2 x3 σ = some z) (hQ : Q (some (.int z.1)) (jx_ShC, z.2)) : jw_C jp_kd jp_ys d 162 [.ref 0, .int x1, .int x2, .int x3] (jx_ShC, σ) Q := by
  obtain ⟨d, rfl⟩ : ∃ e, d = e + 1 := ⟨d - 1, by omega⟩
  replace hd : 1 ≤ d := by omega
  refine jx_C rfl rfl ?_
  unfold f_F_alterRow at h
  obtain ⟨z1, h2, h⟩ := Option.bind_eq_some_iff.mp h
  by_cases c3 : z1.1 = 0
  · rw [if_pos c3] at h
    suffices hh : ∃ n, jx_W jx_ShC d (some .int) jc_162 Q n 12 [some (.ref 0), some (.int x1), some (.int x2), some (.int x3), none] [] z1.2 by
      obtain ⟨n, hn⟩ := hh
      exact ⟨n + 6, s_L_hasRowPart (by omega) h2 (And.intro (fun zz => absurd c3 zz) (fun _ => hn))⟩
    cases h
    exact ⟨2, And.intro hQ (And.intro rfl rfl)⟩
  · rw [if_neg c3] at h
    suffices hh : ∃ n, jx_W jx_ShC d (some .int) jc_162 Q n 15 [some (.ref 0), some (.int x1), some (.int x2), some (.int x3), none] [] z1.2 by
      obtain ⟨n, hn⟩ := hh
      exact ⟨n + 6, s_L_hasRowPart (by omega) h2 (And.intro (fun _ => hn) (fun zz => absurd zz c3))⟩
    obtain ⟨n, hn⟩ := s_F_alterRow_23 hd (u4 := none) h hQ
    exact ⟨n + 4, hn⟩
set_option maxRecDepth 20000 in
theorem s_F_judge {N d : Nat} (hd : 8 ≤ d) {σ : jw_M} {z : (Int32 × jw_M)} {Q : jw_Q} (h : f_F_judge N  σ = some z) (hQ : Q (some (.int z.1)) (jx_ShC, z.2)) : jw_C jp_kd jp_ys d 163 [.ref 0] (jx_ShC, σ) Q := by
  obtain ⟨d, rfl⟩ : ∃ e, d = e + 1 := ⟨d - 1, by omega⟩
  replace hd : 7 ≤ d := by omega
  refine jx_C rfl rfl ?_
  unfold f_F_judge at h
  obtain ⟨z1, h2, h⟩ := Option.bind_eq_some_iff.mp h
  cases h
  exact ⟨6, s_L_firstWrongRow (by omega) h2 (And.intro hQ (And.intro rfl rfl))⟩
set_option maxRecDepth 20000 in
theorem s_F_sheet_47 {N d : Nat} {Q : jw_Q} (hd : 3 ≤ d) {x1 : Int32} {x2 : Int32} {x3 : Int32} {σ : jw_M} {z : (Int32 × jw_M)} (h : f_F_sheet_47 N x1 x2 x3 σ = some z) (hQ : Q (some (.int z.1)) (jx_ShC, z.2)) : ∃ n, jx_W jx_ShC d (some .int) jc_164 Q n 47 [some (.ref 0), some (.int x1), some (.int x2), some (.int x3)] [] σ := by
  unfold f_F_sheet_47 at h
  obtain ⟨z9, h10, h⟩ := Option.bind_eq_some_iff.mp h
  cases h
  exact ⟨8, s_H_makeRow (by omega) h10 (And.intro hQ (And.intro rfl rfl))⟩
set_option maxRecDepth 20000 in
theorem s_F_sheet_35 {N d : Nat} {Q : jw_Q} (hd : 3 ≤ d) {x1 : Int32} {x2 : Int32} {x3 : Int32} {σ : jw_M} {z : (Int32 × jw_M)} (h : f_F_sheet_35 N x1 x2 x3 σ = some z) (hQ : Q (some (.int z.1)) (jx_ShC, z.2)) : ∃ n, jx_W jx_ShC d (some .int) jc_164 Q n 35 [some (.ref 0), some (.int x1), some (.int x2), some (.int x3)] [] σ := by
  unfold f_F_sheet_35 at h
  by_cases c8 : x2 = (-1)
  · rw [if_pos c8] at h
    suffices hh : ∃ n, jx_W jx_ShC d (some .int) jc_164 Q n 47 [some (.ref 0), some (.int x1), some (.int x2), some (.int x3)] [] σ by
      obtain ⟨n, hn⟩ := hh
      exact ⟨n + 3, And.intro (fun _ => hn) (fun zz => absurd c8 zz)⟩
    obtain ⟨n, hn⟩ := s_F_sheet_47 hd h hQ
    exact ⟨n + 0, hn⟩
  · rw [if_neg c8] at h
    suffices hh : ∃ n, jx_W jx_ShC d (some .int) jc_164 Q n 40 [some (.ref 0), some (.int x1), some (.int x2), some (.int x3)] [] σ by
      obtain ⟨n, hn⟩ := hh
      exact ⟨n + 3, And.intro (fun zz => absurd zz c8) (fun _ => hn)⟩
    by_cases c11 : 0 ≤ x3
    · rw [if_pos c11] at h
      suffices hh : ∃ n, jx_W jx_ShC d (some .int) jc_164 Q n 47 [some (.ref 0), some (.int x1), some (.int x2), some (.int x3)] [] σ by
        obtain ⟨n, hn⟩ := hh
        exact ⟨n + 2, And.intro (fun _ => hn) (fun zz => absurd c11 zz)⟩
      obtain ⟨n, hn⟩ := s_F_sheet_47 hd h hQ
      exact ⟨n + 0, hn⟩
    · rw [if_neg c11] at h
      suffices hh : ∃ n, jx_W jx_ShC d (some .int) jc_164 Q n 44 [some (.ref 0), some (.int x1), some (.int x2), some (.int x3)] [] σ by
        obtain ⟨n, hn⟩ := hh
        exact ⟨n + 2, And.intro (fun zz => absurd zz c11) (fun _ => hn)⟩
      cases h
      exact ⟨2, And.intro hQ (And.intro rfl rfl)⟩
set_option maxRecDepth 20000 in
theorem s_F_sheet {N d : Nat} {x1 : Int32} {x2 : Int32} {x3 : Int32} (hd : 4 ≤ d) {σ : jw_M} {z : (Int32 × jw_M)} {Q : jw_Q} (h : f_F_sheet N x1 x2 x3 σ = some z) (hQ : Q (some (.int z.1)) (jx_ShC, z.2)) : jw_C jp_kd jp_ys d 164 [.ref 0, .int x1, .int x2, .int x3] (jx_ShC, σ) Q := by
  obtain ⟨d, rfl⟩ : ∃ e, d = e + 1 := ⟨d - 1, by omega⟩
  replace hd : 3 ≤ d := by omega
  refine jx_C rfl rfl ?_
  unfold f_F_sheet at h
  obtain ⟨z1, h2, h⟩ := Option.bind_eq_some_iff.mp h
  by_cases c3 : z1.1 = 0
  · rw [if_pos c3] at h
    suffices hh : ∃ n, jx_W jx_ShC d (some .int) jc_164 Q n 20 [some (.ref 0), some (.int x1), some (.int x2), some (.int x3)] [] z1.2 by
      obtain ⟨n, hn⟩ := hh
      exact ⟨n + 5, s_H_isSheet (by omega) h2 (And.intro (fun _ => hn) (fun zz => absurd c3 zz))⟩
    cases h
    exact ⟨2, And.intro hQ (And.intro rfl rfl)⟩
  · rw [if_neg c3] at h
    suffices hh : ∃ n, jx_W jx_ShC d (some .int) jc_164 Q n 11 [some (.ref 0), some (.int x1), some (.int x2), some (.int x3)] [] z1.2 by
      obtain ⟨n, hn⟩ := hh
      exact ⟨n + 5, s_H_isSheet (by omega) h2 (And.intro (fun zz => absurd zz c3) (fun _ => hn))⟩
    obtain ⟨z4, h5, h⟩ := Option.bind_eq_some_iff.mp h
    by_cases c6 : z4.1 = 0
    · rw [if_pos c6] at h
      suffices hh : ∃ n, jx_W jx_ShC d (some .int) jc_164 Q n 20 [some (.ref 0), some (.int x1), some (.int x2), some (.int x3)] [] z4.2 by
        obtain ⟨n, hn⟩ := hh
        exact ⟨n + 5, s_F_isWithin (by omega) h5 (And.intro (fun zz => absurd c6 zz) (fun _ => hn))⟩
      cases h
      exact ⟨2, And.intro hQ (And.intro rfl rfl)⟩
    · rw [if_neg c6] at h
      suffices hh : ∃ n, jx_W jx_ShC d (some .int) jc_164 Q n 22 [some (.ref 0), some (.int x1), some (.int x2), some (.int x3)] [] z4.2 by
        obtain ⟨n, hn⟩ := hh
        exact ⟨n + 5, s_F_isWithin (by omega) h5 (And.intro (fun _ => hn) (fun zz => absurd zz c6))⟩
      by_cases c7 : x2 = (-1)
      · rw [if_pos c7] at h
        suffices hh : ∃ n, jx_W jx_ShC d (some .int) jc_164 Q n 35 [some (.ref 0), some (.int x1), some (.int x2), some (.int x3)] [] z4.2 by
          obtain ⟨n, hn⟩ := hh
          exact ⟨n + 3, And.intro (fun _ => hn) (fun zz => absurd c7 zz)⟩
        obtain ⟨n, hn⟩ := s_F_sheet_35 hd h hQ
        exact ⟨n + 0, hn⟩
      · rw [if_neg c7] at h
        suffices hh : ∃ n, jx_W jx_ShC d (some .int) jc_164 Q n 27 [some (.ref 0), some (.int x1), some (.int x2), some (.int x3)] [] z4.2 by
          obtain ⟨n, hn⟩ := hh
          exact ⟨n + 3, And.intro (fun zz => absurd zz c7) (fun _ => hn)⟩
        by_cases c12 : x3 ≤ 40
        · rw [if_pos c12] at h
          suffices hh : ∃ n, jx_W jx_ShC d (some .int) jc_164 Q n 35 [some (.ref 0), some (.int x1), some (.int x2), some (.int x3)] [] z4.2 by
            obtain ⟨n, hn⟩ := hh
            exact ⟨n + 3, And.intro (fun _ => hn) (fun zz => absurd c12 zz)⟩
          obtain ⟨n, hn⟩ := s_F_sheet_35 hd h hQ
          exact ⟨n + 0, hn⟩
        · rw [if_neg c12] at h
          suffices hh : ∃ n, jx_W jx_ShC d (some .int) jc_164 Q n 33 [some (.ref 0), some (.int x1), some (.int x2), some (.int x3)] [] z4.2 by
            obtain ⟨n, hn⟩ := hh
            exact ⟨n + 3, And.intro (fun zz => absurd zz c12) (fun _ => hn)⟩
          cases h
          exact ⟨2, And.intro hQ (And.intro rfl rfl)⟩
set_option maxRecDepth 20000 in
theorem s_F_write {N d : Nat} {x1 : Int32} {x2 : Int32} {x3 : Int32} (hd : 2 ≤ d) {σ : jw_M} {z : (Int32 × jw_M)} {Q : jw_Q} (h : f_F_write N x1 x2 x3 σ = some z) (hQ : Q (some (.int z.1)) (jx_ShC, z.2)) : jw_C jp_kd jp_ys d 165 [.ref 0, .int x1, .int x2, .int x3] (jx_ShC, σ) Q := by
  obtain ⟨d, rfl⟩ : ∃ e, d = e + 1 := ⟨d - 1, by omega⟩
  replace hd : 1 ≤ d := by omega
  refine jx_C rfl rfl ?_
  unfold f_F_write at h
  obtain ⟨z1, h2, h⟩ := Option.bind_eq_some_iff.mp h
  by_cases c3 : z1.1 = 0
  · rw [if_pos c3] at h
    suffices hh : ∃ n, jx_W jx_ShC d (some .int) jc_165 Q n 11 [some (.ref 0), some (.int x1), some (.int x2), some (.int x3)] [] z1.2 by
      obtain ⟨n, hn⟩ := hh
      exact ⟨n + 5, s_H_isSheet (by omega) h2 (And.intro (fun zz => absurd c3 zz) (fun _ => hn))⟩
    cases h
    exact ⟨2, And.intro hQ (And.intro rfl rfl)⟩
  · rw [if_neg c3] at h
    suffices hh : ∃ n, jx_W jx_ShC d (some .int) jc_165 Q n 13 [some (.ref 0), some (.int x1), some (.int x2), some (.int x3)] [] z1.2 by
      obtain ⟨n, hn⟩ := hh
      exact ⟨n + 5, s_H_isSheet (by omega) h2 (And.intro (fun _ => hn) (fun zz => absurd zz c3))⟩
    cases c4 : jx_in x1 4 with
    | false => rw [c4, cond_false] at h; cases h
    | true =>
      rw [c4, cond_true] at h
      by_cases c5 : (z1.2.1 122 (x1).toNatClampNeg) = (-1)
      · rw [if_pos c5] at h
        suffices hh : ∃ n, jx_W jx_ShC d (some .int) jc_165 Q n 26 [some (.ref 0), some (.int x1), some (.int x2), some (.int x3)] [] z1.2 by
          obtain ⟨n, hn⟩ := hh
          exact ⟨n + 7, And.intro (jx_in_ok c4) (And.intro (fun zz => absurd c5 zz) (fun _ => hn))⟩
        cases h
        exact ⟨2, And.intro hQ (And.intro rfl rfl)⟩
      · rw [if_neg c5] at h
        suffices hh : ∃ n, jx_W jx_ShC d (some .int) jc_165 Q n 29 [some (.ref 0), some (.int x1), some (.int x2), some (.int x3)] [] z1.2 by
          obtain ⟨n, hn⟩ := hh
          exact ⟨n + 7, And.intro (jx_in_ok c4) (And.intro (fun _ => hn) (fun zz => absurd zz c5))⟩
        obtain ⟨z6, h7, h⟩ := Option.bind_eq_some_iff.mp h
        by_cases c8 : z6.1 = 0
        · rw [if_pos c8] at h
          suffices hh : ∃ n, jx_W jx_ShC d (some .int) jc_165 Q n 41 [some (.ref 0), some (.int x1), some (.int x2), some (.int x3)] [] z6.2 by
            obtain ⟨n, hn⟩ := hh
            exact ⟨n + 6, s_H_hasItem (by omega) h7 (And.intro (fun zz => absurd c8 zz) (fun _ => hn))⟩
          cases h
          exact ⟨2, And.intro hQ (And.intro rfl rfl)⟩
        · rw [if_neg c8] at h
          suffices hh : ∃ n, jx_W jx_ShC d (some .int) jc_165 Q n 44 [some (.ref 0), some (.int x1), some (.int x2), some (.int x3)] [] z6.2 by
            obtain ⟨n, hn⟩ := hh
            exact ⟨n + 6, s_H_hasItem (by omega) h7 (And.intro (fun _ => hn) (fun zz => absurd zz c8))⟩
          obtain ⟨z9, h10, h⟩ := Option.bind_eq_some_iff.mp h
          cases h
          exact ⟨8, s_H_putItem (by omega) h10 (And.intro hQ (And.intro rfl rfl))⟩
set_option maxRecDepth 20000 in
theorem s_F_item {N d : Nat} {x1 : Int32} {x2 : Int32} {x3 : Int32} (hd : 2 ≤ d) {σ : jw_M} {z : (Int32 × jw_M)} {Q : jw_Q} (h : f_F_item N x1 x2 x3 σ = some z) (hQ : Q (some (.int z.1)) (jx_ShC, z.2)) : jw_C jp_kd jp_ys d 166 [.ref 0, .int x1, .int x2, .int x3] (jx_ShC, σ) Q := by
  obtain ⟨d, rfl⟩ : ∃ e, d = e + 1 := ⟨d - 1, by omega⟩
  replace hd : 1 ≤ d := by omega
  refine jx_C rfl rfl ?_
  unfold f_F_item at h
  obtain ⟨z1, h2, h⟩ := Option.bind_eq_some_iff.mp h
  by_cases c3 : z1.1 = 0
  · rw [if_pos c3] at h
    suffices hh : ∃ n, jx_W jx_ShC d (some .int) jc_166 Q n 20 [some (.ref 0), some (.int x1), some (.int x2), some (.int x3), none] [] z1.2 by
      obtain ⟨n, hn⟩ := hh
      exact ⟨n + 5, s_H_isSheet (by omega) h2 (And.intro (fun _ => hn) (fun zz => absurd c3 zz))⟩
    cases h
    exact ⟨2, And.intro hQ (And.intro rfl rfl)⟩
  · rw [if_neg c3] at h
    suffices hh : ∃ n, jx_W jx_ShC d (some .int) jc_166 Q n 11 [some (.ref 0), some (.int x1), some (.int x2), some (.int x3), none] [] z1.2 by
      obtain ⟨n, hn⟩ := hh
      exact ⟨n + 5, s_H_isSheet (by omega) h2 (And.intro (fun zz => absurd zz c3) (fun _ => hn))⟩
    obtain ⟨z4, h5, h⟩ := Option.bind_eq_some_iff.mp h
    by_cases c6 : z4.1 = 0
    · rw [if_pos c6] at h
      suffices hh : ∃ n, jx_W jx_ShC d (some .int) jc_166 Q n 20 [some (.ref 0), some (.int x1), some (.int x2), some (.int x3), none] [] z4.2 by
        obtain ⟨n, hn⟩ := hh
        exact ⟨n + 5, s_F_isWithin (by omega) h5 (And.intro (fun zz => absurd c6 zz) (fun _ => hn))⟩
      cases h
      exact ⟨2, And.intro hQ (And.intro rfl rfl)⟩
    · rw [if_neg c6] at h
      suffices hh : ∃ n, jx_W jx_ShC d (some .int) jc_166 Q n 22 [some (.ref 0), some (.int x1), some (.int x2), some (.int x3), none] [] z4.2 by
        obtain ⟨n, hn⟩ := hh
        exact ⟨n + 5, s_F_isWithin (by omega) h5 (And.intro (fun _ => hn) (fun zz => absurd zz c6))⟩
      obtain ⟨z7, h8, h⟩ := Option.bind_eq_some_iff.mp h
      by_cases c9 : z7.1 = 0
      · rw [if_pos c9] at h
        suffices hh : ∃ n, jx_W jx_ShC d (some .int) jc_166 Q n 41 [some (.ref 0), some (.int x1), some (.int x2), some (.int x3), some (.int z7.1)] [] z7.2 by
          obtain ⟨n, hn⟩ := hh
          exact ⟨n + 8, s_H_refusalAs (by omega) h8 (And.intro (fun _ => hn) (fun zz => absurd c9 zz))⟩
        obtain ⟨z10, h11, h⟩ := Option.bind_eq_some_iff.mp h
        by_cases c12 : z10.1 = 0
        · rw [if_pos c12] at h
          suffices hh : ∃ n, jx_W jx_ShC d (some .int) jc_166 Q n 65 [some (.ref 0), some (.int x1), some (.int x2), some (.int x3), some (.int z7.1)] [] z10.2 by
            obtain ⟨n, hn⟩ := hh
            exact ⟨n + 6, s_H_hasItem (by omega) h11 (And.intro (fun _ => hn) (fun zz => absurd c12 zz))⟩
          cases h
          exact ⟨2, And.intro hQ (And.intro rfl rfl)⟩
        · rw [if_neg c12] at h
          suffices hh : ∃ n, jx_W jx_ShC d (some .int) jc_166 Q n 53 [some (.ref 0), some (.int x1), some (.int x2), some (.int x3), some (.int z7.1)] [] z10.2 by
            obtain ⟨n, hn⟩ := hh
            exact ⟨n + 6, s_H_hasItem (by omega) h11 (And.intro (fun zz => absurd zz c12) (fun _ => hn))⟩
          obtain ⟨z13, h14, h⟩ := Option.bind_eq_some_iff.mp h
          cases h
          exact ⟨7, s_H_itemAt (by omega) h14 (And.intro hQ (And.intro rfl rfl))⟩
      · rw [if_neg c9] at h
        suffices hh : ∃ n, jx_W jx_ShC d (some .int) jc_166 Q n 38 [some (.ref 0), some (.int x1), some (.int x2), some (.int x3), some (.int z7.1)] [] z7.2 by
          obtain ⟨n, hn⟩ := hh
          exact ⟨n + 8, s_H_refusalAs (by omega) h8 (And.intro (fun zz => absurd zz c9) (fun _ => hn))⟩
        cases h
        exact ⟨2, And.intro hQ (And.intro rfl rfl)⟩
set_option maxRecDepth 20000 in
theorem s_F_goAll_136 {N d : Nat} {Q : jw_Q} {K48 : Int32 → Int32 → Int32 → Int32 → Int32 → jw_M → Option (Int32 × jw_M)} (hd : 6 ≤ d) (hK48 : ∀ {x1 : Int32} {x2 : Int32} {x3 : Int32} {x5 : Int32} {x6 : Int32} {σ : jw_M} {z : (Int32 × jw_M)} {u4 : Option Value} {u7 : Option Value}, K48 x1 x2 x3 x5 x6 σ = some z → Q (some (.int z.1)) (jx_ShC, z.2) → ∃ n, jx_W jx_ShC d (some .int) jc_167 Q n 48 [some (.ref 0), some (.int x1), some (.int x2), some (.int x3), u4, some (.int x5), some (.int x6), u7] [] σ) {x1 : Int32} {x2 : Int32} {x3 : Int32} {x5 : Int32} {x6 : Int32} {u4 : Option Value} {u7 : Option Value} {σ : jw_M} {z : (Int32 × jw_M)} (h : f_F_goAll_136 N K48 x1 x2 x3 x5 x6 σ = some z) (hQ : Q (some (.int z.1)) (jx_ShC, z.2)) : ∃ n, jx_W jx_ShC d (some .int) jc_167 Q n 136 [some (.ref 0), some (.int x1), some (.int x2), some (.int x3), u4, some (.int x5), some (.int x6), u7] [] σ := by
  unfold f_F_goAll_136 at h
  obtain ⟨n, hn⟩ := hK48 (u4 := u4) (u7 := u7) h hQ
  exact ⟨n + 2, hn⟩
set_option maxRecDepth 20000 in
theorem s_F_goAll_48 {N d : Nat} {Q : jw_Q} (hd : 6 ≤ d) : ∀ (k : Nat) {x1 : Int32} {x2 : Int32} {x3 : Int32} {x5 : Int32} {x6 : Int32} {u4 : Option Value} {u7 : Option Value} {σ : jw_M} {z : (Int32 × jw_M)}, f_F_goAll_48 N k x1 x2 x3 x5 x6 σ = some z → Q (some (.int z.1)) (jx_ShC, z.2) → ∃ n, jx_W jx_ShC d (some .int) jc_167 Q n 48 [some (.ref 0), some (.int x1), some (.int x2), some (.int x3), u4, some (.int x5), some (.int x6), u7] [] σ
  | 0, _, _, _, _, _, _, _, _, _, h, _ => by cases h
  | k + 1, x1, x2, x3, x5, x6, u4, u7, σ, z, h, hQ => by
    rw [f_F_goAll_48] at h
    by_cases c10 : x3 ≤ x6
    · rw [if_pos c10] at h
      suffices hh : ∃ n, jx_W jx_ShC d (some .int) jc_167 Q n 142 [some (.ref 0), some (.int x1), some (.int x2), some (.int x3), u4, some (.int x5), some (.int x6), u7] [] σ by
        obtain ⟨n, hn⟩ := hh
        exact ⟨n + 3, And.intro (fun _ => hn) (fun zz => absurd c10 zz)⟩
      cases h
      exact ⟨2, And.intro hQ (And.intro rfl rfl)⟩
    · rw [if_neg c10] at h
      suffices hh : ∃ n, jx_W jx_ShC d (some .int) jc_167 Q n 54 [some (.ref 0), some (.int x1), some (.int x2), some (.int x3), u4, some (.int x5), some (.int x6), u7] [] σ by
        obtain ⟨n, hn⟩ := hh
        exact ⟨n + 3, And.intro (fun zz => absurd zz c10) (fun _ => hn)⟩
      obtain ⟨z11, h12, h⟩ := Option.bind_eq_some_iff.mp h
      by_cases c13 : z11.1 = 0
      · rw [if_pos c13] at h
        suffices hh : ∃ n, jx_W jx_ShC d (some .int) jc_167 Q n 69 [some (.ref 0), some (.int x1), some (.int x2), some (.int x3), u4, some (.int x5), some (.int x6), u7] [] z11.2 by
          obtain ⟨n, hn⟩ := hh
          exact ⟨n + 8, s_H_hasItem (by omega) h12 (And.intro (fun zz => absurd c13 zz) (fun _ => hn))⟩
        cases h
        exact ⟨2, And.intro hQ (And.intro rfl rfl)⟩
      · rw [if_neg c13] at h
        suffices hh : ∃ n, jx_W jx_ShC d (some .int) jc_167 Q n 72 [some (.ref 0), some (.int x1), some (.int x2), some (.int x3), u4, some (.int x5), some (.int x6), u7] [] z11.2 by
          obtain ⟨n, hn⟩ := hh
          exact ⟨n + 8, s_H_hasItem (by omega) h12 (And.intro (fun _ => hn) (fun zz => absurd zz c13))⟩
        obtain ⟨z14, h15, h⟩ := Option.bind_eq_some_iff.mp h
        obtain ⟨z16, h17, h⟩ := Option.bind_eq_some_iff.mp h
        by_cases c18 : z16.1 = 0
        · rw [if_pos c18] at h
          suffices hh : ∃ n, jx_W jx_ShC d (some .int) jc_167 Q n 136 [some (.ref 0), some (.int x1), some (.int x2), some (.int x3), u4, some (.int x5), some (.int x6), some (.int z14.1)] [] z16.2 by
            obtain ⟨n, hn⟩ := hh
            exact ⟨n + 13, s_H_itemAt (by omega) h15 (s_S_isAct (by omega) h17 (And.intro (fun _ => hn) (fun zz => absurd c18 zz)))⟩
          obtain ⟨n, hn⟩ := s_F_goAll_136 hd (s_F_goAll_48 hd k) (u4 := u4) (u7 := some (.int z14.1)) h hQ
          exact ⟨n + 0, hn⟩
        · rw [if_neg c18] at h
          suffices hh : ∃ n, jx_W jx_ShC d (some .int) jc_167 Q n 98 [some (.ref 0), some (.int x1), some (.int x2), some (.int x3), u4, some (.int x5), some (.int x6), some (.int z14.1)] [] z16.2 by
            obtain ⟨n, hn⟩ := hh
            exact ⟨n + 13, s_H_itemAt (by omega) h15 (s_S_isAct (by omega) h17 (And.intro (fun zz => absurd zz c18) (fun _ => hn)))⟩
          obtain ⟨z19, h20, h⟩ := Option.bind_eq_some_iff.mp h
          by_cases c21 : z19.1 = 0
          · rw [if_pos c21] at h
            suffices hh : ∃ n, jx_W jx_ShC d (some .int) jc_167 Q n 115 [some (.ref 0), some (.int x1), some (.int x2), some (.int x3), u4, some (.int x5), some (.int x6), some (.int z14.1)] [] z19.2 by
              obtain ⟨n, hn⟩ := hh
              exact ⟨n + 7, s_S_isOver (by omega) (by decide) h20 (And.intro (fun zz => absurd c21 zz) (fun _ => hn))⟩
            obtain ⟨z22, h23, h⟩ := Option.bind_eq_some_iff.mp h
            obtain ⟨n, hn⟩ := s_F_goAll_136 hd (s_F_goAll_48 hd k) (u4 := (jw_clr u4)) (u7 := some (.int z14.1)) h hQ
            exact ⟨n + 10, s_S_goBy (by omega) (by decide) h23 (hn)⟩
          · rw [if_neg c21] at h
            suffices hh : ∃ n, jx_W jx_ShC d (some .int) jc_167 Q n 136 [some (.ref 0), some (.int x1), some (.int x2), some (.int x3), u4, some (.int x5), some (.int x6), some (.int z14.1)] [] z19.2 by
              obtain ⟨n, hn⟩ := hh
              exact ⟨n + 7, s_S_isOver (by omega) (by decide) h20 (And.intro (fun _ => hn) (fun zz => absurd zz c21))⟩
            obtain ⟨n, hn⟩ := s_F_goAll_136 hd (s_F_goAll_48 hd k) (u4 := u4) (u7 := some (.int z14.1)) h hQ
            exact ⟨n + 0, hn⟩
set_option maxRecDepth 20000 in
theorem s_F_goAll {N d : Nat} {x1 : Int32} {x2 : Int32} {x3 : Int32} (hd : 7 ≤ d) {σ : jw_M} {z : (Int32 × jw_M)} {Q : jw_Q} (h : f_F_goAll N x1 x2 x3 σ = some z) (hQ : Q (some (.int z.1)) (jx_ShC, z.2)) : jw_C jp_kd jp_ys d 167 [.ref 0, .int x1, .int x2, .int x3] (jx_ShC, σ) Q := by
  obtain ⟨d, rfl⟩ : ∃ e, d = e + 1 := ⟨d - 1, by omega⟩
  replace hd : 6 ≤ d := by omega
  refine jx_C rfl rfl ?_
  unfold f_F_goAll at h
  obtain ⟨z1, h2, h⟩ := Option.bind_eq_some_iff.mp h
  by_cases c3 : z1.1 = 0
  · rw [if_pos c3] at h
    suffices hh : ∃ n, jx_W jx_ShC d (some .int) jc_167 Q n 21 [some (.ref 0), some (.int x1), some (.int x2), some (.int x3), none, none, none, none] [] z1.2 by
      obtain ⟨n, hn⟩ := hh
      exact ⟨n + 5, s_H_isSheet (by omega) h2 (And.intro (fun _ => hn) (fun zz => absurd c3 zz))⟩
    cases h
    exact ⟨2, And.intro hQ (And.intro rfl rfl)⟩
  · rw [if_neg c3] at h
    suffices hh : ∃ n, jx_W jx_ShC d (some .int) jc_167 Q n 11 [some (.ref 0), some (.int x1), some (.int x2), some (.int x3), none, none, none, none] [] z1.2 by
      obtain ⟨n, hn⟩ := hh
      exact ⟨n + 5, s_H_isSheet (by omega) h2 (And.intro (fun zz => absurd zz c3) (fun _ => hn))⟩
    obtain ⟨z4, h5, h⟩ := Option.bind_eq_some_iff.mp h
    by_cases c6 : z4.1 = 0
    · rw [if_pos c6] at h
      suffices hh : ∃ n, jx_W jx_ShC d (some .int) jc_167 Q n 21 [some (.ref 0), some (.int x1), some (.int x2), some (.int x3), none, none, none, none] [] z4.2 by
        obtain ⟨n, hn⟩ := hh
        exact ⟨n + 5, s_F_isWithin (by omega) h5 (And.intro (fun zz => absurd c6 zz) (fun _ => hn))⟩
      cases h
      exact ⟨2, And.intro hQ (And.intro rfl rfl)⟩
    · rw [if_neg c6] at h
      suffices hh : ∃ n, jx_W jx_ShC d (some .int) jc_167 Q n 23 [some (.ref 0), some (.int x1), some (.int x2), some (.int x3), none, none, none, none] [] z4.2 by
        obtain ⟨n, hn⟩ := hh
        exact ⟨n + 5, s_F_isWithin (by omega) h5 (And.intro (fun _ => hn) (fun zz => absurd zz c6))⟩
      obtain ⟨z7, h8, h⟩ := Option.bind_eq_some_iff.mp h
      by_cases c9 : z7.1 = 0
      · rw [if_pos c9] at h
        suffices hh : ∃ n, jx_W jx_ShC d (some .int) jc_167 Q n 42 [some (.ref 0), some (.int x1), some (.int x2), some (.int x3), some (.int z7.1), none, none, none] [] z7.2 by
          obtain ⟨n, hn⟩ := hh
          exact ⟨n + 8, s_H_refusalAs (by omega) h8 (And.intro (fun _ => hn) (fun zz => absurd c9 zz))⟩
        obtain ⟨n, hn⟩ := s_F_goAll_48 hd N (u4 := some (.int z7.1)) (u7 := none) h hQ
        exact ⟨n + 4, hn⟩
      · rw [if_neg c9] at h
        suffices hh : ∃ n, jx_W jx_ShC d (some .int) jc_167 Q n 39 [some (.ref 0), some (.int x1), some (.int x2), some (.int x3), some (.int z7.1), none, none, none] [] z7.2 by
          obtain ⟨n, hn⟩ := hh
          exact ⟨n + 8, s_H_refusalAs (by omega) h8 (And.intro (fun zz => absurd zz c9) (fun _ => hn))⟩
        cases h
        exact ⟨2, And.intro hQ (And.intro rfl rfl)⟩
