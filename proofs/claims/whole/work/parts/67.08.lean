set_option maxRecDepth 20000 in
theorem s_S_lengthOf_21 {N d : Nat} {Q : jw_Q} (hd : 3 ≤ d) {y0 : Int32} {u0 : Option Value} {u1 : Option Value} {σ : jw_M} {z : (Int32 × jw_M)} (h : f_S_lengthOf_21 N y0 σ = some z) (hQ : Q (some (.int z.1)) (jx_ShC, z.2)) : ∃ n, jx_W jx_ShC d (some .int) jc_86 Q n 21 [u0, u1] [.int y0] σ := by
  unfold f_S_lengthOf_21 at h
  cases h
  exact ⟨1, And.intro hQ (And.intro rfl rfl)⟩
set_option maxRecDepth 20000 in
theorem s_S_lengthOf_18 {N d : Nat} {Q : jw_Q} (hd : 3 ≤ d) {r_0 : Nat} {y1 : Int32} {y2 : Int32} {u0 : Option Value} {u1 : Option Value} {σ : jw_M} {z : (Int32 × jw_M)} (hr_0 : r_0 = 32 ∨ r_0 = 33 ∨ r_0 = 34 ∨ r_0 = 35 ∨ r_0 = 36 ∨ r_0 = 37) (h : f_S_lengthOf_18 N r_0 y1 y2 σ = some z) (hQ : Q (some (.int z.1)) (jx_ShC, z.2)) : ∃ n, jx_W jx_ShC d (some .int) jc_86 Q n 18 [u0, u1] [.int y2, .int y1, .ref r_0] σ := by
  rcases hr_0 with rfl | rfl | rfl | rfl | rfl | rfl
  · unfold f_S_lengthOf_18 at h
    obtain ⟨z4, h5, h⟩ := Option.bind_eq_some_iff.mp h
    rw [if_pos rfl] at h5
    obtain ⟨n, hn⟩ := s_S_lengthOf_21 hd (u0 := u0) (u1 := u1) h hQ
    exact ⟨n + 1, s_Z_Shade_lengthIn (by omega) (by decide) h5 (hn)⟩
  · unfold f_S_lengthOf_18 at h
    obtain ⟨z4, h5, h⟩ := Option.bind_eq_some_iff.mp h
    rw [if_neg (by decide), if_pos rfl] at h5
    obtain ⟨n, hn⟩ := s_S_lengthOf_21 hd (u0 := u0) (u1 := u1) h hQ
    exact ⟨n + 1, s_Z_Shade_lengthIn (by omega) (by decide) h5 (hn)⟩
  · unfold f_S_lengthOf_18 at h
    obtain ⟨z4, h5, h⟩ := Option.bind_eq_some_iff.mp h
    rw [if_neg (by decide), if_neg (by decide), if_pos rfl] at h5
    obtain ⟨n, hn⟩ := s_S_lengthOf_21 hd (u0 := u0) (u1 := u1) h hQ
    exact ⟨n + 1, s_Z_Shade_lengthIn (by omega) (by decide) h5 (hn)⟩
  · unfold f_S_lengthOf_18 at h
    obtain ⟨z4, h5, h⟩ := Option.bind_eq_some_iff.mp h
    rw [if_neg (by decide), if_neg (by decide), if_neg (by decide), if_pos rfl] at h5
    obtain ⟨n, hn⟩ := s_S_lengthOf_21 hd (u0 := u0) (u1 := u1) h hQ
    exact ⟨n + 1, s_Z_Coloured_lengthIn (by omega) h5 (hn)⟩
  · unfold f_S_lengthOf_18 at h
    obtain ⟨z4, h5, h⟩ := Option.bind_eq_some_iff.mp h
    rw [if_neg (by decide), if_neg (by decide), if_neg (by decide), if_neg (by decide), if_pos rfl] at h5
    obtain ⟨n, hn⟩ := s_S_lengthOf_21 hd (u0 := u0) (u1 := u1) h hQ
    exact ⟨n + 1, s_Z_Slow_lengthIn (by omega) (by decide) h5 (hn)⟩
  · unfold f_S_lengthOf_18 at h
    obtain ⟨z4, h5, h⟩ := Option.bind_eq_some_iff.mp h
    rw [if_neg (by decide), if_neg (by decide), if_neg (by decide), if_neg (by decide), if_neg (by decide), if_pos rfl] at h5
    obtain ⟨n, hn⟩ := s_S_lengthOf_21 hd (u0 := u0) (u1 := u1) h hQ
    exact ⟨n + 1, s_Z_Borrowed_lengthIn (by omega) h5 (hn)⟩
set_option maxRecDepth 20000 in
theorem s_S_lengthOf {N d : Nat} {x1 : Int32} (hd : 4 ≤ d) {σ : jw_M} {z : (Int32 × jw_M)} {Q : jw_Q} (h : f_S_lengthOf N x1 σ = some z) (hQ : Q (some (.int z.1)) (jx_ShC, z.2)) : jw_C jp_kd jp_ys d 86 [.ref 1, .int x1] (jx_ShC, σ) Q := by
  obtain ⟨d, rfl⟩ : ∃ e, d = e + 1 := ⟨d - 1, by omega⟩
  replace hd : 3 ≤ d := by omega
  refine jx_C rfl rfl ?_
  unfold f_S_lengthOf at h
  obtain ⟨z1, h2, h⟩ := Option.bind_eq_some_iff.mp h
  cases c3 : jx_in x1 6 with
  | false => rw [c3, cond_false] at h; cases h
  | true =>
    rw [c3, cond_true] at h
    obtain ⟨n, hn⟩ := s_S_lengthOf_18 hd (u0 := some (.ref 1)) (u1 := some (.int x1)) (r_S_thing h2) h hQ
    exact ⟨n + 10, s_S_thing (by omega) h2 (And.intro (jx_in_ok c3) (hn))⟩
set_option maxRecDepth 20000 in
theorem s_S_setQuarrel {N d : Nat} {x1 : Int32} {x2 : Int32} {x3 : Int32} (hd : 1 ≤ d) {σ : jw_M} {z : jw_M} {Q : jw_Q} (h : f_S_setQuarrel N x1 x2 x3 σ = some z) (hQ : Q none (jx_ShC, z)) : jw_C jp_kd jp_ys d 87 [.ref 1, .int x1, .int x2, .int x3] (jx_ShC, σ) Q := by
  obtain ⟨d, rfl⟩ : ∃ e, d = e + 1 := ⟨d - 1, by omega⟩
  replace hd : 0 ≤ d := by omega
  refine jx_C rfl rfl ?_
  unfold f_S_setQuarrel at h
  cases c1 : jx_in x1 6 with
  | false => rw [c1, cond_false] at h; cases h
  | true =>
    rw [c1, cond_true] at h
    cases c2 : jx_in x2 6 with
    | false => rw [c2, cond_false] at h; cases h
    | true =>
      rw [c2, cond_true] at h
      cases h
      exact ⟨37, And.intro (jx_in_ok c1) (And.intro (jx_in_ok c1) (And.intro (jx_in_ok c2) (And.intro (jx_in_ok c2) (And.intro hQ (And.intro rfl rfl)))))⟩
set_option maxRecDepth 20000 in
theorem s_S_howManyQuarrel_4 {N d : Nat} {Q : jw_Q} (hd : 1 ≤ d) : ∀ (k : Nat) {x1 : Int32} {x2 : Int32} {σ : jw_M} {z : (Int32 × jw_M)}, f_S_howManyQuarrel_4 N k x1 x2 σ = some z → Q (some (.int z.1)) (jx_ShC, z.2) → ∃ n, jx_W jx_ShC d (some .int) jc_88 Q n 4 [some (.ref 1), some (.int x1), some (.int x2)] [] σ
  | 0, _, _, _, _, h, _ => by cases h
  | k + 1, x1, x2, σ, z, h, hQ => by
    rw [f_S_howManyQuarrel_4] at h
    by_cases c1 : (σ.1 1 0) ≤ x2
    · rw [if_pos c1] at h
      suffices hh : ∃ n, jx_W jx_ShC d (some .int) jc_88 Q n 30 [some (.ref 1), some (.int x1), some (.int x2)] [] σ by
        obtain ⟨n, hn⟩ := hh
        exact ⟨n + 4, And.intro (fun _ => hn) (fun zz => absurd c1 zz)⟩
      cases h
      exact ⟨4, And.intro (by decide) (And.intro hQ (And.intro rfl rfl))⟩
    · rw [if_neg c1] at h
      suffices hh : ∃ n, jx_W jx_ShC d (some .int) jc_88 Q n 12 [some (.ref 1), some (.int x1), some (.int x2)] [] σ by
        obtain ⟨n, hn⟩ := hh
        exact ⟨n + 4, And.intro (fun zz => absurd zz c1) (fun _ => hn)⟩
      cases c2 : jx_in x2 6 with
      | false => rw [c2, cond_false] at h; cases h
      | true =>
        rw [c2, cond_true] at h
        obtain ⟨z3, h4, h⟩ := Option.bind_eq_some_iff.mp h
        obtain ⟨n, hn⟩ := s_S_howManyQuarrel_4 hd k h hQ
        exact ⟨n + 10, And.intro (jx_in_ok c2) (s_J_bitCount (by omega) h4 (hn))⟩
set_option maxRecDepth 20000 in
theorem s_S_howManyQuarrel {N d : Nat} (hd : 2 ≤ d) {σ : jw_M} {z : (Int32 × jw_M)} {Q : jw_Q} (h : f_S_howManyQuarrel N  σ = some z) (hQ : Q (some (.int z.1)) (jx_ShC, z.2)) : jw_C jp_kd jp_ys d 88 [.ref 1] (jx_ShC, σ) Q := by
  obtain ⟨d, rfl⟩ : ∃ e, d = e + 1 := ⟨d - 1, by omega⟩
  replace hd : 1 ≤ d := by omega
  refine jx_C rfl rfl ?_
  unfold f_S_howManyQuarrel at h
  obtain ⟨n, hn⟩ := s_S_howManyQuarrel_4 hd N h hQ
  exact ⟨n + 4, hn⟩
set_option maxRecDepth 20000 in
theorem s_S_goByLot {N d : Nat} {p1 : Nat} (hd : 6 ≤ d) (hp : p1 = 27 ∨ p1 = 75) {σ : jw_M} {z : (Int32 × jw_M)} {Q : jw_Q} (h : f_S_goByLot N p1 σ = some z) (hQ : Q (some (.int z.1)) (jx_ShC, z.2)) : jw_C jp_kd jp_ys d 90 [.ref 1, .ref p1] (jx_ShC, σ) Q := by
  obtain ⟨d, rfl⟩ : ∃ e, d = e + 1 := ⟨d - 1, by omega⟩
  replace hd : 5 ≤ d := by omega
  refine jx_C rfl rfl ?_
  rcases hp with rfl | rfl
  · unfold f_S_goByLot at h
    by_cases c1 : (((jx_w σ 1 15 (((σ.1 1 15) * 1103515245) + 12345)).1 1 0) + 1) = 0
    · rw [if_pos c1] at h
      cases h
    · rw [if_neg c1] at h
      obtain ⟨z2, h3, h⟩ := Option.bind_eq_some_iff.mp h
      cases h
      exact ⟨21, And.intro c1 (s_S_goBy (by omega) (by decide) h3 (And.intro hQ (And.intro rfl rfl)))⟩
  · unfold f_S_goByLot at h
    by_cases c1 : (((jx_w σ 1 15 (((σ.1 1 15) * 1103515245) + 12345)).1 1 0) + 1) = 0
    · rw [if_pos c1] at h
      cases h
    · rw [if_neg c1] at h
      obtain ⟨z2, h3, h⟩ := Option.bind_eq_some_iff.mp h
      cases h
      exact ⟨21, And.intro c1 (s_S_goBy (by omega) (by decide) h3 (And.intro hQ (And.intro rfl rfl)))⟩
set_option maxRecDepth 20000 in
theorem s_S_fits_70 {N d : Nat} {Q : jw_Q} {K2 : Int32 → Int32 → Int32 → jw_M → Option (Int32 × jw_M)} (hd : 3 ≤ d) (hK2 : ∀ {x1 : Int32} {x2 : Int32} {x3 : Int32} {σ : jw_M} {z : (Int32 × jw_M)} {u4 : Option Value} {u5 : Option Value}, K2 x1 x2 x3 σ = some z → Q (some (.int z.1)) (jx_ShC, z.2) → ∃ n, jx_W jx_ShC d (some .boolean) jc_97 Q n 2 [some (.ref 1), some (.int x1), some (.int x2), some (.int x3), u4, u5] [] σ) {x1 : Int32} {x2 : Int32} {x3 : Int32} {u4 : Option Value} {u5 : Option Value} {σ : jw_M} {z : (Int32 × jw_M)} (h : f_S_fits_70 N K2 x1 x2 x3 σ = some z) (hQ : Q (some (.int z.1)) (jx_ShC, z.2)) : ∃ n, jx_W jx_ShC d (some .boolean) jc_97 Q n 70 [some (.ref 1), some (.int x1), some (.int x2), some (.int x3), u4, u5] [] σ := by
  unfold f_S_fits_70 at h
  obtain ⟨n, hn⟩ := hK2 (u4 := u4) (u5 := u5) h hQ
  exact ⟨n + 2, hn⟩
set_option maxRecDepth 20000 in
theorem s_S_fits_37 {N d : Nat} {Q : jw_Q} {K2 : Int32 → Int32 → Int32 → jw_M → Option (Int32 × jw_M)} (hd : 3 ≤ d) (hK2 : ∀ {x1 : Int32} {x2 : Int32} {x3 : Int32} {σ : jw_M} {z : (Int32 × jw_M)} {u4 : Option Value} {u5 : Option Value}, K2 x1 x2 x3 σ = some z → Q (some (.int z.1)) (jx_ShC, z.2) → ∃ n, jx_W jx_ShC d (some .boolean) jc_97 Q n 2 [some (.ref 1), some (.int x1), some (.int x2), some (.int x3), u4, u5] [] σ) {x1 : Int32} {x2 : Int32} {x3 : Int32} {r4 : Nat} {y0 : Int32} {u5 : Option Value} {σ : jw_M} {z : (Int32 × jw_M)} (hr4 : r4 = 13 ∨ r4 = 14 ∨ r4 = 15 ∨ r4 = 16 ∨ r4 = 17 ∨ r4 = 18) (h : f_S_fits_37 N K2 x1 x2 x3 r4 y0 σ = some z) (hQ : Q (some (.int z.1)) (jx_ShC, z.2)) : ∃ n, jx_W jx_ShC d (some .boolean) jc_97 Q n 37 [some (.ref 1), some (.int x1), some (.int x2), some (.int x3), some (.ref r4), u5] [.int y0] σ := by
  rcases hr4 with rfl | rfl | rfl | rfl | rfl | rfl
  · unfold f_S_fits_37 at h
    by_cases c6 : x3 = x2
    · rw [if_pos c6] at h
      suffices hh : ∃ n, jx_W jx_ShC d (some .boolean) jc_97 Q n 70 [some (.ref 1), some (.int x1), some (.int x2), some (.int x3), some (.ref 13), some (.int (y0 * ((x1 - x1 / 5 * 5) + 1)))] [] σ by
        obtain ⟨n, hn⟩ := hh
        exact ⟨n + 10, And.intro (by decide) (And.intro (fun _ => hn) (fun zz => absurd c6 zz))⟩
      obtain ⟨n, hn⟩ := s_S_fits_70 hd hK2 (u4 := some (.ref 13)) (u5 := some (.int (y0 * ((x1 - x1 / 5 * 5) + 1)))) h hQ
      exact ⟨n + 0, hn⟩
    · rw [if_neg c6] at h
      suffices hh : ∃ n, jx_W jx_ShC d (some .boolean) jc_97 Q n 50 [some (.ref 1), some (.int x1), some (.int x2), some (.int x3), some (.ref 13), some (.int (y0 * ((x1 - x1 / 5 * 5) + 1)))] [] σ by
        obtain ⟨n, hn⟩ := hh
        exact ⟨n + 10, And.intro (by decide) (And.intro (fun zz => absurd zz c6) (fun _ => hn))⟩
      by_cases c7 : (y0 * ((x1 - x1 / 5 * 5) + 1)) < (σ.1 13 2)
      · rw [if_pos c7] at h
        suffices hh : ∃ n, jx_W jx_ShC d (some .boolean) jc_97 Q n 68 [some (.ref 1), some (.int x1), some (.int x2), some (.int x3), some (.ref 13), some (.int (y0 * ((x1 - x1 / 5 * 5) + 1)))] [] σ by
          obtain ⟨n, hn⟩ := hh
          exact ⟨n + 5, And.intro (jx_in_ok rfl) (And.intro (fun _ => hn) (fun zz => absurd c7 zz))⟩
        cases h
        exact ⟨2, And.intro (Or.inl rfl) (And.intro hQ (And.intro rfl rfl))⟩
      · rw [if_neg c7] at h
        suffices hh : ∃ n, jx_W jx_ShC d (some .boolean) jc_97 Q n 59 [some (.ref 1), some (.int x1), some (.int x2), some (.int x3), some (.ref 13), some (.int (y0 * ((x1 - x1 / 5 * 5) + 1)))] [] σ by
          obtain ⟨n, hn⟩ := hh
          exact ⟨n + 5, And.intro (jx_in_ok rfl) (And.intro (fun zz => absurd zz c7) (fun _ => hn))⟩
        by_cases c8 : (y0 * ((x1 - x1 / 5 * 5) + 1)) ≤ (σ.1 13 3)
        · rw [if_pos c8] at h
          suffices hh : ∃ n, jx_W jx_ShC d (some .boolean) jc_97 Q n 70 [some (.ref 1), some (.int x1), some (.int x2), some (.int x3), some (.ref 13), some (.int (y0 * ((x1 - x1 / 5 * 5) + 1)))] [] σ by
            obtain ⟨n, hn⟩ := hh
            exact ⟨n + 5, And.intro (jx_in_ok rfl) (And.intro (fun _ => hn) (fun zz => absurd c8 zz))⟩
          obtain ⟨n, hn⟩ := s_S_fits_70 hd hK2 (u4 := some (.ref 13)) (u5 := some (.int (y0 * ((x1 - x1 / 5 * 5) + 1)))) h hQ
          exact ⟨n + 0, hn⟩
        · rw [if_neg c8] at h
          suffices hh : ∃ n, jx_W jx_ShC d (some .boolean) jc_97 Q n 68 [some (.ref 1), some (.int x1), some (.int x2), some (.int x3), some (.ref 13), some (.int (y0 * ((x1 - x1 / 5 * 5) + 1)))] [] σ by
            obtain ⟨n, hn⟩ := hh
            exact ⟨n + 5, And.intro (jx_in_ok rfl) (And.intro (fun zz => absurd zz c8) (fun _ => hn))⟩
          cases h
          exact ⟨2, And.intro (Or.inl rfl) (And.intro hQ (And.intro rfl rfl))⟩
  · unfold f_S_fits_37 at h
    by_cases c6 : x3 = x2
    · rw [if_pos c6] at h
      suffices hh : ∃ n, jx_W jx_ShC d (some .boolean) jc_97 Q n 70 [some (.ref 1), some (.int x1), some (.int x2), some (.int x3), some (.ref 14), some (.int (y0 * ((x1 - x1 / 5 * 5) + 1)))] [] σ by
        obtain ⟨n, hn⟩ := hh
        exact ⟨n + 10, And.intro (by decide) (And.intro (fun _ => hn) (fun zz => absurd c6 zz))⟩
      obtain ⟨n, hn⟩ := s_S_fits_70 hd hK2 (u4 := some (.ref 14)) (u5 := some (.int (y0 * ((x1 - x1 / 5 * 5) + 1)))) h hQ
      exact ⟨n + 0, hn⟩
    · rw [if_neg c6] at h
      suffices hh : ∃ n, jx_W jx_ShC d (some .boolean) jc_97 Q n 50 [some (.ref 1), some (.int x1), some (.int x2), some (.int x3), some (.ref 14), some (.int (y0 * ((x1 - x1 / 5 * 5) + 1)))] [] σ by
        obtain ⟨n, hn⟩ := hh
        exact ⟨n + 10, And.intro (by decide) (And.intro (fun zz => absurd zz c6) (fun _ => hn))⟩
      by_cases c7 : (y0 * ((x1 - x1 / 5 * 5) + 1)) < (σ.1 14 2)
      · rw [if_pos c7] at h
        suffices hh : ∃ n, jx_W jx_ShC d (some .boolean) jc_97 Q n 68 [some (.ref 1), some (.int x1), some (.int x2), some (.int x3), some (.ref 14), some (.int (y0 * ((x1 - x1 / 5 * 5) + 1)))] [] σ by
          obtain ⟨n, hn⟩ := hh
          exact ⟨n + 5, And.intro (jx_in_ok rfl) (And.intro (fun _ => hn) (fun zz => absurd c7 zz))⟩
        cases h
        exact ⟨2, And.intro (Or.inl rfl) (And.intro hQ (And.intro rfl rfl))⟩
      · rw [if_neg c7] at h
        suffices hh : ∃ n, jx_W jx_ShC d (some .boolean) jc_97 Q n 59 [some (.ref 1), some (.int x1), some (.int x2), some (.int x3), some (.ref 14), some (.int (y0 * ((x1 - x1 / 5 * 5) + 1)))] [] σ by
          obtain ⟨n, hn⟩ := hh
          exact ⟨n + 5, And.intro (jx_in_ok rfl) (And.intro (fun zz => absurd zz c7) (fun _ => hn))⟩
        by_cases c8 : (y0 * ((x1 - x1 / 5 * 5) + 1)) ≤ (σ.1 14 3)
        · rw [if_pos c8] at h
          suffices hh : ∃ n, jx_W jx_ShC d (some .boolean) jc_97 Q n 70 [some (.ref 1), some (.int x1), some (.int x2), some (.int x3), some (.ref 14), some (.int (y0 * ((x1 - x1 / 5 * 5) + 1)))] [] σ by
            obtain ⟨n, hn⟩ := hh
            exact ⟨n + 5, And.intro (jx_in_ok rfl) (And.intro (fun _ => hn) (fun zz => absurd c8 zz))⟩
          obtain ⟨n, hn⟩ := s_S_fits_70 hd hK2 (u4 := some (.ref 14)) (u5 := some (.int (y0 * ((x1 - x1 / 5 * 5) + 1)))) h hQ
          exact ⟨n + 0, hn⟩
        · rw [if_neg c8] at h
          suffices hh : ∃ n, jx_W jx_ShC d (some .boolean) jc_97 Q n 68 [some (.ref 1), some (.int x1), some (.int x2), some (.int x3), some (.ref 14), some (.int (y0 * ((x1 - x1 / 5 * 5) + 1)))] [] σ by
            obtain ⟨n, hn⟩ := hh
            exact ⟨n + 5, And.intro (jx_in_ok rfl) (And.intro (fun zz => absurd zz c8) (fun _ => hn))⟩
          cases h
          exact ⟨2, And.intro (Or.inl rfl) (And.intro hQ (And.intro rfl rfl))⟩
  · unfold f_S_fits_37 at h
    by_cases c6 : x3 = x2
    · rw [if_pos c6] at h
      suffices hh : ∃ n, jx_W jx_ShC d (some .boolean) jc_97 Q n 70 [some (.ref 1), some (.int x1), some (.int x2), some (.int x3), some (.ref 15), some (.int (y0 * ((x1 - x1 / 5 * 5) + 1)))] [] σ by
        obtain ⟨n, hn⟩ := hh
        exact ⟨n + 10, And.intro (by decide) (And.intro (fun _ => hn) (fun zz => absurd c6 zz))⟩
      obtain ⟨n, hn⟩ := s_S_fits_70 hd hK2 (u4 := some (.ref 15)) (u5 := some (.int (y0 * ((x1 - x1 / 5 * 5) + 1)))) h hQ
      exact ⟨n + 0, hn⟩
    · rw [if_neg c6] at h
      suffices hh : ∃ n, jx_W jx_ShC d (some .boolean) jc_97 Q n 50 [some (.ref 1), some (.int x1), some (.int x2), some (.int x3), some (.ref 15), some (.int (y0 * ((x1 - x1 / 5 * 5) + 1)))] [] σ by
        obtain ⟨n, hn⟩ := hh
        exact ⟨n + 10, And.intro (by decide) (And.intro (fun zz => absurd zz c6) (fun _ => hn))⟩
      by_cases c7 : (y0 * ((x1 - x1 / 5 * 5) + 1)) < (σ.1 15 2)
      · rw [if_pos c7] at h
        suffices hh : ∃ n, jx_W jx_ShC d (some .boolean) jc_97 Q n 68 [some (.ref 1), some (.int x1), some (.int x2), some (.int x3), some (.ref 15), some (.int (y0 * ((x1 - x1 / 5 * 5) + 1)))] [] σ by
          obtain ⟨n, hn⟩ := hh
          exact ⟨n + 5, And.intro (jx_in_ok rfl) (And.intro (fun _ => hn) (fun zz => absurd c7 zz))⟩
        cases h
        exact ⟨2, And.intro (Or.inl rfl) (And.intro hQ (And.intro rfl rfl))⟩
      · rw [if_neg c7] at h
        suffices hh : ∃ n, jx_W jx_ShC d (some .boolean) jc_97 Q n 59 [some (.ref 1), some (.int x1), some (.int x2), some (.int x3), some (.ref 15), some (.int (y0 * ((x1 - x1 / 5 * 5) + 1)))] [] σ by
          obtain ⟨n, hn⟩ := hh
          exact ⟨n + 5, And.intro (jx_in_ok rfl) (And.intro (fun zz => absurd zz c7) (fun _ => hn))⟩
        by_cases c8 : (y0 * ((x1 - x1 / 5 * 5) + 1)) ≤ (σ.1 15 3)
        · rw [if_pos c8] at h
          suffices hh : ∃ n, jx_W jx_ShC d (some .boolean) jc_97 Q n 70 [some (.ref 1), some (.int x1), some (.int x2), some (.int x3), some (.ref 15), some (.int (y0 * ((x1 - x1 / 5 * 5) + 1)))] [] σ by
            obtain ⟨n, hn⟩ := hh
            exact ⟨n + 5, And.intro (jx_in_ok rfl) (And.intro (fun _ => hn) (fun zz => absurd c8 zz))⟩
          obtain ⟨n, hn⟩ := s_S_fits_70 hd hK2 (u4 := some (.ref 15)) (u5 := some (.int (y0 * ((x1 - x1 / 5 * 5) + 1)))) h hQ
          exact ⟨n + 0, hn⟩
        · rw [if_neg c8] at h
          suffices hh : ∃ n, jx_W jx_ShC d (some .boolean) jc_97 Q n 68 [some (.ref 1), some (.int x1), some (.int x2), some (.int x3), some (.ref 15), some (.int (y0 * ((x1 - x1 / 5 * 5) + 1)))] [] σ by
            obtain ⟨n, hn⟩ := hh
            exact ⟨n + 5, And.intro (jx_in_ok rfl) (And.intro (fun zz => absurd zz c8) (fun _ => hn))⟩
          cases h
          exact ⟨2, And.intro (Or.inl rfl) (And.intro hQ (And.intro rfl rfl))⟩
  · unfold f_S_fits_37 at h
    by_cases c6 : x3 = x2
    · rw [if_pos c6] at h
      suffices hh : ∃ n, jx_W jx_ShC d (some .boolean) jc_97 Q n 70 [some (.ref 1), some (.int x1), some (.int x2), some (.int x3), some (.ref 16), some (.int (y0 * ((x1 - x1 / 5 * 5) + 1)))] [] σ by
        obtain ⟨n, hn⟩ := hh
        exact ⟨n + 10, And.intro (by decide) (And.intro (fun _ => hn) (fun zz => absurd c6 zz))⟩
      obtain ⟨n, hn⟩ := s_S_fits_70 hd hK2 (u4 := some (.ref 16)) (u5 := some (.int (y0 * ((x1 - x1 / 5 * 5) + 1)))) h hQ
      exact ⟨n + 0, hn⟩
    · rw [if_neg c6] at h
      suffices hh : ∃ n, jx_W jx_ShC d (some .boolean) jc_97 Q n 50 [some (.ref 1), some (.int x1), some (.int x2), some (.int x3), some (.ref 16), some (.int (y0 * ((x1 - x1 / 5 * 5) + 1)))] [] σ by
        obtain ⟨n, hn⟩ := hh
        exact ⟨n + 10, And.intro (by decide) (And.intro (fun zz => absurd zz c6) (fun _ => hn))⟩
      by_cases c7 : (y0 * ((x1 - x1 / 5 * 5) + 1)) < (σ.1 16 2)
      · rw [if_pos c7] at h
        suffices hh : ∃ n, jx_W jx_ShC d (some .boolean) jc_97 Q n 68 [some (.ref 1), some (.int x1), some (.int x2), some (.int x3), some (.ref 16), some (.int (y0 * ((x1 - x1 / 5 * 5) + 1)))] [] σ by
          obtain ⟨n, hn⟩ := hh
          exact ⟨n + 5, And.intro (jx_in_ok rfl) (And.intro (fun _ => hn) (fun zz => absurd c7 zz))⟩
        cases h
        exact ⟨2, And.intro (Or.inl rfl) (And.intro hQ (And.intro rfl rfl))⟩
      · rw [if_neg c7] at h
        suffices hh : ∃ n, jx_W jx_ShC d (some .boolean) jc_97 Q n 59 [some (.ref 1), some (.int x1), some (.int x2), some (.int x3), some (.ref 16), some (.int (y0 * ((x1 - x1 / 5 * 5) + 1)))] [] σ by
          obtain ⟨n, hn⟩ := hh
          exact ⟨n + 5, And.intro (jx_in_ok rfl) (And.intro (fun zz => absurd zz c7) (fun _ => hn))⟩
        by_cases c8 : (y0 * ((x1 - x1 / 5 * 5) + 1)) ≤ (σ.1 16 3)
        · rw [if_pos c8] at h
          suffices hh : ∃ n, jx_W jx_ShC d (some .boolean) jc_97 Q n 70 [some (.ref 1), some (.int x1), some (.int x2), some (.int x3), some (.ref 16), some (.int (y0 * ((x1 - x1 / 5 * 5) + 1)))] [] σ by
            obtain ⟨n, hn⟩ := hh
            exact ⟨n + 5, And.intro (jx_in_ok rfl) (And.intro (fun _ => hn) (fun zz => absurd c8 zz))⟩
          obtain ⟨n, hn⟩ := s_S_fits_70 hd hK2 (u4 := some (.ref 16)) (u5 := some (.int (y0 * ((x1 - x1 / 5 * 5) + 1)))) h hQ
          exact ⟨n + 0, hn⟩
        · rw [if_neg c8] at h
          suffices hh : ∃ n, jx_W jx_ShC d (some .boolean) jc_97 Q n 68 [some (.ref 1), some (.int x1), some (.int x2), some (.int x3), some (.ref 16), some (.int (y0 * ((x1 - x1 / 5 * 5) + 1)))] [] σ by
            obtain ⟨n, hn⟩ := hh
            exact ⟨n + 5, And.intro (jx_in_ok rfl) (And.intro (fun zz => absurd zz c8) (fun _ => hn))⟩
          cases h
          exact ⟨2, And.intro (Or.inl rfl) (And.intro hQ (And.intro rfl rfl))⟩
  · unfold f_S_fits_37 at h
    by_cases c6 : x3 = x2
    · rw [if_pos c6] at h
      suffices hh : ∃ n, jx_W jx_ShC d (some .boolean) jc_97 Q n 70 [some (.ref 1), some (.int x1), some (.int x2), some (.int x3), some (.ref 17), some (.int (y0 * ((x1 - x1 / 5 * 5) + 1)))] [] σ by
        obtain ⟨n, hn⟩ := hh
        exact ⟨n + 10, And.intro (by decide) (And.intro (fun _ => hn) (fun zz => absurd c6 zz))⟩
      obtain ⟨n, hn⟩ := s_S_fits_70 hd hK2 (u4 := some (.ref 17)) (u5 := some (.int (y0 * ((x1 - x1 / 5 * 5) + 1)))) h hQ
      exact ⟨n + 0, hn⟩
    · rw [if_neg c6] at h
      suffices hh : ∃ n, jx_W jx_ShC d (some .boolean) jc_97 Q n 50 [some (.ref 1), some (.int x1), some (.int x2), some (.int x3), some (.ref 17), some (.int (y0 * ((x1 - x1 / 5 * 5) + 1)))] [] σ by
        obtain ⟨n, hn⟩ := hh
        exact ⟨n + 10, And.intro (by decide) (And.intro (fun zz => absurd zz c6) (fun _ => hn))⟩
      by_cases c7 : (y0 * ((x1 - x1 / 5 * 5) + 1)) < (σ.1 17 2)
      · rw [if_pos c7] at h
        suffices hh : ∃ n, jx_W jx_ShC d (some .boolean) jc_97 Q n 68 [some (.ref 1), some (.int x1), some (.int x2), some (.int x3), some (.ref 17), some (.int (y0 * ((x1 - x1 / 5 * 5) + 1)))] [] σ by
          obtain ⟨n, hn⟩ := hh
          exact ⟨n + 5, And.intro (jx_in_ok rfl) (And.intro (fun _ => hn) (fun zz => absurd c7 zz))⟩
        cases h
        exact ⟨2, And.intro (Or.inl rfl) (And.intro hQ (And.intro rfl rfl))⟩
      · rw [if_neg c7] at h
        suffices hh : ∃ n, jx_W jx_ShC d (some .boolean) jc_97 Q n 59 [some (.ref 1), some (.int x1), some (.int x2), some (.int x3), some (.ref 17), some (.int (y0 * ((x1 - x1 / 5 * 5) + 1)))] [] σ by
          obtain ⟨n, hn⟩ := hh
          exact ⟨n + 5, And.intro (jx_in_ok rfl) (And.intro (fun zz => absurd zz c7) (fun _ => hn))⟩
        by_cases c8 : (y0 * ((x1 - x1 / 5 * 5) + 1)) ≤ (σ.1 17 3)
        · rw [if_pos c8] at h
          suffices hh : ∃ n, jx_W jx_ShC d (some .boolean) jc_97 Q n 70 [some (.ref 1), some (.int x1), some (.int x2), some (.int x3), some (.ref 17), some (.int (y0 * ((x1 - x1 / 5 * 5) + 1)))] [] σ by
            obtain ⟨n, hn⟩ := hh
            exact ⟨n + 5, And.intro (jx_in_ok rfl) (And.intro (fun _ => hn) (fun zz => absurd c8 zz))⟩
          obtain ⟨n, hn⟩ := s_S_fits_70 hd hK2 (u4 := some (.ref 17)) (u5 := some (.int (y0 * ((x1 - x1 / 5 * 5) + 1)))) h hQ
          exact ⟨n + 0, hn⟩
        · rw [if_neg c8] at h
          suffices hh : ∃ n, jx_W jx_ShC d (some .boolean) jc_97 Q n 68 [some (.ref 1), some (.int x1), some (.int x2), some (.int x3), some (.ref 17), some (.int (y0 * ((x1 - x1 / 5 * 5) + 1)))] [] σ by
            obtain ⟨n, hn⟩ := hh
            exact ⟨n + 5, And.intro (jx_in_ok rfl) (And.intro (fun zz => absurd zz c8) (fun _ => hn))⟩
          cases h
          exact ⟨2, And.intro (Or.inl rfl) (And.intro hQ (And.intro rfl rfl))⟩
  · unfold f_S_fits_37 at h
    by_cases c6 : x3 = x2
    · rw [if_pos c6] at h
      suffices hh : ∃ n, jx_W jx_ShC d (some .boolean) jc_97 Q n 70 [some (.ref 1), some (.int x1), some (.int x2), some (.int x3), some (.ref 18), some (.int (y0 * ((x1 - x1 / 5 * 5) + 1)))] [] σ by
        obtain ⟨n, hn⟩ := hh
        exact ⟨n + 10, And.intro (by decide) (And.intro (fun _ => hn) (fun zz => absurd c6 zz))⟩
      obtain ⟨n, hn⟩ := s_S_fits_70 hd hK2 (u4 := some (.ref 18)) (u5 := some (.int (y0 * ((x1 - x1 / 5 * 5) + 1)))) h hQ
      exact ⟨n + 0, hn⟩
    · rw [if_neg c6] at h
      suffices hh : ∃ n, jx_W jx_ShC d (some .boolean) jc_97 Q n 50 [some (.ref 1), some (.int x1), some (.int x2), some (.int x3), some (.ref 18), some (.int (y0 * ((x1 - x1 / 5 * 5) + 1)))] [] σ by
        obtain ⟨n, hn⟩ := hh
        exact ⟨n + 10, And.intro (by decide) (And.intro (fun zz => absurd zz c6) (fun _ => hn))⟩
      by_cases c7 : (y0 * ((x1 - x1 / 5 * 5) + 1)) < (σ.1 18 2)
      · rw [if_pos c7] at h
        suffices hh : ∃ n, jx_W jx_ShC d (some .boolean) jc_97 Q n 68 [some (.ref 1), some (.int x1), some (.int x2), some (.int x3), some (.ref 18), some (.int (y0 * ((x1 - x1 / 5 * 5) + 1)))] [] σ by
          obtain ⟨n, hn⟩ := hh
          exact ⟨n + 5, And.intro (jx_in_ok rfl) (And.intro (fun _ => hn) (fun zz => absurd c7 zz))⟩
        cases h
        exact ⟨2, And.intro (Or.inl rfl) (And.intro hQ (And.intro rfl rfl))⟩
      · rw [if_neg c7] at h
        suffices hh : ∃ n, jx_W jx_ShC d (some .boolean) jc_97 Q n 59 [some (.ref 1), some (.int x1), some (.int x2), some (.int x3), some (.ref 18), some (.int (y0 * ((x1 - x1 / 5 * 5) + 1)))] [] σ by
          obtain ⟨n, hn⟩ := hh
          exact ⟨n + 5, And.intro (jx_in_ok rfl) (And.intro (fun zz => absurd zz c7) (fun _ => hn))⟩
        by_cases c8 : (y0 * ((x1 - x1 / 5 * 5) + 1)) ≤ (σ.1 18 3)
        · rw [if_pos c8] at h
          suffices hh : ∃ n, jx_W jx_ShC d (some .boolean) jc_97 Q n 70 [some (.ref 1), some (.int x1), some (.int x2), some (.int x3), some (.ref 18), some (.int (y0 * ((x1 - x1 / 5 * 5) + 1)))] [] σ by
            obtain ⟨n, hn⟩ := hh
            exact ⟨n + 5, And.intro (jx_in_ok rfl) (And.intro (fun _ => hn) (fun zz => absurd c8 zz))⟩
          obtain ⟨n, hn⟩ := s_S_fits_70 hd hK2 (u4 := some (.ref 18)) (u5 := some (.int (y0 * ((x1 - x1 / 5 * 5) + 1)))) h hQ
          exact ⟨n + 0, hn⟩
        · rw [if_neg c8] at h
          suffices hh : ∃ n, jx_W jx_ShC d (some .boolean) jc_97 Q n 68 [some (.ref 1), some (.int x1), some (.int x2), some (.int x3), some (.ref 18), some (.int (y0 * ((x1 - x1 / 5 * 5) + 1)))] [] σ by
            obtain ⟨n, hn⟩ := hh
            exact ⟨n + 5, And.intro (jx_in_ok rfl) (And.intro (fun zz => absurd zz c8) (fun _ => hn))⟩
          cases h
          exact ⟨2, And.intro (Or.inl rfl) (And.intro hQ (And.intro rfl rfl))⟩
set_option maxRecDepth 20000 in
theorem s_S_fits_34 {N d : Nat} {Q : jw_Q} {K2 : Int32 → Int32 → Int32 → jw_M → Option (Int32 × jw_M)} (hd : 3 ≤ d) (hK2 : ∀ {x1 : Int32} {x2 : Int32} {x3 : Int32} {σ : jw_M} {z : (Int32 × jw_M)} {u4 : Option Value} {u5 : Option Value}, K2 x1 x2 x3 σ = some z → Q (some (.int z.1)) (jx_ShC, z.2) → ∃ n, jx_W jx_ShC d (some .boolean) jc_97 Q n 2 [some (.ref 1), some (.int x1), some (.int x2), some (.int x3), u4, u5] [] σ) {x1 : Int32} {x2 : Int32} {x3 : Int32} {r4 : Nat} {r_0 : Nat} {y1 : Int32} {y2 : Int32} {u5 : Option Value} {σ : jw_M} {z : (Int32 × jw_M)} (hr4 : r4 = 13 ∨ r4 = 14 ∨ r4 = 15 ∨ r4 = 16 ∨ r4 = 17 ∨ r4 = 18) (hr_0 : r_0 = 32 ∨ r_0 = 33 ∨ r_0 = 34 ∨ r_0 = 35 ∨ r_0 = 36 ∨ r_0 = 37) (h : f_S_fits_34 N K2 x1 x2 x3 r4 r_0 y1 y2 σ = some z) (hQ : Q (some (.int z.1)) (jx_ShC, z.2)) : ∃ n, jx_W jx_ShC d (some .boolean) jc_97 Q n 34 [some (.ref 1), some (.int x1), some (.int x2), some (.int x3), some (.ref r4), u5] [.int y2, .int y1, .ref r_0] σ := by
  rcases hr_0 with rfl | rfl | rfl | rfl | rfl | rfl
  · unfold f_S_fits_34 at h
    obtain ⟨z4, h5, h⟩ := Option.bind_eq_some_iff.mp h
    rw [if_pos rfl] at h5
    obtain ⟨n, hn⟩ := s_S_fits_37 hd hK2 (u5 := u5) hr4 h hQ
    exact ⟨n + 1, s_Z_Shade_lengthIn (by omega) (by decide) h5 (hn)⟩
  · unfold f_S_fits_34 at h
    obtain ⟨z4, h5, h⟩ := Option.bind_eq_some_iff.mp h
    rw [if_neg (by decide), if_pos rfl] at h5
    obtain ⟨n, hn⟩ := s_S_fits_37 hd hK2 (u5 := u5) hr4 h hQ
    exact ⟨n + 1, s_Z_Shade_lengthIn (by omega) (by decide) h5 (hn)⟩
  · unfold f_S_fits_34 at h
    obtain ⟨z4, h5, h⟩ := Option.bind_eq_some_iff.mp h
    rw [if_neg (by decide), if_neg (by decide), if_pos rfl] at h5
    obtain ⟨n, hn⟩ := s_S_fits_37 hd hK2 (u5 := u5) hr4 h hQ
    exact ⟨n + 1, s_Z_Shade_lengthIn (by omega) (by decide) h5 (hn)⟩
  · unfold f_S_fits_34 at h
    obtain ⟨z4, h5, h⟩ := Option.bind_eq_some_iff.mp h
    rw [if_neg (by decide), if_neg (by decide), if_neg (by decide), if_pos rfl] at h5
    obtain ⟨n, hn⟩ := s_S_fits_37 hd hK2 (u5 := u5) hr4 h hQ
    exact ⟨n + 1, s_Z_Coloured_lengthIn (by omega) h5 (hn)⟩
  · unfold f_S_fits_34 at h
    obtain ⟨z4, h5, h⟩ := Option.bind_eq_some_iff.mp h
    rw [if_neg (by decide), if_neg (by decide), if_neg (by decide), if_neg (by decide), if_pos rfl] at h5
    obtain ⟨n, hn⟩ := s_S_fits_37 hd hK2 (u5 := u5) hr4 h hQ
    exact ⟨n + 1, s_Z_Slow_lengthIn (by omega) (by decide) h5 (hn)⟩
  · unfold f_S_fits_34 at h
    obtain ⟨z4, h5, h⟩ := Option.bind_eq_some_iff.mp h
    rw [if_neg (by decide), if_neg (by decide), if_neg (by decide), if_neg (by decide), if_neg (by decide), if_pos rfl] at h5
    obtain ⟨n, hn⟩ := s_S_fits_37 hd hK2 (u5 := u5) hr4 h hQ
    exact ⟨n + 1, s_Z_Borrowed_lengthIn (by omega) h5 (hn)⟩
set_option maxRecDepth 20000 in
theorem s_S_fits_27 {N d : Nat} {Q : jw_Q} {K2 : Int32 → Int32 → Int32 → jw_M → Option (Int32 × jw_M)} (hd : 3 ≤ d) (hK2 : ∀ {x1 : Int32} {x2 : Int32} {x3 : Int32} {σ : jw_M} {z : (Int32 × jw_M)} {u4 : Option Value} {u5 : Option Value}, K2 x1 x2 x3 σ = some z → Q (some (.int z.1)) (jx_ShC, z.2) → ∃ n, jx_W jx_ShC d (some .boolean) jc_97 Q n 2 [some (.ref 1), some (.int x1), some (.int x2), some (.int x3), u4, u5] [] σ) {x1 : Int32} {x2 : Int32} {x3 : Int32} {r4 : Nat} {r_0 : Nat} {u5 : Option Value} {σ : jw_M} {z : (Int32 × jw_M)} (hr4 : r4 = 13 ∨ r4 = 14 ∨ r4 = 15 ∨ r4 = 16 ∨ r4 = 17 ∨ r4 = 18) (hr_0 : r_0 = 32 ∨ r_0 = 33 ∨ r_0 = 34 ∨ r_0 = 35 ∨ r_0 = 36 ∨ r_0 = 37) (h : f_S_fits_27 N K2 x1 x2 x3 r4 r_0 σ = some z) (hQ : Q (some (.int z.1)) (jx_ShC, z.2)) : ∃ n, jx_W jx_ShC d (some .boolean) jc_97 Q n 27 [some (.ref 1), some (.int x1), some (.int x2), some (.int x3), some (.ref r4), u5] [.ref r_0] σ := by
  rcases hr4 with rfl | rfl | rfl | rfl | rfl | rfl
  · unfold f_S_fits_27 at h
    obtain ⟨n, hn⟩ := s_S_fits_34 hd hK2 (u5 := u5) (by decide) hr_0 h hQ
    exact ⟨n + 6, And.intro (by decide) (And.intro (jx_in_ok rfl) (hn))⟩
  · unfold f_S_fits_27 at h
    obtain ⟨n, hn⟩ := s_S_fits_34 hd hK2 (u5 := u5) (by decide) hr_0 h hQ
    exact ⟨n + 6, And.intro (by decide) (And.intro (jx_in_ok rfl) (hn))⟩
  · unfold f_S_fits_27 at h
    obtain ⟨n, hn⟩ := s_S_fits_34 hd hK2 (u5 := u5) (by decide) hr_0 h hQ
    exact ⟨n + 6, And.intro (by decide) (And.intro (jx_in_ok rfl) (hn))⟩
  · unfold f_S_fits_27 at h
    obtain ⟨n, hn⟩ := s_S_fits_34 hd hK2 (u5 := u5) (by decide) hr_0 h hQ
    exact ⟨n + 6, And.intro (by decide) (And.intro (jx_in_ok rfl) (hn))⟩
  · unfold f_S_fits_27 at h
    obtain ⟨n, hn⟩ := s_S_fits_34 hd hK2 (u5 := u5) (by decide) hr_0 h hQ
    exact ⟨n + 6, And.intro (by decide) (And.intro (jx_in_ok rfl) (hn))⟩
  · unfold f_S_fits_27 at h
    obtain ⟨n, hn⟩ := s_S_fits_34 hd hK2 (u5 := u5) (by decide) hr_0 h hQ
    exact ⟨n + 6, And.intro (by decide) (And.intro (jx_in_ok rfl) (hn))⟩
set_option maxRecDepth 20000 in
theorem s_S_fits_26 {N d : Nat} {Q : jw_Q} {K2 : Int32 → Int32 → Int32 → jw_M → Option (Int32 × jw_M)} (hd : 3 ≤ d) (hK2 : ∀ {x1 : Int32} {x2 : Int32} {x3 : Int32} {σ : jw_M} {z : (Int32 × jw_M)} {u4 : Option Value} {u5 : Option Value}, K2 x1 x2 x3 σ = some z → Q (some (.int z.1)) (jx_ShC, z.2) → ∃ n, jx_W jx_ShC d (some .boolean) jc_97 Q n 2 [some (.ref 1), some (.int x1), some (.int x2), some (.int x3), u4, u5] [] σ) {x1 : Int32} {x2 : Int32} {x3 : Int32} {r4 : Nat} {y1 : Int32} {u5 : Option Value} {σ : jw_M} {z : (Int32 × jw_M)} (hr4 : r4 = 13 ∨ r4 = 14 ∨ r4 = 15 ∨ r4 = 16 ∨ r4 = 17 ∨ r4 = 18) (h : f_S_fits_26 N K2 x1 x2 x3 r4 y1 σ = some z) (hQ : Q (some (.int z.1)) (jx_ShC, z.2)) : ∃ n, jx_W jx_ShC d (some .boolean) jc_97 Q n 26 [some (.ref 1), some (.int x1), some (.int x2), some (.int x3), some (.ref r4), u5] [.int y1, .ref 31] σ := by
  unfold f_S_fits_26 at h
  cases c3 : jx_in y1 6 with
  | false => rw [c3, cond_false] at h; cases h
  | true =>
    rw [c3, cond_true] at h
    rcases jx_ix6 (jx_in_ok c3) with rfl | rfl | rfl | rfl | rfl | rfl
    · try rw [show (32 + (0 : Int32).toNatClampNeg) = 32 from by decide] at h
      obtain ⟨n, hn⟩ := s_S_fits_27 hd hK2 (u5 := u5) hr4 (by decide) h hQ
      exact ⟨n + 1, And.intro (jx_in_ok c3) (hn)⟩
    · try rw [show (32 + (1 : Int32).toNatClampNeg) = 33 from by decide] at h
      obtain ⟨n, hn⟩ := s_S_fits_27 hd hK2 (u5 := u5) hr4 (by decide) h hQ
      exact ⟨n + 1, And.intro (jx_in_ok c3) (hn)⟩
    · try rw [show (32 + (2 : Int32).toNatClampNeg) = 34 from by decide] at h
      obtain ⟨n, hn⟩ := s_S_fits_27 hd hK2 (u5 := u5) hr4 (by decide) h hQ
      exact ⟨n + 1, And.intro (jx_in_ok c3) (hn)⟩
    · try rw [show (32 + (3 : Int32).toNatClampNeg) = 35 from by decide] at h
      obtain ⟨n, hn⟩ := s_S_fits_27 hd hK2 (u5 := u5) hr4 (by decide) h hQ
      exact ⟨n + 1, And.intro (jx_in_ok c3) (hn)⟩
    · try rw [show (32 + (4 : Int32).toNatClampNeg) = 36 from by decide] at h
      obtain ⟨n, hn⟩ := s_S_fits_27 hd hK2 (u5 := u5) hr4 (by decide) h hQ
      exact ⟨n + 1, And.intro (jx_in_ok c3) (hn)⟩
    · try rw [show (32 + (5 : Int32).toNatClampNeg) = 37 from by decide] at h
      obtain ⟨n, hn⟩ := s_S_fits_27 hd hK2 (u5 := u5) hr4 (by decide) h hQ
      exact ⟨n + 1, And.intro (jx_in_ok c3) (hn)⟩
set_option maxRecDepth 20000 in
theorem s_S_fits_16 {N d : Nat} {Q : jw_Q} {K2 : Int32 → Int32 → Int32 → jw_M → Option (Int32 × jw_M)} (hd : 3 ≤ d) (hK2 : ∀ {x1 : Int32} {x2 : Int32} {x3 : Int32} {σ : jw_M} {z : (Int32 × jw_M)} {u4 : Option Value} {u5 : Option Value}, K2 x1 x2 x3 σ = some z → Q (some (.int z.1)) (jx_ShC, z.2) → ∃ n, jx_W jx_ShC d (some .boolean) jc_97 Q n 2 [some (.ref 1), some (.int x1), some (.int x2), some (.int x3), u4, u5] [] σ) {x1 : Int32} {x2 : Int32} {x3 : Int32} {r_0 : Nat} {u4 : Option Value} {u5 : Option Value} {σ : jw_M} {z : (Int32 × jw_M)} (hr_0 : r_0 = 13 ∨ r_0 = 14 ∨ r_0 = 15 ∨ r_0 = 16 ∨ r_0 = 17 ∨ r_0 = 18) (h : f_S_fits_16 N K2 x1 x2 x3 r_0 σ = some z) (hQ : Q (some (.int z.1)) (jx_ShC, z.2)) : ∃ n, jx_W jx_ShC d (some .boolean) jc_97 Q n 16 [some (.ref 1), some (.int x1), some (.int x2), some (.int x3), u4, u5] [.ref r_0] σ := by
  rcases hr_0 with rfl | rfl | rfl | rfl | rfl | rfl
  · unfold f_S_fits_16 at h
    obtain ⟨n, hn⟩ := s_S_fits_26 hd hK2 (u5 := u5) (by decide) h hQ
    exact ⟨n + 6, And.intro (jx_in_ok rfl) (hn)⟩
  · unfold f_S_fits_16 at h
    obtain ⟨n, hn⟩ := s_S_fits_26 hd hK2 (u5 := u5) (by decide) h hQ
    exact ⟨n + 6, And.intro (jx_in_ok rfl) (hn)⟩
  · unfold f_S_fits_16 at h
    obtain ⟨n, hn⟩ := s_S_fits_26 hd hK2 (u5 := u5) (by decide) h hQ
    exact ⟨n + 6, And.intro (jx_in_ok rfl) (hn)⟩
  · unfold f_S_fits_16 at h
    obtain ⟨n, hn⟩ := s_S_fits_26 hd hK2 (u5 := u5) (by decide) h hQ
    exact ⟨n + 6, And.intro (jx_in_ok rfl) (hn)⟩
  · unfold f_S_fits_16 at h
    obtain ⟨n, hn⟩ := s_S_fits_26 hd hK2 (u5 := u5) (by decide) h hQ
    exact ⟨n + 6, And.intro (jx_in_ok rfl) (hn)⟩
  · unfold f_S_fits_16 at h
    obtain ⟨n, hn⟩ := s_S_fits_26 hd hK2 (u5 := u5) (by decide) h hQ
    exact ⟨n + 6, And.intro (jx_in_ok rfl) (hn)⟩
set_option maxRecDepth 20000 in
theorem s_S_fits_15 {N d : Nat} {Q : jw_Q} {K2 : Int32 → Int32 → Int32 → jw_M → Option (Int32 × jw_M)} (hd : 3 ≤ d) (hK2 : ∀ {x1 : Int32} {x2 : Int32} {x3 : Int32} {σ : jw_M} {z : (Int32 × jw_M)} {u4 : Option Value} {u5 : Option Value}, K2 x1 x2 x3 σ = some z → Q (some (.int z.1)) (jx_ShC, z.2) → ∃ n, jx_W jx_ShC d (some .boolean) jc_97 Q n 2 [some (.ref 1), some (.int x1), some (.int x2), some (.int x3), u4, u5] [] σ) {x1 : Int32} {x2 : Int32} {x3 : Int32} {y1 : Int32} {u4 : Option Value} {u5 : Option Value} {σ : jw_M} {z : (Int32 × jw_M)} (h : f_S_fits_15 N K2 x1 x2 x3 y1 σ = some z) (hQ : Q (some (.int z.1)) (jx_ShC, z.2)) : ∃ n, jx_W jx_ShC d (some .boolean) jc_97 Q n 15 [some (.ref 1), some (.int x1), some (.int x2), some (.int x3), u4, u5] [.int y1, .ref 12] σ := by
  unfold f_S_fits_15 at h
  cases c2 : jx_in y1 6 with
  | false => rw [c2, cond_false] at h; cases h
  | true =>
    rw [c2, cond_true] at h
    rcases jx_ix6 (jx_in_ok c2) with rfl | rfl | rfl | rfl | rfl | rfl
    · try rw [show (13 + (0 : Int32).toNatClampNeg) = 13 from by decide] at h
      obtain ⟨n, hn⟩ := s_S_fits_16 hd hK2 (u4 := u4) (u5 := u5) (by decide) h hQ
      exact ⟨n + 1, And.intro (jx_in_ok c2) (hn)⟩
    · try rw [show (13 + (1 : Int32).toNatClampNeg) = 14 from by decide] at h
      obtain ⟨n, hn⟩ := s_S_fits_16 hd hK2 (u4 := u4) (u5 := u5) (by decide) h hQ
      exact ⟨n + 1, And.intro (jx_in_ok c2) (hn)⟩
    · try rw [show (13 + (2 : Int32).toNatClampNeg) = 15 from by decide] at h
      obtain ⟨n, hn⟩ := s_S_fits_16 hd hK2 (u4 := u4) (u5 := u5) (by decide) h hQ
      exact ⟨n + 1, And.intro (jx_in_ok c2) (hn)⟩
    · try rw [show (13 + (3 : Int32).toNatClampNeg) = 16 from by decide] at h
      obtain ⟨n, hn⟩ := s_S_fits_16 hd hK2 (u4 := u4) (u5 := u5) (by decide) h hQ
      exact ⟨n + 1, And.intro (jx_in_ok c2) (hn)⟩
    · try rw [show (13 + (4 : Int32).toNatClampNeg) = 17 from by decide] at h
      obtain ⟨n, hn⟩ := s_S_fits_16 hd hK2 (u4 := u4) (u5 := u5) (by decide) h hQ
      exact ⟨n + 1, And.intro (jx_in_ok c2) (hn)⟩
    · try rw [show (13 + (5 : Int32).toNatClampNeg) = 18 from by decide] at h
      obtain ⟨n, hn⟩ := s_S_fits_16 hd hK2 (u4 := u4) (u5 := u5) (by decide) h hQ
      exact ⟨n + 1, And.intro (jx_in_ok c2) (hn)⟩
set_option maxRecDepth 20000 in
theorem s_S_fits_2 {N d : Nat} {Q : jw_Q} (hd : 3 ≤ d) : ∀ (k : Nat) {x1 : Int32} {x2 : Int32} {x3 : Int32} {u4 : Option Value} {u5 : Option Value} {σ : jw_M} {z : (Int32 × jw_M)}, f_S_fits_2 N k x1 x2 x3 σ = some z → Q (some (.int z.1)) (jx_ShC, z.2) → ∃ n, jx_W jx_ShC d (some .boolean) jc_97 Q n 2 [some (.ref 1), some (.int x1), some (.int x2), some (.int x3), u4, u5] [] σ
  | 0, _, _, _, _, _, _, _, h, _ => by cases h
  | k + 1, x1, x2, x3, u4, u5, σ, z, h, hQ => by
    rw [f_S_fits_2] at h
    by_cases c1 : (σ.1 1 12) ≤ x3
    · rw [if_pos c1] at h
      suffices hh : ∃ n, jx_W jx_ShC d (some .boolean) jc_97 Q n 76 [some (.ref 1), some (.int x1), some (.int x2), some (.int x3), u4, u5] [] σ by
        obtain ⟨n, hn⟩ := hh
        exact ⟨n + 4, And.intro (fun _ => hn) (fun zz => absurd c1 zz)⟩
      cases h
      exact ⟨2, And.intro (Or.inr rfl) (And.intro hQ (And.intro rfl rfl))⟩
    · rw [if_neg c1] at h
      suffices hh : ∃ n, jx_W jx_ShC d (some .boolean) jc_97 Q n 10 [some (.ref 1), some (.int x1), some (.int x2), some (.int x3), u4, u5] [] σ by
        obtain ⟨n, hn⟩ := hh
        exact ⟨n + 4, And.intro (fun zz => absurd zz c1) (fun _ => hn)⟩
      obtain ⟨n, hn⟩ := s_S_fits_15 hd (s_S_fits_2 hd k) (u4 := u4) (u5 := u5) h hQ
      exact ⟨n + 3, hn⟩
set_option maxRecDepth 20000 in
theorem s_S_fits {N d : Nat} {x1 : Int32} {x2 : Int32} (hd : 4 ≤ d) {σ : jw_M} {z : (Int32 × jw_M)} {Q : jw_Q} (h : f_S_fits N x1 x2 σ = some z) (hQ : Q (some (.int z.1)) (jx_ShC, z.2)) : jw_C jp_kd jp_ys d 97 [.ref 1, .int x1, .int x2] (jx_ShC, σ) Q := by
  obtain ⟨d, rfl⟩ : ∃ e, d = e + 1 := ⟨d - 1, by omega⟩
  replace hd : 3 ≤ d := by omega
  refine jx_C rfl rfl ?_
  unfold f_S_fits at h
  obtain ⟨n, hn⟩ := s_S_fits_2 hd N (u4 := none) (u5 := none) h hQ
  exact ⟨n + 2, hn⟩
set_option maxRecDepth 20000 in
theorem s_S_firstFit_2 {N d : Nat} {Q : jw_Q} (hd : 4 ≤ d) : ∀ (k : Nat) {x1 : Int32} {x2 : Int32} {σ : jw_M} {z : (Int32 × jw_M)}, f_S_firstFit_2 N k x1 x2 σ = some z → Q (some (.int z.1)) (jx_ShC, z.2) → ∃ n, jx_W jx_ShC d (some .int) jc_95 Q n 2 [some (.ref 1), some (.int x1), some (.int x2)] [] σ
  | 0, _, _, _, _, h, _ => by cases h
  | k + 1, x1, x2, σ, z, h, hQ => by
    rw [f_S_firstFit_2] at h
    by_cases c1 : 80 ≤ x2
    · rw [if_pos c1] at h
      suffices hh : ∃ n, jx_W jx_ShC d (some .int) jc_95 Q n 25 [some (.ref 1), some (.int x1), some (.int x2)] [] σ by
        obtain ⟨n, hn⟩ := hh
        exact ⟨n + 3, And.intro (fun _ => hn) (fun zz => absurd c1 zz)⟩
      cases h
      exact ⟨2, And.intro hQ (And.intro rfl rfl)⟩
    · rw [if_neg c1] at h
      suffices hh : ∃ n, jx_W jx_ShC d (some .int) jc_95 Q n 8 [some (.ref 1), some (.int x1), some (.int x2)] [] σ by
        obtain ⟨n, hn⟩ := hh
        exact ⟨n + 3, And.intro (fun zz => absurd zz c1) (fun _ => hn)⟩
      obtain ⟨z2, h3, h⟩ := Option.bind_eq_some_iff.mp h
      by_cases c4 : z2.1 = 0
      · rw [if_pos c4] at h
        suffices hh : ∃ n, jx_W jx_ShC d (some .int) jc_95 Q n 19 [some (.ref 1), some (.int x1), some (.int x2)] [] z2.2 by
          obtain ⟨n, hn⟩ := hh
          exact ⟨n + 5, s_S_fits (by omega) h3 (And.intro (fun _ => hn) (fun zz => absurd c4 zz))⟩
        obtain ⟨n, hn⟩ := s_S_firstFit_2 hd k h hQ
        exact ⟨n + 2, hn⟩
      · rw [if_neg c4] at h
        suffices hh : ∃ n, jx_W jx_ShC d (some .int) jc_95 Q n 17 [some (.ref 1), some (.int x1), some (.int x2)] [] z2.2 by
          obtain ⟨n, hn⟩ := hh
          exact ⟨n + 5, s_S_fits (by omega) h3 (And.intro (fun zz => absurd zz c4) (fun _ => hn))⟩
        cases h
        exact ⟨2, And.intro hQ (And.intro rfl rfl)⟩
set_option maxRecDepth 20000 in
theorem s_S_firstFit {N d : Nat} {x1 : Int32} (hd : 5 ≤ d) {σ : jw_M} {z : (Int32 × jw_M)} {Q : jw_Q} (h : f_S_firstFit N x1 σ = some z) (hQ : Q (some (.int z.1)) (jx_ShC, z.2)) : jw_C jp_kd jp_ys d 95 [.ref 1, .int x1] (jx_ShC, σ) Q := by
  obtain ⟨d, rfl⟩ : ∃ e, d = e + 1 := ⟨d - 1, by omega⟩
  replace hd : 4 ≤ d := by omega
  refine jx_C rfl rfl ?_
  unfold f_S_firstFit at h
  obtain ⟨n, hn⟩ := s_S_firstFit_2 hd N h hQ
  exact ⟨n + 2, hn⟩
set_option maxRecDepth 20000 in
theorem s_S_howManyFit_23 {N d : Nat} {Q : jw_Q} {K4 : Int32 → Int32 → jw_M → Option (Int32 × jw_M)} (hd : 4 ≤ d) (hK4 : ∀ {x1 : Int32} {x2 : Int32} {σ : jw_M} {z : (Int32 × jw_M)}, K4 x1 x2 σ = some z → Q (some (.int z.1)) (jx_ShC, z.2) → ∃ n, jx_W jx_ShC d (some .int) jc_96 Q n 4 [some (.ref 1), some (.int x1), some (.int x2)] [] σ) {x1 : Int32} {x2 : Int32} {σ : jw_M} {z : (Int32 × jw_M)} (h : f_S_howManyFit_23 N K4 x1 x2 σ = some z) (hQ : Q (some (.int z.1)) (jx_ShC, z.2)) : ∃ n, jx_W jx_ShC d (some .int) jc_96 Q n 23 [some (.ref 1), some (.int x1), some (.int x2)] [] σ := by
  unfold f_S_howManyFit_23 at h
  obtain ⟨n, hn⟩ := hK4 h hQ
  exact ⟨n + 2, hn⟩
set_option maxRecDepth 20000 in
theorem s_S_howManyFit_4 {N d : Nat} {Q : jw_Q} (hd : 4 ≤ d) : ∀ (k : Nat) {x1 : Int32} {x2 : Int32} {σ : jw_M} {z : (Int32 × jw_M)}, f_S_howManyFit_4 N k x1 x2 σ = some z → Q (some (.int z.1)) (jx_ShC, z.2) → ∃ n, jx_W jx_ShC d (some .int) jc_96 Q n 4 [some (.ref 1), some (.int x1), some (.int x2)] [] σ
  | 0, _, _, _, _, h, _ => by cases h
  | k + 1, x1, x2, σ, z, h, hQ => by
    rw [f_S_howManyFit_4] at h
    by_cases c1 : 80 ≤ x2
    · rw [if_pos c1] at h
      suffices hh : ∃ n, jx_W jx_ShC d (some .int) jc_96 Q n 29 [some (.ref 1), some (.int x1), some (.int x2)] [] σ by
        obtain ⟨n, hn⟩ := hh
        exact ⟨n + 3, And.intro (fun _ => hn) (fun zz => absurd c1 zz)⟩
      cases h
      exact ⟨2, And.intro hQ (And.intro rfl rfl)⟩
    · rw [if_neg c1] at h
      suffices hh : ∃ n, jx_W jx_ShC d (some .int) jc_96 Q n 10 [some (.ref 1), some (.int x1), some (.int x2)] [] σ by
        obtain ⟨n, hn⟩ := hh
        exact ⟨n + 3, And.intro (fun zz => absurd zz c1) (fun _ => hn)⟩
      obtain ⟨z2, h3, h⟩ := Option.bind_eq_some_iff.mp h
      by_cases c4 : z2.1 = 0
      · rw [if_pos c4] at h
        suffices hh : ∃ n, jx_W jx_ShC d (some .int) jc_96 Q n 23 [some (.ref 1), some (.int x1), some (.int x2)] [] z2.2 by
          obtain ⟨n, hn⟩ := hh
          exact ⟨n + 5, s_S_fits (by omega) h3 (And.intro (fun _ => hn) (fun zz => absurd c4 zz))⟩
        obtain ⟨n, hn⟩ := s_S_howManyFit_23 hd (s_S_howManyFit_4 hd k) h hQ
        exact ⟨n + 0, hn⟩
      · rw [if_neg c4] at h
        suffices hh : ∃ n, jx_W jx_ShC d (some .int) jc_96 Q n 20 [some (.ref 1), some (.int x1), some (.int x2)] [] z2.2 by
          obtain ⟨n, hn⟩ := hh
          exact ⟨n + 5, s_S_fits (by omega) h3 (And.intro (fun zz => absurd zz c4) (fun _ => hn))⟩
        obtain ⟨n, hn⟩ := s_S_howManyFit_23 hd (s_S_howManyFit_4 hd k) h hQ
        exact ⟨n + 1, hn⟩
set_option maxRecDepth 20000 in
theorem s_S_howManyFit {N d : Nat} (hd : 5 ≤ d) {σ : jw_M} {z : (Int32 × jw_M)} {Q : jw_Q} (h : f_S_howManyFit N  σ = some z) (hQ : Q (some (.int z.1)) (jx_ShC, z.2)) : jw_C jp_kd jp_ys d 96 [.ref 1] (jx_ShC, σ) Q := by
  obtain ⟨d, rfl⟩ : ∃ e, d = e + 1 := ⟨d - 1, by omega⟩
  replace hd : 4 ≤ d := by omega
  refine jx_C rfl rfl ?_
  unfold f_S_howManyFit at h
  obtain ⟨n, hn⟩ := s_S_howManyFit_4 hd N h hQ
  exact ⟨n + 4, hn⟩
set_option maxRecDepth 20000 in
theorem s_F_shadow {N d : Nat} {x1 : Int32} {x2 : Int32} {x3 : Int32} (hd : 2 ≤ d) {σ : jw_M} {z : (Int32 × jw_M)} {Q : jw_Q} (h : f_F_shadow N x1 x2 x3 σ = some z) (hQ : Q (some (.int z.1)) (jx_ShC, z.2)) : jw_C jp_kd jp_ys d 110 [.ref 0, .int x1, .int x2, .int x3] (jx_ShC, σ) Q := by
  obtain ⟨d, rfl⟩ : ∃ e, d = e + 1 := ⟨d - 1, by omega⟩
  replace hd : 1 ≤ d := by omega
  refine jx_C rfl rfl ?_
  unfold f_F_shadow at h
  obtain ⟨z1, h2, h⟩ := Option.bind_eq_some_iff.mp h
  by_cases c3 : z1.1 = 0
  · rw [if_pos c3] at h
    suffices hh : ∃ n, jx_W jx_ShC d (some .int) jc_110 Q n 29 [some (.ref 0), some (.int x1), some (.int x2), some (.int x3)] [] z1.2 by
      obtain ⟨n, hn⟩ := hh
      exact ⟨n + 5, s_F_isWithin (by omega) h2 (And.intro (fun _ => hn) (fun zz => absurd c3 zz))⟩
    cases h
    exact ⟨2, And.intro hQ (And.intro rfl rfl)⟩
  · rw [if_neg c3] at h
    suffices hh : ∃ n, jx_W jx_ShC d (some .int) jc_110 Q n 9 [some (.ref 0), some (.int x1), some (.int x2), some (.int x3)] [] z1.2 by
      obtain ⟨n, hn⟩ := hh
      exact ⟨n + 5, s_F_isWithin (by omega) h2 (And.intro (fun zz => absurd zz c3) (fun _ => hn))⟩
    obtain ⟨z4, h5, h⟩ := Option.bind_eq_some_iff.mp h
    by_cases c6 : z4.1 = 0
    · rw [if_pos c6] at h
      suffices hh : ∃ n, jx_W jx_ShC d (some .int) jc_110 Q n 29 [some (.ref 0), some (.int x1), some (.int x2), some (.int x3)] [] z4.2 by
        obtain ⟨n, hn⟩ := hh
        exact ⟨n + 5, s_F_isWithin (by omega) h5 (And.intro (fun _ => hn) (fun zz => absurd c6 zz))⟩
      cases h
      exact ⟨2, And.intro hQ (And.intro rfl rfl)⟩
    · rw [if_neg c6] at h
      suffices hh : ∃ n, jx_W jx_ShC d (some .int) jc_110 Q n 19 [some (.ref 0), some (.int x1), some (.int x2), some (.int x3)] [] z4.2 by
        obtain ⟨n, hn⟩ := hh
        exact ⟨n + 5, s_F_isWithin (by omega) h5 (And.intro (fun zz => absurd zz c6) (fun _ => hn))⟩
      obtain ⟨z7, h8, h⟩ := Option.bind_eq_some_iff.mp h
      by_cases c9 : z7.1 = 0
      · rw [if_pos c9] at h
        suffices hh : ∃ n, jx_W jx_ShC d (some .int) jc_110 Q n 29 [some (.ref 0), some (.int x1), some (.int x2), some (.int x3)] [] z7.2 by
          obtain ⟨n, hn⟩ := hh
          exact ⟨n + 5, s_F_isWithin (by omega) h8 (And.intro (fun zz => absurd c9 zz) (fun _ => hn))⟩
        cases h
        exact ⟨2, And.intro hQ (And.intro rfl rfl)⟩
      · rw [if_neg c9] at h
        suffices hh : ∃ n, jx_W jx_ShC d (some .int) jc_110 Q n 31 [some (.ref 0), some (.int x1), some (.int x2), some (.int x3)] [] z7.2 by
          obtain ⟨n, hn⟩ := hh
          exact ⟨n + 5, s_F_isWithin (by omega) h8 (And.intro (fun _ => hn) (fun zz => absurd zz c9))⟩
        by_cases c10 : (z7.2.1 1 0) < 6
        · rw [if_pos c10] at h
          suffices hh : ∃ n, jx_W jx_ShC d (some .int) jc_110 Q n 48 [some (.ref 0), some (.int x1), some (.int x2), some (.int x3)] [] z7.2 by
            obtain ⟨n, hn⟩ := hh
            exact ⟨n + 5, And.intro (fun _ => hn) (fun zz => absurd c10 zz)⟩
          obtain ⟨z11, h12, h⟩ := Option.bind_eq_some_iff.mp h
          cases h
          exact ⟨7, s_S_addShadow (by omega) h12 (And.intro hQ (And.intro rfl rfl))⟩
        · rw [if_neg c10] at h
          suffices hh : ∃ n, jx_W jx_ShC d (some .int) jc_110 Q n 43 [some (.ref 0), some (.int x1), some (.int x2), some (.int x3)] [] z7.2 by
            obtain ⟨n, hn⟩ := hh
            exact ⟨n + 5, And.intro (fun zz => absurd zz c10) (fun _ => hn)⟩
          cases h
          exact ⟨3, And.intro hQ (And.intro rfl rfl)⟩
set_option maxRecDepth 20000 in
theorem s_F_shadowOf_128 {N d : Nat} {Q : jw_Q} (hd : 4 ≤ d) {y0 : Int32} {u0 : Option Value} {u1 : Option Value} {u2 : Option Value} {u3 : Option Value} {σ : jw_M} {z : (Int32 × jw_M)} (h : f_F_shadowOf_128 N y0 σ = some z) (hQ : Q (some (.int z.1)) (jx_ShC, z.2)) : ∃ n, jx_W jx_ShC d (some .int) jc_111 Q n 128 [u0, u1, u2, u3] [.int y0] σ := by
  unfold f_F_shadowOf_128 at h
  cases h
  exact ⟨1, And.intro hQ (And.intro rfl rfl)⟩
set_option maxRecDepth 20000 in
theorem s_F_shadowOf_125 {N d : Nat} {Q : jw_Q} (hd : 4 ≤ d) {r_0 : Nat} {y1 : Int32} {y2 : Int32} {u0 : Option Value} {u1 : Option Value} {u2 : Option Value} {u3 : Option Value} {σ : jw_M} {z : (Int32 × jw_M)} (hr_0 : r_0 = 32 ∨ r_0 = 33 ∨ r_0 = 34 ∨ r_0 = 35 ∨ r_0 = 36 ∨ r_0 = 37) (h : f_F_shadowOf_125 N r_0 y1 y2 σ = some z) (hQ : Q (some (.int z.1)) (jx_ShC, z.2)) : ∃ n, jx_W jx_ShC d (some .int) jc_111 Q n 125 [u0, u1, u2, u3] [.int y2, .int y1, .ref r_0] σ := by
  rcases hr_0 with rfl | rfl | rfl | rfl | rfl | rfl
  · unfold f_F_shadowOf_125 at h
    obtain ⟨z13, h14, h⟩ := Option.bind_eq_some_iff.mp h
    rw [if_pos rfl] at h14
    obtain ⟨n, hn⟩ := s_F_shadowOf_128 hd (u0 := u0) (u1 := u1) (u2 := u2) (u3 := u3) h hQ
    exact ⟨n + 1, s_Z_Shade_paceIn (by omega) (by decide) h14 (hn)⟩
  · unfold f_F_shadowOf_125 at h
    obtain ⟨z13, h14, h⟩ := Option.bind_eq_some_iff.mp h
    rw [if_neg (by decide), if_pos rfl] at h14
    obtain ⟨n, hn⟩ := s_F_shadowOf_128 hd (u0 := u0) (u1 := u1) (u2 := u2) (u3 := u3) h hQ
    exact ⟨n + 1, s_Z_Joined_paceIn (by omega) h14 (hn)⟩
  · unfold f_F_shadowOf_125 at h
    obtain ⟨z13, h14, h⟩ := Option.bind_eq_some_iff.mp h
    rw [if_neg (by decide), if_neg (by decide), if_pos rfl] at h14
    obtain ⟨n, hn⟩ := s_F_shadowOf_128 hd (u0 := u0) (u1 := u1) (u2 := u2) (u3 := u3) h hQ
    exact ⟨n + 1, s_Z_Gifted_paceIn (by omega) (by decide) h14 (hn)⟩
  · unfold f_F_shadowOf_125 at h
    obtain ⟨z13, h14, h⟩ := Option.bind_eq_some_iff.mp h
    rw [if_neg (by decide), if_neg (by decide), if_neg (by decide), if_pos rfl] at h14
    obtain ⟨n, hn⟩ := s_F_shadowOf_128 hd (u0 := u0) (u1 := u1) (u2 := u2) (u3 := u3) h hQ
    exact ⟨n + 1, s_Z_Coloured_paceIn (by omega) h14 (hn)⟩
  · unfold f_F_shadowOf_125 at h
    obtain ⟨z13, h14, h⟩ := Option.bind_eq_some_iff.mp h
    rw [if_neg (by decide), if_neg (by decide), if_neg (by decide), if_neg (by decide), if_pos rfl] at h14
    obtain ⟨n, hn⟩ := s_F_shadowOf_128 hd (u0 := u0) (u1 := u1) (u2 := u2) (u3 := u3) h hQ
    exact ⟨n + 1, s_Z_Slow_paceIn (by omega) (by decide) h14 (hn)⟩
  · unfold f_F_shadowOf_125 at h
    obtain ⟨z13, h14, h⟩ := Option.bind_eq_some_iff.mp h
    rw [if_neg (by decide), if_neg (by decide), if_neg (by decide), if_neg (by decide), if_neg (by decide), if_pos rfl] at h14
    obtain ⟨n, hn⟩ := s_F_shadowOf_128 hd (u0 := u0) (u1 := u1) (u2 := u2) (u3 := u3) h hQ
    exact ⟨n + 1, s_Z_Borrowed_paceIn (by omega) h14 (hn)⟩
set_option maxRecDepth 20000 in
theorem s_F_shadowOf {N d : Nat} {x1 : Int32} {x2 : Int32} (hd : 5 ≤ d) {σ : jw_M} {z : (Int32 × jw_M)} {Q : jw_Q} (h : f_F_shadowOf N x1 x2 σ = some z) (hQ : Q (some (.int z.1)) (jx_ShC, z.2)) : jw_C jp_kd jp_ys d 111 [.ref 0, .int x1, .int x2] (jx_ShC, σ) Q := by
  obtain ⟨d, rfl⟩ : ∃ e, d = e + 1 := ⟨d - 1, by omega⟩
  replace hd : 4 ≤ d := by omega
  refine jx_C rfl rfl ?_
  unfold f_F_shadowOf at h
  obtain ⟨z1, h2, h⟩ := Option.bind_eq_some_iff.mp h
  by_cases c3 : z1.1 = 0
  · rw [if_pos c3] at h
    suffices hh : ∃ n, jx_W jx_ShC d (some .int) jc_111 Q n 11 [some (.ref 0), some (.int x1), some (.int x2), none] [] z1.2 by
      obtain ⟨n, hn⟩ := hh
      exact ⟨n + 5, s_S_isShadow (by omega) h2 (And.intro (fun zz => absurd c3 zz) (fun _ => hn))⟩
    cases h
    exact ⟨2, And.intro hQ (And.intro rfl rfl)⟩
  · rw [if_neg c3] at h
    suffices hh : ∃ n, jx_W jx_ShC d (some .int) jc_111 Q n 13 [some (.ref 0), some (.int x1), some (.int x2), none] [] z1.2 by
      obtain ⟨n, hn⟩ := hh
      exact ⟨n + 5, s_S_isShadow (by omega) h2 (And.intro (fun _ => hn) (fun zz => absurd zz c3))⟩
    by_cases c25 : x2 = 0
    · rw [if_pos c25] at h
      suffices hh : ∃ n, jx_W jx_ShC d (some .int) jc_111 Q n 64 [some (.ref 0), some (.int x1), some (.int x2), some (.ref 27)] [] z1.2 by
        obtain ⟨n, hn⟩ := hh
        exact ⟨n + 6, And.intro (fun _ => hn) (fun zz => absurd c25 zz)⟩
      cases c4 : jx_in x1 6 with
      | false => rw [c4, cond_false] at h; cases h
      | true =>
        rw [c4, cond_true] at h
        cases h
        exact ⟨6, And.intro (jx_in_ok c4) (And.intro hQ (And.intro rfl rfl))⟩
    · rw [if_neg c25] at h
      by_cases c24 : x2 = 1
      · rw [if_pos c24] at h
        suffices hh : ∃ n, jx_W jx_ShC d (some .int) jc_111 Q n 74 [some (.ref 0), some (.int x1), some (.int x2), some (.ref 27)] [] z1.2 by
          obtain ⟨n, hn⟩ := hh
          exact ⟨n + 6, And.intro (fun zz => absurd zz c25) (fun _ => And.intro (fun _ => hn) (fun zz => absurd c24 zz))⟩
        cases c5 : jx_in x1 6 with
        | false => rw [c5, cond_false] at h; cases h
        | true =>
          rw [c5, cond_true] at h
          cases h
          exact ⟨6, And.intro (jx_in_ok c5) (And.intro hQ (And.intro rfl rfl))⟩
      · rw [if_neg c24] at h
        by_cases c23 : x2 = 2
        · rw [if_pos c23] at h
          suffices hh : ∃ n, jx_W jx_ShC d (some .int) jc_111 Q n 84 [some (.ref 0), some (.int x1), some (.int x2), some (.ref 27)] [] z1.2 by
            obtain ⟨n, hn⟩ := hh
            exact ⟨n + 6, And.intro (fun zz => absurd zz c25) (fun _ => And.intro (fun zz => absurd zz c24) (fun _ => And.intro (fun _ => hn) (fun zz => absurd c23 zz)))⟩
          cases c6 : jx_in x1 6 with
          | false => rw [c6, cond_false] at h; cases h
          | true =>
            rw [c6, cond_true] at h
            cases h
            exact ⟨6, And.intro (jx_in_ok c6) (And.intro hQ (And.intro rfl rfl))⟩
        · rw [if_neg c23] at h
          by_cases c22 : x2 = 3
          · rw [if_pos c22] at h
            suffices hh : ∃ n, jx_W jx_ShC d (some .int) jc_111 Q n 94 [some (.ref 0), some (.int x1), some (.int x2), some (.ref 27)] [] z1.2 by
              obtain ⟨n, hn⟩ := hh
              exact ⟨n + 6, And.intro (fun zz => absurd zz c25) (fun _ => And.intro (fun zz => absurd zz c24) (fun _ => And.intro (fun zz => absurd zz c23) (fun _ => And.intro (fun _ => hn) (fun zz => absurd c22 zz))))⟩
            cases c7 : jx_in x1 6 with
            | false => rw [c7, cond_false] at h; cases h
            | true =>
              rw [c7, cond_true] at h
              obtain ⟨z8, h9, h⟩ := Option.bind_eq_some_iff.mp h
              cases h
              exact ⟨6, And.intro (jx_in_ok c7) (s_J_bitCount (by omega) h9 (And.intro hQ (And.intro rfl rfl)))⟩
          · rw [if_neg c22] at h
            by_cases c21 : x2 = 4
            · rw [if_pos c21] at h
              suffices hh : ∃ n, jx_W jx_ShC d (some .int) jc_111 Q n 104 [some (.ref 0), some (.int x1), some (.int x2), some (.ref 27)] [] z1.2 by
                obtain ⟨n, hn⟩ := hh
                exact ⟨n + 6, And.intro (fun zz => absurd zz c25) (fun _ => And.intro (fun zz => absurd zz c24) (fun _ => And.intro (fun zz => absurd zz c23) (fun _ => And.intro (fun zz => absurd zz c22) (fun _ => And.intro (fun _ => hn) (fun zz => absurd c21 zz)))))⟩
              obtain ⟨z10, h11, h⟩ := Option.bind_eq_some_iff.mp h
              cases c12 : jx_in x1 6 with
              | false => rw [c12, cond_false] at h; cases h
              | true =>
                rw [c12, cond_true] at h
                obtain ⟨n, hn⟩ := s_F_shadowOf_125 hd (u0 := some (.ref 0)) (u1 := some (.int x1)) (u2 := some (.int x2)) (u3 := some (.ref 27)) (r_S_thing h11) h hQ
                exact ⟨n + 11, s_S_thing (by omega) h11 (And.intro (jx_in_ok c12) (hn))⟩
            · rw [if_neg c21] at h
              by_cases c20 : x2 = 5
              · rw [if_pos c20] at h
                suffices hh : ∃ n, jx_W jx_ShC d (some .int) jc_111 Q n 129 [some (.ref 0), some (.int x1), some (.int x2), some (.ref 27)] [] z1.2 by
                  obtain ⟨n, hn⟩ := hh
                  exact ⟨n + 6, And.intro (fun zz => absurd zz c25) (fun _ => And.intro (fun zz => absurd zz c24) (fun _ => And.intro (fun zz => absurd zz c23) (fun _ => And.intro (fun zz => absurd zz c22) (fun _ => And.intro (fun zz => absurd zz c21) (fun _ => And.intro (fun _ => hn) (fun zz => absurd c20 zz))))))⟩
                obtain ⟨z15, h16, h⟩ := Option.bind_eq_some_iff.mp h
                cases h
                exact ⟨7, s_S_choice (by omega) (by decide) h16 (And.intro hQ (And.intro rfl rfl))⟩
              · rw [if_neg c20] at h
                by_cases c19 : x2 = 6
                · rw [if_pos c19] at h
                  suffices hh : ∃ n, jx_W jx_ShC d (some .int) jc_111 Q n 140 [some (.ref 0), some (.int x1), some (.int x2), some (.ref 27)] [] z1.2 by
                    obtain ⟨n, hn⟩ := hh
                    exact ⟨n + 6, And.intro (fun zz => absurd zz c25) (fun _ => And.intro (fun zz => absurd zz c24) (fun _ => And.intro (fun zz => absurd zz c23) (fun _ => And.intro (fun zz => absurd zz c22) (fun _ => And.intro (fun zz => absurd zz c21) (fun _ => And.intro (fun zz => absurd zz c20) (fun _ => And.intro (fun _ => hn) (fun zz => absurd c19 zz)))))))⟩
                  obtain ⟨z17, h18, h⟩ := Option.bind_eq_some_iff.mp h
                  cases h
                  exact ⟨5, s_S_lengthOf (by omega) h18 (And.intro hQ (And.intro rfl rfl))⟩
                · rw [if_neg c19] at h
                  cases h
                  exact ⟨8, And.intro (fun zz => absurd zz c25) (fun _ => And.intro (fun zz => absurd zz c24) (fun _ => And.intro (fun zz => absurd zz c23) (fun _ => And.intro (fun zz => absurd zz c22) (fun _ => And.intro (fun zz => absurd zz c21) (fun _ => And.intro (fun zz => absurd zz c20) (fun _ => And.intro (fun zz => absurd zz c19) (fun _ => And.intro hQ (And.intro rfl rfl))))))))⟩
set_option maxRecDepth 20000 in
theorem s_F_change_34 {N d : Nat} {Q : jw_Q} (hd : 1 ≤ d) {x1 : Int32} {x2 : Int32} {x3 : Int32} {y0 : Int32} {y1 : Int32} {y2 : Int32} {u4 : Option Value} {u5 : Option Value} {σ : jw_M} {z : (Int32 × jw_M)} (h : f_F_change_34 N x1 x2 x3 y0 y1 y2 σ = some z) (hQ : Q (some (.int z.1)) (jx_ShC, z.2)) : ∃ n, jx_W jx_ShC d (some .int) jc_112 Q n 34 [some (.ref 0), some (.int x1), some (.int x2), some (.int x3), u4, u5] [.int y2, .int y1, .int y0] σ := by
  unfold f_F_change_34 at h
  obtain ⟨z8, h9, h⟩ := Option.bind_eq_some_iff.mp h
  by_cases c10 : z8.1 = 0
  · rw [if_pos c10] at h
    suffices hh : ∃ n, jx_W jx_ShC d (some .int) jc_112 Q n 40 [some (.ref 0), some (.int x1), some (.int x2), some (.int x3), u4, u5] [] z8.2 by
      obtain ⟨n, hn⟩ := hh
      exact ⟨n + 2, s_F_isWithin (by omega) h9 (And.intro (fun zz => absurd c10 zz) (fun _ => hn))⟩
    cases h
    exact ⟨2, And.intro hQ (And.intro rfl rfl)⟩
  · rw [if_neg c10] at h
    suffices hh : ∃ n, jx_W jx_ShC d (some .int) jc_112 Q n 42 [some (.ref 0), some (.int x1), some (.int x2), some (.int x3), u4, u5] [] z8.2 by
      obtain ⟨n, hn⟩ := hh
      exact ⟨n + 2, s_F_isWithin (by omega) h9 (And.intro (fun _ => hn) (fun zz => absurd zz c10))⟩
    by_cases c11 : x2 = 1
    · rw [if_pos c11] at h
      suffices hh : ∃ n, jx_W jx_ShC d (some .int) jc_112 Q n 47 [some (.ref 0), some (.int x1), some (.int x2), some (.int x3), u4, u5] [] z8.2 by
        obtain ⟨n, hn⟩ := hh
        exact ⟨n + 3, And.intro (fun zz => absurd c11 zz) (fun _ => hn)⟩
      cases c12 : jx_in x1 6 with
      | false => rw [c12, cond_false] at h; cases h
      | true =>
        rw [c12, cond_true] at h
        cases h
        exact ⟨15, And.intro (jx_in_ok c12) (And.intro (jx_in_ok c12) (And.intro hQ (And.intro rfl rfl)))⟩
    · rw [if_neg c11] at h
      suffices hh : ∃ n, jx_W jx_ShC d (some .int) jc_112 Q n 57 [some (.ref 0), some (.int x1), some (.int x2), some (.int x3), u4, u5] [] z8.2 by
        obtain ⟨n, hn⟩ := hh
        exact ⟨n + 3, And.intro (fun _ => hn) (fun zz => absurd zz c11)⟩
      cases c13 : jx_in x1 6 with
      | false => rw [c13, cond_false] at h; cases h
      | true =>
        rw [c13, cond_true] at h
        cases h
        exact ⟨14, And.intro (jx_in_ok c13) (And.intro (jx_in_ok c13) (And.intro hQ (And.intro rfl rfl)))⟩
set_option maxRecDepth 20000 in
theorem s_F_change {N d : Nat} {x1 : Int32} {x2 : Int32} {x3 : Int32} (hd : 2 ≤ d) {σ : jw_M} {z : (Int32 × jw_M)} {Q : jw_Q} (h : f_F_change N x1 x2 x3 σ = some z) (hQ : Q (some (.int z.1)) (jx_ShC, z.2)) : jw_C jp_kd jp_ys d 112 [.ref 0, .int x1, .int x2, .int x3] (jx_ShC, σ) Q := by
  obtain ⟨d, rfl⟩ : ∃ e, d = e + 1 := ⟨d - 1, by omega⟩
  replace hd : 1 ≤ d := by omega
  refine jx_C rfl rfl ?_
  unfold f_F_change at h
  obtain ⟨z1, h2, h⟩ := Option.bind_eq_some_iff.mp h
  by_cases c3 : z1.1 = 0
  · rw [if_pos c3] at h
    suffices hh : ∃ n, jx_W jx_ShC d (some .int) jc_112 Q n 40 [some (.ref 0), some (.int x1), some (.int x2), some (.int x3), none, none] [] z1.2 by
      obtain ⟨n, hn⟩ := hh
      exact ⟨n + 5, s_S_isShadow (by omega) h2 (And.intro (fun _ => hn) (fun zz => absurd c3 zz))⟩
    cases h
    exact ⟨2, And.intro hQ (And.intro rfl rfl)⟩
  · rw [if_neg c3] at h
    suffices hh : ∃ n, jx_W jx_ShC d (some .int) jc_112 Q n 11 [some (.ref 0), some (.int x1), some (.int x2), some (.int x3), none, none] [] z1.2 by
      obtain ⟨n, hn⟩ := hh
      exact ⟨n + 5, s_S_isShadow (by omega) h2 (And.intro (fun zz => absurd zz c3) (fun _ => hn))⟩
    obtain ⟨z4, h5, h⟩ := Option.bind_eq_some_iff.mp h
    by_cases c6 : z4.1 = 0
    · rw [if_pos c6] at h
      suffices hh : ∃ n, jx_W jx_ShC d (some .int) jc_112 Q n 40 [some (.ref 0), some (.int x1), some (.int x2), some (.int x3), none, none] [] z4.2 by
        obtain ⟨n, hn⟩ := hh
        exact ⟨n + 5, s_F_isWithin (by omega) h5 (And.intro (fun _ => hn) (fun zz => absurd c6 zz))⟩
      cases h
      exact ⟨2, And.intro hQ (And.intro rfl rfl)⟩
    · rw [if_neg c6] at h
      suffices hh : ∃ n, jx_W jx_ShC d (some .int) jc_112 Q n 20 [some (.ref 0), some (.int x1), some (.int x2), some (.int x3), none, none] [] z4.2 by
        obtain ⟨n, hn⟩ := hh
        exact ⟨n + 5, s_F_isWithin (by omega) h5 (And.intro (fun zz => absurd zz c6) (fun _ => hn))⟩
      by_cases c7 : x2 = 1
      · rw [if_pos c7] at h
        suffices hh : ∃ n, jx_W jx_ShC d (some .int) jc_112 Q n 27 [some (.ref 0), some (.int x1), some (.int x2), some (.int x3), none, none] [.int 1, .int x3] z4.2 by
          obtain ⟨n, hn⟩ := hh
          exact ⟨n + 5, And.intro (fun zz => absurd c7 zz) (fun _ => hn)⟩
        obtain ⟨n, hn⟩ := s_F_change_34 hd (u4 := none) (u5 := none) h hQ
        exact ⟨n + 2, hn⟩
      · rw [if_neg c7] at h
        suffices hh : ∃ n, jx_W jx_ShC d (some .int) jc_112 Q n 32 [some (.ref 0), some (.int x1), some (.int x2), some (.int x3), none, none] [.int 1, .int x3] z4.2 by
          obtain ⟨n, hn⟩ := hh
          exact ⟨n + 5, And.intro (fun _ => hn) (fun zz => absurd zz c7)⟩
        obtain ⟨n, hn⟩ := s_F_change_34 hd (u4 := none) (u5 := none) h hQ
        exact ⟨n + 1, hn⟩
