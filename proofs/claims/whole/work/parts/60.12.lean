set_option maxRecDepth 20000 in
theorem s_F_wouldBe_62 {N d : Nat} {Q : jw_Q} (hd : 6 ≤ d) : ∀ (k : Nat) {x1 : Int32} {x2 : Int32} {x3 : Int32} {x5 : Int32} {x6 : Int32} {u4 : Option Value} {u7 : Option Value} {σ : jw_M} {z : (Int32 × jw_M)}, f_F_wouldBe_62 N k x1 x2 x3 x5 x6 σ = some z → Q (some (.int z.1)) (jx_ShC, z.2) → ∃ n, jx_W jx_ShC d (some .int) jc_168 Q n 62 [some (.ref 0), some (.int x1), some (.int x2), some (.int x3), u4, some (.int x5), some (.int x6), u7] [] σ
  | 0, _, _, _, _, _, _, _, _, _, h, _ => by cases h
  | k + 1, x1, x2, x3, x5, x6, u4, u7, σ, z, h, hQ => by
    rw [f_F_wouldBe_62] at h
    by_cases c12 : x3 ≤ x6
    · rw [if_pos c12] at h
      suffices hh : ∃ n, jx_W jx_ShC d (some .int) jc_168 Q n 153 [some (.ref 0), some (.int x1), some (.int x2), some (.int x3), u4, some (.int x5), some (.int x6), u7] [] σ by
        obtain ⟨n, hn⟩ := hh
        exact ⟨n + 3, And.intro (fun _ => hn) (fun zz => absurd c12 zz)⟩
      cases h
      exact ⟨2, And.intro hQ (And.intro rfl rfl)⟩
    · rw [if_neg c12] at h
      suffices hh : ∃ n, jx_W jx_ShC d (some .int) jc_168 Q n 68 [some (.ref 0), some (.int x1), some (.int x2), some (.int x3), u4, some (.int x5), some (.int x6), u7] [] σ by
        obtain ⟨n, hn⟩ := hh
        exact ⟨n + 3, And.intro (fun zz => absurd zz c12) (fun _ => hn)⟩
      obtain ⟨z13, h14, h⟩ := Option.bind_eq_some_iff.mp h
      by_cases c15 : z13.1 = 0
      · rw [if_pos c15] at h
        suffices hh : ∃ n, jx_W jx_ShC d (some .int) jc_168 Q n 83 [some (.ref 0), some (.int x1), some (.int x2), some (.int x3), u4, some (.int x5), some (.int x6), u7] [] z13.2 by
          obtain ⟨n, hn⟩ := hh
          exact ⟨n + 8, s_H_hasItem (by omega) h14 (And.intro (fun zz => absurd c15 zz) (fun _ => hn))⟩
        cases h
        exact ⟨2, And.intro hQ (And.intro rfl rfl)⟩
      · rw [if_neg c15] at h
        suffices hh : ∃ n, jx_W jx_ShC d (some .int) jc_168 Q n 86 [some (.ref 0), some (.int x1), some (.int x2), some (.int x3), u4, some (.int x5), some (.int x6), u7] [] z13.2 by
          obtain ⟨n, hn⟩ := hh
          exact ⟨n + 8, s_H_hasItem (by omega) h14 (And.intro (fun _ => hn) (fun zz => absurd zz c15))⟩
        obtain ⟨z16, h17, h⟩ := Option.bind_eq_some_iff.mp h
        obtain ⟨z18, h19, h⟩ := Option.bind_eq_some_iff.mp h
        by_cases c20 : z18.1 = 0
        · rw [if_pos c20] at h
          suffices hh : ∃ n, jx_W jx_ShC d (some .int) jc_168 Q n 126 [some (.ref 0), some (.int x1), some (.int x2), some (.int x3), u4, some (.int x5), some (.int x6), some (.int z16.1)] [] z18.2 by
            obtain ⟨n, hn⟩ := hh
            exact ⟨n + 13, s_H_itemAt (by omega) h17 (s_S_isAct (by omega) h19 (And.intro (fun _ => hn) (fun zz => absurd c20 zz)))⟩
          cases h
          exact ⟨2, And.intro hQ (And.intro rfl rfl)⟩
        · rw [if_neg c20] at h
          suffices hh : ∃ n, jx_W jx_ShC d (some .int) jc_168 Q n 112 [some (.ref 0), some (.int x1), some (.int x2), some (.int x3), u4, some (.int x5), some (.int x6), some (.int z16.1)] [] z18.2 by
            obtain ⟨n, hn⟩ := hh
            exact ⟨n + 13, s_H_itemAt (by omega) h17 (s_S_isAct (by omega) h19 (And.intro (fun zz => absurd zz c20) (fun _ => hn)))⟩
          obtain ⟨z21, h22, h⟩ := Option.bind_eq_some_iff.mp h
          by_cases c23 : z21.1 = 0
          · rw [if_pos c23] at h
            suffices hh : ∃ n, jx_W jx_ShC d (some .int) jc_168 Q n 129 [some (.ref 0), some (.int x1), some (.int x2), some (.int x3), u4, some (.int x5), some (.int x6), some (.int z16.1)] [] z21.2 by
              obtain ⟨n, hn⟩ := hh
              exact ⟨n + 6, s_S_isOver (by omega) (by decide) h22 (And.intro (fun _ => hn) (fun zz => absurd c23 zz))⟩
            obtain ⟨z24, h25, h⟩ := Option.bind_eq_some_iff.mp h
            obtain ⟨n, hn⟩ := s_F_wouldBe_62 hd k (u4 := (jw_clr u4)) (u7 := some (.int z16.1)) h hQ
            exact ⟨n + 11, s_S_goBy (by omega) (by decide) h25 (hn)⟩
          · rw [if_neg c23] at h
            suffices hh : ∃ n, jx_W jx_ShC d (some .int) jc_168 Q n 126 [some (.ref 0), some (.int x1), some (.int x2), some (.int x3), u4, some (.int x5), some (.int x6), some (.int z16.1)] [] z21.2 by
              obtain ⟨n, hn⟩ := hh
              exact ⟨n + 6, s_S_isOver (by omega) (by decide) h22 (And.intro (fun zz => absurd zz c23) (fun _ => hn))⟩
            cases h
            exact ⟨2, And.intro hQ (And.intro rfl rfl)⟩
set_option maxRecDepth 20000 in
theorem s_F_wouldBe {N d : Nat} {x1 : Int32} {x2 : Int32} {x3 : Int32} (hd : 7 ≤ d) {σ : jw_M} {z : (Int32 × jw_M)} {Q : jw_Q} (h : f_F_wouldBe N x1 x2 x3 σ = some z) (hQ : Q (some (.int z.1)) (jx_ShC, z.2)) : jw_C jp_kd jp_ys d 168 [.ref 0, .int x1, .int x2, .int x3] (jx_ShC, σ) Q := by
  obtain ⟨d, rfl⟩ : ∃ e, d = e + 1 := ⟨d - 1, by omega⟩
  replace hd : 6 ≤ d := by omega
  refine jx_C rfl rfl ?_
  unfold f_F_wouldBe at h
  obtain ⟨z1, h2, h⟩ := Option.bind_eq_some_iff.mp h
  by_cases c3 : z1.1 = 0
  · rw [if_pos c3] at h
    suffices hh : ∃ n, jx_W jx_ShC d (some .int) jc_168 Q n 21 [some (.ref 0), some (.int x1), some (.int x2), some (.int x3), none, none, none, none] [] z1.2 by
      obtain ⟨n, hn⟩ := hh
      exact ⟨n + 5, s_H_isSheet (by omega) h2 (And.intro (fun _ => hn) (fun zz => absurd c3 zz))⟩
    cases h
    exact ⟨2, And.intro hQ (And.intro rfl rfl)⟩
  · rw [if_neg c3] at h
    suffices hh : ∃ n, jx_W jx_ShC d (some .int) jc_168 Q n 11 [some (.ref 0), some (.int x1), some (.int x2), some (.int x3), none, none, none, none] [] z1.2 by
      obtain ⟨n, hn⟩ := hh
      exact ⟨n + 5, s_H_isSheet (by omega) h2 (And.intro (fun zz => absurd zz c3) (fun _ => hn))⟩
    obtain ⟨z4, h5, h⟩ := Option.bind_eq_some_iff.mp h
    by_cases c6 : z4.1 = 0
    · rw [if_pos c6] at h
      suffices hh : ∃ n, jx_W jx_ShC d (some .int) jc_168 Q n 21 [some (.ref 0), some (.int x1), some (.int x2), some (.int x3), none, none, none, none] [] z4.2 by
        obtain ⟨n, hn⟩ := hh
        exact ⟨n + 5, s_F_isWithin (by omega) h5 (And.intro (fun zz => absurd c6 zz) (fun _ => hn))⟩
      cases h
      exact ⟨2, And.intro hQ (And.intro rfl rfl)⟩
    · rw [if_neg c6] at h
      suffices hh : ∃ n, jx_W jx_ShC d (some .int) jc_168 Q n 23 [some (.ref 0), some (.int x1), some (.int x2), some (.int x3), none, none, none, none] [] z4.2 by
        obtain ⟨n, hn⟩ := hh
        exact ⟨n + 5, s_F_isWithin (by omega) h5 (And.intro (fun _ => hn) (fun zz => absurd zz c6))⟩
      obtain ⟨z7, h8, h⟩ := Option.bind_eq_some_iff.mp h
      by_cases c9 : z7.1 = 0
      · rw [if_pos c9] at h
        suffices hh : ∃ n, jx_W jx_ShC d (some .int) jc_168 Q n 42 [some (.ref 0), some (.int x1), some (.int x2), some (.int x3), some (.int z7.1), none, none, none] [] z7.2 by
          obtain ⟨n, hn⟩ := hh
          exact ⟨n + 8, s_H_refusalAs (by omega) h8 (And.intro (fun _ => hn) (fun zz => absurd c9 zz))⟩
        obtain ⟨z10, h11, h⟩ := Option.bind_eq_some_iff.mp h
        obtain ⟨n, hn⟩ := s_F_wouldBe_62 hd N (u4 := some (.int z7.1)) (u7 := none) h hQ
        exact ⟨n + 10, s_P_copyFrom (by omega) (by decide) h11 (hn)⟩
      · rw [if_neg c9] at h
        suffices hh : ∃ n, jx_W jx_ShC d (some .int) jc_168 Q n 39 [some (.ref 0), some (.int x1), some (.int x2), some (.int x3), some (.int z7.1), none, none, none] [] z7.2 by
          obtain ⟨n, hn⟩ := hh
          exact ⟨n + 8, s_H_refusalAs (by omega) h8 (And.intro (fun zz => absurd zz c9) (fun _ => hn))⟩
        cases h
        exact ⟨2, And.intro hQ (And.intro rfl rfl)⟩
set_option maxRecDepth 20000 in
theorem s_F_shelf_54 {N d : Nat} {Q : jw_Q} (hd : 1 ≤ d) {x1 : Int32} {x2 : Int32} {x3 : Int32} {y0 : Int32} {u4 : Option Value} {σ : jw_M} {z : (Int32 × jw_M)} (h : f_F_shelf_54 N x1 x2 x3 y0 σ = some z) (hQ : Q (some (.int z.1)) (jx_ShC, z.2)) : ∃ n, jx_W jx_ShC d (some .int) jc_169 Q n 54 [some (.ref 0), some (.int x1), some (.int x2), some (.int x3), u4] [.int y0] σ := by
  unfold f_F_shelf_54 at h
  by_cases c13 : y0 = 0
  · rw [if_pos c13] at h
    suffices hh : ∃ n, jx_W jx_ShC d (some .int) jc_169 Q n 61 [some (.ref 0), some (.int x1), some (.int x2), some (.int x3), some (.int y0)] [] σ by
      obtain ⟨n, hn⟩ := hh
      exact ⟨n + 3, And.intro (fun zz => absurd c13 zz) (fun _ => hn)⟩
    cases h
    exact ⟨2, And.intro hQ (And.intro rfl rfl)⟩
  · rw [if_neg c13] at h
    suffices hh : ∃ n, jx_W jx_ShC d (some .int) jc_169 Q n 63 [some (.ref 0), some (.int x1), some (.int x2), some (.int x3), some (.int y0)] [] σ by
      obtain ⟨n, hn⟩ := hh
      exact ⟨n + 3, And.intro (fun _ => hn) (fun zz => absurd zz c13)⟩
    obtain ⟨z14, h15, h⟩ := Option.bind_eq_some_iff.mp h
    cases h
    exact ⟨8, s_H_put (by omega) h15 (And.intro hQ (And.intro rfl rfl))⟩
set_option maxRecDepth 20000 in
theorem s_F_shelf_49 {N d : Nat} {Q : jw_Q} (hd : 1 ≤ d) {x1 : Int32} {x2 : Int32} {x3 : Int32} {u4 : Option Value} {σ : jw_M} {z : (Int32 × jw_M)} (h : f_F_shelf_49 N x1 x2 x3 σ = some z) (hQ : Q (some (.int z.1)) (jx_ShC, z.2)) : ∃ n, jx_W jx_ShC d (some .int) jc_169 Q n 49 [some (.ref 0), some (.int x1), some (.int x2), some (.int x3), u4] [] σ := by
  unfold f_F_shelf_49 at h
  obtain ⟨n, hn⟩ := s_F_shelf_54 hd (u4 := u4) h hQ
  exact ⟨n + 2, hn⟩
set_option maxRecDepth 20000 in
theorem s_F_shelf_44 {N d : Nat} {Q : jw_Q} (hd : 1 ≤ d) {x1 : Int32} {x2 : Int32} {x3 : Int32} {u4 : Option Value} {σ : jw_M} {z : (Int32 × jw_M)} (h : f_F_shelf_44 N x1 x2 x3 σ = some z) (hQ : Q (some (.int z.1)) (jx_ShC, z.2)) : ∃ n, jx_W jx_ShC d (some .int) jc_169 Q n 44 [some (.ref 0), some (.int x1), some (.int x2), some (.int x3), u4] [] σ := by
  unfold f_F_shelf_44 at h
  by_cases c12 : x2 = 2
  · rw [if_pos c12] at h
    suffices hh : ∃ n, jx_W jx_ShC d (some .int) jc_169 Q n 49 [some (.ref 0), some (.int x1), some (.int x2), some (.int x3), u4] [] σ by
      obtain ⟨n, hn⟩ := hh
      exact ⟨n + 3, And.intro (fun zz => absurd c12 zz) (fun _ => hn)⟩
    obtain ⟨n, hn⟩ := s_F_shelf_49 hd (u4 := u4) h hQ
    exact ⟨n + 0, hn⟩
  · rw [if_neg c12] at h
    suffices hh : ∃ n, jx_W jx_ShC d (some .int) jc_169 Q n 53 [some (.ref 0), some (.int x1), some (.int x2), some (.int x3), u4] [] σ by
      obtain ⟨n, hn⟩ := hh
      exact ⟨n + 3, And.intro (fun _ => hn) (fun zz => absurd zz c12)⟩
    obtain ⟨n, hn⟩ := s_F_shelf_54 hd (u4 := u4) h hQ
    exact ⟨n + 1, hn⟩
set_option maxRecDepth 20000 in
theorem s_F_shelf_28 {N d : Nat} {Q : jw_Q} (hd : 1 ≤ d) {x1 : Int32} {x2 : Int32} {x3 : Int32} {u4 : Option Value} {σ : jw_M} {z : (Int32 × jw_M)} (h : f_F_shelf_28 N x1 x2 x3 σ = some z) (hQ : Q (some (.int z.1)) (jx_ShC, z.2)) : ∃ n, jx_W jx_ShC d (some .int) jc_169 Q n 28 [some (.ref 0), some (.int x1), some (.int x2), some (.int x3), u4] [] σ := by
  unfold f_F_shelf_28 at h
  by_cases c8 : x2 = 1
  · rw [if_pos c8] at h
    suffices hh : ∃ n, jx_W jx_ShC d (some .int) jc_169 Q n 33 [some (.ref 0), some (.int x1), some (.int x2), some (.int x3), u4] [] σ by
      obtain ⟨n, hn⟩ := hh
      exact ⟨n + 3, And.intro (fun zz => absurd c8 zz) (fun _ => hn)⟩
    obtain ⟨z9, h10, h⟩ := Option.bind_eq_some_iff.mp h
    by_cases c11 : z9.1 = 0
    · rw [if_pos c11] at h
      suffices hh : ∃ n, jx_W jx_ShC d (some .int) jc_169 Q n 44 [some (.ref 0), some (.int x1), some (.int x2), some (.int x3), u4] [] z9.2 by
        obtain ⟨n, hn⟩ := hh
        exact ⟨n + 5, s_H_isSheet (by omega) h10 (And.intro (fun zz => absurd c11 zz) (fun _ => hn))⟩
      obtain ⟨n, hn⟩ := s_F_shelf_44 hd (u4 := u4) h hQ
      exact ⟨n + 0, hn⟩
    · rw [if_neg c11] at h
      suffices hh : ∃ n, jx_W jx_ShC d (some .int) jc_169 Q n 49 [some (.ref 0), some (.int x1), some (.int x2), some (.int x3), u4] [] z9.2 by
        obtain ⟨n, hn⟩ := hh
        exact ⟨n + 5, s_H_isSheet (by omega) h10 (And.intro (fun _ => hn) (fun zz => absurd zz c11))⟩
      obtain ⟨n, hn⟩ := s_F_shelf_49 hd (u4 := u4) h hQ
      exact ⟨n + 0, hn⟩
  · rw [if_neg c8] at h
    suffices hh : ∃ n, jx_W jx_ShC d (some .int) jc_169 Q n 44 [some (.ref 0), some (.int x1), some (.int x2), some (.int x3), u4] [] σ by
      obtain ⟨n, hn⟩ := hh
      exact ⟨n + 3, And.intro (fun _ => hn) (fun zz => absurd zz c8)⟩
    obtain ⟨n, hn⟩ := s_F_shelf_44 hd (u4 := u4) h hQ
    exact ⟨n + 0, hn⟩
set_option maxRecDepth 20000 in
theorem s_F_shelf {N d : Nat} {x1 : Int32} {x2 : Int32} {x3 : Int32} (hd : 2 ≤ d) {σ : jw_M} {z : (Int32 × jw_M)} {Q : jw_Q} (h : f_F_shelf N x1 x2 x3 σ = some z) (hQ : Q (some (.int z.1)) (jx_ShC, z.2)) : jw_C jp_kd jp_ys d 169 [.ref 0, .int x1, .int x2, .int x3] (jx_ShC, σ) Q := by
  obtain ⟨d, rfl⟩ : ∃ e, d = e + 1 := ⟨d - 1, by omega⟩
  replace hd : 1 ≤ d := by omega
  refine jx_C rfl rfl ?_
  unfold f_F_shelf at h
  obtain ⟨z1, h2, h⟩ := Option.bind_eq_some_iff.mp h
  by_cases c3 : z1.1 = 0
  · rw [if_pos c3] at h
    suffices hh : ∃ n, jx_W jx_ShC d (some .int) jc_169 Q n 11 [some (.ref 0), some (.int x1), some (.int x2), some (.int x3), none] [] z1.2 by
      obtain ⟨n, hn⟩ := hh
      exact ⟨n + 5, s_H_isShelf (by omega) h2 (And.intro (fun zz => absurd c3 zz) (fun _ => hn))⟩
    cases h
    exact ⟨2, And.intro hQ (And.intro rfl rfl)⟩
  · rw [if_neg c3] at h
    suffices hh : ∃ n, jx_W jx_ShC d (some .int) jc_169 Q n 13 [some (.ref 0), some (.int x1), some (.int x2), some (.int x3), none] [] z1.2 by
      obtain ⟨n, hn⟩ := hh
      exact ⟨n + 5, s_H_isShelf (by omega) h2 (And.intro (fun _ => hn) (fun zz => absurd zz c3))⟩
    by_cases c4 : x2 = 0
    · rw [if_pos c4] at h
      suffices hh : ∃ n, jx_W jx_ShC d (some .int) jc_169 Q n 17 [some (.ref 0), some (.int x1), some (.int x2), some (.int x3), none] [] z1.2 by
        obtain ⟨n, hn⟩ := hh
        exact ⟨n + 2, And.intro (fun zz => absurd c4 zz) (fun _ => hn)⟩
      obtain ⟨z5, h6, h⟩ := Option.bind_eq_some_iff.mp h
      by_cases c7 : z5.1 = 0
      · rw [if_pos c7] at h
        suffices hh : ∃ n, jx_W jx_ShC d (some .int) jc_169 Q n 28 [some (.ref 0), some (.int x1), some (.int x2), some (.int x3), none] [] z5.2 by
          obtain ⟨n, hn⟩ := hh
          exact ⟨n + 5, s_S_isShadow (by omega) h6 (And.intro (fun zz => absurd c7 zz) (fun _ => hn))⟩
        obtain ⟨n, hn⟩ := s_F_shelf_28 hd (u4 := none) h hQ
        exact ⟨n + 0, hn⟩
      · rw [if_neg c7] at h
        suffices hh : ∃ n, jx_W jx_ShC d (some .int) jc_169 Q n 49 [some (.ref 0), some (.int x1), some (.int x2), some (.int x3), none] [] z5.2 by
          obtain ⟨n, hn⟩ := hh
          exact ⟨n + 5, s_S_isShadow (by omega) h6 (And.intro (fun _ => hn) (fun zz => absurd zz c7))⟩
        obtain ⟨n, hn⟩ := s_F_shelf_49 hd (u4 := none) h hQ
        exact ⟨n + 0, hn⟩
    · rw [if_neg c4] at h
      suffices hh : ∃ n, jx_W jx_ShC d (some .int) jc_169 Q n 28 [some (.ref 0), some (.int x1), some (.int x2), some (.int x3), none] [] z1.2 by
        obtain ⟨n, hn⟩ := hh
        exact ⟨n + 2, And.intro (fun _ => hn) (fun zz => absurd zz c4)⟩
      obtain ⟨n, hn⟩ := s_F_shelf_28 hd (u4 := none) h hQ
      exact ⟨n + 0, hn⟩
set_option maxRecDepth 20000 in
theorem s_F_taken_33 {N d : Nat} {Q : jw_Q} (hd : 1 ≤ d) {x1 : Int32} {x2 : Int32} {u3 : Option Value} {σ : jw_M} {z : (Int32 × jw_M)} (h : f_F_taken_33 N x1 x2 σ = some z) (hQ : Q (some (.int z.1)) (jx_ShC, z.2)) : ∃ n, jx_W jx_ShC d (some .int) jc_170 Q n 33 [some (.ref 0), some (.int x1), some (.int x2), u3] [] σ := by
  unfold f_F_taken_33 at h
  cases c10 : jx_in x1 4 with
  | false => rw [c10, cond_false] at h; cases h
  | true =>
    rw [c10, cond_true] at h
    by_cases c11 : (σ.1 129 (x1).toNatClampNeg) = 1
    · rw [if_pos c11] at h
      suffices hh : ∃ n, jx_W jx_ShC d (some .int) jc_170 Q n 46 [some (.ref 0), some (.int x1), some (.int x2), u3] [] σ by
        obtain ⟨n, hn⟩ := hh
        exact ⟨n + 7, And.intro (jx_in_ok c10) (And.intro (fun zz => absurd c11 zz) (fun _ => hn))⟩
      by_cases c12 : (σ.1 131 (x1).toNatClampNeg) = (x2 - 10)
      · rw [if_pos c12] at h
        suffices hh : ∃ n, jx_W jx_ShC d (some .int) jc_170 Q n 62 [some (.ref 0), some (.int x1), some (.int x2), u3] [] σ by
          obtain ⟨n, hn⟩ := hh
          exact ⟨n + 9, And.intro (jx_in_ok c10) (And.intro (fun zz => absurd c12 zz) (fun _ => hn))⟩
        cases h
        exact ⟨7, And.intro (jx_in_ok c10) (And.intro hQ (And.intro rfl rfl))⟩
      · rw [if_neg c12] at h
        suffices hh : ∃ n, jx_W jx_ShC d (some .int) jc_170 Q n 74 [some (.ref 0), some (.int x1), some (.int x2), u3] [] σ by
          obtain ⟨n, hn⟩ := hh
          exact ⟨n + 9, And.intro (jx_in_ok c10) (And.intro (fun _ => hn) (fun zz => absurd zz c12))⟩
        cases h
        exact ⟨2, And.intro hQ (And.intro rfl rfl)⟩
    · rw [if_neg c11] at h
      suffices hh : ∃ n, jx_W jx_ShC d (some .int) jc_170 Q n 77 [some (.ref 0), some (.int x1), some (.int x2), u3] [] σ by
        obtain ⟨n, hn⟩ := hh
        exact ⟨n + 7, And.intro (jx_in_ok c10) (And.intro (fun _ => hn) (fun zz => absurd zz c11))⟩
      obtain ⟨z13, h14, h⟩ := Option.bind_eq_some_iff.mp h
      obtain ⟨z15, h16, h⟩ := Option.bind_eq_some_iff.mp h
      by_cases c17 : z15.1 = 0
      · rw [if_pos c17] at h
        suffices hh : ∃ n, jx_W jx_ShC d (some .int) jc_170 Q n 97 [some (.ref 0), some (.int x1), some (.int x2), some (.int z13.1)] [] z15.2 by
          obtain ⟨n, hn⟩ := hh
          exact ⟨n + 10, s_H_shadowOn (by omega) h14 (s_S_isShadow (by omega) h16 (And.intro (fun zz => absurd c17 zz) (fun _ => hn)))⟩
        cases h
        exact ⟨2, And.intro hQ (And.intro rfl rfl)⟩
      · rw [if_neg c17] at h
        suffices hh : ∃ n, jx_W jx_ShC d (some .int) jc_170 Q n 100 [some (.ref 0), some (.int x1), some (.int x2), some (.int z13.1)] [] z15.2 by
          obtain ⟨n, hn⟩ := hh
          exact ⟨n + 10, s_H_shadowOn (by omega) h14 (s_S_isShadow (by omega) h16 (And.intro (fun _ => hn) (fun zz => absurd zz c17)))⟩
        by_cases c18 : 5 < x2
        · rw [if_pos c18] at h
          suffices hh : ∃ n, jx_W jx_ShC d (some .int) jc_170 Q n 125 [some (.ref 0), some (.int x1), some (.int x2), some (.int z13.1)] [] z15.2 by
            obtain ⟨n, hn⟩ := hh
            exact ⟨n + 3, And.intro (fun _ => hn) (fun zz => absurd c18 zz)⟩
          cases h
          exact ⟨2, And.intro hQ (And.intro rfl rfl)⟩
        · rw [if_neg c18] at h
          suffices hh : ∃ n, jx_W jx_ShC d (some .int) jc_170 Q n 105 [some (.ref 0), some (.int x1), some (.int x2), some (.int z13.1)] [] z15.2 by
            obtain ⟨n, hn⟩ := hh
            exact ⟨n + 3, And.intro (fun zz => absurd zz c18) (fun _ => hn)⟩
          cases c19 : jx_in (z13.1) 6 with
          | false => rw [c19, cond_false] at h; cases h
          | true =>
            rw [c19, cond_true] at h
            obtain ⟨z20, h21, h⟩ := Option.bind_eq_some_iff.mp h
            by_cases c22 : z20.1 = 0
            · rw [if_pos c22] at h
              suffices hh : ∃ n, jx_W jx_ShC d (some .int) jc_170 Q n 125 [some (.ref 0), some (.int x1), some (.int x2), some (.int z13.1)] [] z20.2 by
                obtain ⟨n, hn⟩ := hh
                exact ⟨n + 8, And.intro (jx_in_ok c19) (s_F_isOrIsUnder (by omega) h21 (And.intro (fun _ => hn) (fun zz => absurd c22 zz)))⟩
              cases h
              exact ⟨2, And.intro hQ (And.intro rfl rfl)⟩
            · rw [if_neg c22] at h
              suffices hh : ∃ n, jx_W jx_ShC d (some .int) jc_170 Q n 121 [some (.ref 0), some (.int x1), some (.int x2), some (.int z13.1)] [] z20.2 by
                obtain ⟨n, hn⟩ := hh
                exact ⟨n + 8, And.intro (jx_in_ok c19) (s_F_isOrIsUnder (by omega) h21 (And.intro (fun zz => absurd zz c22) (fun _ => hn)))⟩
              cases h
              exact ⟨3, And.intro hQ (And.intro rfl rfl)⟩
set_option maxRecDepth 20000 in
theorem s_F_taken {N d : Nat} {x1 : Int32} {x2 : Int32} (hd : 2 ≤ d) {σ : jw_M} {z : (Int32 × jw_M)} {Q : jw_Q} (h : f_F_taken N x1 x2 σ = some z) (hQ : Q (some (.int z.1)) (jx_ShC, z.2)) : jw_C jp_kd jp_ys d 170 [.ref 0, .int x1, .int x2] (jx_ShC, σ) Q := by
  obtain ⟨d, rfl⟩ : ∃ e, d = e + 1 := ⟨d - 1, by omega⟩
  replace hd : 1 ≤ d := by omega
  refine jx_C rfl rfl ?_
  unfold f_F_taken at h
  obtain ⟨z1, h2, h⟩ := Option.bind_eq_some_iff.mp h
  by_cases c3 : z1.1 = 0
  · rw [if_pos c3] at h
    suffices hh : ∃ n, jx_W jx_ShC d (some .int) jc_170 Q n 31 [some (.ref 0), some (.int x1), some (.int x2), none] [] z1.2 by
      obtain ⟨n, hn⟩ := hh
      exact ⟨n + 5, s_H_isShelf (by omega) h2 (And.intro (fun _ => hn) (fun zz => absurd c3 zz))⟩
    cases h
    exact ⟨2, And.intro hQ (And.intro rfl rfl)⟩
  · rw [if_neg c3] at h
    suffices hh : ∃ n, jx_W jx_ShC d (some .int) jc_170 Q n 11 [some (.ref 0), some (.int x1), some (.int x2), none] [] z1.2 by
      obtain ⟨n, hn⟩ := hh
      exact ⟨n + 5, s_H_isShelf (by omega) h2 (And.intro (fun zz => absurd zz c3) (fun _ => hn))⟩
    obtain ⟨z4, h5, h⟩ := Option.bind_eq_some_iff.mp h
    by_cases c6 : z4.1 = 0
    · rw [if_pos c6] at h
      suffices hh : ∃ n, jx_W jx_ShC d (some .int) jc_170 Q n 20 [some (.ref 0), some (.int x1), some (.int x2), none] [] z4.2 by
        obtain ⟨n, hn⟩ := hh
        exact ⟨n + 5, s_F_isWithin (by omega) h5 (And.intro (fun zz => absurd c6 zz) (fun _ => hn))⟩
      obtain ⟨z7, h8, h⟩ := Option.bind_eq_some_iff.mp h
      by_cases c9 : z7.1 = 0
      · rw [if_pos c9] at h
        suffices hh : ∃ n, jx_W jx_ShC d (some .int) jc_170 Q n 31 [some (.ref 0), some (.int x1), some (.int x2), none] [] z7.2 by
          obtain ⟨n, hn⟩ := hh
          exact ⟨n + 5, s_F_isWithin (by omega) h8 (And.intro (fun zz => absurd c9 zz) (fun _ => hn))⟩
        cases h
        exact ⟨2, And.intro hQ (And.intro rfl rfl)⟩
      · rw [if_neg c9] at h
        suffices hh : ∃ n, jx_W jx_ShC d (some .int) jc_170 Q n 33 [some (.ref 0), some (.int x1), some (.int x2), none] [] z7.2 by
          obtain ⟨n, hn⟩ := hh
          exact ⟨n + 5, s_F_isWithin (by omega) h8 (And.intro (fun _ => hn) (fun zz => absurd zz c9))⟩
        obtain ⟨n, hn⟩ := s_F_taken_33 hd (u3 := none) h hQ
        exact ⟨n + 0, hn⟩
    · rw [if_neg c6] at h
      suffices hh : ∃ n, jx_W jx_ShC d (some .int) jc_170 Q n 33 [some (.ref 0), some (.int x1), some (.int x2), none] [] z4.2 by
        obtain ⟨n, hn⟩ := hh
        exact ⟨n + 5, s_F_isWithin (by omega) h5 (And.intro (fun _ => hn) (fun zz => absurd zz c6))⟩
      obtain ⟨n, hn⟩ := s_F_taken_33 hd (u3 := none) h hQ
      exact ⟨n + 0, hn⟩
set_option maxRecDepth 20000 in
theorem s_F_act {N d : Nat} {x1 : Int32} {x2 : Int32} {x3 : Int32} (hd : 10 ≤ d) {σ : jw_M} {z : (Int32 × jw_M)} {Q : jw_Q} (h : f_F_act N x1 x2 x3 σ = some z) (hQ : Q (some (.int z.1)) (jx_ShC, z.2)) : jw_C jp_kd jp_ys d 171 [.ref 0, .int x1, .int x2, .int x3] (jx_ShC, σ) Q := by
  obtain ⟨d, rfl⟩ : ∃ e, d = e + 1 := ⟨d - 1, by omega⟩
  replace hd : 9 ≤ d := by omega
  refine jx_C rfl rfl ?_
  unfold f_F_act at h
  obtain ⟨z1, h2, h⟩ := Option.bind_eq_some_iff.mp h
  obtain ⟨z3, h4, h⟩ := Option.bind_eq_some_iff.mp h
  by_cases c5 : z3.1 = 0
  · rw [if_pos c5] at h
    suffices hh : ∃ n, jx_W jx_ShC d (some .int) jc_171 Q n 27 [some (.ref 0), some (.int x1), some (.int x2), some (.int x3), none] [] z3.2 by
      obtain ⟨n, hn⟩ := hh
      exact ⟨n + 8, s_H_clearTrace (by omega) h2 (s_H_isShelf (by omega) h4 (And.intro (fun _ => hn) (fun zz => absurd c5 zz)))⟩
    cases h
    exact ⟨2, And.intro hQ (And.intro rfl rfl)⟩
  · rw [if_neg c5] at h
    suffices hh : ∃ n, jx_W jx_ShC d (some .int) jc_171 Q n 18 [some (.ref 0), some (.int x1), some (.int x2), some (.int x3), none] [] z3.2 by
      obtain ⟨n, hn⟩ := hh
      exact ⟨n + 8, s_H_clearTrace (by omega) h2 (s_H_isShelf (by omega) h4 (And.intro (fun zz => absurd zz c5) (fun _ => hn)))⟩
    obtain ⟨z6, h7, h⟩ := Option.bind_eq_some_iff.mp h
    by_cases c8 : z6.1 = 0
    · rw [if_pos c8] at h
      suffices hh : ∃ n, jx_W jx_ShC d (some .int) jc_171 Q n 27 [some (.ref 0), some (.int x1), some (.int x2), some (.int x3), none] [] z6.2 by
        obtain ⟨n, hn⟩ := hh
        exact ⟨n + 5, s_F_isWithin (by omega) h7 (And.intro (fun zz => absurd c8 zz) (fun _ => hn))⟩
      cases h
      exact ⟨2, And.intro hQ (And.intro rfl rfl)⟩
    · rw [if_neg c8] at h
      suffices hh : ∃ n, jx_W jx_ShC d (some .int) jc_171 Q n 29 [some (.ref 0), some (.int x1), some (.int x2), some (.int x3), none] [] z6.2 by
        obtain ⟨n, hn⟩ := hh
        exact ⟨n + 5, s_F_isWithin (by omega) h7 (And.intro (fun _ => hn) (fun zz => absurd zz c8))⟩
      obtain ⟨z9, h10, h⟩ := Option.bind_eq_some_iff.mp h
      obtain ⟨z11, h12, h⟩ := Option.bind_eq_some_iff.mp h
      by_cases c13 : z11.1 = 0
      · rw [if_pos c13] at h
        suffices hh : ∃ n, jx_W jx_ShC d (some .int) jc_171 Q n 84 [some (.ref 0), some (.int x1), some (.int x2), some (.int x3), some (.int z9.1)] [] z11.2 by
          obtain ⟨n, hn⟩ := hh
          exact ⟨n + 10, s_H_shadowOn (by omega) h10 (s_S_isShadow (by omega) h12 (And.intro (fun _ => hn) (fun zz => absurd c13 zz)))⟩
        cases h
        exact ⟨2, And.intro hQ (And.intro rfl rfl)⟩
      · rw [if_neg c13] at h
        suffices hh : ∃ n, jx_W jx_ShC d (some .int) jc_171 Q n 51 [some (.ref 0), some (.int x1), some (.int x2), some (.int x3), some (.int z9.1)] [] z11.2 by
          obtain ⟨n, hn⟩ := hh
          exact ⟨n + 10, s_H_shadowOn (by omega) h10 (s_S_isShadow (by omega) h12 (And.intro (fun zz => absurd zz c13) (fun _ => hn)))⟩
        obtain ⟨z14, h15, h⟩ := Option.bind_eq_some_iff.mp h
        cases c16 : jx_in (z9.1) 6 with
        | false => rw [c16, cond_false] at h; cases h
        | true =>
          rw [c16, cond_true] at h
          obtain ⟨z17, h18, h⟩ := Option.bind_eq_some_iff.mp h
          cases h
          exact ⟨17, s_S_thing (by omega) h15 (And.intro (jx_in_ok c16) (s_H_perform (by omega) (by decide) h18 (And.intro hQ (And.intro rfl rfl))))⟩
set_option maxRecDepth 20000 in
theorem s_F_trace {N d : Nat} {x1 : Int32} (hd : 2 ≤ d) {σ : jw_M} {z : (Int32 × jw_M)} {Q : jw_Q} (h : f_F_trace N x1 σ = some z) (hQ : Q (some (.int z.1)) (jx_ShC, z.2)) : jw_C jp_kd jp_ys d 172 [.ref 0, .int x1] (jx_ShC, σ) Q := by
  obtain ⟨d, rfl⟩ : ∃ e, d = e + 1 := ⟨d - 1, by omega⟩
  replace hd : 1 ≤ d := by omega
  refine jx_C rfl rfl ?_
  unfold f_F_trace at h
  obtain ⟨z1, h2, h⟩ := Option.bind_eq_some_iff.mp h
  by_cases c3 : z1.1 = 0
  · rw [if_pos c3] at h
    suffices hh : ∃ n, jx_W jx_ShC d (some .int) jc_172 Q n 29 [some (.ref 0), some (.int x1)] [] z1.2 by
      obtain ⟨n, hn⟩ := hh
      exact ⟨n + 9, s_F_isWithin (by omega) h2 (And.intro (fun _ => hn) (fun zz => absurd c3 zz))⟩
    cases h
    exact ⟨2, And.intro hQ (And.intro rfl rfl)⟩
  · rw [if_neg c3] at h
    suffices hh : ∃ n, jx_W jx_ShC d (some .int) jc_172 Q n 17 [some (.ref 0), some (.int x1)] [] z1.2 by
      obtain ⟨n, hn⟩ := hh
      exact ⟨n + 9, s_F_isWithin (by omega) h2 (And.intro (fun zz => absurd zz c3) (fun _ => hn))⟩
    cases c4 : jx_in x1 30 with
    | false => rw [c4, cond_false] at h; cases h
    | true =>
      rw [c4, cond_true] at h
      cases h
      exact ⟨7, And.intro (jx_in_ok c4) (And.intro hQ (And.intro rfl rfl))⟩
set_option maxRecDepth 20000 in
theorem s_F_many {N d : Nat} {x1 : Int32} (hd : 3 ≤ d) {σ : jw_M} {z : (Int32 × jw_M)} {Q : jw_Q} (h : f_F_many N x1 σ = some z) (hQ : Q (some (.int z.1)) (jx_ShC, z.2)) : jw_C jp_kd jp_ys d 173 [.ref 0, .int x1] (jx_ShC, σ) Q := by
  obtain ⟨d, rfl⟩ : ∃ e, d = e + 1 := ⟨d - 1, by omega⟩
  replace hd : 2 ≤ d := by omega
  refine jx_C rfl rfl ?_
  unfold f_F_many at h
  by_cases c10 : x1 = 0
  · rw [if_pos c10] at h
    suffices hh : ∃ n, jx_W jx_ShC d (some .int) jc_173 Q n 48 [some (.ref 0), some (.int x1)] [] σ by
      obtain ⟨n, hn⟩ := hh
      exact ⟨n + 2, And.intro (fun _ => hn) (fun zz => absurd c10 zz)⟩
    cases h
    exact ⟨4, And.intro hQ (And.intro rfl rfl)⟩
  · rw [if_neg c10] at h
    by_cases c9 : x1 = 1
    · rw [if_pos c9] at h
      suffices hh : ∃ n, jx_W jx_ShC d (some .int) jc_173 Q n 56 [some (.ref 0), some (.int x1)] [] σ by
        obtain ⟨n, hn⟩ := hh
        exact ⟨n + 2, And.intro (fun zz => absurd zz c10) (fun _ => And.intro (fun _ => hn) (fun zz => absurd c9 zz))⟩
      cases h
      exact ⟨5, And.intro hQ (And.intro rfl rfl)⟩
    · rw [if_neg c9] at h
      by_cases c8 : x1 = 2
      · rw [if_pos c8] at h
        suffices hh : ∃ n, jx_W jx_ShC d (some .int) jc_173 Q n 67 [some (.ref 0), some (.int x1)] [] σ by
          obtain ⟨n, hn⟩ := hh
          exact ⟨n + 2, And.intro (fun zz => absurd zz c10) (fun _ => And.intro (fun zz => absurd zz c9) (fun _ => And.intro (fun _ => hn) (fun zz => absurd c8 zz)))⟩
        cases h
        exact ⟨4, And.intro hQ (And.intro rfl rfl)⟩
      · rw [if_neg c8] at h
        by_cases c7 : x1 = 3
        · rw [if_pos c7] at h
          suffices hh : ∃ n, jx_W jx_ShC d (some .int) jc_173 Q n 75 [some (.ref 0), some (.int x1)] [] σ by
            obtain ⟨n, hn⟩ := hh
            exact ⟨n + 2, And.intro (fun zz => absurd zz c10) (fun _ => And.intro (fun zz => absurd zz c9) (fun _ => And.intro (fun zz => absurd zz c8) (fun _ => And.intro (fun _ => hn) (fun zz => absurd c7 zz))))⟩
          cases h
          exact ⟨4, And.intro hQ (And.intro rfl rfl)⟩
        · rw [if_neg c7] at h
          by_cases c6 : x1 = 4
          · rw [if_pos c6] at h
            suffices hh : ∃ n, jx_W jx_ShC d (some .int) jc_173 Q n 83 [some (.ref 0), some (.int x1)] [] σ by
              obtain ⟨n, hn⟩ := hh
              exact ⟨n + 2, And.intro (fun zz => absurd zz c10) (fun _ => And.intro (fun zz => absurd zz c9) (fun _ => And.intro (fun zz => absurd zz c8) (fun _ => And.intro (fun zz => absurd zz c7) (fun _ => And.intro (fun _ => hn) (fun zz => absurd c6 zz)))))⟩
            cases h
            exact ⟨4, And.intro hQ (And.intro rfl rfl)⟩
          · rw [if_neg c6] at h
            by_cases c5 : x1 = 5
            · rw [if_pos c5] at h
              suffices hh : ∃ n, jx_W jx_ShC d (some .int) jc_173 Q n 91 [some (.ref 0), some (.int x1)] [] σ by
                obtain ⟨n, hn⟩ := hh
                exact ⟨n + 2, And.intro (fun zz => absurd zz c10) (fun _ => And.intro (fun zz => absurd zz c9) (fun _ => And.intro (fun zz => absurd zz c8) (fun _ => And.intro (fun zz => absurd zz c7) (fun _ => And.intro (fun zz => absurd zz c6) (fun _ => And.intro (fun _ => hn) (fun zz => absurd c5 zz))))))⟩
              cases h
              exact ⟨4, And.intro hQ (And.intro rfl rfl)⟩
            · rw [if_neg c5] at h
              by_cases c4 : x1 = 6
              · rw [if_pos c4] at h
                suffices hh : ∃ n, jx_W jx_ShC d (some .int) jc_173 Q n 99 [some (.ref 0), some (.int x1)] [] σ by
                  obtain ⟨n, hn⟩ := hh
                  exact ⟨n + 2, And.intro (fun zz => absurd zz c10) (fun _ => And.intro (fun zz => absurd zz c9) (fun _ => And.intro (fun zz => absurd zz c8) (fun _ => And.intro (fun zz => absurd zz c7) (fun _ => And.intro (fun zz => absurd zz c6) (fun _ => And.intro (fun zz => absurd zz c5) (fun _ => And.intro (fun _ => hn) (fun zz => absurd c4 zz)))))))⟩
                cases h
                exact ⟨4, And.intro hQ (And.intro rfl rfl)⟩
              · rw [if_neg c4] at h
                by_cases c3 : x1 = 7
                · rw [if_pos c3] at h
                  suffices hh : ∃ n, jx_W jx_ShC d (some .int) jc_173 Q n 107 [some (.ref 0), some (.int x1)] [] σ by
                    obtain ⟨n, hn⟩ := hh
                    exact ⟨n + 2, And.intro (fun zz => absurd zz c10) (fun _ => And.intro (fun zz => absurd zz c9) (fun _ => And.intro (fun zz => absurd zz c8) (fun _ => And.intro (fun zz => absurd zz c7) (fun _ => And.intro (fun zz => absurd zz c6) (fun _ => And.intro (fun zz => absurd zz c5) (fun _ => And.intro (fun zz => absurd zz c4) (fun _ => And.intro (fun _ => hn) (fun zz => absurd c3 zz))))))))⟩
                  obtain ⟨z1, h2, h⟩ := Option.bind_eq_some_iff.mp h
                  cases h
                  exact ⟨4, s_S_howManyQuarrel (by omega) h2 (And.intro hQ (And.intro rfl rfl))⟩
                · rw [if_neg c3] at h
                  cases h
                  exact ⟨4, And.intro (fun zz => absurd zz c10) (fun _ => And.intro (fun zz => absurd zz c9) (fun _ => And.intro (fun zz => absurd zz c8) (fun _ => And.intro (fun zz => absurd zz c7) (fun _ => And.intro (fun zz => absurd zz c6) (fun _ => And.intro (fun zz => absurd zz c5) (fun _ => And.intro (fun zz => absurd zz c4) (fun _ => And.intro (fun zz => absurd zz c3) (fun _ => And.intro hQ (And.intro rfl rfl)))))))))⟩
set_option maxRecDepth 20000 in
theorem s_F_keep {N d : Nat} (hd : 5 ≤ d) {σ : jw_M} {z : (Int32 × jw_M)} {Q : jw_Q} (h : f_F_keep N  σ = some z) (hQ : Q (some (.int z.1)) (jx_ShC, z.2)) : jw_C jp_kd jp_ys d 174 [.ref 0] (jx_ShC, σ) Q := by
  obtain ⟨d, rfl⟩ : ∃ e, d = e + 1 := ⟨d - 1, by omega⟩
  replace hd : 4 ≤ d := by omega
  refine jx_C rfl rfl ?_
  unfold f_F_keep at h
  obtain ⟨z1, h2, h⟩ := Option.bind_eq_some_iff.mp h
  cases h
  exact ⟨10, s_S_copyFrom_38_1 (by omega) h2 (And.intro (Or.inr rfl) (And.intro hQ (And.intro rfl rfl)))⟩
set_option maxRecDepth 20000 in
theorem s_F_again {N d : Nat} (hd : 5 ≤ d) {σ : jw_M} {z : (Int32 × jw_M)} {Q : jw_Q} (h : f_F_again N  σ = some z) (hQ : Q (some (.int z.1)) (jx_ShC, z.2)) : jw_C jp_kd jp_ys d 175 [.ref 0] (jx_ShC, σ) Q := by
  obtain ⟨d, rfl⟩ : ∃ e, d = e + 1 := ⟨d - 1, by omega⟩
  replace hd : 4 ≤ d := by omega
  refine jx_C rfl rfl ?_
  unfold f_F_again at h
  by_cases c1 : (σ.1 0 2) = 0
  · rw [if_pos c1] at h
    suffices hh : ∃ n, jx_W jx_ShC d (some .int) jc_175 Q n 7 [some (.ref 0)] [] σ by
      obtain ⟨n, hn⟩ := hh
      exact ⟨n + 3, And.intro (fun zz => absurd c1 zz) (fun _ => hn)⟩
    cases h
    exact ⟨2, And.intro hQ (And.intro rfl rfl)⟩
  · rw [if_neg c1] at h
    suffices hh : ∃ n, jx_W jx_ShC d (some .int) jc_175 Q n 10 [some (.ref 0)] [] σ by
      obtain ⟨n, hn⟩ := hh
      exact ⟨n + 3, And.intro (fun _ => hn) (fun zz => absurd zz c1)⟩
    obtain ⟨z2, h3, h⟩ := Option.bind_eq_some_iff.mp h
    cases h
    exact ⟨9, s_S_copyFrom_1_38 (by omega) h3 (And.intro hQ (And.intro rfl rfl))⟩
set_option maxRecDepth 20000 in
theorem s_M_in {N d : Nat} {x0 : Int32} {x1 : Int32} {x2 : Int32} (hd : 1 ≤ d) {σ : jw_M} {z : (Int32 × jw_M)} {Q : jw_Q} (h : f_M_in N x0 x1 x2 σ = some z) (hQ : Q (some (.int z.1)) (jx_ShM, z.2)) : jw_C jp_kd jp_ys d 180 [.int x0, .int x1, .int x2] (jx_ShM, σ) Q := by
  obtain ⟨d, rfl⟩ : ∃ e, d = e + 1 := ⟨d - 1, by omega⟩
  replace hd : 0 ≤ d := by omega
  refine jx_C rfl rfl ?_
  unfold f_M_in at h
  by_cases c1 : x0 < x1
  · rw [if_pos c1] at h
    suffices hh : ∃ n, jx_W jx_ShM d (some .boolean) jc_180 Q n 14 [some (.int x0), some (.int x1), some (.int x2)] [] σ by
      obtain ⟨n, hn⟩ := hh
      exact ⟨n + 3, And.intro (fun _ => hn) (fun zz => absurd c1 zz)⟩
    cases h
    exact ⟨2, And.intro (Or.inl rfl) (And.intro hQ (And.intro rfl rfl))⟩
  · rw [if_neg c1] at h
    suffices hh : ∃ n, jx_W jx_ShM d (some .boolean) jc_180 Q n 5 [some (.int x0), some (.int x1), some (.int x2)] [] σ by
      obtain ⟨n, hn⟩ := hh
      exact ⟨n + 3, And.intro (fun zz => absurd zz c1) (fun _ => hn)⟩
    by_cases c2 : x2 < x0
    · rw [if_pos c2] at h
      suffices hh : ∃ n, jx_W jx_ShM d (some .boolean) jc_180 Q n 14 [some (.int x0), some (.int x1), some (.int x2)] [] σ by
        obtain ⟨n, hn⟩ := hh
        exact ⟨n + 3, And.intro (fun _ => hn) (fun zz => absurd c2 zz)⟩
      cases h
      exact ⟨2, And.intro (Or.inl rfl) (And.intro hQ (And.intro rfl rfl))⟩
    · rw [if_neg c2] at h
      suffices hh : ∃ n, jx_W jx_ShM d (some .boolean) jc_180 Q n 10 [some (.int x0), some (.int x1), some (.int x2)] [] σ by
        obtain ⟨n, hn⟩ := hh
        exact ⟨n + 3, And.intro (fun zz => absurd zz c2) (fun _ => hn)⟩
      cases h
      exact ⟨3, And.intro (Or.inr rfl) (And.intro hQ (And.intro rfl rfl))⟩
set_option maxRecDepth 20000 in
theorem s_M_isShadow {N d : Nat} {x1 : Int32} (hd : 2 ≤ d) {σ : jw_M} {z : (Int32 × jw_M)} {Q : jw_Q} (h : f_M_isShadow N x1 σ = some z) (hQ : Q (some (.int z.1)) (jx_ShM, z.2)) : jw_C jp_kd jp_ys d 181 [.ref 0, .int x1] (jx_ShM, σ) Q := by
  obtain ⟨d, rfl⟩ : ∃ e, d = e + 1 := ⟨d - 1, by omega⟩
  replace hd : 1 ≤ d := by omega
  refine jx_C rfl rfl ?_
  unfold f_M_isShadow at h
  obtain ⟨z1, h2, h⟩ := Option.bind_eq_some_iff.mp h
  by_cases c3 : z1.1 = 0 ∨ z1.1 = 1
  · rw [if_pos c3] at h
    cases h
    exact ⟨10, And.intro (jx_in_ok rfl) (s_M_in (by omega) h2 (And.intro c3 (And.intro hQ (And.intro rfl rfl))))⟩
  · rw [if_neg c3] at h
    cases h
set_option maxRecDepth 20000 in
theorem s_M_isLesson {N d : Nat} {x1 : Int32} (hd : 2 ≤ d) {σ : jw_M} {z : (Int32 × jw_M)} {Q : jw_Q} (h : f_M_isLesson N x1 σ = some z) (hQ : Q (some (.int z.1)) (jx_ShM, z.2)) : jw_C jp_kd jp_ys d 182 [.ref 0, .int x1] (jx_ShM, σ) Q := by
  obtain ⟨d, rfl⟩ : ∃ e, d = e + 1 := ⟨d - 1, by omega⟩
  replace hd : 1 ≤ d := by omega
  refine jx_C rfl rfl ?_
  unfold f_M_isLesson at h
  obtain ⟨z1, h2, h⟩ := Option.bind_eq_some_iff.mp h
  by_cases c3 : z1.1 = 0 ∨ z1.1 = 1
  · rw [if_pos c3] at h
    cases h
    exact ⟨10, And.intro (jx_in_ok rfl) (s_M_in (by omega) h2 (And.intro c3 (And.intro hQ (And.intro rfl rfl))))⟩
  · rw [if_neg c3] at h
    cases h
set_option maxRecDepth 20000 in
theorem s_M_of {N d : Nat} {x1 : Int32} {x2 : Int32} (hd : 1 ≤ d) {σ : jw_M} {z : (Int32 × jw_M)} {Q : jw_Q} (h : f_M_of N x1 x2 σ = some z) (hQ : Q (some (.int z.1)) (jx_ShM, z.2)) : jw_C jp_kd jp_ys d 183 [.ref 0, .int x1, .int x2] (jx_ShM, σ) Q := by
  obtain ⟨d, rfl⟩ : ∃ e, d = e + 1 := ⟨d - 1, by omega⟩
  replace hd : 0 ≤ d := by omega
  refine jx_C rfl rfl ?_
  unfold f_M_of at h
  cases c1 : jx_in ((6 + (3 * x1)) + x2) 526 with
  | false => rw [c1, cond_false] at h; cases h
  | true =>
    rw [c1, cond_true] at h
    cases h
    exact ⟨11, And.intro (jx_in_ok c1) (And.intro hQ (And.intro rfl rfl))⟩
set_option maxRecDepth 20000 in
theorem s_M_lessonNumber {N d : Nat} {x1 : Int32} {x2 : Int32} (hd : 1 ≤ d) {σ : jw_M} {z : (Int32 × jw_M)} {Q : jw_Q} (h : f_M_lessonNumber N x1 x2 σ = some z) (hQ : Q (some (.int z.1)) (jx_ShM, z.2)) : jw_C jp_kd jp_ys d 184 [.ref 0, .int x1, .int x2] (jx_ShM, σ) Q := by
  obtain ⟨d, rfl⟩ : ∃ e, d = e + 1 := ⟨d - 1, by omega⟩
  replace hd : 0 ≤ d := by omega
  refine jx_C rfl rfl ?_
  unfold f_M_lessonNumber at h
  cases c1 : jx_in ((24 + (5 * x1)) + x2) 526 with
  | false => rw [c1, cond_false] at h; cases h
  | true =>
    rw [c1, cond_true] at h
    cases h
    exact ⟨11, And.intro (jx_in_ok c1) (And.intro hQ (And.intro rfl rfl))⟩
set_option maxRecDepth 20000 in
theorem s_M_ones_4 {N d : Nat} {Q : jw_Q} (hd : 0 ≤ d) : ∀ (k : Nat) {x1 : Int32} {x2 : Int32} {u0 : Option Value} {σ : jw_M} {z : (Int32 × jw_M)}, f_M_ones_4 N k x1 x2 σ = some z → Q (some (.int z.1)) (jx_ShM, z.2) → ∃ n, jx_W jx_ShM d (some .int) jc_185 Q n 4 [u0, some (.int x1), some (.int x2)] [] σ
  | 0, _, _, _, _, _, h, _ => by cases h
  | k + 1, x1, x2, u0, σ, z, h, hQ => by
    rw [f_M_ones_4] at h
    by_cases c1 : x2 = 0
    · rw [if_pos c1] at h
      suffices hh : ∃ n, jx_W jx_ShM d (some .int) jc_185 Q n 20 [u0, some (.int x1), some (.int x2)] [] σ by
        obtain ⟨n, hn⟩ := hh
        exact ⟨n + 2, And.intro (fun _ => hn) (fun zz => absurd c1 zz)⟩
      cases h
      exact ⟨2, And.intro hQ (And.intro rfl rfl)⟩
    · rw [if_neg c1] at h
      suffices hh : ∃ n, jx_W jx_ShM d (some .int) jc_185 Q n 8 [u0, some (.int x1), some (.int x2)] [] σ by
        obtain ⟨n, hn⟩ := hh
        exact ⟨n + 2, And.intro (fun zz => absurd zz c1) (fun _ => hn)⟩
      obtain ⟨n, hn⟩ := s_M_ones_4 hd k (u0 := (jw_clr u0)) h hQ
      exact ⟨n + 8, hn⟩
set_option maxRecDepth 20000 in
theorem s_M_ones {N d : Nat} {x0 : Int32} (hd : 1 ≤ d) {σ : jw_M} {z : (Int32 × jw_M)} {Q : jw_Q} (h : f_M_ones N x0 σ = some z) (hQ : Q (some (.int z.1)) (jx_ShM, z.2)) : jw_C jp_kd jp_ys d 185 [.int x0] (jx_ShM, σ) Q := by
  obtain ⟨d, rfl⟩ : ∃ e, d = e + 1 := ⟨d - 1, by omega⟩
  replace hd : 0 ≤ d := by omega
  refine jx_C rfl rfl ?_
  unfold f_M_ones at h
  obtain ⟨n, hn⟩ := s_M_ones_4 hd N (u0 := some (.int x0)) h hQ
  exact ⟨n + 4, hn⟩
set_option maxRecDepth 20000 in
theorem s_M_isOver {N d : Nat} (hd : 1 ≤ d) {σ : jw_M} {z : (Int32 × jw_M)} {Q : jw_Q} (h : f_M_isOver N  σ = some z) (hQ : Q (some (.int z.1)) (jx_ShM, z.2)) : jw_C jp_kd jp_ys d 186 [.ref 0] (jx_ShM, σ) Q := by
  obtain ⟨d, rfl⟩ : ∃ e, d = e + 1 := ⟨d - 1, by omega⟩
  replace hd : 0 ≤ d := by omega
  refine jx_C rfl rfl ?_
  unfold f_M_isOver at h
  by_cases c1 : (σ.1 1 0) < (σ.1 3 0)
  · rw [if_pos c1] at h
    suffices hh : ∃ n, jx_W jx_ShM d (some .boolean) jc_186 Q n 19 [some (.ref 0)] [] σ by
      obtain ⟨n, hn⟩ := hh
      exact ⟨n + 9, And.intro (jx_in_ok rfl) (And.intro (jx_in_ok rfl) (And.intro (fun _ => hn) (fun zz => absurd c1 zz)))⟩
    cases h
    exact ⟨2, And.intro (Or.inl rfl) (And.intro hQ (And.intro rfl rfl))⟩
  · rw [if_neg c1] at h
    suffices hh : ∃ n, jx_W jx_ShM d (some .boolean) jc_186 Q n 15 [some (.ref 0)] [] σ by
      obtain ⟨n, hn⟩ := hh
      exact ⟨n + 9, And.intro (jx_in_ok rfl) (And.intro (jx_in_ok rfl) (And.intro (fun zz => absurd zz c1) (fun _ => hn)))⟩
    cases h
    exact ⟨3, And.intro (Or.inr rfl) (And.intro hQ (And.intro rfl rfl))⟩
set_option maxRecDepth 20000 in
theorem s_M_hasLearnt {N d : Nat} {x1 : Int32} {x2 : Int32} (hd : 1 ≤ d) {σ : jw_M} {z : (Int32 × jw_M)} {Q : jw_Q} (h : f_M_hasLearnt N x1 x2 σ = some z) (hQ : Q (some (.int z.1)) (jx_ShM, z.2)) : jw_C jp_kd jp_ys d 187 [.ref 0, .int x1, .int x2] (jx_ShM, σ) Q := by
  obtain ⟨d, rfl⟩ : ∃ e, d = e + 1 := ⟨d - 1, by omega⟩
  replace hd : 0 ≤ d := by omega
  refine jx_C rfl rfl ?_
  unfold f_M_hasLearnt at h
  cases c1 : jx_in (2 + x1) 56 with
  | false => rw [c1, cond_false] at h; cases h
  | true =>
    rw [c1, cond_true] at h
    by_cases c2 : (((σ.1 1 ((2 + x1)).toNatClampNeg) >>> (x2 &&& 31)) &&& 1) = 1
    · rw [if_pos c2] at h
      suffices hh : ∃ n, jx_W jx_ShM d (some .boolean) jc_187 Q n 16 [some (.ref 0), some (.int x1), some (.int x2)] [] σ by
        obtain ⟨n, hn⟩ := hh
        exact ⟨n + 12, And.intro (jx_in_ok c1) (And.intro (fun zz => absurd c2 zz) (fun _ => hn))⟩
      cases h
      exact ⟨3, And.intro (Or.inr rfl) (And.intro hQ (And.intro rfl rfl))⟩
    · rw [if_neg c2] at h
      suffices hh : ∃ n, jx_W jx_ShM d (some .boolean) jc_187 Q n 20 [some (.ref 0), some (.int x1), some (.int x2)] [] σ by
        obtain ⟨n, hn⟩ := hh
        exact ⟨n + 12, And.intro (jx_in_ok c1) (And.intro (fun _ => hn) (fun zz => absurd zz c2))⟩
      cases h
      exact ⟨2, And.intro (Or.inl rfl) (And.intro hQ (And.intro rfl rfl))⟩
set_option maxRecDepth 20000 in
theorem s_M_pointsOf {N d : Nat} {x1 : Int32} {x2 : Int32} (hd : 1 ≤ d) {σ : jw_M} {z : (Int32 × jw_M)} {Q : jw_Q} (h : f_M_pointsOf N x1 x2 σ = some z) (hQ : Q (some (.int z.1)) (jx_ShM, z.2)) : jw_C jp_kd jp_ys d 188 [.ref 0, .int x1, .int x2] (jx_ShM, σ) Q := by
  obtain ⟨d, rfl⟩ : ∃ e, d = e + 1 := ⟨d - 1, by omega⟩
  replace hd : 0 ≤ d := by omega
  refine jx_C rfl rfl ?_
  unfold f_M_pointsOf at h
  cases c1 : jx_in ((8 + (8 * x1)) + x2) 56 with
  | false => rw [c1, cond_false] at h; cases h
  | true =>
    rw [c1, cond_true] at h
    cases h
    exact ⟨11, And.intro (jx_in_ok c1) (And.intro hQ (And.intro rfl rfl))⟩
set_option maxRecDepth 20000 in
theorem s_M_save_2 {N d : Nat} {Q : jw_Q} (hd : 0 ≤ d) : ∀ (k : Nat) {x1 : Int32} {x2 : Int32} {σ : jw_M} {z : jw_M}, f_M_save_2 N k x1 x2 σ = some z → Q none (jx_ShM, z) → ∃ n, jx_W jx_ShM d none jc_189 Q n 2 [some (.ref 0), some (.int x1), some (.int x2)] [] σ
  | 0, _, _, _, _, h, _ => by cases h
  | k + 1, x1, x2, σ, z, h, hQ => by
    rw [f_M_save_2] at h
    by_cases c1 : 56 ≤ x2
    · rw [if_pos c1] at h
      suffices hh : ∃ n, jx_W jx_ShM d none jc_189 Q n 31 [some (.ref 0), some (.int x1), some (.int x2)] [] σ by
        obtain ⟨n, hn⟩ := hh
        exact ⟨n + 3, And.intro (fun _ => hn) (fun zz => absurd c1 zz)⟩
      cases h
      exact ⟨1, And.intro hQ (And.intro rfl rfl)⟩
    · rw [if_neg c1] at h
      suffices hh : ∃ n, jx_W jx_ShM d none jc_189 Q n 8 [some (.ref 0), some (.int x1), some (.int x2)] [] σ by
        obtain ⟨n, hn⟩ := hh
        exact ⟨n + 3, And.intro (fun zz => absurd zz c1) (fun _ => hn)⟩
      cases c2 : jx_in x2 56 with
      | false => rw [c2, cond_false] at h; cases h
      | true =>
        rw [c2, cond_true] at h
        cases c3 : jx_in ((56 * x1) + x2) 392 with
        | false => rw [c3, cond_false] at h; cases h
        | true =>
          rw [c3, cond_true] at h
          obtain ⟨n, hn⟩ := s_M_save_2 hd k h hQ
          exact ⟨n + 14, And.intro (jx_in_ok c2) (And.intro (jx_in_ok c3) (hn))⟩
set_option maxRecDepth 20000 in
theorem s_M_save {N d : Nat} {x1 : Int32} (hd : 1 ≤ d) {σ : jw_M} {z : jw_M} {Q : jw_Q} (h : f_M_save N x1 σ = some z) (hQ : Q none (jx_ShM, z)) : jw_C jp_kd jp_ys d 189 [.ref 0, .int x1] (jx_ShM, σ) Q := by
  obtain ⟨d, rfl⟩ : ∃ e, d = e + 1 := ⟨d - 1, by omega⟩
  replace hd : 0 ≤ d := by omega
  refine jx_C rfl rfl ?_
  unfold f_M_save at h
  obtain ⟨n, hn⟩ := s_M_save_2 hd N h hQ
  exact ⟨n + 2, hn⟩
set_option maxRecDepth 20000 in
theorem s_M_load_2 {N d : Nat} {Q : jw_Q} (hd : 0 ≤ d) : ∀ (k : Nat) {x1 : Int32} {x2 : Int32} {σ : jw_M} {z : jw_M}, f_M_load_2 N k x1 x2 σ = some z → Q none (jx_ShM, z) → ∃ n, jx_W jx_ShM d none jc_190 Q n 2 [some (.ref 0), some (.int x1), some (.int x2)] [] σ
  | 0, _, _, _, _, h, _ => by cases h
  | k + 1, x1, x2, σ, z, h, hQ => by
    rw [f_M_load_2] at h
    by_cases c1 : 56 ≤ x2
    · rw [if_pos c1] at h
      suffices hh : ∃ n, jx_W jx_ShM d none jc_190 Q n 31 [some (.ref 0), some (.int x1), some (.int x2)] [] σ by
        obtain ⟨n, hn⟩ := hh
        exact ⟨n + 3, And.intro (fun _ => hn) (fun zz => absurd c1 zz)⟩
      cases h
      exact ⟨1, And.intro hQ (And.intro rfl rfl)⟩
    · rw [if_neg c1] at h
      suffices hh : ∃ n, jx_W jx_ShM d none jc_190 Q n 8 [some (.ref 0), some (.int x1), some (.int x2)] [] σ by
        obtain ⟨n, hn⟩ := hh
        exact ⟨n + 3, And.intro (fun zz => absurd zz c1) (fun _ => hn)⟩
      cases c2 : jx_in ((56 * x1) + x2) 392 with
      | false => rw [c2, cond_false] at h; cases h
      | true =>
        rw [c2, cond_true] at h
        cases c3 : jx_in x2 56 with
        | false => rw [c3, cond_false] at h; cases h
        | true =>
          rw [c3, cond_true] at h
          obtain ⟨n, hn⟩ := s_M_load_2 hd k h hQ
          exact ⟨n + 14, And.intro (jx_in_ok c2) (And.intro (jx_in_ok c3) (hn))⟩
set_option maxRecDepth 20000 in
theorem s_M_load {N d : Nat} {x1 : Int32} (hd : 1 ≤ d) {σ : jw_M} {z : jw_M} {Q : jw_Q} (h : f_M_load N x1 σ = some z) (hQ : Q none (jx_ShM, z)) : jw_C jp_kd jp_ys d 190 [.ref 0, .int x1] (jx_ShM, σ) Q := by
  obtain ⟨d, rfl⟩ : ∃ e, d = e + 1 := ⟨d - 1, by omega⟩
  replace hd : 0 ≤ d := by omega
  refine jx_C rfl rfl ?_
  unfold f_M_load at h
  obtain ⟨n, hn⟩ := s_M_load_2 hd N h hQ
  exact ⟨n + 2, hn⟩
set_option maxRecDepth 20000 in
theorem s_M_paceBy {N d : Nat} {x0 : Int32} {x1 : Int32} {x2 : Int32} (hd : 1 ≤ d) {σ : jw_M} {z : (Int32 × jw_M)} {Q : jw_Q} (h : f_M_paceBy N x0 x1 x2 σ = some z) (hQ : Q (some (.int z.1)) (jx_ShM, z.2)) : jw_C jp_kd jp_ys d 191 [.int x0, .int x1, .int x2] (jx_ShM, σ) Q := by
  obtain ⟨d, rfl⟩ : ∃ e, d = e + 1 := ⟨d - 1, by omega⟩
  replace hd : 0 ≤ d := by omega
  refine jx_C rfl rfl ?_
  unfold f_M_paceBy at h
  by_cases c8 : x0 = 1
  · rw [if_pos c8] at h
    suffices hh : ∃ n, jx_W jx_ShM d (some .int) jc_191 Q n 36 [some (.int x0), some (.int x1), some (.int x2)] [] σ by
      obtain ⟨n, hn⟩ := hh
      exact ⟨n + 2, And.intro (fun _ => hn) (fun zz => absurd c8 zz)⟩
    by_cases c1 : (x2 - x2 / 4 * 4) = 3
    · rw [if_pos c1] at h
      suffices hh : ∃ n, jx_W jx_ShM d (some .int) jc_191 Q n 43 [some (.int x0), some (.int x1), some (.int x2)] [] σ by
        obtain ⟨n, hn⟩ := hh
        exact ⟨n + 5, And.intro (by decide) (And.intro (fun zz => absurd c1 zz) (fun _ => hn))⟩
      cases h
      exact ⟨3, And.intro hQ (And.intro rfl rfl)⟩
    · rw [if_neg c1] at h
      suffices hh : ∃ n, jx_W jx_ShM d (some .int) jc_191 Q n 47 [some (.int x0), some (.int x1), some (.int x2)] [] σ by
        obtain ⟨n, hn⟩ := hh
        exact ⟨n + 5, And.intro (by decide) (And.intro (fun _ => hn) (fun zz => absurd zz c1))⟩
      cases h
      exact ⟨2, And.intro hQ (And.intro rfl rfl)⟩
  · rw [if_neg c8] at h
    by_cases c7 : x0 = 2
    · rw [if_pos c7] at h
      suffices hh : ∃ n, jx_W jx_ShM d (some .int) jc_191 Q n 49 [some (.int x0), some (.int x1), some (.int x2)] [] σ by
        obtain ⟨n, hn⟩ := hh
        exact ⟨n + 2, And.intro (fun zz => absurd zz c8) (fun _ => And.intro (fun _ => hn) (fun zz => absurd c7 zz))⟩
      by_cases c2 : x2 = 6
      · rw [if_pos c2] at h
        suffices hh : ∃ n, jx_W jx_ShM d (some .int) jc_191 Q n 55 [some (.int x0), some (.int x1), some (.int x2)] [] σ by
          obtain ⟨n, hn⟩ := hh
          exact ⟨n + 3, And.intro (fun zz => absurd c2 zz) (fun _ => hn)⟩
        cases h
        exact ⟨3, And.intro hQ (And.intro rfl rfl)⟩
      · rw [if_neg c2] at h
        suffices hh : ∃ n, jx_W jx_ShM d (some .int) jc_191 Q n 59 [some (.int x0), some (.int x1), some (.int x2)] [] σ by
          obtain ⟨n, hn⟩ := hh
          exact ⟨n + 3, And.intro (fun _ => hn) (fun zz => absurd zz c2)⟩
        cases h
        exact ⟨4, And.intro hQ (And.intro rfl rfl)⟩
    · rw [if_neg c7] at h
      by_cases c6 : x0 = 3
      · rw [if_pos c6] at h
        suffices hh : ∃ n, jx_W jx_ShM d (some .int) jc_191 Q n 63 [some (.int x0), some (.int x1), some (.int x2)] [] σ by
          obtain ⟨n, hn⟩ := hh
          exact ⟨n + 2, And.intro (fun zz => absurd zz c8) (fun _ => And.intro (fun zz => absurd zz c7) (fun _ => And.intro (fun _ => hn) (fun zz => absurd c6 zz)))⟩
        by_cases c3 : x2 = 6
        · rw [if_pos c3] at h
          suffices hh : ∃ n, jx_W jx_ShM d (some .int) jc_191 Q n 69 [some (.int x0), some (.int x1), some (.int x2)] [] σ by
            obtain ⟨n, hn⟩ := hh
            exact ⟨n + 3, And.intro (fun zz => absurd c3 zz) (fun _ => hn)⟩
          cases h
          exact ⟨5, And.intro hQ (And.intro rfl rfl)⟩
        · rw [if_neg c3] at h
          suffices hh : ∃ n, jx_W jx_ShM d (some .int) jc_191 Q n 73 [some (.int x0), some (.int x1), some (.int x2)] [] σ by
            obtain ⟨n, hn⟩ := hh
            exact ⟨n + 3, And.intro (fun _ => hn) (fun zz => absurd zz c3)⟩
          cases h
          exact ⟨6, And.intro hQ (And.intro rfl rfl)⟩
      · rw [if_neg c6] at h
        by_cases c5 : x0 = 4
        · rw [if_pos c5] at h
          suffices hh : ∃ n, jx_W jx_ShM d (some .int) jc_191 Q n 79 [some (.int x0), some (.int x1), some (.int x2)] [] σ by
            obtain ⟨n, hn⟩ := hh
            exact ⟨n + 2, And.intro (fun zz => absurd zz c8) (fun _ => And.intro (fun zz => absurd zz c7) (fun _ => And.intro (fun zz => absurd zz c6) (fun _ => And.intro (fun _ => hn) (fun zz => absurd c5 zz))))⟩
          cases h
          exact ⟨6, And.intro (by decide) (And.intro hQ (And.intro rfl rfl))⟩
        · rw [if_neg c5] at h
          by_cases c4 : x0 = 5
          · rw [if_pos c4] at h
            suffices hh : ∃ n, jx_W jx_ShM d (some .int) jc_191 Q n 85 [some (.int x0), some (.int x1), some (.int x2)] [] σ by
              obtain ⟨n, hn⟩ := hh
              exact ⟨n + 2, And.intro (fun zz => absurd zz c8) (fun _ => And.intro (fun zz => absurd zz c7) (fun _ => And.intro (fun zz => absurd zz c6) (fun _ => And.intro (fun zz => absurd zz c5) (fun _ => And.intro (fun _ => hn) (fun zz => absurd c4 zz)))))⟩
            cases h
            exact ⟨10, And.intro (by decide) (And.intro (by decide) (And.intro hQ (And.intro rfl rfl)))⟩
          · rw [if_neg c4] at h
            cases h
            exact ⟨4, And.intro (fun zz => absurd zz c8) (fun _ => And.intro (fun zz => absurd zz c7) (fun _ => And.intro (fun zz => absurd zz c6) (fun _ => And.intro (fun zz => absurd zz c5) (fun _ => And.intro (fun zz => absurd zz c4) (fun _ => And.intro hQ (And.intro rfl rfl))))))⟩
set_option maxRecDepth 20000 in
theorem s_M_far {N d : Nat} {x0 : Int32} {x1 : Int32} (hd : 1 ≤ d) {σ : jw_M} {z : (Int32 × jw_M)} {Q : jw_Q} (h : f_M_far N x0 x1 σ = some z) (hQ : Q (some (.int z.1)) (jx_ShM, z.2)) : jw_C jp_kd jp_ys d 192 [.int x0, .int x1] (jx_ShM, σ) Q := by
  obtain ⟨d, rfl⟩ : ∃ e, d = e + 1 := ⟨d - 1, by omega⟩
  replace hd : 0 ≤ d := by omega
  refine jx_C rfl rfl ?_
  unfold f_M_far at h
  by_cases c1 : x1 ≤ x0
  · rw [if_pos c1] at h
    suffices hh : ∃ n, jx_W jx_ShM d (some .int) jc_192 Q n 11 [some (.int x0), some (.int x1)] [] σ by
      obtain ⟨n, hn⟩ := hh
      exact ⟨n + 3, And.intro (fun _ => hn) (fun zz => absurd c1 zz)⟩
    cases h
    exact ⟨4, And.intro hQ (And.intro rfl rfl)⟩
  · rw [if_neg c1] at h
    suffices hh : ∃ n, jx_W jx_ShM d (some .int) jc_192 Q n 5 [some (.int x0), some (.int x1)] [] σ by
      obtain ⟨n, hn⟩ := hh
      exact ⟨n + 3, And.intro (fun zz => absurd zz c1) (fun _ => hn)⟩
    cases h
    exact ⟨5, And.intro hQ (And.intro rfl rfl)⟩
set_option maxRecDepth 20000 in
theorem s_M_lengthBy {N d : Nat} {x0 : Int32} {x1 : Int32} {x2 : Int32} (hd : 2 ≤ d) {σ : jw_M} {z : (Int32 × jw_M)} {Q : jw_Q} (h : f_M_lengthBy N x0 x1 x2 σ = some z) (hQ : Q (some (.int z.1)) (jx_ShM, z.2)) : jw_C jp_kd jp_ys d 193 [.int x0, .int x1, .int x2] (jx_ShM, σ) Q := by
  obtain ⟨d, rfl⟩ : ∃ e, d = e + 1 := ⟨d - 1, by omega⟩
  replace hd : 1 ≤ d := by omega
  refine jx_C rfl rfl ?_
  unfold f_M_lengthBy at h
  by_cases c12 : x0 = 3
  · rw [if_pos c12] at h
    suffices hh : ∃ n, jx_W jx_ShM d (some .int) jc_193 Q n 28 [some (.int x0), some (.int x1), some (.int x2), none] [] σ by
      obtain ⟨n, hn⟩ := hh
      exact ⟨n + 2, And.intro (fun _ => hn) (fun zz => absurd c12 zz)⟩
    obtain ⟨z1, h2, h⟩ := Option.bind_eq_some_iff.mp h
    by_cases c3 : 0 ≤ ((x1 * z1.1) - 2)
    · rw [if_pos c3] at h
      suffices hh : ∃ n, jx_W jx_ShM d (some .int) jc_193 Q n 47 [some (.int x0), some (.int x1), some (.int x2), some (.int ((x1 * z1.1) - 2))] [] z1.2 by
        obtain ⟨n, hn⟩ := hh
        exact ⟨n + 10, s_M_far (by omega) h2 (And.intro (fun _ => hn) (fun zz => absurd c3 zz))⟩
      cases h
      exact ⟨2, And.intro hQ (And.intro rfl rfl)⟩
    · rw [if_neg c3] at h
      suffices hh : ∃ n, jx_W jx_ShM d (some .int) jc_193 Q n 43 [some (.int x0), some (.int x1), some (.int x2), some (.int ((x1 * z1.1) - 2))] [] z1.2 by
        obtain ⟨n, hn⟩ := hh
        exact ⟨n + 10, s_M_far (by omega) h2 (And.intro (fun zz => absurd zz c3) (fun _ => hn))⟩
      cases h
      exact ⟨3, And.intro hQ (And.intro rfl rfl)⟩
  · rw [if_neg c12] at h
    by_cases c11 : x0 = 4
    · rw [if_pos c11] at h
      suffices hh : ∃ n, jx_W jx_ShM d (some .int) jc_193 Q n 49 [some (.int x0), some (.int x1), some (.int x2), none] [] σ by
        obtain ⟨n, hn⟩ := hh
        exact ⟨n + 2, And.intro (fun zz => absurd zz c12) (fun _ => And.intro (fun _ => hn) (fun zz => absurd c11 zz))⟩
      obtain ⟨z4, h5, h⟩ := Option.bind_eq_some_iff.mp h
      cases h
      exact ⟨6, s_M_far (by omega) h5 (And.intro hQ (And.intro rfl rfl))⟩
    · rw [if_neg c11] at h
      by_cases c10 : x0 = 5
      · rw [if_pos c10] at h
        suffices hh : ∃ n, jx_W jx_ShM d (some .int) jc_193 Q n 58 [some (.int x0), some (.int x1), some (.int x2), none] [] σ by
          obtain ⟨n, hn⟩ := hh
          exact ⟨n + 2, And.intro (fun zz => absurd zz c12) (fun _ => And.intro (fun zz => absurd zz c11) (fun _ => And.intro (fun _ => hn) (fun zz => absurd c10 zz)))⟩
        obtain ⟨z6, h7, h⟩ := Option.bind_eq_some_iff.mp h
        cases h
        exact ⟨8, s_M_far (by omega) h7 (And.intro hQ (And.intro rfl rfl))⟩
      · rw [if_neg c10] at h
        obtain ⟨z8, h9, h⟩ := Option.bind_eq_some_iff.mp h
        cases h
        exact ⟨8, And.intro (fun zz => absurd zz c12) (fun _ => And.intro (fun zz => absurd zz c11) (fun _ => And.intro (fun zz => absurd zz c10) (fun _ => s_M_far (by omega) h9 (And.intro hQ (And.intro rfl rfl)))))⟩
set_option maxRecDepth 20000 in
theorem s_M_isUnder_29 {N d : Nat} {Q : jw_Q} (hd : 0 ≤ d) {u0 : Option Value} {u1 : Option Value} {σ : jw_M} {z : (Int32 × jw_M)} (h : f_M_isUnder_29 N  σ = some z) (hQ : Q (some (.int z.1)) (jx_ShM, z.2)) : ∃ n, jx_W jx_ShM d (some .boolean) jc_194 Q n 29 [u0, u1] [] σ := by
  unfold f_M_isUnder_29 at h
  cases h
  exact ⟨3, And.intro (Or.inr rfl) (And.intro hQ (And.intro rfl rfl))⟩
set_option maxRecDepth 20000 in
theorem s_M_isUnder_19 {N d : Nat} {Q : jw_Q} (hd : 0 ≤ d) {x0 : Int32} {x1 : Int32} {σ : jw_M} {z : (Int32 × jw_M)} (h : f_M_isUnder_19 N x0 x1 σ = some z) (hQ : Q (some (.int z.1)) (jx_ShM, z.2)) : ∃ n, jx_W jx_ShM d (some .boolean) jc_194 Q n 19 [some (.int x0), some (.int x1)] [] σ := by
  unfold f_M_isUnder_19 at h
  by_cases c5 : x1 = 4
  · rw [if_pos c5] at h
    suffices hh : ∃ n, jx_W jx_ShM d (some .boolean) jc_194 Q n 24 [some (.int x0), some (.int x1)] [] σ by
      obtain ⟨n, hn⟩ := hh
      exact ⟨n + 3, And.intro (fun zz => absurd c5 zz) (fun _ => hn)⟩
    by_cases c6 : x0 = 5
    · rw [if_pos c6] at h
      suffices hh : ∃ n, jx_W jx_ShM d (some .boolean) jc_194 Q n 29 [some (.int x0), some (.int x1)] [] σ by
        obtain ⟨n, hn⟩ := hh
        exact ⟨n + 3, And.intro (fun zz => absurd c6 zz) (fun _ => hn)⟩
      obtain ⟨n, hn⟩ := s_M_isUnder_29 hd (u0 := some (.int x0)) (u1 := some (.int x1)) h hQ
      exact ⟨n + 0, hn⟩
    · rw [if_neg c6] at h
      suffices hh : ∃ n, jx_W jx_ShM d (some .boolean) jc_194 Q n 33 [some (.int x0), some (.int x1)] [] σ by
        obtain ⟨n, hn⟩ := hh
        exact ⟨n + 3, And.intro (fun _ => hn) (fun zz => absurd zz c6)⟩
      cases h
      exact ⟨2, And.intro (Or.inl rfl) (And.intro hQ (And.intro rfl rfl))⟩
  · rw [if_neg c5] at h
    suffices hh : ∃ n, jx_W jx_ShM d (some .boolean) jc_194 Q n 33 [some (.int x0), some (.int x1)] [] σ by
      obtain ⟨n, hn⟩ := hh
      exact ⟨n + 3, And.intro (fun _ => hn) (fun zz => absurd zz c5)⟩
    cases h
    exact ⟨2, And.intro (Or.inl rfl) (And.intro hQ (And.intro rfl rfl))⟩
set_option maxRecDepth 20000 in
theorem s_M_isUnder {N d : Nat} {x0 : Int32} {x1 : Int32} (hd : 1 ≤ d) {σ : jw_M} {z : (Int32 × jw_M)} {Q : jw_Q} (h : f_M_isUnder N x0 x1 σ = some z) (hQ : Q (some (.int z.1)) (jx_ShM, z.2)) : jw_C jp_kd jp_ys d 194 [.int x0, .int x1] (jx_ShM, σ) Q := by
  obtain ⟨d, rfl⟩ : ∃ e, d = e + 1 := ⟨d - 1, by omega⟩
  replace hd : 0 ≤ d := by omega
  refine jx_C rfl rfl ?_
  unfold f_M_isUnder at h
  by_cases c1 : x1 = 0
  · rw [if_pos c1] at h
    suffices hh : ∃ n, jx_W jx_ShM d (some .boolean) jc_194 Q n 29 [some (.int x0), some (.int x1)] [] σ by
      obtain ⟨n, hn⟩ := hh
      exact ⟨n + 2, And.intro (fun _ => hn) (fun zz => absurd c1 zz)⟩
    obtain ⟨n, hn⟩ := s_M_isUnder_29 hd (u0 := some (.int x0)) (u1 := some (.int x1)) h hQ
    exact ⟨n + 0, hn⟩
  · rw [if_neg c1] at h
    suffices hh : ∃ n, jx_W jx_ShM d (some .boolean) jc_194 Q n 4 [some (.int x0), some (.int x1)] [] σ by
      obtain ⟨n, hn⟩ := hh
      exact ⟨n + 2, And.intro (fun zz => absurd zz c1) (fun _ => hn)⟩
    by_cases c2 : x1 = x0
    · rw [if_pos c2] at h
      suffices hh : ∃ n, jx_W jx_ShM d (some .boolean) jc_194 Q n 29 [some (.int x0), some (.int x1)] [] σ by
        obtain ⟨n, hn⟩ := hh
        exact ⟨n + 3, And.intro (fun _ => hn) (fun zz => absurd c2 zz)⟩
      obtain ⟨n, hn⟩ := s_M_isUnder_29 hd (u0 := some (.int x0)) (u1 := some (.int x1)) h hQ
      exact ⟨n + 0, hn⟩
    · rw [if_neg c2] at h
      suffices hh : ∃ n, jx_W jx_ShM d (some .boolean) jc_194 Q n 9 [some (.int x0), some (.int x1)] [] σ by
        obtain ⟨n, hn⟩ := hh
        exact ⟨n + 3, And.intro (fun zz => absurd zz c2) (fun _ => hn)⟩
      by_cases c3 : x1 = 2
      · rw [if_pos c3] at h
        suffices hh : ∃ n, jx_W jx_ShM d (some .boolean) jc_194 Q n 14 [some (.int x0), some (.int x1)] [] σ by
          obtain ⟨n, hn⟩ := hh
          exact ⟨n + 3, And.intro (fun zz => absurd c3 zz) (fun _ => hn)⟩
        by_cases c4 : x0 = 3
        · rw [if_pos c4] at h
          suffices hh : ∃ n, jx_W jx_ShM d (some .boolean) jc_194 Q n 29 [some (.int x0), some (.int x1)] [] σ by
            obtain ⟨n, hn⟩ := hh
            exact ⟨n + 3, And.intro (fun _ => hn) (fun zz => absurd c4 zz)⟩
          obtain ⟨n, hn⟩ := s_M_isUnder_29 hd (u0 := some (.int x0)) (u1 := some (.int x1)) h hQ
          exact ⟨n + 0, hn⟩
        · rw [if_neg c4] at h
          suffices hh : ∃ n, jx_W jx_ShM d (some .boolean) jc_194 Q n 19 [some (.int x0), some (.int x1)] [] σ by
            obtain ⟨n, hn⟩ := hh
            exact ⟨n + 3, And.intro (fun zz => absurd zz c4) (fun _ => hn)⟩
          obtain ⟨n, hn⟩ := s_M_isUnder_19 hd h hQ
          exact ⟨n + 0, hn⟩
      · rw [if_neg c3] at h
        suffices hh : ∃ n, jx_W jx_ShM d (some .boolean) jc_194 Q n 19 [some (.int x0), some (.int x1)] [] σ by
          obtain ⟨n, hn⟩ := hh
          exact ⟨n + 3, And.intro (fun _ => hn) (fun zz => absurd zz c3)⟩
        obtain ⟨n, hn⟩ := s_M_isUnder_19 hd h hQ
        exact ⟨n + 0, hn⟩
