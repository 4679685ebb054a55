set_option maxRecDepth 20000 in
theorem s_M_narrowed {N d : Nat} {x0 : Int32} {x1 : Int32} (hd : 1 ≤ d) {σ : jw_M} {z : (Int64 × jw_M)} {Q : jw_Q} (h : f_M_narrowed N x0 x1 σ = some z) (hQ : Q (some (.long z.1)) (jx_ShM, z.2)) : jw_C jp_kd jp_ys d 291 [.int x0, .int x1] (jx_ShM, σ) Q := by
  obtain ⟨d, rfl⟩ : ∃ e, d = e + 1 := ⟨d - 1, by omega⟩
  replace hd : 0 ≤ d := by omega
  refine jx_C rfl rfl ?_
  unfold f_M_narrowed at h
  by_cases c1 : x0 = 0
  · rw [if_pos c1] at h
    suffices hh : ∃ n, jx_W jx_ShM d (some .long) jc_291 Q n 4 [some (.int x0), some (.int x1)] [] σ by
      obtain ⟨n, hn⟩ := hh
      exact ⟨n + 2, And.intro (fun zz => absurd c1 zz) (fun _ => hn)⟩
    cases h
    exact ⟨5, And.intro hQ (And.intro rfl rfl)⟩
  · rw [if_neg c1] at h
    suffices hh : ∃ n, jx_W jx_ShM d (some .long) jc_291 Q n 10 [some (.int x0), some (.int x1)] [] σ by
      obtain ⟨n, hn⟩ := hh
      exact ⟨n + 2, And.intro (fun _ => hn) (fun zz => absurd zz c1)⟩
    by_cases c2 : x0 = 1
    · rw [if_pos c2] at h
      suffices hh : ∃ n, jx_W jx_ShM d (some .long) jc_291 Q n 15 [some (.int x0), some (.int x1)] [] σ by
        obtain ⟨n, hn⟩ := hh
        exact ⟨n + 3, And.intro (fun zz => absurd c2 zz) (fun _ => hn)⟩
      cases h
      exact ⟨5, And.intro hQ (And.intro rfl rfl)⟩
    · rw [if_neg c2] at h
      suffices hh : ∃ n, jx_W jx_ShM d (some .long) jc_291 Q n 21 [some (.int x0), some (.int x1)] [] σ by
        obtain ⟨n, hn⟩ := hh
        exact ⟨n + 3, And.intro (fun _ => hn) (fun zz => absurd zz c2)⟩
      by_cases c3 : x0 = 4
      · rw [if_pos c3] at h
        suffices hh : ∃ n, jx_W jx_ShM d (some .long) jc_291 Q n 26 [some (.int x0), some (.int x1)] [] σ by
          obtain ⟨n, hn⟩ := hh
          exact ⟨n + 3, And.intro (fun zz => absurd c3 zz) (fun _ => hn)⟩
        by_cases c4 : x1 = 0
        · rw [if_pos c4] at h
          suffices hh : ∃ n, jx_W jx_ShM d (some .long) jc_291 Q n 34 [some (.int x0), some (.int x1)] [] σ by
            obtain ⟨n, hn⟩ := hh
            exact ⟨n + 2, And.intro (fun _ => hn) (fun zz => absurd c4 zz)⟩
          cases h
          exact ⟨3, And.intro hQ (And.intro rfl rfl)⟩
        · rw [if_neg c4] at h
          suffices hh : ∃ n, jx_W jx_ShM d (some .long) jc_291 Q n 30 [some (.int x0), some (.int x1)] [] σ by
            obtain ⟨n, hn⟩ := hh
            exact ⟨n + 2, And.intro (fun zz => absurd zz c4) (fun _ => hn)⟩
          cases h
          exact ⟨3, And.intro hQ (And.intro rfl rfl)⟩
      · rw [if_neg c3] at h
        suffices hh : ∃ n, jx_W jx_ShM d (some .long) jc_291 Q n 38 [some (.int x0), some (.int x1)] [] σ by
          obtain ⟨n, hn⟩ := hh
          exact ⟨n + 3, And.intro (fun _ => hn) (fun zz => absurd zz c3)⟩
        cases h
        exact ⟨3, And.intro hQ (And.intro rfl rfl)⟩
set_option maxRecDepth 20000 in
theorem s_M_write {N d : Nat} {x1 : Int32} {x2 : Int32} {x3 : Int32} (hd : 3 ≤ d) {σ : jw_M} {z : (Int32 × jw_M)} {Q : jw_Q} (h : f_M_write N x1 x2 x3 σ = some z) (hQ : Q (some (.int z.1)) (jx_ShM, z.2)) : jw_C jp_kd jp_ys d 292 [.ref 0, .int x1, .int x2, .int x3] (jx_ShM, σ) Q := by
  obtain ⟨d, rfl⟩ : ∃ e, d = e + 1 := ⟨d - 1, by omega⟩
  replace hd : 2 ≤ d := by omega
  refine jx_C rfl rfl ?_
  unfold f_M_write at h
  obtain ⟨z1, h2, h⟩ := Option.bind_eq_some_iff.mp h
  by_cases c3 : z1.1 = 0
  · rw [if_pos c3] at h
    suffices hh : ∃ n, jx_W jx_ShM d (some .int) jc_292 Q n 7 [some (.ref 0), some (.int x1), some (.int x2), some (.int x3)] [] z1.2 by
      obtain ⟨n, hn⟩ := hh
      exact ⟨n + 3, s_M_isSheet (by omega) h2 (And.intro (fun zz => absurd c3 zz) (fun _ => hn))⟩
    cases h
    exact ⟨2, And.intro hQ (And.intro rfl rfl)⟩
  · rw [if_neg c3] at h
    suffices hh : ∃ n, jx_W jx_ShM d (some .int) jc_292 Q n 9 [some (.ref 0), some (.int x1), some (.int x2), some (.int x3)] [] z1.2 by
      obtain ⟨n, hn⟩ := hh
      exact ⟨n + 3, s_M_isSheet (by omega) h2 (And.intro (fun _ => hn) (fun zz => absurd zz c3))⟩
    cases c4 : jx_in x1 4 with
    | false => rw [c4, cond_false] at h; cases h
    | true =>
      rw [c4, cond_true] at h
      by_cases c5 : 0 ≤ (z1.2.1 14 (x1).toNatClampNeg)
      · rw [if_pos c5] at h
        suffices hh : ∃ n, jx_W jx_ShM d (some .int) jc_292 Q n 21 [some (.ref 0), some (.int x1), some (.int x2), some (.int x3)] [] z1.2 by
          obtain ⟨n, hn⟩ := hh
          exact ⟨n + 5, And.intro (jx_in_ok c4) (And.intro (fun _ => hn) (fun zz => absurd c5 zz))⟩
        obtain ⟨z6, h7, h⟩ := Option.bind_eq_some_iff.mp h
        by_cases c8 : z6.1 = 0
        · rw [if_pos c8] at h
          suffices hh : ∃ n, jx_W jx_ShM d (some .int) jc_292 Q n 37 [some (.ref 0), some (.int x1), some (.int x2), some (.int x3)] [] z6.2 by
            obtain ⟨n, hn⟩ := hh
            exact ⟨n + 10, And.intro (jx_in_ok c4) (s_M_in (by omega) h7 (And.intro (fun zz => absurd c8 zz) (fun _ => hn)))⟩
          cases h
          exact ⟨2, And.intro hQ (And.intro rfl rfl)⟩
        · rw [if_neg c8] at h
          suffices hh : ∃ n, jx_W jx_ShM d (some .int) jc_292 Q n 40 [some (.ref 0), some (.int x1), some (.int x2), some (.int x3)] [] z6.2 by
            obtain ⟨n, hn⟩ := hh
            exact ⟨n + 10, And.intro (jx_in_ok c4) (s_M_in (by omega) h7 (And.intro (fun _ => hn) (fun zz => absurd zz c8)))⟩
          obtain ⟨z9, h10, h⟩ := Option.bind_eq_some_iff.mp h
          cases c11 : jx_in ((40 * x1) + x2) 160 with
          | false => rw [c11, cond_false] at h; cases h
          | true =>
            rw [c11, cond_true] at h
            cases h
            exact ⟨16, And.intro (jx_in_ok c4) (s_M_narrowed (by omega) h10 (And.intro (jx_in_ok c11) (And.intro hQ (And.intro rfl rfl))))⟩
      · rw [if_neg c5] at h
        suffices hh : ∃ n, jx_W jx_ShM d (some .int) jc_292 Q n 18 [some (.ref 0), some (.int x1), some (.int x2), some (.int x3)] [] z1.2 by
          obtain ⟨n, hn⟩ := hh
          exact ⟨n + 5, And.intro (jx_in_ok c4) (And.intro (fun zz => absurd zz c5) (fun _ => hn))⟩
        cases h
        exact ⟨2, And.intro hQ (And.intro rfl rfl)⟩
set_option maxRecDepth 20000 in
theorem s_M_item {N d : Nat} {x1 : Int32} {x2 : Int32} {x3 : Int32} (hd : 3 ≤ d) {σ : jw_M} {z : (Int32 × jw_M)} {Q : jw_Q} (h : f_M_item N x1 x2 x3 σ = some z) (hQ : Q (some (.int z.1)) (jx_ShM, z.2)) : jw_C jp_kd jp_ys d 293 [.ref 0, .int x1, .int x2, .int x3] (jx_ShM, σ) Q := by
  obtain ⟨d, rfl⟩ : ∃ e, d = e + 1 := ⟨d - 1, by omega⟩
  replace hd : 2 ≤ d := by omega
  refine jx_C rfl rfl ?_
  unfold f_M_item at h
  obtain ⟨z1, h2, h⟩ := Option.bind_eq_some_iff.mp h
  by_cases c3 : z1.1 = 0
  · rw [if_pos c3] at h
    suffices hh : ∃ n, jx_W jx_ShM d (some .int) jc_293 Q n 16 [some (.ref 0), some (.int x1), some (.int x2), some (.int x3), none] [] z1.2 by
      obtain ⟨n, hn⟩ := hh
      exact ⟨n + 3, s_M_isSheet (by omega) h2 (And.intro (fun _ => hn) (fun zz => absurd c3 zz))⟩
    cases h
    exact ⟨2, And.intro hQ (And.intro rfl rfl)⟩
  · rw [if_neg c3] at h
    suffices hh : ∃ n, jx_W jx_ShM d (some .int) jc_293 Q n 7 [some (.ref 0), some (.int x1), some (.int x2), some (.int x3), none] [] z1.2 by
      obtain ⟨n, hn⟩ := hh
      exact ⟨n + 3, s_M_isSheet (by omega) h2 (And.intro (fun zz => absurd zz c3) (fun _ => hn))⟩
    obtain ⟨z4, h5, h⟩ := Option.bind_eq_some_iff.mp h
    by_cases c6 : z4.1 = 0
    · rw [if_pos c6] at h
      suffices hh : ∃ n, jx_W jx_ShM d (some .int) jc_293 Q n 16 [some (.ref 0), some (.int x1), some (.int x2), some (.int x3), none] [] z4.2 by
        obtain ⟨n, hn⟩ := hh
        exact ⟨n + 5, s_M_in (by omega) h5 (And.intro (fun zz => absurd c6 zz) (fun _ => hn))⟩
      cases h
      exact ⟨2, And.intro hQ (And.intro rfl rfl)⟩
    · rw [if_neg c6] at h
      suffices hh : ∃ n, jx_W jx_ShM d (some .int) jc_293 Q n 18 [some (.ref 0), some (.int x1), some (.int x2), some (.int x3), none] [] z4.2 by
        obtain ⟨n, hn⟩ := hh
        exact ⟨n + 5, s_M_in (by omega) h5 (And.intro (fun _ => hn) (fun zz => absurd zz c6))⟩
      obtain ⟨z7, h8, h⟩ := Option.bind_eq_some_iff.mp h
      by_cases c9 : z7.1 = 0
      · rw [if_pos c9] at h
        suffices hh : ∃ n, jx_W jx_ShM d (some .int) jc_293 Q n 34 [some (.ref 0), some (.int x1), some (.int x2), some (.int x3), some (.int z7.1)] [] z7.2 by
          obtain ⟨n, hn⟩ := hh
          exact ⟨n + 7, s_M_lacksSort (by omega) h8 (And.intro (fun _ => hn) (fun zz => absurd c9 zz))⟩
        cases c10 : jx_in x1 4 with
        | false => rw [c10, cond_false] at h; cases h
        | true =>
          rw [c10, cond_true] at h
          obtain ⟨z11, h12, h⟩ := Option.bind_eq_some_iff.mp h
          by_cases c13 : z11.1 = 0
          · rw [if_pos c13] at h
            suffices hh : ∃ n, jx_W jx_ShM d (some .int) jc_293 Q n 65 [some (.ref 0), some (.int x1), some (.int x2), some (.int x3), some (.int z7.1)] [] z11.2 by
              obtain ⟨n, hn⟩ := hh
              exact ⟨n + 10, And.intro (jx_in_ok c10) (s_M_in (by omega) h12 (And.intro (fun _ => hn) (fun zz => absurd c13 zz)))⟩
            cases h
            exact ⟨2, And.intro hQ (And.intro rfl rfl)⟩
          · rw [if_neg c13] at h
            suffices hh : ∃ n, jx_W jx_ShM d (some .int) jc_293 Q n 50 [some (.ref 0), some (.int x1), some (.int x2), some (.int x3), some (.int z7.1)] [] z11.2 by
              obtain ⟨n, hn⟩ := hh
              exact ⟨n + 10, And.intro (jx_in_ok c10) (s_M_in (by omega) h12 (And.intro (fun zz => absurd zz c13) (fun _ => hn)))⟩
            cases c14 : jx_in ((40 * x1) + x3) 160 with
            | false => rw [c14, cond_false] at h; cases h
            | true =>
              rw [c14, cond_true] at h
              cases h
              exact ⟨11, And.intro (jx_in_ok c14) (And.intro hQ (And.intro rfl rfl))⟩
      · rw [if_neg c9] at h
        suffices hh : ∃ n, jx_W jx_ShM d (some .int) jc_293 Q n 31 [some (.ref 0), some (.int x1), some (.int x2), some (.int x3), some (.int z7.1)] [] z7.2 by
          obtain ⟨n, hn⟩ := hh
          exact ⟨n + 7, s_M_lacksSort (by omega) h8 (And.intro (fun zz => absurd zz c9) (fun _ => hn))⟩
        cases h
        exact ⟨2, And.intro hQ (And.intro rfl rfl)⟩
set_option maxRecDepth 20000 in
theorem s_M_goAll_129 {N d : Nat} {Q : jw_Q} {K41 : Int32 → Int32 → Int32 → Int32 → Int32 → jw_M → Option (Int32 × jw_M)} (hd : 6 ≤ d) (hK41 : ∀ {x1 : Int32} {x2 : Int32} {x3 : Int32} {x5 : Int32} {x6 : Int32} {σ : jw_M} {z : (Int32 × jw_M)} {u4 : Option Value} {u7 : Option Value} {u8 : Option Value} {u9 : Option Value}, K41 x1 x2 x3 x5 x6 σ = some z → Q (some (.int z.1)) (jx_ShM, z.2) → ∃ n, jx_W jx_ShM d (some .int) jc_294 Q n 41 [some (.ref 0), some (.int x1), some (.int x2), some (.int x3), u4, some (.int x5), some (.int x6), u7, u8, u9] [] σ) {x1 : Int32} {x2 : Int32} {x3 : Int32} {x6 : Int32} {y0 : Int32} {y1 : Int32} {u4 : Option Value} {u5 : Option Value} {u7 : Option Value} {u8 : Option Value} {u9 : Option Value} {σ : jw_M} {z : (Int32 × jw_M)} (h : f_M_goAll_129 N K41 x1 x2 x3 x6 y0 y1 σ = some z) (hQ : Q (some (.int z.1)) (jx_ShM, z.2)) : ∃ n, jx_W jx_ShM d (some .int) jc_294 Q n 129 [some (.ref 0), some (.int x1), some (.int x2), some (.int x3), u4, u5, some (.int x6), u7, u8, u9] [.int y1, .int y0] σ := by
  unfold f_M_goAll_129 at h
  obtain ⟨n, hn⟩ := hK41 (u4 := (jw_clr u4)) (u7 := u7) (u8 := u8) (u9 := u9) h hQ
  exact ⟨n + 4, hn⟩
set_option maxRecDepth 20000 in
theorem s_M_goAll_128 {N d : Nat} {Q : jw_Q} {K41 : Int32 → Int32 → Int32 → Int32 → Int32 → jw_M → Option (Int32 × jw_M)} (hd : 6 ≤ d) (hK41 : ∀ {x1 : Int32} {x2 : Int32} {x3 : Int32} {x5 : Int32} {x6 : Int32} {σ : jw_M} {z : (Int32 × jw_M)} {u4 : Option Value} {u7 : Option Value} {u8 : Option Value} {u9 : Option Value}, K41 x1 x2 x3 x5 x6 σ = some z → Q (some (.int z.1)) (jx_ShM, z.2) → ∃ n, jx_W jx_ShM d (some .int) jc_294 Q n 41 [some (.ref 0), some (.int x1), some (.int x2), some (.int x3), u4, some (.int x5), some (.int x6), u7, u8, u9] [] σ) {x1 : Int32} {x2 : Int32} {x3 : Int32} {x6 : Int32} {y0 : Int32} {u4 : Option Value} {u5 : Option Value} {u7 : Option Value} {u8 : Option Value} {u9 : Option Value} {σ : jw_M} {z : (Int32 × jw_M)} (h : f_M_goAll_128 N K41 x1 x2 x3 x6 y0 σ = some z) (hQ : Q (some (.int z.1)) (jx_ShM, z.2)) : ∃ n, jx_W jx_ShM d (some .int) jc_294 Q n 128 [some (.ref 0), some (.int x1), some (.int x2), some (.int x3), u4, u5, some (.int x6), u7, u8, u9] [.int y0] σ := by
  unfold f_M_goAll_128 at h
  obtain ⟨n, hn⟩ := s_M_goAll_129 hd hK41 (u4 := u4) (u5 := u5) (u7 := u7) (u8 := u8) (u9 := u9) h hQ
  exact ⟨n + 1, hn⟩
set_option maxRecDepth 20000 in
theorem s_M_goAll_41 {N d : Nat} {Q : jw_Q} (hd : 6 ≤ d) : ∀ (k : Nat) {x1 : Int32} {x2 : Int32} {x3 : Int32} {x5 : Int32} {x6 : Int32} {u4 : Option Value} {u7 : Option Value} {u8 : Option Value} {u9 : Option Value} {σ : jw_M} {z : (Int32 × jw_M)}, f_M_goAll_41 N k x1 x2 x3 x5 x6 σ = some z → Q (some (.int z.1)) (jx_ShM, z.2) → ∃ n, jx_W jx_ShM d (some .int) jc_294 Q n 41 [some (.ref 0), some (.int x1), some (.int x2), some (.int x3), u4, some (.int x5), some (.int x6), u7, u8, u9] [] σ
  | 0, _, _, _, _, _, _, _, _, _, _, _, h, _ => by cases h
  | k + 1, x1, x2, x3, x5, x6, u4, u7, u8, u9, σ, z, h, hQ => by
    rw [f_M_goAll_41] at h
    by_cases c10 : x3 ≤ x6
    · rw [if_pos c10] at h
      suffices hh : ∃ n, jx_W jx_ShM d (some .int) jc_294 Q n 138 [some (.ref 0), some (.int x1), some (.int x2), some (.int x3), u4, some (.int x5), some (.int x6), u7, u8, u9] [] σ by
        obtain ⟨n, hn⟩ := hh
        exact ⟨n + 3, And.intro (fun _ => hn) (fun zz => absurd c10 zz)⟩
      cases h
      exact ⟨2, And.intro hQ (And.intro rfl rfl)⟩
    · rw [if_neg c10] at h
      suffices hh : ∃ n, jx_W jx_ShM d (some .int) jc_294 Q n 47 [some (.ref 0), some (.int x1), some (.int x2), some (.int x3), u4, some (.int x5), some (.int x6), u7, u8, u9] [] σ by
        obtain ⟨n, hn⟩ := hh
        exact ⟨n + 3, And.intro (fun zz => absurd zz c10) (fun _ => hn)⟩
      by_cases c11 : (lg_cmp (((x2).toInt64 : Int64) + (x6).toInt64) 0) < 0
      · rw [if_pos c11] at h
        suffices hh : ∃ n, jx_W jx_ShM d (some .int) jc_294 Q n 75 [some (.ref 0), some (.int x1), some (.int x2), some (.int x3), u4, some (.int x5), some (.int x6), some (.long (((x2).toInt64 : Int64) + (x6).toInt64)), none, u9] [] σ by
          obtain ⟨n, hn⟩ := hh
          exact ⟨n + 10, And.intro (fun _ => hn) (fun zz => absurd c11 zz)⟩
        cases h
        exact ⟨2, And.intro hQ (And.intro rfl rfl)⟩
      · rw [if_neg c11] at h
        suffices hh : ∃ n, jx_W jx_ShM d (some .int) jc_294 Q n 62 [some (.ref 0), some (.int x1), some (.int x2), some (.int x3), u4, some (.int x5), some (.int x6), some (.long (((x2).toInt64 : Int64) + (x6).toInt64)), none, u9] [] σ by
          obtain ⟨n, hn⟩ := hh
          exact ⟨n + 10, And.intro (fun zz => absurd zz c11) (fun _ => hn)⟩
        cases c12 : jx_in x1 4 with
        | false => rw [c12, cond_false] at h; cases h
        | true =>
          rw [c12, cond_true] at h
          by_cases c13 : (lg_cmp (((x2).toInt64 : Int64) + (x6).toInt64) ((σ.1 15 (x1).toNatClampNeg)).toInt64) < 0
          · rw [if_pos c13] at h
            suffices hh : ∃ n, jx_W jx_ShM d (some .int) jc_294 Q n 78 [some (.ref 0), some (.int x1), some (.int x2), some (.int x3), u4, some (.int x5), some (.int x6), some (.long (((x2).toInt64 : Int64) + (x6).toInt64)), none, u9] [] σ by
              obtain ⟨n, hn⟩ := hh
              exact ⟨n + 8, And.intro (jx_in_ok c12) (And.intro (fun _ => hn) (fun zz => absurd c13 zz))⟩
            cases c14 : jx_in (((40 * x1) + x2) + x6) 160 with
            | false => rw [c14, cond_false] at h; cases h
            | true =>
              rw [c14, cond_true] at h
              obtain ⟨z15, h16, h⟩ := Option.bind_eq_some_iff.mp h
              by_cases c17 : z15.1 = 0
              · rw [if_pos c17] at h
                suffices hh : ∃ n, jx_W jx_ShM d (some .int) jc_294 Q n 128 [some (.ref 0), some (.int x1), some (.int x2), some (.int x3), u4, some (.int x5), some (.int x6), some (.long (((x2).toInt64 : Int64) + (x6).toInt64)), none, some (.int ((σ.2 16 ((((40 * x1) + x2) + x6)).toNatClampNeg)).toInt32)] [.int x5] z15.2 by
                  obtain ⟨n, hn⟩ := hh
                  exact ⟨n + 21, And.intro (jx_in_ok c14) (And.intro (jx_in_ok rfl) (s_M_in (by omega) h16 (And.intro (fun _ => hn) (fun zz => absurd c17 zz))))⟩
                obtain ⟨n, hn⟩ := s_M_goAll_128 hd (s_M_goAll_41 hd k) (u4 := u4) (u5 := some (.int x5)) (u7 := some (.long (((x2).toInt64 : Int64) + (x6).toInt64))) (u8 := none) (u9 := some (.int ((σ.2 16 ((((40 * x1) + x2) + x6)).toNatClampNeg)).toInt32)) h hQ
                exact ⟨n + 0, hn⟩
              · rw [if_neg c17] at h
                suffices hh : ∃ n, jx_W jx_ShM d (some .int) jc_294 Q n 112 [some (.ref 0), some (.int x1), some (.int x2), some (.int x3), u4, some (.int x5), some (.int x6), some (.long (((x2).toInt64 : Int64) + (x6).toInt64)), none, some (.int ((σ.2 16 ((((40 * x1) + x2) + x6)).toNatClampNeg)).toInt32)] [.int x5] z15.2 by
                  obtain ⟨n, hn⟩ := hh
                  exact ⟨n + 21, And.intro (jx_in_ok c14) (And.intro (jx_in_ok rfl) (s_M_in (by omega) h16 (And.intro (fun zz => absurd zz c17) (fun _ => hn))))⟩
                obtain ⟨z18, h19, h⟩ := Option.bind_eq_some_iff.mp h
                by_cases c20 : z18.1 = 0
                · rw [if_pos c20] at h
                  suffices hh : ∃ n, jx_W jx_ShM d (some .int) jc_294 Q n 119 [some (.ref 0), some (.int x1), some (.int x2), some (.int x3), u4, some (.int x5), some (.int x6), some (.long (((x2).toInt64 : Int64) + (x6).toInt64)), none, some (.int ((σ.2 16 ((((40 * x1) + x2) + x6)).toNatClampNeg)).toInt32)] [.int x5] z18.2 by
                    obtain ⟨n, hn⟩ := hh
                    exact ⟨n + 3, s_M_isOver (by omega) h19 (And.intro (fun zz => absurd c20 zz) (fun _ => hn))⟩
                  obtain ⟨z21, h22, h⟩ := Option.bind_eq_some_iff.mp h
                  obtain ⟨n, hn⟩ := s_M_goAll_129 hd (s_M_goAll_41 hd k) (u4 := u4) (u5 := some (.int x5)) (u7 := some (.long (((x2).toInt64 : Int64) + (x6).toInt64))) (u8 := none) (u9 := some (.int ((σ.2 16 ((((40 * x1) + x2) + x6)).toNatClampNeg)).toInt32)) h hQ
                  exact ⟨n + 4, s_M_goes (by omega) h22 (hn)⟩
                · rw [if_neg c20] at h
                  suffices hh : ∃ n, jx_W jx_ShM d (some .int) jc_294 Q n 128 [some (.ref 0), some (.int x1), some (.int x2), some (.int x3), u4, some (.int x5), some (.int x6), some (.long (((x2).toInt64 : Int64) + (x6).toInt64)), none, some (.int ((σ.2 16 ((((40 * x1) + x2) + x6)).toNatClampNeg)).toInt32)] [.int x5] z18.2 by
                    obtain ⟨n, hn⟩ := hh
                    exact ⟨n + 3, s_M_isOver (by omega) h19 (And.intro (fun _ => hn) (fun zz => absurd zz c20))⟩
                  obtain ⟨n, hn⟩ := s_M_goAll_128 hd (s_M_goAll_41 hd k) (u4 := u4) (u5 := some (.int x5)) (u7 := some (.long (((x2).toInt64 : Int64) + (x6).toInt64))) (u8 := none) (u9 := some (.int ((σ.2 16 ((((40 * x1) + x2) + x6)).toNatClampNeg)).toInt32)) h hQ
                  exact ⟨n + 0, hn⟩
          · rw [if_neg c13] at h
            suffices hh : ∃ n, jx_W jx_ShM d (some .int) jc_294 Q n 75 [some (.ref 0), some (.int x1), some (.int x2), some (.int x3), u4, some (.int x5), some (.int x6), some (.long (((x2).toInt64 : Int64) + (x6).toInt64)), none, u9] [] σ by
              obtain ⟨n, hn⟩ := hh
              exact ⟨n + 8, And.intro (jx_in_ok c12) (And.intro (fun zz => absurd zz c13) (fun _ => hn))⟩
            cases h
            exact ⟨2, And.intro hQ (And.intro rfl rfl)⟩
set_option maxRecDepth 20000 in
theorem s_M_goAll {N d : Nat} {x1 : Int32} {x2 : Int32} {x3 : Int32} (hd : 7 ≤ d) {σ : jw_M} {z : (Int32 × jw_M)} {Q : jw_Q} (h : f_M_goAll N x1 x2 x3 σ = some z) (hQ : Q (some (.int z.1)) (jx_ShM, z.2)) : jw_C jp_kd jp_ys d 294 [.ref 0, .int x1, .int x2, .int x3] (jx_ShM, σ) Q := by
  obtain ⟨d, rfl⟩ : ∃ e, d = e + 1 := ⟨d - 1, by omega⟩
  replace hd : 6 ≤ d := by omega
  refine jx_C rfl rfl ?_
  unfold f_M_goAll at h
  obtain ⟨z1, h2, h⟩ := Option.bind_eq_some_iff.mp h
  by_cases c3 : z1.1 = 0
  · rw [if_pos c3] at h
    suffices hh : ∃ n, jx_W jx_ShM d (some .int) jc_294 Q n 17 [some (.ref 0), some (.int x1), some (.int x2), some (.int x3), none, none, none, none, none, none] [] z1.2 by
      obtain ⟨n, hn⟩ := hh
      exact ⟨n + 3, s_M_isSheet (by omega) h2 (And.intro (fun _ => hn) (fun zz => absurd c3 zz))⟩
    cases h
    exact ⟨2, And.intro hQ (And.intro rfl rfl)⟩
  · rw [if_neg c3] at h
    suffices hh : ∃ n, jx_W jx_ShM d (some .int) jc_294 Q n 7 [some (.ref 0), some (.int x1), some (.int x2), some (.int x3), none, none, none, none, none, none] [] z1.2 by
      obtain ⟨n, hn⟩ := hh
      exact ⟨n + 3, s_M_isSheet (by omega) h2 (And.intro (fun zz => absurd zz c3) (fun _ => hn))⟩
    obtain ⟨z4, h5, h⟩ := Option.bind_eq_some_iff.mp h
    by_cases c6 : z4.1 = 0
    · rw [if_pos c6] at h
      suffices hh : ∃ n, jx_W jx_ShM d (some .int) jc_294 Q n 17 [some (.ref 0), some (.int x1), some (.int x2), some (.int x3), none, none, none, none, none, none] [] z4.2 by
        obtain ⟨n, hn⟩ := hh
        exact ⟨n + 5, s_M_in (by omega) h5 (And.intro (fun zz => absurd c6 zz) (fun _ => hn))⟩
      cases h
      exact ⟨2, And.intro hQ (And.intro rfl rfl)⟩
    · rw [if_neg c6] at h
      suffices hh : ∃ n, jx_W jx_ShM d (some .int) jc_294 Q n 19 [some (.ref 0), some (.int x1), some (.int x2), some (.int x3), none, none, none, none, none, none] [] z4.2 by
        obtain ⟨n, hn⟩ := hh
        exact ⟨n + 5, s_M_in (by omega) h5 (And.intro (fun _ => hn) (fun zz => absurd zz c6))⟩
      obtain ⟨z7, h8, h⟩ := Option.bind_eq_some_iff.mp h
      by_cases c9 : z7.1 = 0
      · rw [if_pos c9] at h
        suffices hh : ∃ n, jx_W jx_ShM d (some .int) jc_294 Q n 35 [some (.ref 0), some (.int x1), some (.int x2), some (.int x3), some (.int z7.1), none, none, none, none, none] [] z7.2 by
          obtain ⟨n, hn⟩ := hh
          exact ⟨n + 7, s_M_lacksSort (by omega) h8 (And.intro (fun _ => hn) (fun zz => absurd c9 zz))⟩
        obtain ⟨n, hn⟩ := s_M_goAll_41 hd N (u4 := some (.int z7.1)) (u7 := none) (u8 := none) (u9 := none) h hQ
        exact ⟨n + 4, hn⟩
      · rw [if_neg c9] at h
        suffices hh : ∃ n, jx_W jx_ShM d (some .int) jc_294 Q n 32 [some (.ref 0), some (.int x1), some (.int x2), some (.int x3), some (.int z7.1), none, none, none, none, none] [] z7.2 by
          obtain ⟨n, hn⟩ := hh
          exact ⟨n + 7, s_M_lacksSort (by omega) h8 (And.intro (fun zz => absurd zz c9) (fun _ => hn))⟩
        cases h
        exact ⟨2, And.intro hQ (And.intro rfl rfl)⟩
set_option maxRecDepth 20000 in
theorem s_M_wouldGo_6 {N d : Nat} {Q : jw_Q} (hd : 6 ≤ d) : ∀ (k : Nat) {x1 : Int32} {x2 : Int32} {x3 : Int32} {x4 : Int32} {x5 : Int32} {u6 : Option Value} {u7 : Option Value} {u8 : Option Value} {σ : jw_M} {z : (Int32 × jw_M)}, f_M_wouldGo_6 N k x1 x2 x3 x4 x5 σ = some z → Q (some (.int z.1)) (jx_ShM, z.2) → ∃ n, jx_W jx_ShM d (some .int) jc_295 Q n 6 [some (.ref 0), some (.int x1), some (.int x2), some (.int x3), some (.int x4), some (.int x5), u6, u7, u8] [] σ
  | 0, _, _, _, _, _, _, _, _, _, _, h, _ => by cases h
  | k + 1, x1, x2, x3, x4, x5, u6, u7, u8, σ, z, h, hQ => by
    rw [f_M_wouldGo_6] at h
    by_cases c1 : x3 ≤ x5
    · rw [if_pos c1] at h
      suffices hh : ∃ n, jx_W jx_ShM d (some .int) jc_295 Q n 102 [some (.ref 0), some (.int x1), some (.int x2), some (.int x3), some (.int x4), some (.int x5), u6, u7, u8] [] σ by
        obtain ⟨n, hn⟩ := hh
        exact ⟨n + 3, And.intro (fun _ => hn) (fun zz => absurd c1 zz)⟩
      cases h
      exact ⟨2, And.intro hQ (And.intro rfl rfl)⟩
    · rw [if_neg c1] at h
      suffices hh : ∃ n, jx_W jx_ShM d (some .int) jc_295 Q n 12 [some (.ref 0), some (.int x1), some (.int x2), some (.int x3), some (.int x4), some (.int x5), u6, u7, u8] [] σ by
        obtain ⟨n, hn⟩ := hh
        exact ⟨n + 3, And.intro (fun zz => absurd zz c1) (fun _ => hn)⟩
      by_cases c2 : (lg_cmp (((x2).toInt64 : Int64) + (x5).toInt64) 0) < 0
      · rw [if_pos c2] at h
        suffices hh : ∃ n, jx_W jx_ShM d (some .int) jc_295 Q n 40 [some (.ref 0), some (.int x1), some (.int x2), some (.int x3), some (.int x4), some (.int x5), some (.long (((x2).toInt64 : Int64) + (x5).toInt64)), none, u8] [] σ by
          obtain ⟨n, hn⟩ := hh
          exact ⟨n + 10, And.intro (fun _ => hn) (fun zz => absurd c2 zz)⟩
        cases h
        exact ⟨2, And.intro hQ (And.intro rfl rfl)⟩
      · rw [if_neg c2] at h
        suffices hh : ∃ n, jx_W jx_ShM d (some .int) jc_295 Q n 27 [some (.ref 0), some (.int x1), some (.int x2), some (.int x3), some (.int x4), some (.int x5), some (.long (((x2).toInt64 : Int64) + (x5).toInt64)), none, u8] [] σ by
          obtain ⟨n, hn⟩ := hh
          exact ⟨n + 10, And.intro (fun zz => absurd zz c2) (fun _ => hn)⟩
        cases c3 : jx_in x1 4 with
        | false => rw [c3, cond_false] at h; cases h
        | true =>
          rw [c3, cond_true] at h
          by_cases c4 : (lg_cmp (((x2).toInt64 : Int64) + (x5).toInt64) ((σ.1 15 (x1).toNatClampNeg)).toInt64) < 0
          · rw [if_pos c4] at h
            suffices hh : ∃ n, jx_W jx_ShM d (some .int) jc_295 Q n 43 [some (.ref 0), some (.int x1), some (.int x2), some (.int x3), some (.int x4), some (.int x5), some (.long (((x2).toInt64 : Int64) + (x5).toInt64)), none, u8] [] σ by
              obtain ⟨n, hn⟩ := hh
              exact ⟨n + 8, And.intro (jx_in_ok c3) (And.intro (fun _ => hn) (fun zz => absurd c4 zz))⟩
            cases c5 : jx_in (((40 * x1) + x2) + x5) 160 with
            | false => rw [c5, cond_false] at h; cases h
            | true =>
              rw [c5, cond_true] at h
              obtain ⟨z6, h7, h⟩ := Option.bind_eq_some_iff.mp h
              by_cases c8 : z6.1 = 0
              · rw [if_pos c8] at h
                suffices hh : ∃ n, jx_W jx_ShM d (some .int) jc_295 Q n 82 [some (.ref 0), some (.int x1), some (.int x2), some (.int x3), some (.int x4), some (.int x5), some (.long (((x2).toInt64 : Int64) + (x5).toInt64)), none, some (.int ((σ.2 16 ((((40 * x1) + x2) + x5)).toNatClampNeg)).toInt32)] [] z6.2 by
                  obtain ⟨n, hn⟩ := hh
                  exact ⟨n + 20, And.intro (jx_in_ok c5) (And.intro (jx_in_ok rfl) (s_M_in (by omega) h7 (And.intro (fun _ => hn) (fun zz => absurd c8 zz))))⟩
                cases h
                exact ⟨2, And.intro hQ (And.intro rfl rfl)⟩
              · rw [if_neg c8] at h
                suffices hh : ∃ n, jx_W jx_ShM d (some .int) jc_295 Q n 75 [some (.ref 0), some (.int x1), some (.int x2), some (.int x3), some (.int x4), some (.int x5), some (.long (((x2).toInt64 : Int64) + (x5).toInt64)), none, some (.int ((σ.2 16 ((((40 * x1) + x2) + x5)).toNatClampNeg)).toInt32)] [] z6.2 by
                  obtain ⟨n, hn⟩ := hh
                  exact ⟨n + 20, And.intro (jx_in_ok c5) (And.intro (jx_in_ok rfl) (s_M_in (by omega) h7 (And.intro (fun zz => absurd zz c8) (fun _ => hn))))⟩
                obtain ⟨z9, h10, h⟩ := Option.bind_eq_some_iff.mp h
                by_cases c11 : z9.1 = 0
                · rw [if_pos c11] at h
                  suffices hh : ∃ n, jx_W jx_ShM d (some .int) jc_295 Q n 85 [some (.ref 0), some (.int x1), some (.int x2), some (.int x3), some (.int x4), some (.int x5), some (.long (((x2).toInt64 : Int64) + (x5).toInt64)), none, some (.int ((σ.2 16 ((((40 * x1) + x2) + x5)).toNatClampNeg)).toInt32)] [] z9.2 by
                    obtain ⟨n, hn⟩ := hh
                    exact ⟨n + 3, s_M_isOver (by omega) h10 (And.intro (fun _ => hn) (fun zz => absurd c11 zz))⟩
                  obtain ⟨z12, h13, h⟩ := Option.bind_eq_some_iff.mp h
                  obtain ⟨n, hn⟩ := s_M_wouldGo_6 hd k (u6 := some (.long (((x2).toInt64 : Int64) + (x5).toInt64))) (u7 := none) (u8 := some (.int ((σ.2 16 ((((40 * x1) + x2) + x5)).toNatClampNeg)).toInt32)) h hQ
                  exact ⟨n + 8, s_M_goes (by omega) h13 (hn)⟩
                · rw [if_neg c11] at h
                  suffices hh : ∃ n, jx_W jx_ShM d (some .int) jc_295 Q n 82 [some (.ref 0), some (.int x1), some (.int x2), some (.int x3), some (.int x4), some (.int x5), some (.long (((x2).toInt64 : Int64) + (x5).toInt64)), none, some (.int ((σ.2 16 ((((40 * x1) + x2) + x5)).toNatClampNeg)).toInt32)] [] z9.2 by
                    obtain ⟨n, hn⟩ := hh
                    exact ⟨n + 3, s_M_isOver (by omega) h10 (And.intro (fun zz => absurd zz c11) (fun _ => hn))⟩
                  cases h
                  exact ⟨2, And.intro hQ (And.intro rfl rfl)⟩
          · rw [if_neg c4] at h
            suffices hh : ∃ n, jx_W jx_ShM d (some .int) jc_295 Q n 40 [some (.ref 0), some (.int x1), some (.int x2), some (.int x3), some (.int x4), some (.int x5), some (.long (((x2).toInt64 : Int64) + (x5).toInt64)), none, u8] [] σ by
              obtain ⟨n, hn⟩ := hh
              exact ⟨n + 8, And.intro (jx_in_ok c3) (And.intro (fun zz => absurd zz c4) (fun _ => hn))⟩
            cases h
            exact ⟨2, And.intro hQ (And.intro rfl rfl)⟩
set_option maxRecDepth 20000 in
theorem s_M_wouldGo {N d : Nat} {x1 : Int32} {x2 : Int32} {x3 : Int32} (hd : 7 ≤ d) {σ : jw_M} {z : (Int32 × jw_M)} {Q : jw_Q} (h : f_M_wouldGo N x1 x2 x3 σ = some z) (hQ : Q (some (.int z.1)) (jx_ShM, z.2)) : jw_C jp_kd jp_ys d 295 [.ref 0, .int x1, .int x2, .int x3] (jx_ShM, σ) Q := by
  obtain ⟨d, rfl⟩ : ∃ e, d = e + 1 := ⟨d - 1, by omega⟩
  replace hd : 6 ≤ d := by omega
  refine jx_C rfl rfl ?_
  unfold f_M_wouldGo at h
  obtain ⟨n, hn⟩ := s_M_wouldGo_6 hd N (u6 := none) (u7 := none) (u8 := none) h hQ
  exact ⟨n + 4, hn⟩
set_option maxRecDepth 20000 in
theorem s_M_wouldBe {N d : Nat} {x1 : Int32} {x2 : Int32} {x3 : Int32} (hd : 8 ≤ d) {σ : jw_M} {z : (Int32 × jw_M)} {Q : jw_Q} (h : f_M_wouldBe N x1 x2 x3 σ = some z) (hQ : Q (some (.int z.1)) (jx_ShM, z.2)) : jw_C jp_kd jp_ys d 296 [.ref 0, .int x1, .int x2, .int x3] (jx_ShM, σ) Q := by
  obtain ⟨d, rfl⟩ : ∃ e, d = e + 1 := ⟨d - 1, by omega⟩
  replace hd : 7 ≤ d := by omega
  refine jx_C rfl rfl ?_
  unfold f_M_wouldBe at h
  obtain ⟨z1, h2, h⟩ := Option.bind_eq_some_iff.mp h
  by_cases c3 : z1.1 = 0
  · rw [if_pos c3] at h
    suffices hh : ∃ n, jx_W jx_ShM d (some .int) jc_296 Q n 17 [some (.ref 0), some (.int x1), some (.int x2), some (.int x3), none, none] [] z1.2 by
      obtain ⟨n, hn⟩ := hh
      exact ⟨n + 3, s_M_isSheet (by omega) h2 (And.intro (fun _ => hn) (fun zz => absurd c3 zz))⟩
    cases h
    exact ⟨2, And.intro hQ (And.intro rfl rfl)⟩
  · rw [if_neg c3] at h
    suffices hh : ∃ n, jx_W jx_ShM d (some .int) jc_296 Q n 7 [some (.ref 0), some (.int x1), some (.int x2), some (.int x3), none, none] [] z1.2 by
      obtain ⟨n, hn⟩ := hh
      exact ⟨n + 3, s_M_isSheet (by omega) h2 (And.intro (fun zz => absurd zz c3) (fun _ => hn))⟩
    obtain ⟨z4, h5, h⟩ := Option.bind_eq_some_iff.mp h
    by_cases c6 : z4.1 = 0
    · rw [if_pos c6] at h
      suffices hh : ∃ n, jx_W jx_ShM d (some .int) jc_296 Q n 17 [some (.ref 0), some (.int x1), some (.int x2), some (.int x3), none, none] [] z4.2 by
        obtain ⟨n, hn⟩ := hh
        exact ⟨n + 5, s_M_in (by omega) h5 (And.intro (fun zz => absurd c6 zz) (fun _ => hn))⟩
      cases h
      exact ⟨2, And.intro hQ (And.intro rfl rfl)⟩
    · rw [if_neg c6] at h
      suffices hh : ∃ n, jx_W jx_ShM d (some .int) jc_296 Q n 19 [some (.ref 0), some (.int x1), some (.int x2), some (.int x3), none, none] [] z4.2 by
        obtain ⟨n, hn⟩ := hh
        exact ⟨n + 5, s_M_in (by omega) h5 (And.intro (fun _ => hn) (fun zz => absurd zz c6))⟩
      obtain ⟨z7, h8, h⟩ := Option.bind_eq_some_iff.mp h
      by_cases c9 : z7.1 = 0
      · rw [if_pos c9] at h
        suffices hh : ∃ n, jx_W jx_ShM d (some .int) jc_296 Q n 35 [some (.ref 0), some (.int x1), some (.int x2), some (.int x3), some (.int z7.1), none] [] z7.2 by
          obtain ⟨n, hn⟩ := hh
          exact ⟨n + 7, s_M_lacksSort (by omega) h8 (And.intro (fun _ => hn) (fun zz => absurd c9 zz))⟩
        obtain ⟨z10, h11, h⟩ := Option.bind_eq_some_iff.mp h
        obtain ⟨z12, h13, h⟩ := Option.bind_eq_some_iff.mp h
        obtain ⟨z14, h15, h⟩ := Option.bind_eq_some_iff.mp h
        cases h
        exact ⟨14, s_M_save (by omega) h11 (s_M_wouldGo (by omega) h13 (s_M_load (by omega) h15 (And.intro hQ (And.intro rfl rfl))))⟩
      · rw [if_neg c9] at h
        suffices hh : ∃ n, jx_W jx_ShM d (some .int) jc_296 Q n 32 [some (.ref 0), some (.int x1), some (.int x2), some (.int x3), some (.int z7.1), none] [] z7.2 by
          obtain ⟨n, hn⟩ := hh
          exact ⟨n + 7, s_M_lacksSort (by omega) h8 (And.intro (fun zz => absurd zz c9) (fun _ => hn))⟩
        cases h
        exact ⟨2, And.intro hQ (And.intro rfl rfl)⟩
set_option maxRecDepth 20000 in
theorem s_M_isHeld {N d : Nat} {x1 : Int32} {x2 : Int32} (hd : 3 ≤ d) {σ : jw_M} {z : (Int32 × jw_M)} {Q : jw_Q} (h : f_M_isHeld N x1 x2 σ = some z) (hQ : Q (some (.int z.1)) (jx_ShM, z.2)) : jw_C jp_kd jp_ys d 297 [.ref 0, .int x1, .int x2] (jx_ShM, σ) Q := by
  obtain ⟨d, rfl⟩ : ∃ e, d = e + 1 := ⟨d - 1, by omega⟩
  replace hd : 2 ≤ d := by omega
  refine jx_C rfl rfl ?_
  unfold f_M_isHeld at h
  by_cases c1 : x1 = 0
  · rw [if_pos c1] at h
    suffices hh : ∃ n, jx_W jx_ShM d (some .boolean) jc_297 Q n 4 [some (.ref 0), some (.int x1), some (.int x2)] [] σ by
      obtain ⟨n, hn⟩ := hh
      exact ⟨n + 2, And.intro (fun zz => absurd c1 zz) (fun _ => hn)⟩
    obtain ⟨z2, h3, h⟩ := Option.bind_eq_some_iff.mp h
    by_cases c4 : z2.1 = 0 ∨ z2.1 = 1
    · rw [if_pos c4] at h
      cases h
      exact ⟨5, s_M_isShadow (by omega) h3 (And.intro c4 (And.intro hQ (And.intro rfl rfl)))⟩
    · rw [if_neg c4] at h
      cases h
  · rw [if_neg c1] at h
    suffices hh : ∃ n, jx_W jx_ShM d (some .boolean) jc_297 Q n 12 [some (.ref 0), some (.int x1), some (.int x2)] [] σ by
      obtain ⟨n, hn⟩ := hh
      exact ⟨n + 2, And.intro (fun _ => hn) (fun zz => absurd zz c1)⟩
    by_cases c5 : x1 = 1
    · rw [if_pos c5] at h
      suffices hh : ∃ n, jx_W jx_ShM d (some .boolean) jc_297 Q n 17 [some (.ref 0), some (.int x1), some (.int x2)] [] σ by
        obtain ⟨n, hn⟩ := hh
        exact ⟨n + 3, And.intro (fun zz => absurd c5 zz) (fun _ => hn)⟩
      obtain ⟨z6, h7, h⟩ := Option.bind_eq_some_iff.mp h
      by_cases c8 : z6.1 = 0 ∨ z6.1 = 1
      · rw [if_pos c8] at h
        cases h
        exact ⟨4, s_M_isSheet (by omega) h7 (And.intro c8 (And.intro hQ (And.intro rfl rfl)))⟩
      · rw [if_neg c8] at h
        cases h
    · rw [if_neg c5] at h
      suffices hh : ∃ n, jx_W jx_ShM d (some .boolean) jc_297 Q n 24 [some (.ref 0), some (.int x1), some (.int x2)] [] σ by
        obtain ⟨n, hn⟩ := hh
        exact ⟨n + 3, And.intro (fun _ => hn) (fun zz => absurd zz c5)⟩
      by_cases c9 : x1 = 2
      · rw [if_pos c9] at h
        suffices hh : ∃ n, jx_W jx_ShM d (some .boolean) jc_297 Q n 29 [some (.ref 0), some (.int x1), some (.int x2)] [] σ by
          obtain ⟨n, hn⟩ := hh
          exact ⟨n + 3, And.intro (fun zz => absurd c9 zz) (fun _ => hn)⟩
        cases h
        exact ⟨3, And.intro (Or.inr rfl) (And.intro hQ (And.intro rfl rfl))⟩
      · rw [if_neg c9] at h
        suffices hh : ∃ n, jx_W jx_ShM d (some .boolean) jc_297 Q n 33 [some (.ref 0), some (.int x1), some (.int x2)] [] σ by
          obtain ⟨n, hn⟩ := hh
          exact ⟨n + 3, And.intro (fun _ => hn) (fun zz => absurd zz c9)⟩
        cases h
        exact ⟨2, And.intro (Or.inl rfl) (And.intro hQ (And.intro rfl rfl))⟩
set_option maxRecDepth 20000 in
theorem s_M_shelf_89 {N d : Nat} {Q : jw_Q} (hd : 3 ≤ d) {y1 : Int32} {y2 : Int32} {u0 : Option Value} {u1 : Option Value} {u2 : Option Value} {u3 : Option Value} {σ : jw_M} {z : (Int32 × jw_M)} (h : f_M_shelf_89 N y1 y2 σ = some z) (hQ : Q (some (.int z.1)) (jx_ShM, z.2)) : ∃ n, jx_W jx_ShM d (some .int) jc_298 Q n 89 [u0, u1, u2, u3] [.int y2, .int y1, .ref 19] σ := by
  unfold f_M_shelf_89 at h
  cases c14 : jx_in y1 4 with
  | false => rw [c14, cond_false] at h; cases h
  | true =>
    rw [c14, cond_true] at h
    cases h
    exact ⟨3, And.intro (jx_in_ok c14) (And.intro hQ (And.intro rfl rfl))⟩
set_option maxRecDepth 20000 in
theorem s_M_shelf_68 {N d : Nat} {Q : jw_Q} (hd : 3 ≤ d) {x1 : Int32} {x2 : Int32} {x3 : Int32} {y1 : Int32} {y2 : Int32} {σ : jw_M} {z : (Int32 × jw_M)} (h : f_M_shelf_68 N x1 x2 x3 y1 y2 σ = some z) (hQ : Q (some (.int z.1)) (jx_ShM, z.2)) : ∃ n, jx_W jx_ShM d (some .int) jc_298 Q n 68 [some (.ref 0), some (.int x1), some (.int x2), some (.int x3)] [.int y2, .int y1, .ref 18] σ := by
  unfold f_M_shelf_68 at h
  cases c11 : jx_in y1 4 with
  | false => rw [c11, cond_false] at h; cases h
  | true =>
    rw [c11, cond_true] at h
    by_cases c12 : x2 = 1
    · rw [if_pos c12] at h
      suffices hh : ∃ n, jx_W jx_ShM d (some .int) jc_298 Q n 79 [some (.ref 0), some (.int x1), some (.int x2), some (.int x3)] [.int x1, .ref 19] (jx_w σ 18 (y1).toNatClampNeg y2) by
        obtain ⟨n, hn⟩ := hh
        exact ⟨n + 7, And.intro (jx_in_ok c11) (And.intro (fun zz => absurd c12 zz) (fun _ => hn))⟩
      cases c13 : jx_in x3 4 with
      | false => rw [c13, cond_false] at h; cases h
      | true =>
        rw [c13, cond_true] at h
        obtain ⟨n, hn⟩ := s_M_shelf_89 hd (u0 := some (.ref 0)) (u1 := some (.int x1)) (u2 := some (.int x2)) (u3 := some (.int x3)) h hQ
        exact ⟨n + 5, And.intro (jx_in_ok c13) (hn)⟩
    · rw [if_neg c12] at h
      suffices hh : ∃ n, jx_W jx_ShM d (some .int) jc_298 Q n 88 [some (.ref 0), some (.int x1), some (.int x2), some (.int x3)] [.int x1, .ref 19] (jx_w σ 18 (y1).toNatClampNeg y2) by
        obtain ⟨n, hn⟩ := hh
        exact ⟨n + 7, And.intro (jx_in_ok c11) (And.intro (fun _ => hn) (fun zz => absurd zz c12))⟩
      obtain ⟨n, hn⟩ := s_M_shelf_89 hd (u0 := some (.ref 0)) (u1 := some (.int x1)) (u2 := some (.int x2)) (u3 := some (.int x3)) h hQ
      exact ⟨n + 1, hn⟩
set_option maxRecDepth 20000 in
theorem s_M_shelf_47 {N d : Nat} {Q : jw_Q} (hd : 3 ≤ d) {x1 : Int32} {x2 : Int32} {x3 : Int32} {y1 : Int32} {y2 : Int32} {σ : jw_M} {z : (Int32 × jw_M)} (h : f_M_shelf_47 N x1 x2 x3 y1 y2 σ = some z) (hQ : Q (some (.int z.1)) (jx_ShM, z.2)) : ∃ n, jx_W jx_ShM d (some .int) jc_298 Q n 47 [some (.ref 0), some (.int x1), some (.int x2), some (.int x3)] [.int y2, .int y1, .ref 17] σ := by
  unfold f_M_shelf_47 at h
  cases c8 : jx_in y1 4 with
  | false => rw [c8, cond_false] at h; cases h
  | true =>
    rw [c8, cond_true] at h
    by_cases c9 : x2 = 1
    · rw [if_pos c9] at h
      suffices hh : ∃ n, jx_W jx_ShM d (some .int) jc_298 Q n 58 [some (.ref 0), some (.int x1), some (.int x2), some (.int x3)] [.int x1, .ref 18] (jx_w σ 17 (y1).toNatClampNeg y2) by
        obtain ⟨n, hn⟩ := hh
        exact ⟨n + 7, And.intro (jx_in_ok c8) (And.intro (fun zz => absurd c9 zz) (fun _ => hn))⟩
      cases c10 : jx_in x3 4 with
      | false => rw [c10, cond_false] at h; cases h
      | true =>
        rw [c10, cond_true] at h
        obtain ⟨n, hn⟩ := s_M_shelf_68 hd h hQ
        exact ⟨n + 5, And.intro (jx_in_ok c10) (hn)⟩
    · rw [if_neg c9] at h
      suffices hh : ∃ n, jx_W jx_ShM d (some .int) jc_298 Q n 67 [some (.ref 0), some (.int x1), some (.int x2), some (.int x3)] [.int x1, .ref 18] (jx_w σ 17 (y1).toNatClampNeg y2) by
        obtain ⟨n, hn⟩ := hh
        exact ⟨n + 7, And.intro (jx_in_ok c8) (And.intro (fun _ => hn) (fun zz => absurd zz c9))⟩
      obtain ⟨n, hn⟩ := s_M_shelf_68 hd h hQ
      exact ⟨n + 1, hn⟩
set_option maxRecDepth 20000 in
theorem s_M_shelf_42 {N d : Nat} {Q : jw_Q} (hd : 3 ≤ d) {x1 : Int32} {x2 : Int32} {x3 : Int32} {y1 : Int32} {σ : jw_M} {z : (Int32 × jw_M)} (h : f_M_shelf_42 N x1 x2 x3 y1 σ = some z) (hQ : Q (some (.int z.1)) (jx_ShM, z.2)) : ∃ n, jx_W jx_ShM d (some .int) jc_298 Q n 42 [some (.ref 0), some (.int x1), some (.int x2), some (.int x3)] [.int y1, .ref 17] σ := by
  unfold f_M_shelf_42 at h
  obtain ⟨n, hn⟩ := s_M_shelf_47 hd h hQ
  exact ⟨n + 2, hn⟩
set_option maxRecDepth 20000 in
theorem s_M_shelf_46 {N d : Nat} {Q : jw_Q} (hd : 3 ≤ d) {x1 : Int32} {x2 : Int32} {x3 : Int32} {y1 : Int32} {σ : jw_M} {z : (Int32 × jw_M)} (h : f_M_shelf_46 N x1 x2 x3 y1 σ = some z) (hQ : Q (some (.int z.1)) (jx_ShM, z.2)) : ∃ n, jx_W jx_ShM d (some .int) jc_298 Q n 46 [some (.ref 0), some (.int x1), some (.int x2), some (.int x3)] [.int y1, .ref 17] σ := by
  unfold f_M_shelf_46 at h
  obtain ⟨n, hn⟩ := s_M_shelf_47 hd h hQ
  exact ⟨n + 1, hn⟩
set_option maxRecDepth 20000 in
theorem s_M_shelf {N d : Nat} {x1 : Int32} {x2 : Int32} {x3 : Int32} (hd : 4 ≤ d) {σ : jw_M} {z : (Int32 × jw_M)} {Q : jw_Q} (h : f_M_shelf N x1 x2 x3 σ = some z) (hQ : Q (some (.int z.1)) (jx_ShM, z.2)) : jw_C jp_kd jp_ys d 298 [.ref 0, .int x1, .int x2, .int x3] (jx_ShM, σ) Q := by
  obtain ⟨d, rfl⟩ : ∃ e, d = e + 1 := ⟨d - 1, by omega⟩
  replace hd : 3 ≤ d := by omega
  refine jx_C rfl rfl ?_
  unfold f_M_shelf at h
  obtain ⟨z1, h2, h⟩ := Option.bind_eq_some_iff.mp h
  by_cases c3 : z1.1 = 0
  · rw [if_pos c3] at h
    suffices hh : ∃ n, jx_W jx_ShM d (some .int) jc_298 Q n 16 [some (.ref 0), some (.int x1), some (.int x2), some (.int x3)] [] z1.2 by
      obtain ⟨n, hn⟩ := hh
      exact ⟨n + 3, s_M_isSheet (by omega) h2 (And.intro (fun _ => hn) (fun zz => absurd c3 zz))⟩
    cases h
    exact ⟨2, And.intro hQ (And.intro rfl rfl)⟩
  · rw [if_neg c3] at h
    suffices hh : ∃ n, jx_W jx_ShM d (some .int) jc_298 Q n 7 [some (.ref 0), some (.int x1), some (.int x2), some (.int x3)] [] z1.2 by
      obtain ⟨n, hn⟩ := hh
      exact ⟨n + 3, s_M_isSheet (by omega) h2 (And.intro (fun zz => absurd zz c3) (fun _ => hn))⟩
    obtain ⟨z4, h5, h⟩ := Option.bind_eq_some_iff.mp h
    by_cases c6 : z4.1 = 0
    · rw [if_pos c6] at h
      suffices hh : ∃ n, jx_W jx_ShM d (some .int) jc_298 Q n 16 [some (.ref 0), some (.int x1), some (.int x2), some (.int x3)] [] z4.2 by
        obtain ⟨n, hn⟩ := hh
        exact ⟨n + 5, s_M_isHeld (by omega) h5 (And.intro (fun zz => absurd c6 zz) (fun _ => hn))⟩
      cases h
      exact ⟨2, And.intro hQ (And.intro rfl rfl)⟩
    · rw [if_neg c6] at h
      suffices hh : ∃ n, jx_W jx_ShM d (some .int) jc_298 Q n 18 [some (.ref 0), some (.int x1), some (.int x2), some (.int x3)] [] z4.2 by
        obtain ⟨n, hn⟩ := hh
        exact ⟨n + 5, s_M_isHeld (by omega) h5 (And.intro (fun _ => hn) (fun zz => absurd zz c6))⟩
      by_cases c7 : x2 = 2
      · rw [if_pos c7] at h
        suffices hh : ∃ n, jx_W jx_ShM d (some .int) jc_298 Q n 42 [some (.ref 0), some (.int x1), some (.int x2), some (.int x3)] [.int x1, .ref 17] z4.2 by
          obtain ⟨n, hn⟩ := hh
          exact ⟨n + 6, And.intro (fun _ => hn) (fun zz => absurd c7 zz)⟩
        obtain ⟨n, hn⟩ := s_M_shelf_42 hd h hQ
        exact ⟨n + 0, hn⟩
      · rw [if_neg c7] at h
        suffices hh : ∃ n, jx_W jx_ShM d (some .int) jc_298 Q n 28 [some (.ref 0), some (.int x1), some (.int x2), some (.int x3)] [.int x1, .ref 17] z4.2 by
          obtain ⟨n, hn⟩ := hh
          exact ⟨n + 6, And.intro (fun zz => absurd zz c7) (fun _ => hn)⟩
        by_cases c15 : x2 = 1
        · rw [if_pos c15] at h
          suffices hh : ∃ n, jx_W jx_ShM d (some .int) jc_298 Q n 33 [some (.ref 0), some (.int x1), some (.int x2), some (.int x3)] [.int x1, .ref 17] z4.2 by
            obtain ⟨n, hn⟩ := hh
            exact ⟨n + 3, And.intro (fun zz => absurd c15 zz) (fun _ => hn)⟩
          cases c16 : jx_in x3 4 with
          | false => rw [c16, cond_false] at h; cases h
          | true =>
            rw [c16, cond_true] at h
            by_cases c17 : 0 ≤ (z4.2.1 14 (x3).toNatClampNeg)
            · rw [if_pos c17] at h
              suffices hh : ∃ n, jx_W jx_ShM d (some .int) jc_298 Q n 46 [some (.ref 0), some (.int x1), some (.int x2), some (.int x3)] [.int x1, .ref 17] z4.2 by
                obtain ⟨n, hn⟩ := hh
                exact ⟨n + 5, And.intro (jx_in_ok c16) (And.intro (fun _ => hn) (fun zz => absurd c17 zz))⟩
              obtain ⟨n, hn⟩ := s_M_shelf_46 hd h hQ
              exact ⟨n + 0, hn⟩
            · rw [if_neg c17] at h
              suffices hh : ∃ n, jx_W jx_ShM d (some .int) jc_298 Q n 42 [some (.ref 0), some (.int x1), some (.int x2), some (.int x3)] [.int x1, .ref 17] z4.2 by
                obtain ⟨n, hn⟩ := hh
                exact ⟨n + 5, And.intro (jx_in_ok c16) (And.intro (fun zz => absurd zz c17) (fun _ => hn))⟩
              obtain ⟨n, hn⟩ := s_M_shelf_42 hd h hQ
              exact ⟨n + 0, hn⟩
        · rw [if_neg c15] at h
          suffices hh : ∃ n, jx_W jx_ShM d (some .int) jc_298 Q n 46 [some (.ref 0), some (.int x1), some (.int x2), some (.int x3)] [.int x1, .ref 17] z4.2 by
            obtain ⟨n, hn⟩ := hh
            exact ⟨n + 3, And.intro (fun _ => hn) (fun zz => absurd zz c15)⟩
          obtain ⟨n, hn⟩ := s_M_shelf_46 hd h hQ
          exact ⟨n + 0, hn⟩
set_option maxRecDepth 20000 in
theorem s_M_kindOn {N d : Nat} {x1 : Int32} (hd : 3 ≤ d) {σ : jw_M} {z : (Int32 × jw_M)} {Q : jw_Q} (h : f_M_kindOn N x1 σ = some z) (hQ : Q (some (.int z.1)) (jx_ShM, z.2)) : jw_C jp_kd jp_ys d 299 [.ref 0, .int x1] (jx_ShM, σ) Q := by
  obtain ⟨d, rfl⟩ : ∃ e, d = e + 1 := ⟨d - 1, by omega⟩
  replace hd : 2 ≤ d := by omega
  refine jx_C rfl rfl ?_
  unfold f_M_kindOn at h
  cases c1 : jx_in x1 4 with
  | false => rw [c1, cond_false] at h; cases h
  | true =>
    rw [c1, cond_true] at h
    by_cases c2 : (σ.1 17 (x1).toNatClampNeg) = 0
    · rw [if_pos c2] at h
      suffices hh : ∃ n, jx_W jx_ShM d (some .int) jc_299 Q n 25 [some (.ref 0), some (.int x1)] [] σ by
        obtain ⟨n, hn⟩ := hh
        exact ⟨n + 5, And.intro (jx_in_ok c1) (And.intro (fun _ => hn) (fun zz => absurd c2 zz))⟩
      obtain ⟨z3, h4, h⟩ := Option.bind_eq_some_iff.mp h
      by_cases c5 : z3.1 = 0
      · rw [if_pos c5] at h
        suffices hh : ∃ n, jx_W jx_ShM d (some .int) jc_299 Q n 52 [some (.ref 0), some (.int x1)] [] z3.2 by
          obtain ⟨n, hn⟩ := hh
          exact ⟨n + 7, And.intro (jx_in_ok c1) (s_M_isShadow (by omega) h4 (And.intro (fun _ => hn) (fun zz => absurd c5 zz)))⟩
        cases h
        exact ⟨2, And.intro hQ (And.intro rfl rfl)⟩
      · rw [if_neg c5] at h
        suffices hh : ∃ n, jx_W jx_ShM d (some .int) jc_299 Q n 38 [some (.ref 0), some (.int x1)] [] z3.2 by
          obtain ⟨n, hn⟩ := hh
          exact ⟨n + 7, And.intro (jx_in_ok c1) (s_M_isShadow (by omega) h4 (And.intro (fun zz => absurd zz c5) (fun _ => hn)))⟩
        obtain ⟨z6, h7, h⟩ := Option.bind_eq_some_iff.mp h
        cases h
        exact ⟨9, And.intro (jx_in_ok c1) (s_M_of (by omega) h7 (And.intro hQ (And.intro rfl rfl)))⟩
    · rw [if_neg c2] at h
      suffices hh : ∃ n, jx_W jx_ShM d (some .int) jc_299 Q n 9 [some (.ref 0), some (.int x1)] [] σ by
        obtain ⟨n, hn⟩ := hh
        exact ⟨n + 5, And.intro (jx_in_ok c1) (And.intro (fun zz => absurd zz c2) (fun _ => hn))⟩
      by_cases c8 : 0 ≤ (σ.1 17 (x1).toNatClampNeg)
      · rw [if_pos c8] at h
        suffices hh : ∃ n, jx_W jx_ShM d (some .int) jc_299 Q n 22 [some (.ref 0), some (.int x1)] [] σ by
          obtain ⟨n, hn⟩ := hh
          exact ⟨n + 5, And.intro (jx_in_ok c1) (And.intro (fun _ => hn) (fun zz => absurd c8 zz))⟩
        cases h
        exact ⟨2, And.intro hQ (And.intro rfl rfl)⟩
      · rw [if_neg c8] at h
        suffices hh : ∃ n, jx_W jx_ShM d (some .int) jc_299 Q n 18 [some (.ref 0), some (.int x1)] [] σ by
          obtain ⟨n, hn⟩ := hh
          exact ⟨n + 5, And.intro (jx_in_ok c1) (And.intro (fun zz => absurd zz c8) (fun _ => hn))⟩
        cases h
        exact ⟨3, And.intro hQ (And.intro rfl rfl)⟩
set_option maxRecDepth 20000 in
theorem s_M_taken_29 {N d : Nat} {Q : jw_Q} (hd : 3 ≤ d) {x1 : Int32} {x2 : Int32} {u3 : Option Value} {σ : jw_M} {z : (Int32 × jw_M)} (h : f_M_taken_29 N x1 x2 σ = some z) (hQ : Q (some (.int z.1)) (jx_ShM, z.2)) : ∃ n, jx_W jx_ShM d (some .int) jc_300 Q n 29 [some (.ref 0), some (.int x1), some (.int x2), u3] [] σ := by
  unfold f_M_taken_29 at h
  obtain ⟨z10, h11, h⟩ := Option.bind_eq_some_iff.mp h
  by_cases c12 : 0 ≤ z10.1
  · rw [if_pos c12] at h
    suffices hh : ∃ n, jx_W jx_ShM d (some .int) jc_300 Q n 42 [some (.ref 0), some (.int x1), some (.int x2), some (.int z10.1)] [] z10.2 by
      obtain ⟨n, hn⟩ := hh
      exact ⟨n + 6, s_M_kindOn (by omega) h11 (And.intro (fun _ => hn) (fun zz => absurd c12 zz))⟩
    by_cases c13 : z10.1 = 9
    · rw [if_pos c13] at h
      suffices hh : ∃ n, jx_W jx_ShM d (some .int) jc_300 Q n 48 [some (.ref 0), some (.int x1), some (.int x2), some (.int z10.1)] [] z10.2 by
        obtain ⟨n, hn⟩ := hh
        exact ⟨n + 3, And.intro (fun zz => absurd c13 zz) (fun _ => hn)⟩
      cases c14 : jx_in x1 4 with
      | false => rw [c14, cond_false] at h; cases h
      | true =>
        rw [c14, cond_true] at h
        by_cases c15 : x2 = (10 + (z10.2.1 18 (x1).toNatClampNeg))
        · rw [if_pos c15] at h
          suffices hh : ∃ n, jx_W jx_ShM d (some .int) jc_300 Q n 61 [some (.ref 0), some (.int x1), some (.int x2), some (.int z10.1)] [] z10.2 by
            obtain ⟨n, hn⟩ := hh
            exact ⟨n + 8, And.intro (jx_in_ok c14) (And.intro (fun zz => absurd c15 zz) (fun _ => hn))⟩
          cases h
          exact ⟨6, And.intro (jx_in_ok c14) (And.intro hQ (And.intro rfl rfl))⟩
        · rw [if_neg c15] at h
          suffices hh : ∃ n, jx_W jx_ShM d (some .int) jc_300 Q n 70 [some (.ref 0), some (.int x1), some (.int x2), some (.int z10.1)] [] z10.2 by
            obtain ⟨n, hn⟩ := hh
            exact ⟨n + 8, And.intro (jx_in_ok c14) (And.intro (fun _ => hn) (fun zz => absurd zz c15))⟩
          cases h
          exact ⟨2, And.intro hQ (And.intro rfl rfl)⟩
    · rw [if_neg c13] at h
      suffices hh : ∃ n, jx_W jx_ShM d (some .int) jc_300 Q n 73 [some (.ref 0), some (.int x1), some (.int x2), some (.int z10.1)] [] z10.2 by
        obtain ⟨n, hn⟩ := hh
        exact ⟨n + 3, And.intro (fun _ => hn) (fun zz => absurd zz c13)⟩
      by_cases c16 : 10 ≤ x2
      · rw [if_pos c16] at h
        suffices hh : ∃ n, jx_W jx_ShM d (some .int) jc_300 Q n 96 [some (.ref 0), some (.int x1), some (.int x2), some (.int z10.1)] [] z10.2 by
          obtain ⟨n, hn⟩ := hh
          exact ⟨n + 3, And.intro (fun _ => hn) (fun zz => absurd c16 zz)⟩
        cases h
        exact ⟨2, And.intro hQ (And.intro rfl rfl)⟩
      · rw [if_neg c16] at h
        suffices hh : ∃ n, jx_W jx_ShM d (some .int) jc_300 Q n 79 [some (.ref 0), some (.int x1), some (.int x2), some (.int z10.1)] [] z10.2 by
          obtain ⟨n, hn⟩ := hh
          exact ⟨n + 3, And.intro (fun zz => absurd zz c16) (fun _ => hn)⟩
        obtain ⟨z17, h18, h⟩ := Option.bind_eq_some_iff.mp h
        by_cases c19 : z17.1 = 0
        · rw [if_pos c19] at h
          suffices hh : ∃ n, jx_W jx_ShM d (some .int) jc_300 Q n 96 [some (.ref 0), some (.int x1), some (.int x2), some (.int z10.1)] [] z17.2 by
            obtain ⟨n, hn⟩ := hh
            exact ⟨n + 4, s_M_isUnder (by omega) h18 (And.intro (fun _ => hn) (fun zz => absurd c19 zz))⟩
          cases h
          exact ⟨2, And.intro hQ (And.intro rfl rfl)⟩
        · rw [if_neg c19] at h
          suffices hh : ∃ n, jx_W jx_ShM d (some .int) jc_300 Q n 87 [some (.ref 0), some (.int x1), some (.int x2), some (.int z10.1)] [] z17.2 by
            obtain ⟨n, hn⟩ := hh
            exact ⟨n + 4, s_M_isUnder (by omega) h18 (And.intro (fun zz => absurd zz c19) (fun _ => hn))⟩
          cases c20 : jx_in x1 4 with
          | false => rw [c20, cond_false] at h; cases h
          | true =>
            rw [c20, cond_true] at h
            cases h
            exact ⟨6, And.intro (jx_in_ok c20) (And.intro hQ (And.intro rfl rfl))⟩
  · rw [if_neg c12] at h
    suffices hh : ∃ n, jx_W jx_ShM d (some .int) jc_300 Q n 39 [some (.ref 0), some (.int x1), some (.int x2), some (.int z10.1)] [] z10.2 by
      obtain ⟨n, hn⟩ := hh
      exact ⟨n + 6, s_M_kindOn (by omega) h11 (And.intro (fun zz => absurd zz c12) (fun _ => hn))⟩
    cases h
    exact ⟨2, And.intro hQ (And.intro rfl rfl)⟩
set_option maxRecDepth 20000 in
theorem s_M_taken {N d : Nat} {x1 : Int32} {x2 : Int32} (hd : 4 ≤ d) {σ : jw_M} {z : (Int32 × jw_M)} {Q : jw_Q} (h : f_M_taken N x1 x2 σ = some z) (hQ : Q (some (.int z.1)) (jx_ShM, z.2)) : jw_C jp_kd jp_ys d 300 [.ref 0, .int x1, .int x2] (jx_ShM, σ) Q := by
  obtain ⟨d, rfl⟩ : ∃ e, d = e + 1 := ⟨d - 1, by omega⟩
  replace hd : 3 ≤ d := by omega
  refine jx_C rfl rfl ?_
  unfold f_M_taken at h
  obtain ⟨z1, h2, h⟩ := Option.bind_eq_some_iff.mp h
  by_cases c3 : z1.1 = 0
  · rw [if_pos c3] at h
    suffices hh : ∃ n, jx_W jx_ShM d (some .int) jc_300 Q n 27 [some (.ref 0), some (.int x1), some (.int x2), none] [] z1.2 by
      obtain ⟨n, hn⟩ := hh
      exact ⟨n + 3, s_M_isSheet (by omega) h2 (And.intro (fun _ => hn) (fun zz => absurd c3 zz))⟩
    cases h
    exact ⟨2, And.intro hQ (And.intro rfl rfl)⟩
  · rw [if_neg c3] at h
    suffices hh : ∃ n, jx_W jx_ShM d (some .int) jc_300 Q n 7 [some (.ref 0), some (.int x1), some (.int x2), none] [] z1.2 by
      obtain ⟨n, hn⟩ := hh
      exact ⟨n + 3, s_M_isSheet (by omega) h2 (And.intro (fun zz => absurd zz c3) (fun _ => hn))⟩
    obtain ⟨z4, h5, h⟩ := Option.bind_eq_some_iff.mp h
    by_cases c6 : z4.1 = 0
    · rw [if_pos c6] at h
      suffices hh : ∃ n, jx_W jx_ShM d (some .int) jc_300 Q n 16 [some (.ref 0), some (.int x1), some (.int x2), none] [] z4.2 by
        obtain ⟨n, hn⟩ := hh
        exact ⟨n + 5, s_M_in (by omega) h5 (And.intro (fun zz => absurd c6 zz) (fun _ => hn))⟩
      obtain ⟨z7, h8, h⟩ := Option.bind_eq_some_iff.mp h
      by_cases c9 : z7.1 = 0
      · rw [if_pos c9] at h
        suffices hh : ∃ n, jx_W jx_ShM d (some .int) jc_300 Q n 27 [some (.ref 0), some (.int x1), some (.int x2), none] [] z7.2 by
          obtain ⟨n, hn⟩ := hh
          exact ⟨n + 5, s_M_in (by omega) h8 (And.intro (fun zz => absurd c9 zz) (fun _ => hn))⟩
        cases h
        exact ⟨2, And.intro hQ (And.intro rfl rfl)⟩
      · rw [if_neg c9] at h
        suffices hh : ∃ n, jx_W jx_ShM d (some .int) jc_300 Q n 29 [some (.ref 0), some (.int x1), some (.int x2), none] [] z7.2 by
          obtain ⟨n, hn⟩ := hh
          exact ⟨n + 5, s_M_in (by omega) h8 (And.intro (fun _ => hn) (fun zz => absurd zz c9))⟩
        obtain ⟨n, hn⟩ := s_M_taken_29 hd (u3 := none) h hQ
        exact ⟨n + 0, hn⟩
    · rw [if_neg c6] at h
      suffices hh : ∃ n, jx_W jx_ShM d (some .int) jc_300 Q n 29 [some (.ref 0), some (.int x1), some (.int x2), none] [] z4.2 by
        obtain ⟨n, hn⟩ := hh
        exact ⟨n + 5, s_M_in (by omega) h5 (And.intro (fun _ => hn) (fun zz => absurd zz c6))⟩
      obtain ⟨n, hn⟩ := s_M_taken_29 hd (u3 := none) h hQ
      exact ⟨n + 0, hn⟩
set_option maxRecDepth 20000 in
theorem s_M_ran {N d : Nat} {x1 : Int32} (hd : 1 ≤ d) {σ : jw_M} {z : jw_M} {Q : jw_Q} (h : f_M_ran N x1 σ = some z) (hQ : Q none (jx_ShM, z)) : jw_C jp_kd jp_ys d 301 [.ref 0, .int x1] (jx_ShM, σ) Q := by
  obtain ⟨d, rfl⟩ : ∃ e, d = e + 1 := ⟨d - 1, by omega⟩
  replace hd : 0 ≤ d := by omega
  refine jx_C rfl rfl ?_
  unfold f_M_ran at h
  by_cases c1 : 30 ≤ (σ.1 0 40)
  · rw [if_pos c1] at h
    suffices hh : ∃ n, jx_W jx_ShM d none jc_301 Q n 29 [some (.ref 0), some (.int x1)] [] σ by
      obtain ⟨n, hn⟩ := hh
      exact ⟨n + 4, And.intro (fun _ => hn) (fun zz => absurd c1 zz)⟩
    cases h
    exact ⟨1, And.intro hQ (And.intro rfl rfl)⟩
  · rw [if_neg c1] at h
    suffices hh : ∃ n, jx_W jx_ShM d none jc_301 Q n 9 [some (.ref 0), some (.int x1)] [] σ by
      obtain ⟨n, hn⟩ := hh
      exact ⟨n + 4, And.intro (fun zz => absurd zz c1) (fun _ => hn)⟩
    cases c2 : jx_in (σ.1 0 40) 30 with
    | false => rw [c2, cond_false] at h; cases h
    | true =>
      rw [c2, cond_true] at h
      cases h
      exact ⟨13, And.intro (jx_in_ok c2) (And.intro hQ (And.intro rfl rfl))⟩
set_option maxRecDepth 20000 in
theorem s_M_plainLies {N d : Nat} {x1 : Int32} (hd : 2 ≤ d) {σ : jw_M} {z : (Int32 × jw_M)} {Q : jw_Q} (h : f_M_plainLies N x1 σ = some z) (hQ : Q (some (.int z.1)) (jx_ShM, z.2)) : jw_C jp_kd jp_ys d 302 [.ref 0, .int x1] (jx_ShM, σ) Q := by
  obtain ⟨d, rfl⟩ : ∃ e, d = e + 1 := ⟨d - 1, by omega⟩
  replace hd : 1 ≤ d := by omega
  refine jx_C rfl rfl ?_
  unfold f_M_plainLies at h
  obtain ⟨z1, h2, h⟩ := Option.bind_eq_some_iff.mp h
  cases h
  exact ⟨10, s_M_ran (by omega) h2 (And.intro hQ (And.intro rfl rfl))⟩
set_option maxRecDepth 20000 in
theorem s_M_lies {N d : Nat} {x1 : Int32} (hd : 3 ≤ d) {σ : jw_M} {z : (Int32 × jw_M)} {Q : jw_Q} (h : f_M_lies N x1 σ = some z) (hQ : Q (some (.int z.1)) (jx_ShM, z.2)) : jw_C jp_kd jp_ys d 303 [.ref 0, .int x1] (jx_ShM, σ) Q := by
  obtain ⟨d, rfl⟩ : ∃ e, d = e + 1 := ⟨d - 1, by omega⟩
  replace hd : 2 ≤ d := by omega
  refine jx_C rfl rfl ?_
  unfold f_M_lies at h
  by_cases c12 : (σ.1 0 36) = 1
  · rw [if_pos c12] at h
    suffices hh : ∃ n, jx_W jx_ShM d (some .int) jc_303 Q n 32 [some (.ref 0), some (.int x1)] [] σ by
      obtain ⟨n, hn⟩ := hh
      exact ⟨n + 3, And.intro (fun _ => hn) (fun zz => absurd c12 zz)⟩
    obtain ⟨z1, h2, h⟩ := Option.bind_eq_some_iff.mp h
    obtain ⟨z3, h4, h⟩ := Option.bind_eq_some_iff.mp h
    cases h
    exact ⟨10, s_M_ran (by omega) h2 (s_M_plainLies (by omega) h4 (And.intro hQ (And.intro rfl rfl)))⟩
  · rw [if_neg c12] at h
    by_cases c11 : (σ.1 0 36) = 3
    · rw [if_pos c11] at h
      suffices hh : ∃ n, jx_W jx_ShM d (some .int) jc_303 Q n 49 [some (.ref 0), some (.int x1)] [] σ by
        obtain ⟨n, hn⟩ := hh
        exact ⟨n + 3, And.intro (fun zz => absurd zz c12) (fun _ => And.intro (fun _ => hn) (fun zz => absurd c11 zz))⟩
      obtain ⟨z5, h6, h⟩ := Option.bind_eq_some_iff.mp h
      obtain ⟨z7, h8, h⟩ := Option.bind_eq_some_iff.mp h
      cases h
      exact ⟨9, s_M_ran (by omega) h6 (s_M_plainLies (by omega) h8 (And.intro hQ (And.intro rfl rfl)))⟩
    · rw [if_neg c11] at h
      obtain ⟨z9, h10, h⟩ := Option.bind_eq_some_iff.mp h
      cases h
      exact ⟨7, And.intro (fun zz => absurd zz c12) (fun _ => And.intro (fun zz => absurd zz c11) (fun _ => s_M_plainLies (by omega) h10 (And.intro hQ (And.intro rfl rfl))))⟩
set_option maxRecDepth 20000 in
theorem s_M_plainTurns {N d : Nat} {x1 : Int32} (hd : 4 ≤ d) {σ : jw_M} {z : (Int32 × jw_M)} {Q : jw_Q} (h : f_M_plainTurns N x1 σ = some z) (hQ : Q (some (.int z.1)) (jx_ShM, z.2)) : jw_C jp_kd jp_ys d 304 [.ref 0, .int x1] (jx_ShM, σ) Q := by
  obtain ⟨d, rfl⟩ : ∃ e, d = e + 1 := ⟨d - 1, by omega⟩
  replace hd : 3 ≤ d := by omega
  refine jx_C rfl rfl ?_
  unfold f_M_plainTurns at h
  obtain ⟨z1, h2, h⟩ := Option.bind_eq_some_iff.mp h
  obtain ⟨z3, h4, h⟩ := Option.bind_eq_some_iff.mp h
  cases h
  exact ⟨10, s_M_ran (by omega) h2 (s_M_lies (by omega) h4 (And.intro hQ (And.intro rfl rfl)))⟩
set_option maxRecDepth 20000 in
theorem s_M_turns {N d : Nat} {x1 : Int32} (hd : 5 ≤ d) {σ : jw_M} {z : (Int32 × jw_M)} {Q : jw_Q} (h : f_M_turns N x1 σ = some z) (hQ : Q (some (.int z.1)) (jx_ShM, z.2)) : jw_C jp_kd jp_ys d 305 [.ref 0, .int x1] (jx_ShM, σ) Q := by
  obtain ⟨d, rfl⟩ : ∃ e, d = e + 1 := ⟨d - 1, by omega⟩
  replace hd : 4 ≤ d := by omega
  refine jx_C rfl rfl ?_
  unfold f_M_turns at h
  by_cases c20 : (σ.1 0 36) = 2
  · rw [if_pos c20] at h
    suffices hh : ∃ n, jx_W jx_ShM d (some .int) jc_305 Q n 36 [some (.ref 0), some (.int x1)] [] σ by
      obtain ⟨n, hn⟩ := hh
      exact ⟨n + 3, And.intro (fun _ => hn) (fun zz => absurd c20 zz)⟩
    obtain ⟨z1, h2, h⟩ := Option.bind_eq_some_iff.mp h
    obtain ⟨z3, h4, h⟩ := Option.bind_eq_some_iff.mp h
    cases h
    exact ⟨9, s_M_ran (by omega) h2 (s_M_plainTurns (by omega) h4 (And.intro hQ (And.intro rfl rfl)))⟩
  · rw [if_neg c20] at h
    by_cases c19 : (σ.1 0 36) = 3
    · rw [if_pos c19] at h
      suffices hh : ∃ n, jx_W jx_ShM d (some .int) jc_305 Q n 36 [some (.ref 0), some (.int x1)] [] σ by
        obtain ⟨n, hn⟩ := hh
        exact ⟨n + 3, And.intro (fun zz => absurd zz c20) (fun _ => And.intro (fun _ => hn) (fun zz => absurd c19 zz))⟩
      obtain ⟨z5, h6, h⟩ := Option.bind_eq_some_iff.mp h
      obtain ⟨z7, h8, h⟩ := Option.bind_eq_some_iff.mp h
      cases h
      exact ⟨9, s_M_ran (by omega) h6 (s_M_plainTurns (by omega) h8 (And.intro hQ (And.intro rfl rfl)))⟩
    · rw [if_neg c19] at h
      by_cases c18 : (σ.1 0 36) = 4
      · rw [if_pos c18] at h
        suffices hh : ∃ n, jx_W jx_ShM d (some .int) jc_305 Q n 65 [some (.ref 0), some (.int x1)] [] σ by
          obtain ⟨n, hn⟩ := hh
          exact ⟨n + 3, And.intro (fun zz => absurd zz c20) (fun _ => And.intro (fun zz => absurd zz c19) (fun _ => And.intro (fun _ => hn) (fun zz => absurd c18 zz)))⟩
        obtain ⟨z9, h10, h⟩ := Option.bind_eq_some_iff.mp h
        cases h
        exact ⟨4, s_M_plainTurns (by omega) h10 (And.intro hQ (And.intro rfl rfl))⟩
      · rw [if_neg c18] at h
        by_cases c17 : (σ.1 0 36) = 5
        · rw [if_pos c17] at h
          suffices hh : ∃ n, jx_W jx_ShM d (some .int) jc_305 Q n 51 [some (.ref 0), some (.int x1)] [] σ by
            obtain ⟨n, hn⟩ := hh
            exact ⟨n + 3, And.intro (fun zz => absurd zz c20) (fun _ => And.intro (fun zz => absurd zz c19) (fun _ => And.intro (fun zz => absurd zz c18) (fun _ => And.intro (fun _ => hn) (fun zz => absurd c17 zz))))⟩
          obtain ⟨z11, h12, h⟩ := Option.bind_eq_some_iff.mp h
          obtain ⟨z13, h14, h⟩ := Option.bind_eq_some_iff.mp h
          cases h
          exact ⟨9, s_M_ran (by omega) h12 (s_M_plainTurns (by omega) h14 (And.intro hQ (And.intro rfl rfl)))⟩
        · rw [if_neg c17] at h
          obtain ⟨z15, h16, h⟩ := Option.bind_eq_some_iff.mp h
          cases h
          exact ⟨7, And.intro (fun zz => absurd zz c20) (fun _ => And.intro (fun zz => absurd zz c19) (fun _ => And.intro (fun zz => absurd zz c18) (fun _ => And.intro (fun zz => absurd zz c17) (fun _ => s_M_plainTurns (by omega) h16 (And.intro hQ (And.intro rfl rfl))))))⟩
