set_option maxRecDepth 20000 in
theorem s_D_numberAt_14 {N d : Nat} {Q : jw_Q} (hd : 0 ≤ d) : ∀ (k : Nat) {x2 : Int32} {x3 : Int32} {x4 : Int32} {u1 : Option Value} {σ : jw_M} {z : (Int32 × jw_M)}, f_D_numberAt_14 N k x2 x3 x4 σ = some z → Q (some (.int z.1)) (jx_ShC, z.2) → ∃ n, jx_W jx_ShC d (some .int) jc_55 Q n 14 [some (.ref 80), u1, some (.int x2), some (.int x3), some (.int x4)] [] σ
  | 0, _, _, _, _, _, _, h, _ => by cases h
  | k + 1, x2, x3, x4, u1, σ, z, h, hQ => by
    rw [f_D_numberAt_14] at h
    by_cases c2 : x2 ≤ x4
    · rw [if_pos c2] at h
      suffices hh : ∃ n, jx_W jx_ShC d (some .int) jc_55 Q n 42 [some (.ref 80), u1, some (.int x2), some (.int x3), some (.int x4)] [] σ by
        obtain ⟨n, hn⟩ := hh
        exact ⟨n + 3, And.intro (fun _ => hn) (fun zz => absurd c2 zz)⟩
      cases h
      exact ⟨4, And.intro hQ (And.intro rfl rfl)⟩
    · rw [if_neg c2] at h
      suffices hh : ∃ n, jx_W jx_ShC d (some .int) jc_55 Q n 20 [some (.ref 80), u1, some (.int x2), some (.int x3), some (.int x4)] [] σ by
        obtain ⟨n, hn⟩ := hh
        exact ⟨n + 3, And.intro (fun zz => absurd zz c2) (fun _ => hn)⟩
      cases c3 : jx_in x4 200 with
      | false => rw [c3, cond_false] at h; cases h
      | true =>
        rw [c3, cond_true] at h
        obtain ⟨n, hn⟩ := s_D_numberAt_14 hd k (u1 := u1) h hQ
        exact ⟨n + 13, And.intro (jx_in_ok c3) (hn)⟩
set_option maxRecDepth 20000 in
theorem s_D_numberAt {N d : Nat} {x1 : Int32} {x2 : Int32} (hd : 1 ≤ d) {σ : jw_M} {z : (Int32 × jw_M)} {Q : jw_Q} (h : f_D_numberAt N x1 x2 σ = some z) (hQ : Q (some (.int z.1)) (jx_ShC, z.2)) : jw_C jp_kd jp_ys d 55 [.ref 80, .int x1, .int x2] (jx_ShC, σ) Q := by
  obtain ⟨d, rfl⟩ : ∃ e, d = e + 1 := ⟨d - 1, by omega⟩
  replace hd : 0 ≤ d := by omega
  refine jx_C rfl rfl ?_
  unfold f_D_numberAt at h
  by_cases c1 : (x2 - x1) ≤ 4
  · rw [if_pos c1] at h
    suffices hh : ∃ n, jx_W jx_ShC d (some .int) jc_55 Q n 9 [some (.ref 80), some (.int x1), some (.int x2), none, none] [] σ by
      obtain ⟨n, hn⟩ := hh
      exact ⟨n + 5, And.intro (fun _ => hn) (fun zz => absurd c1 zz)⟩
    obtain ⟨n, hn⟩ := s_D_numberAt_14 hd N (u1 := some (.int x1)) h hQ
    exact ⟨n + 4, hn⟩
  · rw [if_neg c1] at h
    suffices hh : ∃ n, jx_W jx_ShC d (some .int) jc_55 Q n 7 [some (.ref 80), some (.int x1), some (.int x2), none, none] [] σ by
      obtain ⟨n, hn⟩ := hh
      exact ⟨n + 5, And.intro (fun zz => absurd zz c1) (fun _ => hn)⟩
    cases h
    exact ⟨2, And.intro hQ (And.intro rfl rfl)⟩
set_option maxRecDepth 20000 in
theorem s_D_tokenAt_43 {N d : Nat} {Q : jw_Q} (hd : 8 ≤ d) {x1 : Int32} {x2 : Int32} {x3 : Int32} {σ : jw_M} {z : (Int32 × jw_M)} (h : f_D_tokenAt_43 N x1 x2 x3 σ = some z) (hQ : Q (some (.int z.1)) (jx_ShC, z.2)) : ∃ n, jx_W jx_ShC d (some .int) jc_51 Q n 43 [some (.ref 80), some (.int x1), some (.int x2), some (.int x3)] [] σ := by
  unfold f_D_tokenAt_43 at h
  by_cases c5 : x2 = 0
  · rw [if_pos c5] at h
    suffices hh : ∃ n, jx_W jx_ShC d (some .int) jc_51 Q n 47 [some (.ref 80), some (.int x1), some (.int x2), some (.int x3)] [] σ by
      obtain ⟨n, hn⟩ := hh
      exact ⟨n + 2, And.intro (fun zz => absurd c5 zz) (fun _ => hn)⟩
    obtain ⟨z6, h7, h⟩ := Option.bind_eq_some_iff.mp h
    cases h
    exact ⟨6, s_D_nameAt (by omega) h7 (And.intro hQ (And.intro rfl rfl))⟩
  · rw [if_neg c5] at h
    suffices hh : ∃ n, jx_W jx_ShC d (some .int) jc_51 Q n 56 [some (.ref 80), some (.int x1), some (.int x2), some (.int x3)] [] σ by
      obtain ⟨n, hn⟩ := hh
      exact ⟨n + 2, And.intro (fun _ => hn) (fun zz => absurd zz c5)⟩
    obtain ⟨z8, h9, h⟩ := Option.bind_eq_some_iff.mp h
    cases h
    exact ⟨5, s_D_numberAt (by omega) h9 (And.intro hQ (And.intro rfl rfl))⟩
set_option maxRecDepth 20000 in
theorem s_D_tokenAt_15 {N d : Nat} {Q : jw_Q} (hd : 8 ≤ d) : ∀ (k : Nat) {x1 : Int32} {x2 : Int32} {x3 : Int32} {σ : jw_M} {z : (Int32 × jw_M)}, f_D_tokenAt_15 N k x1 x2 x3 σ = some z → Q (some (.int z.1)) (jx_ShC, z.2) → ∃ n, jx_W jx_ShC d (some .int) jc_51 Q n 15 [some (.ref 80), some (.int x1), some (.int x2), some (.int x3)] [] σ
  | 0, _, _, _, _, _, h, _ => by cases h
  | k + 1, x1, x2, x3, σ, z, h, hQ => by
    rw [f_D_tokenAt_15] at h
    by_cases c4 : (σ.1 80 0) ≤ x3
    · rw [if_pos c4] at h
      suffices hh : ∃ n, jx_W jx_ShC d (some .int) jc_51 Q n 43 [some (.ref 80), some (.int x1), some (.int x2), some (.int x3)] [] σ by
        obtain ⟨n, hn⟩ := hh
        exact ⟨n + 4, And.intro (fun _ => hn) (fun zz => absurd c4 zz)⟩
      obtain ⟨n, hn⟩ := s_D_tokenAt_43 hd h hQ
      exact ⟨n + 0, hn⟩
    · rw [if_neg c4] at h
      suffices hh : ∃ n, jx_W jx_ShC d (some .int) jc_51 Q n 23 [some (.ref 80), some (.int x1), some (.int x2), some (.int x3)] [] σ by
        obtain ⟨n, hn⟩ := hh
        exact ⟨n + 4, And.intro (fun zz => absurd zz c4) (fun _ => hn)⟩
      cases c10 : jx_in x3 200 with
      | false => rw [c10, cond_false] at h; cases h
      | true =>
        rw [c10, cond_true] at h
        obtain ⟨z11, h12, h⟩ := Option.bind_eq_some_iff.mp h
        by_cases c13 : z11.1 = x2
        · rw [if_pos c13] at h
          suffices hh : ∃ n, jx_W jx_ShC d (some .int) jc_51 Q n 37 [some (.ref 80), some (.int x1), some (.int x2), some (.int x3)] [] z11.2 by
            obtain ⟨n, hn⟩ := hh
            exact ⟨n + 8, And.intro (jx_in_ok c10) (s_D_sortOf (by omega) h12 (And.intro (fun zz => absurd c13 zz) (fun _ => hn)))⟩
          obtain ⟨n, hn⟩ := s_D_tokenAt_15 hd k h hQ
          exact ⟨n + 2, hn⟩
        · rw [if_neg c13] at h
          suffices hh : ∃ n, jx_W jx_ShC d (some .int) jc_51 Q n 43 [some (.ref 80), some (.int x1), some (.int x2), some (.int x3)] [] z11.2 by
            obtain ⟨n, hn⟩ := hh
            exact ⟨n + 8, And.intro (jx_in_ok c10) (s_D_sortOf (by omega) h12 (And.intro (fun _ => hn) (fun zz => absurd zz c13)))⟩
          obtain ⟨n, hn⟩ := s_D_tokenAt_43 hd h hQ
          exact ⟨n + 0, hn⟩
set_option maxRecDepth 20000 in
theorem s_D_tokenAt {N d : Nat} {x1 : Int32} {x2 : Int32} (hd : 9 ≤ d) {σ : jw_M} {z : (Int32 × jw_M)} {Q : jw_Q} (h : f_D_tokenAt N x1 x2 σ = some z) (hQ : Q (some (.int z.1)) (jx_ShC, z.2)) : jw_C jp_kd jp_ys d 51 [.ref 80, .int x1, .int x2] (jx_ShC, σ) Q := by
  obtain ⟨d, rfl⟩ : ∃ e, d = e + 1 := ⟨d - 1, by omega⟩
  replace hd : 8 ≤ d := by omega
  refine jx_C rfl rfl ?_
  unfold f_D_tokenAt at h
  by_cases c1 : x2 = 2
  · rw [if_pos c1] at h
    suffices hh : ∃ n, jx_W jx_ShC d (some .int) jc_51 Q n 5 [some (.ref 80), some (.int x1), some (.int x2), none] [] σ by
      obtain ⟨n, hn⟩ := hh
      exact ⟨n + 3, And.intro (fun zz => absurd c1 zz) (fun _ => hn)⟩
    obtain ⟨z2, h3, h⟩ := Option.bind_eq_some_iff.mp h
    cases h
    exact ⟨4, s_D_signAt (by omega) h3 (And.intro hQ (And.intro rfl rfl))⟩
  · rw [if_neg c1] at h
    suffices hh : ∃ n, jx_W jx_ShC d (some .int) jc_51 Q n 11 [some (.ref 80), some (.int x1), some (.int x2), none] [] σ by
      obtain ⟨n, hn⟩ := hh
      exact ⟨n + 3, And.intro (fun _ => hn) (fun zz => absurd zz c1)⟩
    obtain ⟨n, hn⟩ := s_D_tokenAt_15 hd N h hQ
    exact ⟨n + 4, hn⟩
set_option maxRecDepth 20000 in
theorem s_D_cutIntoTokens_84 {N d : Nat} {Q : jw_Q} {K6 : Int32 → Int32 → Int32 → jw_M → Option jw_M} (hd : 9 ≤ d) (hK6 : ∀ {x1 : Int32} {x2 : Int32} {x3 : Int32} {σ : jw_M} {z : jw_M} {u4 : Option Value} {u5 : Option Value}, K6 x1 x2 x3 σ = some z → Q none (jx_ShC, z) → ∃ n, jx_W jx_ShC d none jc_49 Q n 6 [some (.ref 80), some (.int x1), some (.int x2), some (.int x3), u4, u5] [] σ) {x1 : Int32} {x3 : Int32} {x4 : Int32} {u2 : Option Value} {u5 : Option Value} {σ : jw_M} {z : jw_M} (h : f_D_cutIntoTokens_84 N K6 x1 x3 x4 σ = some z) (hQ : Q none (jx_ShC, z)) : ∃ n, jx_W jx_ShC d none jc_49 Q n 84 [some (.ref 80), some (.int x1), u2, some (.int x3), some (.int x4), u5] [] σ := by
  unfold f_D_cutIntoTokens_84 at h
  obtain ⟨n, hn⟩ := hK6 (u4 := some (.int x4)) (u5 := u5) h hQ
  exact ⟨n + 4, hn⟩
set_option maxRecDepth 20000 in
theorem s_D_cutIntoTokens_43 {N d : Nat} {Q : jw_Q} {K6 : Int32 → Int32 → Int32 → jw_M → Option jw_M} (hd : 9 ≤ d) (hK6 : ∀ {x1 : Int32} {x2 : Int32} {x3 : Int32} {σ : jw_M} {z : jw_M} {u4 : Option Value} {u5 : Option Value}, K6 x1 x2 x3 σ = some z → Q none (jx_ShC, z) → ∃ n, jx_W jx_ShC d none jc_49 Q n 6 [some (.ref 80), some (.int x1), some (.int x2), some (.int x3), u4, u5] [] σ) {x1 : Int32} {x3 : Int32} {x4 : Int32} {y0 : Int32} {u2 : Option Value} {u5 : Option Value} {σ : jw_M} {z : jw_M} (h : f_D_cutIntoTokens_43 N K6 x1 x3 x4 y0 σ = some z) (hQ : Q none (jx_ShC, z)) : ∃ n, jx_W jx_ShC d none jc_49 Q n 43 [some (.ref 80), some (.int x1), u2, some (.int x3), some (.int x4), u5] [.int y0] σ := by
  unfold f_D_cutIntoTokens_43 at h
  by_cases c7 : y0 = 0
  · rw [if_pos c7] at h
    suffices hh : ∃ n, jx_W jx_ShC d none jc_49 Q n 50 [some (.ref 80), some (.int x1), u2, some (.int x3), some (.int x4), some (.int y0)] [] σ by
      obtain ⟨n, hn⟩ := hh
      exact ⟨n + 3, And.intro (fun zz => absurd c7 zz) (fun _ => hn)⟩
    cases c8 : jx_in x3 200 with
    | false => rw [c8, cond_false] at h; cases h
    | true =>
      rw [c8, cond_true] at h
      by_cases c9 : (σ.1 81 (x3).toNatClampNeg) = 32
      · rw [if_pos c9] at h
        suffices hh : ∃ n, jx_W jx_ShC d none jc_49 Q n 84 [some (.ref 80), some (.int x1), u2, some (.int x3), some (.int x4), some (.int y0)] [] σ by
          obtain ⟨n, hn⟩ := hh
          exact ⟨n + 6, And.intro (jx_in_ok c8) (And.intro (fun _ => hn) (fun zz => absurd c9 zz))⟩
        obtain ⟨n, hn⟩ := s_D_cutIntoTokens_84 hd hK6 (u2 := u2) (u5 := some (.int y0)) h hQ
        exact ⟨n + 0, hn⟩
      · rw [if_neg c9] at h
        suffices hh : ∃ n, jx_W jx_ShC d none jc_49 Q n 61 [some (.ref 80), some (.int x1), u2, some (.int x3), some (.int x4), some (.int y0)] [] σ by
          obtain ⟨n, hn⟩ := hh
          exact ⟨n + 6, And.intro (jx_in_ok c8) (And.intro (fun zz => absurd zz c9) (fun _ => hn))⟩
        obtain ⟨z10, h11, h⟩ := Option.bind_eq_some_iff.mp h
        cases c12 : jx_in x1 201 with
        | false => rw [c12, cond_false] at h; cases h
        | true =>
          rw [c12, cond_true] at h
          obtain ⟨n, hn⟩ := s_D_cutIntoTokens_84 hd hK6 (u2 := u2) (u5 := some (.int y0)) h hQ
          exact ⟨n + 14, s_D_tokenAt (by omega) h11 (And.intro (jx_in_ok c12) (And.intro (jx_in_ok c12) (hn)))⟩
  · rw [if_neg c7] at h
    suffices hh : ∃ n, jx_W jx_ShC d none jc_49 Q n 84 [some (.ref 80), some (.int x1), u2, some (.int x3), some (.int x4), some (.int y0)] [] σ by
      obtain ⟨n, hn⟩ := hh
      exact ⟨n + 3, And.intro (fun _ => hn) (fun zz => absurd zz c7)⟩
    obtain ⟨n, hn⟩ := s_D_cutIntoTokens_84 hd hK6 (u2 := u2) (u5 := some (.int y0)) h hQ
    exact ⟨n + 0, hn⟩
set_option maxRecDepth 20000 in
theorem s_D_cutIntoTokens_42 {N d : Nat} {Q : jw_Q} {K6 : Int32 → Int32 → Int32 → jw_M → Option jw_M} (hd : 9 ≤ d) (hK6 : ∀ {x1 : Int32} {x2 : Int32} {x3 : Int32} {σ : jw_M} {z : jw_M} {u4 : Option Value} {u5 : Option Value}, K6 x1 x2 x3 σ = some z → Q none (jx_ShC, z) → ∃ n, jx_W jx_ShC d none jc_49 Q n 6 [some (.ref 80), some (.int x1), some (.int x2), some (.int x3), u4, u5] [] σ) {x1 : Int32} {x3 : Int32} {x4 : Int32} {u2 : Option Value} {u5 : Option Value} {σ : jw_M} {z : jw_M} (h : f_D_cutIntoTokens_42 N K6 x1 x3 x4 σ = some z) (hQ : Q none (jx_ShC, z)) : ∃ n, jx_W jx_ShC d none jc_49 Q n 42 [some (.ref 80), some (.int x1), u2, some (.int x3), some (.int x4), u5] [] σ := by
  unfold f_D_cutIntoTokens_42 at h
  obtain ⟨n, hn⟩ := s_D_cutIntoTokens_43 hd hK6 (u2 := u2) (u5 := u5) h hQ
  exact ⟨n + 1, hn⟩
set_option maxRecDepth 20000 in
theorem s_D_cutIntoTokens_6 {N d : Nat} {Q : jw_Q} (hd : 9 ≤ d) : ∀ (k : Nat) {x1 : Int32} {x2 : Int32} {x3 : Int32} {u4 : Option Value} {u5 : Option Value} {σ : jw_M} {z : jw_M}, f_D_cutIntoTokens_6 N k x1 x2 x3 σ = some z → Q none (jx_ShC, z) → ∃ n, jx_W jx_ShC d none jc_49 Q n 6 [some (.ref 80), some (.int x1), some (.int x2), some (.int x3), u4, u5] [] σ
  | 0, _, _, _, _, _, _, _, h, _ => by cases h
  | k + 1, x1, x2, x3, u4, u5, σ, z, h, hQ => by
    rw [f_D_cutIntoTokens_6] at h
    by_cases c1 : (σ.1 80 0) ≤ x3
    · rw [if_pos c1] at h
      suffices hh : ∃ n, jx_W jx_ShC d none jc_49 Q n 93 [some (.ref 80), some (.int x1), some (.int x2), some (.int x3), u4, u5] [] σ by
        obtain ⟨n, hn⟩ := hh
        exact ⟨n + 4, And.intro (fun _ => hn) (fun zz => absurd c1 zz)⟩
      cases c2 : jx_in x1 201 with
      | false => rw [c2, cond_false] at h; cases h
      | true =>
        rw [c2, cond_true] at h
        cases h
        exact ⟨12, And.intro (jx_in_ok c2) (And.intro (jx_in_ok c2) (And.intro hQ (And.intro rfl rfl)))⟩
    · rw [if_neg c1] at h
      suffices hh : ∃ n, jx_W jx_ShC d none jc_49 Q n 14 [some (.ref 80), some (.int x1), some (.int x2), some (.int x3), u4, u5] [] σ by
        obtain ⟨n, hn⟩ := hh
        exact ⟨n + 4, And.intro (fun zz => absurd zz c1) (fun _ => hn)⟩
      cases c3 : jx_in x3 200 with
      | false => rw [c3, cond_false] at h; cases h
      | true =>
        rw [c3, cond_true] at h
        obtain ⟨z4, h5, h⟩ := Option.bind_eq_some_iff.mp h
        by_cases c6 : z4.1 = 2
        · rw [if_pos c6] at h
          suffices hh : ∃ n, jx_W jx_ShC d none jc_49 Q n 42 [some (.ref 80), some (.int x1), some (.int x2), some (.int x3), some (.int z4.1), u5] [] z4.2 by
            obtain ⟨n, hn⟩ := hh
            exact ⟨n + 10, And.intro (jx_in_ok c3) (s_D_sortOf (by omega) h5 (And.intro (fun _ => hn) (fun zz => absurd c6 zz)))⟩
          obtain ⟨n, hn⟩ := s_D_cutIntoTokens_42 hd (s_D_cutIntoTokens_6 hd k) (u2 := some (.int x2)) (u5 := u5) h hQ
          exact ⟨n + 0, hn⟩
        · rw [if_neg c6] at h
          suffices hh : ∃ n, jx_W jx_ShC d none jc_49 Q n 32 [some (.ref 80), some (.int x1), some (.int x2), some (.int x3), some (.int z4.1), u5] [] z4.2 by
            obtain ⟨n, hn⟩ := hh
            exact ⟨n + 10, And.intro (jx_in_ok c3) (s_D_sortOf (by omega) h5 (And.intro (fun zz => absurd zz c6) (fun _ => hn)))⟩
          by_cases c13 : z4.1 = x2
          · rw [if_pos c13] at h
            suffices hh : ∃ n, jx_W jx_ShC d none jc_49 Q n 38 [some (.ref 80), some (.int x1), some (.int x2), some (.int x3), some (.int z4.1), u5] [] z4.2 by
              obtain ⟨n, hn⟩ := hh
              exact ⟨n + 3, And.intro (fun zz => absurd c13 zz) (fun _ => hn)⟩
            obtain ⟨n, hn⟩ := s_D_cutIntoTokens_43 hd (s_D_cutIntoTokens_6 hd k) (u2 := some (.int x2)) (u5 := u5) h hQ
            exact ⟨n + 2, hn⟩
          · rw [if_neg c13] at h
            suffices hh : ∃ n, jx_W jx_ShC d none jc_49 Q n 42 [some (.ref 80), some (.int x1), some (.int x2), some (.int x3), some (.int z4.1), u5] [] z4.2 by
              obtain ⟨n, hn⟩ := hh
              exact ⟨n + 3, And.intro (fun _ => hn) (fun zz => absurd zz c13)⟩
            obtain ⟨n, hn⟩ := s_D_cutIntoTokens_42 hd (s_D_cutIntoTokens_6 hd k) (u2 := some (.int x2)) (u5 := u5) h hQ
            exact ⟨n + 0, hn⟩
set_option maxRecDepth 20000 in
theorem s_D_cutIntoTokens {N d : Nat} (hd : 10 ≤ d) {σ : jw_M} {z : jw_M} {Q : jw_Q} (h : f_D_cutIntoTokens N  σ = some z) (hQ : Q none (jx_ShC, z)) : jw_C jp_kd jp_ys d 49 [.ref 80] (jx_ShC, σ) Q := by
  obtain ⟨d, rfl⟩ : ∃ e, d = e + 1 := ⟨d - 1, by omega⟩
  replace hd : 9 ≤ d := by omega
  refine jx_C rfl rfl ?_
  unfold f_D_cutIntoTokens at h
  obtain ⟨n, hn⟩ := s_D_cutIntoTokens_6 hd N (u4 := none) (u5 := none) h hQ
  exact ⟨n + 6, hn⟩
set_option maxRecDepth 20000 in
theorem s_D_goOn {N d : Nat} (hd : 1 ≤ d) {σ : jw_M} {z : jw_M} {Q : jw_Q} (h : f_D_goOn N  σ = some z) (hQ : Q none (jx_ShC, z)) : jw_C jp_kd jp_ys d 64 [.ref 80] (jx_ShC, σ) Q := by
  obtain ⟨d, rfl⟩ : ∃ e, d = e + 1 := ⟨d - 1, by omega⟩
  replace hd : 0 ≤ d := by omega
  refine jx_C rfl rfl ?_
  unfold f_D_goOn at h
  by_cases c1 : 200 ≤ (σ.1 80 4)
  · rw [if_pos c1] at h
    suffices hh : ∃ n, jx_W jx_ShC d none jc_64 Q n 20 [some (.ref 80)] [] σ by
      obtain ⟨n, hn⟩ := hh
      exact ⟨n + 4, And.intro (fun _ => hn) (fun zz => absurd c1 zz)⟩
    cases h
    exact ⟨1, And.intro hQ (And.intro rfl rfl)⟩
  · rw [if_neg c1] at h
    suffices hh : ∃ n, jx_W jx_ShC d none jc_64 Q n 10 [some (.ref 80)] [] σ by
      obtain ⟨n, hn⟩ := hh
      exact ⟨n + 4, And.intro (fun zz => absurd zz c1) (fun _ => hn)⟩
    cases h
    exact ⟨7, And.intro hQ (And.intro rfl rfl)⟩
set_option maxRecDepth 20000 in
theorem s_D_readSign {N d : Nat} {x1 : Int32} (hd : 2 ≤ d) {σ : jw_M} {z : (Int32 × jw_M)} {Q : jw_Q} (h : f_D_readSign N x1 σ = some z) (hQ : Q (some (.int z.1)) (jx_ShC, z.2)) : jw_C jp_kd jp_ys d 61 [.ref 80, .int x1] (jx_ShC, σ) Q := by
  obtain ⟨d, rfl⟩ : ∃ e, d = e + 1 := ⟨d - 1, by omega⟩
  replace hd : 1 ≤ d := by omega
  refine jx_C rfl rfl ?_
  unfold f_D_readSign at h
  cases c1 : jx_in (σ.1 80 4) 201 with
  | false => rw [c1, cond_false] at h; cases h
  | true =>
    rw [c1, cond_true] at h
    by_cases c2 : (σ.1 82 ((σ.1 80 4)).toNatClampNeg) = x1
    · rw [if_pos c2] at h
      suffices hh : ∃ n, jx_W jx_ShC d (some .boolean) jc_61 Q n 15 [some (.ref 80), some (.int x1)] [] σ by
        obtain ⟨n, hn⟩ := hh
        exact ⟨n + 7, And.intro (jx_in_ok c1) (And.intro (fun _ => hn) (fun zz => absurd c2 zz))⟩
      obtain ⟨z3, h4, h⟩ := Option.bind_eq_some_iff.mp h
      cases h
      exact ⟨4, s_D_goOn (by omega) h4 (And.intro (Or.inr rfl) (And.intro hQ (And.intro rfl rfl)))⟩
    · rw [if_neg c2] at h
      suffices hh : ∃ n, jx_W jx_ShC d (some .boolean) jc_61 Q n 13 [some (.ref 80), some (.int x1)] [] σ by
        obtain ⟨n, hn⟩ := hh
        exact ⟨n + 7, And.intro (jx_in_ok c1) (And.intro (fun zz => absurd zz c2) (fun _ => hn))⟩
      cases h
      exact ⟨2, And.intro (Or.inl rfl) (And.intro hQ (And.intro rfl rfl))⟩
set_option maxRecDepth 20000 in
theorem s_D_readWithin {N d : Nat} {Dr : Nat} {Rec : Int32 → jw_M → Option (Int32 × jw_M)} {x1 : Int32} (hRec : ∀ {d : Nat} {a1 : Int32} {σ : jw_M} {z : (Int32 × jw_M)} {Q : jw_Q}, Dr ≤ d → Rec a1 σ = some z → Q (some (.int z.1)) (jx_ShC, z.2) → jw_C jp_kd jp_ys d 57 [.ref 80, .int a1] (jx_ShC, σ) Q) (hd0 : 1 + Dr ≤ d) (hd : 3 ≤ d) {σ : jw_M} {z : (Int32 × jw_M)} {Q : jw_Q} (h : f_D_readWithin N Rec x1 σ = some z) (hQ : Q (some (.int z.1)) (jx_ShC, z.2)) : jw_C jp_kd jp_ys d 59 [.ref 80, .int x1] (jx_ShC, σ) Q := by
  obtain ⟨d, rfl⟩ : ∃ e, d = e + 1 := ⟨d - 1, by omega⟩
  replace hd0 : 0 + Dr ≤ d := by omega
  replace hd : 2 ≤ d := by omega
  refine jx_C rfl rfl ?_
  unfold f_D_readWithin at h
  by_cases c1 : x1 < 3
  · rw [if_pos c1] at h
    suffices hh : ∃ n, jx_W jx_ShC d (some .boolean) jc_59 Q n 7 [some (.ref 80), some (.int x1)] [] σ by
      obtain ⟨n, hn⟩ := hh
      exact ⟨n + 3, And.intro (fun _ => hn) (fun zz => absurd c1 zz)⟩
    obtain ⟨z2, h3, h⟩ := Option.bind_eq_some_iff.mp h
    obtain ⟨z4, h5, h⟩ := Option.bind_eq_some_iff.mp h
    by_cases c6 : z4.1 = 0
    · rw [if_pos c6] at h
      suffices hh : ∃ n, jx_W jx_ShC d (some .boolean) jc_59 Q n 34 [some (.ref 80), some (.int x1)] [] z4.2 by
        obtain ⟨n, hn⟩ := hh
        exact ⟨n + 8, s_D_goOn (by omega) h3 (hRec (by omega) h5 (And.intro (fun _ => hn) (fun zz => absurd c6 zz)))⟩
      cases h
      exact ⟨2, And.intro (Or.inl rfl) (And.intro hQ (And.intro rfl rfl))⟩
    · rw [if_neg c6] at h
      suffices hh : ∃ n, jx_W jx_ShC d (some .boolean) jc_59 Q n 21 [some (.ref 80), some (.int x1)] [] z4.2 by
        obtain ⟨n, hn⟩ := hh
        exact ⟨n + 8, s_D_goOn (by omega) h3 (hRec (by omega) h5 (And.intro (fun zz => absurd zz c6) (fun _ => hn)))⟩
      obtain ⟨z7, h8, h⟩ := Option.bind_eq_some_iff.mp h
      by_cases c9 : z7.1 = 0
      · rw [if_pos c9] at h
        suffices hh : ∃ n, jx_W jx_ShC d (some .boolean) jc_59 Q n 34 [some (.ref 80), some (.int x1)] [] z7.2 by
          obtain ⟨n, hn⟩ := hh
          exact ⟨n + 4, s_D_readSign (by omega) h8 (And.intro (fun _ => hn) (fun zz => absurd c9 zz))⟩
        cases h
        exact ⟨2, And.intro (Or.inl rfl) (And.intro hQ (And.intro rfl rfl))⟩
      · rw [if_neg c9] at h
        suffices hh : ∃ n, jx_W jx_ShC d (some .boolean) jc_59 Q n 30 [some (.ref 80), some (.int x1)] [] z7.2 by
          obtain ⟨n, hn⟩ := hh
          exact ⟨n + 4, s_D_readSign (by omega) h8 (And.intro (fun zz => absurd zz c9) (fun _ => hn))⟩
        cases h
        exact ⟨3, And.intro (Or.inr rfl) (And.intro hQ (And.intro rfl rfl))⟩
  · rw [if_neg c1] at h
    suffices hh : ∃ n, jx_W jx_ShC d (some .boolean) jc_59 Q n 5 [some (.ref 80), some (.int x1)] [] σ by
      obtain ⟨n, hn⟩ := hh
      exact ⟨n + 3, And.intro (fun zz => absurd zz c1) (fun _ => hn)⟩
    cases h
    exact ⟨2, And.intro (Or.inl rfl) (And.intro hQ (And.intro rfl rfl))⟩
set_option maxRecDepth 20000 in
theorem s_F_isWithin {N d : Nat} {x0 : Int32} {x1 : Int32} {x2 : Int32} (hd : 1 ≤ d) {σ : jw_M} {z : (Int32 × jw_M)} {Q : jw_Q} (h : f_F_isWithin N x0 x1 x2 σ = some z) (hQ : Q (some (.int z.1)) (jx_ShC, z.2)) : jw_C jp_kd jp_ys d 174 [.int x0, .int x1, .int x2] (jx_ShC, σ) Q := by
  obtain ⟨d, rfl⟩ : ∃ e, d = e + 1 := ⟨d - 1, by omega⟩
  replace hd : 0 ≤ d := by omega
  refine jx_C rfl rfl ?_
  unfold f_F_isWithin at h
  by_cases c1 : x0 < x1
  · rw [if_pos c1] at h
    suffices hh : ∃ n, jx_W jx_ShC d (some .boolean) jc_174 Q n 14 [some (.int x0), some (.int x1), some (.int x2)] [] σ by
      obtain ⟨n, hn⟩ := hh
      exact ⟨n + 3, And.intro (fun _ => hn) (fun zz => absurd c1 zz)⟩
    cases h
    exact ⟨2, And.intro (Or.inl rfl) (And.intro hQ (And.intro rfl rfl))⟩
  · rw [if_neg c1] at h
    suffices hh : ∃ n, jx_W jx_ShC d (some .boolean) jc_174 Q n 5 [some (.int x0), some (.int x1), some (.int x2)] [] σ by
      obtain ⟨n, hn⟩ := hh
      exact ⟨n + 3, And.intro (fun zz => absurd zz c1) (fun _ => hn)⟩
    by_cases c2 : x2 < x0
    · rw [if_pos c2] at h
      suffices hh : ∃ n, jx_W jx_ShC d (some .boolean) jc_174 Q n 14 [some (.int x0), some (.int x1), some (.int x2)] [] σ by
        obtain ⟨n, hn⟩ := hh
        exact ⟨n + 3, And.intro (fun _ => hn) (fun zz => absurd c2 zz)⟩
      cases h
      exact ⟨2, And.intro (Or.inl rfl) (And.intro hQ (And.intro rfl rfl))⟩
    · rw [if_neg c2] at h
      suffices hh : ∃ n, jx_W jx_ShC d (some .boolean) jc_174 Q n 10 [some (.int x0), some (.int x1), some (.int x2)] [] σ by
        obtain ⟨n, hn⟩ := hh
        exact ⟨n + 3, And.intro (fun zz => absurd zz c2) (fun _ => hn)⟩
      cases h
      exact ⟨3, And.intro (Or.inr rfl) (And.intro hQ (And.intro rfl rfl))⟩
set_option maxRecDepth 20000 in
theorem s_D_isValue_18 {N d : Nat} {Q : jw_Q} (hd : 1 ≤ d) {u0 : Option Value} {u1 : Option Value} {σ : jw_M} {z : (Int32 × jw_M)} (h : f_D_isValue_18 N  σ = some z) (hQ : Q (some (.int z.1)) (jx_ShC, z.2)) : ∃ n, jx_W jx_ShC d (some .boolean) jc_62 Q n 18 [u0, u1] [] σ := by
  unfold f_D_isValue_18 at h
  cases h
  exact ⟨3, And.intro (Or.inr rfl) (And.intro hQ (And.intro rfl rfl))⟩
set_option maxRecDepth 20000 in
theorem s_D_isValue {N d : Nat} {x1 : Int32} (hd : 2 ≤ d) {σ : jw_M} {z : (Int32 × jw_M)} {Q : jw_Q} (h : f_D_isValue N x1 σ = some z) (hQ : Q (some (.int z.1)) (jx_ShC, z.2)) : jw_C jp_kd jp_ys d 62 [.ref 80, .int x1] (jx_ShC, σ) Q := by
  obtain ⟨d, rfl⟩ : ∃ e, d = e + 1 := ⟨d - 1, by omega⟩
  replace hd : 1 ≤ d := by omega
  refine jx_C rfl rfl ?_
  unfold f_D_isValue at h
  by_cases c1 : 1000 ≤ x1
  · rw [if_pos c1] at h
    suffices hh : ∃ n, jx_W jx_ShC d (some .boolean) jc_62 Q n 18 [some (.ref 80), some (.int x1)] [] σ by
      obtain ⟨n, hn⟩ := hh
      exact ⟨n + 3, And.intro (fun _ => hn) (fun zz => absurd c1 zz)⟩
    obtain ⟨n, hn⟩ := s_D_isValue_18 hd (u0 := some (.ref 80)) (u1 := some (.int x1)) h hQ
    exact ⟨n + 0, hn⟩
  · rw [if_neg c1] at h
    suffices hh : ∃ n, jx_W jx_ShC d (some .boolean) jc_62 Q n 7 [some (.ref 80), some (.int x1)] [] σ by
      obtain ⟨n, hn⟩ := hh
      exact ⟨n + 3, And.intro (fun zz => absurd zz c1) (fun _ => hn)⟩
    obtain ⟨z2, h3, h⟩ := Option.bind_eq_some_iff.mp h
    by_cases c4 : z2.1 = 0
    · rw [if_pos c4] at h
      suffices hh : ∃ n, jx_W jx_ShC d (some .boolean) jc_62 Q n 22 [some (.ref 80), some (.int x1)] [] z2.2 by
        obtain ⟨n, hn⟩ := hh
        exact ⟨n + 5, s_F_isWithin (by omega) h3 (And.intro (fun _ => hn) (fun zz => absurd c4 zz))⟩
      cases h
      exact ⟨2, And.intro (Or.inl rfl) (And.intro hQ (And.intro rfl rfl))⟩
    · rw [if_neg c4] at h
      suffices hh : ∃ n, jx_W jx_ShC d (some .boolean) jc_62 Q n 18 [some (.ref 80), some (.int x1)] [] z2.2 by
        obtain ⟨n, hn⟩ := hh
        exact ⟨n + 5, s_F_isWithin (by omega) h3 (And.intro (fun zz => absurd zz c4) (fun _ => hn))⟩
      obtain ⟨n, hn⟩ := s_D_isValue_18 hd (u0 := some (.ref 80)) (u1 := some (.int x1)) h hQ
      exact ⟨n + 0, hn⟩
set_option maxRecDepth 20000 in
theorem s_R_addValue {N d : Nat} {x1 : Int32} (hd : 1 ≤ d) {σ : jw_M} {z : (Int32 × jw_M)} {Q : jw_Q} (h : f_R_addValue N x1 σ = some z) (hQ : Q (some (.int z.1)) (jx_ShC, z.2)) : jw_C jp_kd jp_ys d 68 [.ref 84, .int x1] (jx_ShC, σ) Q := by
  obtain ⟨d, rfl⟩ : ∃ e, d = e + 1 := ⟨d - 1, by omega⟩
  replace hd : 0 ≤ d := by omega
  refine jx_C rfl rfl ?_
  unfold f_R_addValue at h
  by_cases c1 : (σ.1 84 9) < 105
  · rw [if_pos c1] at h
    suffices hh : ∃ n, jx_W jx_ShC d (some .int) jc_68 Q n 14 [some (.ref 84), some (.int x1), none] [] σ by
      obtain ⟨n, hn⟩ := hh
      exact ⟨n + 6, And.intro (fun _ => hn) (fun zz => absurd c1 zz)⟩
    cases c2 : jx_in (σ.1 84 9) 105 with
    | false => rw [c2, cond_false] at h; cases h
    | true =>
      rw [c2, cond_true] at h
      cases h
      exact ⟨15, And.intro (jx_in_ok c2) (And.intro hQ (And.intro rfl rfl))⟩
  · rw [if_neg c1] at h
    suffices hh : ∃ n, jx_W jx_ShC d (some .int) jc_68 Q n 12 [some (.ref 84), some (.int x1), none] [] σ by
      obtain ⟨n, hn⟩ := hh
      exact ⟨n + 6, And.intro (fun zz => absurd zz c1) (fun _ => hn)⟩
    cases h
    exact ⟨2, And.intro hQ (And.intro rfl rfl)⟩
set_option maxRecDepth 20000 in
theorem s_D_placeOfValue {N d : Nat} {x1 : Int32} (hd : 2 ≤ d) {σ : jw_M} {z : (Int32 × jw_M)} {Q : jw_Q} (h : f_D_placeOfValue N x1 σ = some z) (hQ : Q (some (.int z.1)) (jx_ShC, z.2)) : jw_C jp_kd jp_ys d 63 [.ref 80, .int x1] (jx_ShC, σ) Q := by
  obtain ⟨d, rfl⟩ : ∃ e, d = e + 1 := ⟨d - 1, by omega⟩
  replace hd : 1 ≤ d := by omega
  refine jx_C rfl rfl ?_
  unfold f_D_placeOfValue at h
  by_cases c1 : x1 < 1000
  · rw [if_pos c1] at h
    suffices hh : ∃ n, jx_W jx_ShC d (some .int) jc_63 Q n 22 [some (.ref 80), some (.int x1)] [] σ by
      obtain ⟨n, hn⟩ := hh
      exact ⟨n + 3, And.intro (fun _ => hn) (fun zz => absurd c1 zz)⟩
    cases h
    exact ⟨4, And.intro hQ (And.intro rfl rfl)⟩
  · rw [if_neg c1] at h
    suffices hh : ∃ n, jx_W jx_ShC d (some .int) jc_63 Q n 7 [some (.ref 80), some (.int x1)] [] σ by
      obtain ⟨n, hn⟩ := hh
      exact ⟨n + 3, And.intro (fun zz => absurd zz c1) (fun _ => hn)⟩
    obtain ⟨z2, h3, h⟩ := Option.bind_eq_some_iff.mp h
    cases h
    exact ⟨8, s_R_addValue (by omega) h3 (And.intro hQ (And.intro rfl rfl))⟩
set_option maxRecDepth 20000 in
theorem s_R_addStep {N d : Nat} {x1 : Int32} {x2 : Int32} {x3 : Int32} (hd : 1 ≤ d) {σ : jw_M} {z : jw_M} {Q : jw_Q} (h : f_R_addStep N x1 x2 x3 σ = some z) (hQ : Q none (jx_ShC, z)) : jw_C jp_kd jp_ys d 69 [.ref 84, .int x1, .int x2, .int x3] (jx_ShC, σ) Q := by
  obtain ⟨d, rfl⟩ : ∃ e, d = e + 1 := ⟨d - 1, by omega⟩
  replace hd : 0 ≤ d := by omega
  refine jx_C rfl rfl ?_
  unfold f_R_addStep at h
  by_cases c1 : 100 ≤ (σ.1 84 1)
  · rw [if_pos c1] at h
    suffices hh : ∃ n, jx_W jx_ShC d none jc_69 Q n 49 [some (.ref 84), some (.int x1), some (.int x2), some (.int x3)] [] σ by
      obtain ⟨n, hn⟩ := hh
      exact ⟨n + 4, And.intro (fun _ => hn) (fun zz => absurd c1 zz)⟩
    cases h
    exact ⟨1, And.intro hQ (And.intro rfl rfl)⟩
  · rw [if_neg c1] at h
    suffices hh : ∃ n, jx_W jx_ShC d none jc_69 Q n 9 [some (.ref 84), some (.int x1), some (.int x2), some (.int x3)] [] σ by
      obtain ⟨n, hn⟩ := hh
      exact ⟨n + 4, And.intro (fun zz => absurd zz c1) (fun _ => hn)⟩
    cases c2 : jx_in (σ.1 84 1) 100 with
    | false => rw [c2, cond_false] at h; cases h
    | true =>
      rw [c2, cond_true] at h
      cases c3 : jx_in ((jx_w σ 88 ((σ.1 84 1)).toNatClampNeg x1).1 84 1) 100 with
      | false => rw [c3, cond_false] at h; cases h
      | true =>
        rw [c3, cond_true] at h
        cases c4 : jx_in ((jx_w (jx_w σ 88 ((σ.1 84 1)).toNatClampNeg x1) 89 (((jx_w σ 88 ((σ.1 84 1)).toNatClampNeg x1).1 84 1)).toNatClampNeg x2).1 84 1) 100 with
        | false => rw [c4, cond_false] at h; cases h
        | true =>
          rw [c4, cond_true] at h
          cases h
          exact ⟨25, And.intro (jx_in_ok c2) (And.intro (jx_in_ok c3) (And.intro (jx_in_ok c4) (And.intro hQ (And.intro rfl rfl))))⟩
set_option maxRecDepth 20000 in
theorem s_D_readComparison {N d : Nat} (hd : 3 ≤ d) {σ : jw_M} {z : (Int32 × jw_M)} {Q : jw_Q} (h : f_D_readComparison N  σ = some z) (hQ : Q (some (.int z.1)) (jx_ShC, z.2)) : jw_C jp_kd jp_ys d 60 [.ref 80] (jx_ShC, σ) Q := by
  obtain ⟨d, rfl⟩ : ∃ e, d = e + 1 := ⟨d - 1, by omega⟩
  replace hd : 2 ≤ d := by omega
  refine jx_C rfl rfl ?_
  unfold f_D_readComparison at h
  cases c1 : jx_in (σ.1 80 4) 201 with
  | false => rw [c1, cond_false] at h; cases h
  | true =>
    rw [c1, cond_true] at h
    obtain ⟨z2, h3, h⟩ := Option.bind_eq_some_iff.mp h
    by_cases c4 : z2.1 = 0
    · rw [if_pos c4] at h
      suffices hh : ∃ n, jx_W jx_ShC d (some .boolean) jc_60 Q n 16 [some (.ref 80), none, none] [] z2.2 by
        obtain ⟨n, hn⟩ := hh
        exact ⟨n + 8, And.intro (jx_in_ok c1) (s_D_isValue (by omega) h3 (And.intro (fun zz => absurd c4 zz) (fun _ => hn)))⟩
      cases h
      exact ⟨2, And.intro (Or.inl rfl) (And.intro hQ (And.intro rfl rfl))⟩
    · rw [if_neg c4] at h
      suffices hh : ∃ n, jx_W jx_ShC d (some .boolean) jc_60 Q n 18 [some (.ref 80), none, none] [] z2.2 by
        obtain ⟨n, hn⟩ := hh
        exact ⟨n + 8, And.intro (jx_in_ok c1) (s_D_isValue (by omega) h3 (And.intro (fun _ => hn) (fun zz => absurd zz c4)))⟩
      cases c5 : jx_in (z2.2.1 80 4) 201 with
      | false => rw [c5, cond_false] at h; cases h
      | true =>
        rw [c5, cond_true] at h
        obtain ⟨z6, h7, h⟩ := Option.bind_eq_some_iff.mp h
        obtain ⟨z8, h9, h⟩ := Option.bind_eq_some_iff.mp h
        cases c10 : jx_in (z8.1 80 4) 201 with
        | false => rw [c10, cond_false] at h; cases h
        | true =>
          rw [c10, cond_true] at h
          obtain ⟨z11, h12, h⟩ := Option.bind_eq_some_iff.mp h
          by_cases c13 : z11.1 = 0
          · rw [if_pos c13] at h
            suffices hh : ∃ n, jx_W jx_ShC d (some .boolean) jc_60 Q n 58 [some (.ref 80), some (.int z6.1), some (.int ((z8.1 82 ((z8.1 80 4)).toNatClampNeg) - 60))] [] z11.2 by
              obtain ⟨n, hn⟩ := hh
              exact ⟨n + 23, And.intro (jx_in_ok c5) (s_D_placeOfValue (by omega) h7 (s_D_goOn (by omega) h9 (And.intro (jx_in_ok c10) (s_F_isWithin (by omega) h12 (And.intro (fun zz => absurd c13 zz) (fun _ => hn))))))⟩
            cases h
            exact ⟨2, And.intro (Or.inl rfl) (And.intro hQ (And.intro rfl rfl))⟩
          · rw [if_neg c13] at h
            suffices hh : ∃ n, jx_W jx_ShC d (some .boolean) jc_60 Q n 60 [some (.ref 80), some (.int z6.1), some (.int ((z8.1 82 ((z8.1 80 4)).toNatClampNeg) - 60))] [] z11.2 by
              obtain ⟨n, hn⟩ := hh
              exact ⟨n + 23, And.intro (jx_in_ok c5) (s_D_placeOfValue (by omega) h7 (s_D_goOn (by omega) h9 (And.intro (jx_in_ok c10) (s_F_isWithin (by omega) h12 (And.intro (fun _ => hn) (fun zz => absurd zz c13))))))⟩
            obtain ⟨z14, h15, h⟩ := Option.bind_eq_some_iff.mp h
            cases c16 : jx_in (z14.1 80 4) 201 with
            | false => rw [c16, cond_false] at h; cases h
            | true =>
              rw [c16, cond_true] at h
              obtain ⟨z17, h18, h⟩ := Option.bind_eq_some_iff.mp h
              by_cases c19 : z17.1 = 0
              · rw [if_pos c19] at h
                suffices hh : ∃ n, jx_W jx_ShC d (some .boolean) jc_60 Q n 80 [some (.ref 80), some (.int z6.1), some (.int ((z8.1 82 ((z8.1 80 4)).toNatClampNeg) - 60))] [] z17.2 by
                  obtain ⟨n, hn⟩ := hh
                  exact ⟨n + 10, s_D_goOn (by omega) h15 (And.intro (jx_in_ok c16) (s_D_isValue (by omega) h18 (And.intro (fun zz => absurd c19 zz) (fun _ => hn))))⟩
                cases h
                exact ⟨2, And.intro (Or.inl rfl) (And.intro hQ (And.intro rfl rfl))⟩
              · rw [if_neg c19] at h
                suffices hh : ∃ n, jx_W jx_ShC d (some .boolean) jc_60 Q n 82 [some (.ref 80), some (.int z6.1), some (.int ((z8.1 82 ((z8.1 80 4)).toNatClampNeg) - 60))] [] z17.2 by
                  obtain ⟨n, hn⟩ := hh
                  exact ⟨n + 10, s_D_goOn (by omega) h15 (And.intro (jx_in_ok c16) (s_D_isValue (by omega) h18 (And.intro (fun _ => hn) (fun zz => absurd zz c19))))⟩
                cases c20 : jx_in (z17.2.1 80 4) 201 with
                | false => rw [c20, cond_false] at h; cases h
                | true =>
                  rw [c20, cond_true] at h
                  obtain ⟨z21, h22, h⟩ := Option.bind_eq_some_iff.mp h
                  obtain ⟨z23, h24, h⟩ := Option.bind_eq_some_iff.mp h
                  obtain ⟨z25, h26, h⟩ := Option.bind_eq_some_iff.mp h
                  cases h
                  exact ⟨16, And.intro (jx_in_ok c20) (s_D_placeOfValue (by omega) h22 (s_R_addStep (by omega) h24 (s_D_goOn (by omega) h26 (And.intro (Or.inr rfl) (And.intro hQ (And.intro rfl rfl))))))⟩
set_option maxRecDepth 20000 in
theorem s_D_readOne_71 {N d : Nat} {Dr : Nat} {Rec : Int32 → jw_M → Option (Int32 × jw_M)} {Q : jw_Q} (hRec : ∀ {d : Nat} {a1 : Int32} {σ : jw_M} {z : (Int32 × jw_M)} {Q : jw_Q}, Dr ≤ d → Rec a1 σ = some z → Q (some (.int z.1)) (jx_ShC, z.2) → jw_C jp_kd jp_ys d 57 [.ref 80, .int a1] (jx_ShC, σ) Q) (hd0 : 1 + Dr ≤ d) (hd : 3 ≤ d) {x2 : Int32} {y0 : Int32} {u1 : Option Value} {u3 : Option Value} {σ : jw_M} {z : (Int32 × jw_M)} (h : f_D_readOne_71 N Rec x2 y0 σ = some z) (hQ : Q (some (.int z.1)) (jx_ShC, z.2)) : ∃ n, jx_W jx_ShC d (some .boolean) jc_58 Q n 71 [some (.ref 80), u1, some (.int x2), u3] [.int y0] σ := by
  unfold f_D_readOne_71 at h
  by_cases c6 : y0 = 0
  · rw [if_pos c6] at h
    suffices hh : ∃ n, jx_W jx_ShC d (some .boolean) jc_58 Q n 90 [some (.ref 80), u1, some (.int x2), some (.int y0)] [] σ by
      obtain ⟨n, hn⟩ := hh
      exact ⟨n + 3, And.intro (fun _ => hn) (fun zz => absurd c6 zz)⟩
    by_cases c7 : y0 = 0 ∨ y0 = 1
    · rw [if_pos c7] at h
      cases h
      exact ⟨2, And.intro c7 (And.intro hQ (And.intro rfl rfl))⟩
    · rw [if_neg c7] at h
      cases h
  · rw [if_neg c6] at h
    suffices hh : ∃ n, jx_W jx_ShC d (some .boolean) jc_58 Q n 76 [some (.ref 80), u1, some (.int x2), some (.int y0)] [] σ by
      obtain ⟨n, hn⟩ := hh
      exact ⟨n + 3, And.intro (fun zz => absurd zz c6) (fun _ => hn)⟩
    by_cases c8 : x2 = 0
    · rw [if_pos c8] at h
      suffices hh : ∃ n, jx_W jx_ShC d (some .boolean) jc_58 Q n 90 [some (.ref 80), u1, some (.int x2), some (.int y0)] [] σ by
        obtain ⟨n, hn⟩ := hh
        exact ⟨n + 2, And.intro (fun _ => hn) (fun zz => absurd c8 zz)⟩
      by_cases c9 : y0 = 0 ∨ y0 = 1
      · rw [if_pos c9] at h
        cases h
        exact ⟨2, And.intro c9 (And.intro hQ (And.intro rfl rfl))⟩
      · rw [if_neg c9] at h
        cases h
    · rw [if_neg c8] at h
      suffices hh : ∃ n, jx_W jx_ShC d (some .boolean) jc_58 Q n 80 [some (.ref 80), u1, some (.int x2), some (.int y0)] [] σ by
        obtain ⟨n, hn⟩ := hh
        exact ⟨n + 2, And.intro (fun zz => absurd zz c8) (fun _ => hn)⟩
      obtain ⟨z10, h11, h⟩ := Option.bind_eq_some_iff.mp h
      by_cases c12 : y0 = 0 ∨ y0 = 1
      · rw [if_pos c12] at h
        cases h
        exact ⟨8, s_R_addStep (by omega) h11 (And.intro c12 (And.intro hQ (And.intro rfl rfl)))⟩
      · rw [if_neg c12] at h
        cases h
set_option maxRecDepth 20000 in
theorem s_D_readOne_45 {N d : Nat} {Dr : Nat} {Rec : Int32 → jw_M → Option (Int32 × jw_M)} {Q : jw_Q} (hRec : ∀ {d : Nat} {a1 : Int32} {σ : jw_M} {z : (Int32 × jw_M)} {Q : jw_Q}, Dr ≤ d → Rec a1 σ = some z → Q (some (.int z.1)) (jx_ShC, z.2) → jw_C jp_kd jp_ys d 57 [.ref 80, .int a1] (jx_ShC, σ) Q) (hd0 : 1 + Dr ≤ d) (hd : 3 ≤ d) {x1 : Int32} {x2 : Int32} {u3 : Option Value} {σ : jw_M} {z : (Int32 × jw_M)} (h : f_D_readOne_45 N Rec x1 x2 σ = some z) (hQ : Q (some (.int z.1)) (jx_ShC, z.2)) : ∃ n, jx_W jx_ShC d (some .boolean) jc_58 Q n 45 [some (.ref 80), some (.int x1), some (.int x2), u3] [] σ := by
  unfold f_D_readOne_45 at h
  cases c2 : jx_in (σ.1 80 4) 201 with
  | false => rw [c2, cond_false] at h; cases h
  | true =>
    rw [c2, cond_true] at h
    by_cases c3 : (σ.1 82 ((σ.1 80 4)).toNatClampNeg) = 40
    · rw [if_pos c3] at h
      suffices hh : ∃ n, jx_W jx_ShC d (some .boolean) jc_58 Q n 59 [some (.ref 80), some (.int x1), some (.int x2), u3] [] σ by
        obtain ⟨n, hn⟩ := hh
        exact ⟨n + 7, And.intro (jx_in_ok c2) (And.intro (fun zz => absurd c3 zz) (fun _ => hn))⟩
      obtain ⟨z4, h5, h⟩ := Option.bind_eq_some_iff.mp h
      obtain ⟨n, hn⟩ := s_D_readOne_71 hRec hd0 hd (u1 := some (.int x1)) (u3 := u3) h hQ
      exact ⟨n + 4, s_D_readWithin hRec (by omega) (by omega) h5 (hn)⟩
    · rw [if_neg c3] at h
      suffices hh : ∃ n, jx_W jx_ShC d (some .boolean) jc_58 Q n 67 [some (.ref 80), some (.int x1), some (.int x2), u3] [] σ by
        obtain ⟨n, hn⟩ := hh
        exact ⟨n + 7, And.intro (jx_in_ok c2) (And.intro (fun _ => hn) (fun zz => absurd zz c3))⟩
      obtain ⟨z13, h14, h⟩ := Option.bind_eq_some_iff.mp h
      obtain ⟨n, hn⟩ := s_D_readOne_71 hRec hd0 hd (u1 := some (.int x1)) (u3 := u3) h hQ
      exact ⟨n + 2, s_D_readComparison (by omega) h14 (hn)⟩
set_option maxRecDepth 20000 in
theorem s_D_readOne_34 {N d : Nat} {Dr : Nat} {Rec : Int32 → jw_M → Option (Int32 × jw_M)} {Q : jw_Q} {K4 : Int32 → Int32 → Int32 → jw_M → Option (Int32 × jw_M)} (hRec : ∀ {d : Nat} {a1 : Int32} {σ : jw_M} {z : (Int32 × jw_M)} {Q : jw_Q}, Dr ≤ d → Rec a1 σ = some z → Q (some (.int z.1)) (jx_ShC, z.2) → jw_C jp_kd jp_ys d 57 [.ref 80, .int a1] (jx_ShC, σ) Q) (hd0 : 1 + Dr ≤ d) (hd : 3 ≤ d) (hK4 : ∀ {x1 : Int32} {x2 : Int32} {x3 : Int32} {σ : jw_M} {z : (Int32 × jw_M)}, K4 x1 x2 x3 σ = some z → Q (some (.int z.1)) (jx_ShC, z.2) → ∃ n, jx_W jx_ShC d (some .boolean) jc_58 Q n 4 [some (.ref 80), some (.int x1), some (.int x2), some (.int x3)] [] σ) {x1 : Int32} {x3 : Int32} {y0 : Int32} {u2 : Option Value} {σ : jw_M} {z : (Int32 × jw_M)} (h : f_D_readOne_34 N Rec K4 x1 x3 y0 σ = some z) (hQ : Q (some (.int z.1)) (jx_ShC, z.2)) : ∃ n, jx_W jx_ShC d (some .boolean) jc_58 Q n 34 [some (.ref 80), some (.int x1), u2, some (.int x3)] [.int y0] σ := by
  unfold f_D_readOne_34 at h
  obtain ⟨z18, h19, h⟩ := Option.bind_eq_some_iff.mp h
  obtain ⟨n, hn⟩ := hK4 h hQ
  exact ⟨n + 5, s_D_goOn (by omega) h19 (hn)⟩
set_option maxRecDepth 20000 in
theorem s_D_readOne_4 {N d : Nat} {Dr : Nat} {Rec : Int32 → jw_M → Option (Int32 × jw_M)} {Q : jw_Q} (hRec : ∀ {d : Nat} {a1 : Int32} {σ : jw_M} {z : (Int32 × jw_M)} {Q : jw_Q}, Dr ≤ d → Rec a1 σ = some z → Q (some (.int z.1)) (jx_ShC, z.2) → jw_C jp_kd jp_ys d 57 [.ref 80, .int a1] (jx_ShC, σ) Q) (hd0 : 1 + Dr ≤ d) (hd : 3 ≤ d) : ∀ (k : Nat) {x1 : Int32} {x2 : Int32} {x3 : Int32} {σ : jw_M} {z : (Int32 × jw_M)}, f_D_readOne_4 N Rec k x1 x2 x3 σ = some z → Q (some (.int z.1)) (jx_ShC, z.2) → ∃ n, jx_W jx_ShC d (some .boolean) jc_58 Q n 4 [some (.ref 80), some (.int x1), some (.int x2), some (.int x3)] [] σ
  | 0, _, _, _, _, _, h, _ => by cases h
  | k + 1, x1, x2, x3, σ, z, h, hQ => by
    rw [f_D_readOne_4] at h
    by_cases c1 : 200 ≤ x3
    · rw [if_pos c1] at h
      suffices hh : ∃ n, jx_W jx_ShC d (some .boolean) jc_58 Q n 45 [some (.ref 80), some (.int x1), some (.int x2), some (.int x3)] [] σ by
        obtain ⟨n, hn⟩ := hh
        exact ⟨n + 3, And.intro (fun _ => hn) (fun zz => absurd c1 zz)⟩
      obtain ⟨n, hn⟩ := s_D_readOne_45 hRec hd0 hd (u3 := some (.int x3)) h hQ
      exact ⟨n + 0, hn⟩
    · rw [if_neg c1] at h
      suffices hh : ∃ n, jx_W jx_ShC d (some .boolean) jc_58 Q n 11 [some (.ref 80), some (.int x1), some (.int x2), some (.int x3)] [] σ by
        obtain ⟨n, hn⟩ := hh
        exact ⟨n + 3, And.intro (fun zz => absurd zz c1) (fun _ => hn)⟩
      cases c15 : jx_in (σ.1 80 4) 201 with
      | false => rw [c15, cond_false] at h; cases h
      | true =>
        rw [c15, cond_true] at h
        by_cases c16 : (σ.1 82 ((σ.1 80 4)).toNatClampNeg) = 12
        · rw [if_pos c16] at h
          suffices hh : ∃ n, jx_W jx_ShC d (some .boolean) jc_58 Q n 25 [some (.ref 80), some (.int x1), some (.int x2), some (.int x3)] [] σ by
            obtain ⟨n, hn⟩ := hh
            exact ⟨n + 7, And.intro (jx_in_ok c15) (And.intro (fun zz => absurd c16 zz) (fun _ => hn))⟩
          by_cases c17 : x2 = 0
          · rw [if_pos c17] at h
            suffices hh : ∃ n, jx_W jx_ShC d (some .boolean) jc_58 Q n 29 [some (.ref 80), some (.int x1), some (.int x2), some (.int x3)] [] σ by
              obtain ⟨n, hn⟩ := hh
              exact ⟨n + 2, And.intro (fun zz => absurd c17 zz) (fun _ => hn)⟩
            obtain ⟨n, hn⟩ := s_D_readOne_34 hRec hd0 hd (s_D_readOne_4 hRec hd0 hd k) (u2 := some (.int x2)) h hQ
            exact ⟨n + 2, hn⟩
          · rw [if_neg c17] at h
            suffices hh : ∃ n, jx_W jx_ShC d (some .boolean) jc_58 Q n 33 [some (.ref 80), some (.int x1), some (.int x2), some (.int x3)] [] σ by
              obtain ⟨n, hn⟩ := hh
              exact ⟨n + 2, And.intro (fun _ => hn) (fun zz => absurd zz c17)⟩
            obtain ⟨n, hn⟩ := s_D_readOne_34 hRec hd0 hd (s_D_readOne_4 hRec hd0 hd k) (u2 := some (.int x2)) h hQ
            exact ⟨n + 1, hn⟩
        · rw [if_neg c16] at h
          suffices hh : ∃ n, jx_W jx_ShC d (some .boolean) jc_58 Q n 45 [some (.ref 80), some (.int x1), some (.int x2), some (.int x3)] [] σ by
            obtain ⟨n, hn⟩ := hh
            exact ⟨n + 7, And.intro (jx_in_ok c15) (And.intro (fun _ => hn) (fun zz => absurd zz c16))⟩
          obtain ⟨n, hn⟩ := s_D_readOne_45 hRec hd0 hd (u3 := some (.int x3)) h hQ
          exact ⟨n + 0, hn⟩
set_option maxRecDepth 20000 in
theorem s_D_readOne {N d : Nat} {Dr : Nat} {Rec : Int32 → jw_M → Option (Int32 × jw_M)} {x1 : Int32} (hRec : ∀ {d : Nat} {a1 : Int32} {σ : jw_M} {z : (Int32 × jw_M)} {Q : jw_Q}, Dr ≤ d → Rec a1 σ = some z → Q (some (.int z.1)) (jx_ShC, z.2) → jw_C jp_kd jp_ys d 57 [.ref 80, .int a1] (jx_ShC, σ) Q) (hd0 : 2 + Dr ≤ d) (hd : 4 ≤ d) {σ : jw_M} {z : (Int32 × jw_M)} {Q : jw_Q} (h : f_D_readOne N Rec x1 σ = some z) (hQ : Q (some (.int z.1)) (jx_ShC, z.2)) : jw_C jp_kd jp_ys d 58 [.ref 80, .int x1] (jx_ShC, σ) Q := by
  obtain ⟨d, rfl⟩ : ∃ e, d = e + 1 := ⟨d - 1, by omega⟩
  replace hd0 : 1 + Dr ≤ d := by omega
  replace hd : 3 ≤ d := by omega
  refine jx_C rfl rfl ?_
  unfold f_D_readOne at h
  obtain ⟨n, hn⟩ := s_D_readOne_4 hRec hd0 hd N h hQ
  exact ⟨n + 4, hn⟩
set_option maxRecDepth 20000 in
theorem s_D_readCondition_129 {N d : Nat} {Dr : Nat} {Rec : Int32 → jw_M → Option (Int32 × jw_M)} {Q : jw_Q} (hRec : ∀ {d : Nat} {a1 : Int32} {σ : jw_M} {z : (Int32 × jw_M)} {Q : jw_Q}, Dr ≤ d → Rec a1 σ = some z → Q (some (.int z.1)) (jx_ShC, z.2) → jw_C jp_kd jp_ys d 57 [.ref 80, .int a1] (jx_ShC, σ) Q) (hd0 : 2 + Dr ≤ d) (hd : 4 ≤ d) {x2 : Int32} {u1 : Option Value} {u3 : Option Value} {u4 : Option Value} {σ : jw_M} {z : (Int32 × jw_M)} (h : f_D_readCondition_129 N Rec x2 σ = some z) (hQ : Q (some (.int z.1)) (jx_ShC, z.2)) : ∃ n, jx_W jx_ShC d (some .boolean) jc_57 Q n 129 [some (.ref 80), u1, some (.int x2), u3, u4] [] σ := by
  unfold f_D_readCondition_129 at h
  by_cases c5 : x2 = 0
  · rw [if_pos c5] at h
    suffices hh : ∃ n, jx_W jx_ShC d (some .boolean) jc_57 Q n 143 [some (.ref 80), u1, some (.int x2), u3, u4] [] σ by
      obtain ⟨n, hn⟩ := hh
      exact ⟨n + 2, And.intro (fun _ => hn) (fun zz => absurd c5 zz)⟩
    cases h
    exact ⟨2, And.intro (Or.inr rfl) (And.intro hQ (And.intro rfl rfl))⟩
  · rw [if_neg c5] at h
    suffices hh : ∃ n, jx_W jx_ShC d (some .boolean) jc_57 Q n 133 [some (.ref 80), u1, some (.int x2), u3, u4] [] σ by
      obtain ⟨n, hn⟩ := hh
      exact ⟨n + 2, And.intro (fun zz => absurd zz c5) (fun _ => hn)⟩
    obtain ⟨z6, h7, h⟩ := Option.bind_eq_some_iff.mp h
    cases h
    exact ⟨8, s_R_addStep (by omega) h7 (And.intro (Or.inr rfl) (And.intro hQ (And.intro rfl rfl)))⟩
set_option maxRecDepth 20000 in
theorem s_D_readCondition_123 {N d : Nat} {Dr : Nat} {Rec : Int32 → jw_M → Option (Int32 × jw_M)} {Q : jw_Q} {K14 : Int32 → Int32 → Int32 → jw_M → Option (Int32 × jw_M)} (hRec : ∀ {d : Nat} {a1 : Int32} {σ : jw_M} {z : (Int32 × jw_M)} {Q : jw_Q}, Dr ≤ d → Rec a1 σ = some z → Q (some (.int z.1)) (jx_ShC, z.2) → jw_C jp_kd jp_ys d 57 [.ref 80, .int a1] (jx_ShC, σ) Q) (hd0 : 2 + Dr ≤ d) (hd : 4 ≤ d) (hK14 : ∀ {x1 : Int32} {x2 : Int32} {x3 : Int32} {σ : jw_M} {z : (Int32 × jw_M)} {u4 : Option Value}, K14 x1 x2 x3 σ = some z → Q (some (.int z.1)) (jx_ShC, z.2) → ∃ n, jx_W jx_ShC d (some .boolean) jc_57 Q n 14 [some (.ref 80), some (.int x1), some (.int x2), some (.int x3), u4] [] σ) {x1 : Int32} {x2 : Int32} {x3 : Int32} {u4 : Option Value} {σ : jw_M} {z : (Int32 × jw_M)} (h : f_D_readCondition_123 N Rec K14 x1 x2 x3 σ = some z) (hQ : Q (some (.int z.1)) (jx_ShC, z.2)) : ∃ n, jx_W jx_ShC d (some .boolean) jc_57 Q n 123 [some (.ref 80), some (.int x1), some (.int x2), some (.int x3), u4] [] σ := by
  unfold f_D_readCondition_123 at h
  obtain ⟨n, hn⟩ := hK14 (u4 := u4) h hQ
  exact ⟨n + 2, hn⟩
set_option maxRecDepth 20000 in
theorem s_D_readCondition_89 {N d : Nat} {Dr : Nat} {Rec : Int32 → jw_M → Option (Int32 × jw_M)} {Q : jw_Q} {K14 : Int32 → Int32 → Int32 → jw_M → Option (Int32 × jw_M)} (hRec : ∀ {d : Nat} {a1 : Int32} {σ : jw_M} {z : (Int32 × jw_M)} {Q : jw_Q}, Dr ≤ d → Rec a1 σ = some z → Q (some (.int z.1)) (jx_ShC, z.2) → jw_C jp_kd jp_ys d 57 [.ref 80, .int a1] (jx_ShC, σ) Q) (hd0 : 2 + Dr ≤ d) (hd : 4 ≤ d) (hK14 : ∀ {x1 : Int32} {x2 : Int32} {x3 : Int32} {σ : jw_M} {z : (Int32 × jw_M)} {u4 : Option Value}, K14 x1 x2 x3 σ = some z → Q (some (.int z.1)) (jx_ShC, z.2) → ∃ n, jx_W jx_ShC d (some .boolean) jc_57 Q n 14 [some (.ref 80), some (.int x1), some (.int x2), some (.int x3), u4] [] σ) {x1 : Int32} {x2 : Int32} {x3 : Int32} {x4 : Int32} {σ : jw_M} {z : (Int32 × jw_M)} (h : f_D_readCondition_89 N Rec K14 x1 x2 x3 x4 σ = some z) (hQ : Q (some (.int z.1)) (jx_ShC, z.2)) : ∃ n, jx_W jx_ShC d (some .boolean) jc_57 Q n 89 [some (.ref 80), some (.int x1), some (.int x2), some (.int x3), some (.int x4)] [] σ := by
  unfold f_D_readCondition_89 at h
  obtain ⟨z14, h15, h⟩ := Option.bind_eq_some_iff.mp h
  obtain ⟨z16, h17, h⟩ := Option.bind_eq_some_iff.mp h
  by_cases c18 : z16.1 = 0
  · rw [if_pos c18] at h
    suffices hh : ∃ n, jx_W jx_ShC d (some .boolean) jc_57 Q n 101 [some (.ref 80), some (.int x1), some (.int x2), some (.int x3), some (.int x4)] [] z16.2 by
      obtain ⟨n, hn⟩ := hh
      exact ⟨n + 6, s_D_goOn (by omega) h15 (s_D_readOne hRec (by omega) (by omega) h17 (And.intro (fun zz => absurd c18 zz) (fun _ => hn)))⟩
    cases h
    exact ⟨2, And.intro (Or.inl rfl) (And.intro hQ (And.intro rfl rfl))⟩
  · rw [if_neg c18] at h
    suffices hh : ∃ n, jx_W jx_ShC d (some .boolean) jc_57 Q n 103 [some (.ref 80), some (.int x1), some (.int x2), some (.int x3), some (.int x4)] [] z16.2 by
      obtain ⟨n, hn⟩ := hh
      exact ⟨n + 6, s_D_goOn (by omega) h15 (s_D_readOne hRec (by omega) (by omega) h17 (And.intro (fun _ => hn) (fun zz => absurd zz c18)))⟩
    by_cases c19 : x4 = 0
    · rw [if_pos c19] at h
      suffices hh : ∃ n, jx_W jx_ShC d (some .boolean) jc_57 Q n 121 [some (.ref 80), some (.int x1), some (.int x2), some (.int x3), some (.int x4)] [] z16.2 by
        obtain ⟨n, hn⟩ := hh
        exact ⟨n + 2, And.intro (fun _ => hn) (fun zz => absurd c19 zz)⟩
      obtain ⟨n, hn⟩ := s_D_readCondition_123 hRec hd0 hd hK14 (u4 := some (.int x4)) h hQ
      exact ⟨n + 2, hn⟩
    · rw [if_neg c19] at h
      suffices hh : ∃ n, jx_W jx_ShC d (some .boolean) jc_57 Q n 108 [some (.ref 80), some (.int x1), some (.int x2), some (.int x3), some (.int x4)] [] z16.2 by
        obtain ⟨n, hn⟩ := hh
        exact ⟨n + 2, And.intro (fun zz => absurd zz c19) (fun _ => hn)⟩
      obtain ⟨z20, h21, h⟩ := Option.bind_eq_some_iff.mp h
      obtain ⟨n, hn⟩ := s_D_readCondition_123 hRec hd0 hd hK14 (u4 := some (.int x4)) h hQ
      exact ⟨n + 7, s_R_addStep (by omega) h21 (hn)⟩
set_option maxRecDepth 20000 in
theorem s_D_readCondition_68 {N d : Nat} {Dr : Nat} {Rec : Int32 → jw_M → Option (Int32 × jw_M)} {Q : jw_Q} {K14 : Int32 → Int32 → Int32 → jw_M → Option (Int32 × jw_M)} (hRec : ∀ {d : Nat} {a1 : Int32} {σ : jw_M} {z : (Int32 × jw_M)} {Q : jw_Q}, Dr ≤ d → Rec a1 σ = some z → Q (some (.int z.1)) (jx_ShC, z.2) → jw_C jp_kd jp_ys d 57 [.ref 80, .int a1] (jx_ShC, σ) Q) (hd0 : 2 + Dr ≤ d) (hd : 4 ≤ d) (hK14 : ∀ {x1 : Int32} {x2 : Int32} {x3 : Int32} {σ : jw_M} {z : (Int32 × jw_M)} {u4 : Option Value}, K14 x1 x2 x3 σ = some z → Q (some (.int z.1)) (jx_ShC, z.2) → ∃ n, jx_W jx_ShC d (some .boolean) jc_57 Q n 14 [some (.ref 80), some (.int x1), some (.int x2), some (.int x3), u4] [] σ) {x1 : Int32} {x2 : Int32} {x3 : Int32} {y0 : Int32} {u4 : Option Value} {σ : jw_M} {z : (Int32 × jw_M)} (h : f_D_readCondition_68 N Rec K14 x1 x2 x3 y0 σ = some z) (hQ : Q (some (.int z.1)) (jx_ShC, z.2)) : ∃ n, jx_W jx_ShC d (some .boolean) jc_57 Q n 68 [some (.ref 80), some (.int x1), some (.int x2), some (.int x3), u4] [.int y0] σ := by
  unfold f_D_readCondition_68 at h
  by_cases c12 : y0 = 0
  · rw [if_pos c12] at h
    suffices hh : ∃ n, jx_W jx_ShC d (some .boolean) jc_57 Q n 75 [some (.ref 80), some (.int x1), some (.int x2), some (.int x3), some (.int y0)] [] σ by
      obtain ⟨n, hn⟩ := hh
      exact ⟨n + 3, And.intro (fun zz => absurd c12 zz) (fun _ => hn)⟩
    by_cases c13 : x2 = 0
    · rw [if_pos c13] at h
      suffices hh : ∃ n, jx_W jx_ShC d (some .boolean) jc_57 Q n 89 [some (.ref 80), some (.int x1), some (.int x2), some (.int x3), some (.int y0)] [] σ by
        obtain ⟨n, hn⟩ := hh
        exact ⟨n + 2, And.intro (fun _ => hn) (fun zz => absurd c13 zz)⟩
      obtain ⟨n, hn⟩ := s_D_readCondition_89 hRec hd0 hd hK14 h hQ
      exact ⟨n + 0, hn⟩
    · rw [if_neg c13] at h
      suffices hh : ∃ n, jx_W jx_ShC d (some .boolean) jc_57 Q n 79 [some (.ref 80), some (.int x1), some (.int x2), some (.int x3), some (.int y0)] [] σ by
        obtain ⟨n, hn⟩ := hh
        exact ⟨n + 2, And.intro (fun zz => absurd zz c13) (fun _ => hn)⟩
      obtain ⟨z22, h23, h⟩ := Option.bind_eq_some_iff.mp h
      obtain ⟨n, hn⟩ := s_D_readCondition_89 hRec hd0 hd hK14 h hQ
      exact ⟨n + 6, s_R_addStep (by omega) h23 (hn)⟩
  · rw [if_neg c12] at h
    suffices hh : ∃ n, jx_W jx_ShC d (some .boolean) jc_57 Q n 89 [some (.ref 80), some (.int x1), some (.int x2), some (.int x3), some (.int y0)] [] σ by
      obtain ⟨n, hn⟩ := hh
      exact ⟨n + 3, And.intro (fun _ => hn) (fun zz => absurd zz c12)⟩
    obtain ⟨n, hn⟩ := s_D_readCondition_89 hRec hd0 hd hK14 h hQ
    exact ⟨n + 0, hn⟩
set_option maxRecDepth 20000 in
theorem s_D_readCondition_49 {N d : Nat} {Dr : Nat} {Rec : Int32 → jw_M → Option (Int32 × jw_M)} {Q : jw_Q} {K14 : Int32 → Int32 → Int32 → jw_M → Option (Int32 × jw_M)} (hRec : ∀ {d : Nat} {a1 : Int32} {σ : jw_M} {z : (Int32 × jw_M)} {Q : jw_Q}, Dr ≤ d → Rec a1 σ = some z → Q (some (.int z.1)) (jx_ShC, z.2) → jw_C jp_kd jp_ys d 57 [.ref 80, .int a1] (jx_ShC, σ) Q) (hd0 : 2 + Dr ≤ d) (hd : 4 ≤ d) (hK14 : ∀ {x1 : Int32} {x2 : Int32} {x3 : Int32} {σ : jw_M} {z : (Int32 × jw_M)} {u4 : Option Value}, K14 x1 x2 x3 σ = some z → Q (some (.int z.1)) (jx_ShC, z.2) → ∃ n, jx_W jx_ShC d (some .boolean) jc_57 Q n 14 [some (.ref 80), some (.int x1), some (.int x2), some (.int x3), u4] [] σ) {x1 : Int32} {x2 : Int32} {x3 : Int32} {u4 : Option Value} {σ : jw_M} {z : (Int32 × jw_M)} (h : f_D_readCondition_49 N Rec K14 x1 x2 x3 σ = some z) (hQ : Q (some (.int z.1)) (jx_ShC, z.2)) : ∃ n, jx_W jx_ShC d (some .boolean) jc_57 Q n 49 [some (.ref 80), some (.int x1), some (.int x2), some (.int x3), u4] [] σ := by
  unfold f_D_readCondition_49 at h
  cases c10 : jx_in (σ.1 80 4) 201 with
  | false => rw [c10, cond_false] at h; cases h
  | true =>
    rw [c10, cond_true] at h
    by_cases c11 : (σ.1 82 ((σ.1 80 4)).toNatClampNeg) = 11
    · rw [if_pos c11] at h
      suffices hh : ∃ n, jx_W jx_ShC d (some .boolean) jc_57 Q n 63 [some (.ref 80), some (.int x1), some (.int x2), some (.int x3), u4] [] σ by
        obtain ⟨n, hn⟩ := hh
        exact ⟨n + 7, And.intro (jx_in_ok c10) (And.intro (fun zz => absurd c11 zz) (fun _ => hn))⟩
      obtain ⟨n, hn⟩ := s_D_readCondition_68 hRec hd0 hd hK14 (u4 := u4) h hQ
      exact ⟨n + 2, hn⟩
    · rw [if_neg c11] at h
      suffices hh : ∃ n, jx_W jx_ShC d (some .boolean) jc_57 Q n 67 [some (.ref 80), some (.int x1), some (.int x2), some (.int x3), u4] [] σ by
        obtain ⟨n, hn⟩ := hh
        exact ⟨n + 7, And.intro (jx_in_ok c10) (And.intro (fun _ => hn) (fun zz => absurd zz c11))⟩
      obtain ⟨n, hn⟩ := s_D_readCondition_68 hRec hd0 hd hK14 (u4 := u4) h hQ
      exact ⟨n + 1, hn⟩
set_option maxRecDepth 20000 in
theorem s_D_readCondition_14 {N d : Nat} {Dr : Nat} {Rec : Int32 → jw_M → Option (Int32 × jw_M)} {Q : jw_Q} (hRec : ∀ {d : Nat} {a1 : Int32} {σ : jw_M} {z : (Int32 × jw_M)} {Q : jw_Q}, Dr ≤ d → Rec a1 σ = some z → Q (some (.int z.1)) (jx_ShC, z.2) → jw_C jp_kd jp_ys d 57 [.ref 80, .int a1] (jx_ShC, σ) Q) (hd0 : 2 + Dr ≤ d) (hd : 4 ≤ d) : ∀ (k : Nat) {x1 : Int32} {x2 : Int32} {x3 : Int32} {u4 : Option Value} {σ : jw_M} {z : (Int32 × jw_M)}, f_D_readCondition_14 N Rec k x1 x2 x3 σ = some z → Q (some (.int z.1)) (jx_ShC, z.2) → ∃ n, jx_W jx_ShC d (some .boolean) jc_57 Q n 14 [some (.ref 80), some (.int x1), some (.int x2), some (.int x3), u4] [] σ
  | 0, _, _, _, _, _, _, h, _ => by cases h
  | k + 1, x1, x2, x3, u4, σ, z, h, hQ => by
    rw [f_D_readCondition_14] at h
    by_cases c4 : 200 ≤ x3
    · rw [if_pos c4] at h
      suffices hh : ∃ n, jx_W jx_ShC d (some .boolean) jc_57 Q n 129 [some (.ref 80), some (.int x1), some (.int x2), some (.int x3), u4] [] σ by
        obtain ⟨n, hn⟩ := hh
        exact ⟨n + 3, And.intro (fun _ => hn) (fun zz => absurd c4 zz)⟩
      obtain ⟨n, hn⟩ := s_D_readCondition_129 hRec hd0 hd (u1 := some (.int x1)) (u3 := some (.int x3)) (u4 := u4) h hQ
      exact ⟨n + 0, hn⟩
    · rw [if_neg c4] at h
      suffices hh : ∃ n, jx_W jx_ShC d (some .boolean) jc_57 Q n 21 [some (.ref 80), some (.int x1), some (.int x2), some (.int x3), u4] [] σ by
        obtain ⟨n, hn⟩ := hh
        exact ⟨n + 3, And.intro (fun zz => absurd zz c4) (fun _ => hn)⟩
      cases c8 : jx_in (σ.1 80 4) 201 with
      | false => rw [c8, cond_false] at h; cases h
      | true =>
        rw [c8, cond_true] at h
        by_cases c9 : (σ.1 82 ((σ.1 80 4)).toNatClampNeg) = 11
        · rw [if_pos c9] at h
          suffices hh : ∃ n, jx_W jx_ShC d (some .boolean) jc_57 Q n 49 [some (.ref 80), some (.int x1), some (.int x2), some (.int x3), u4] [] σ by
            obtain ⟨n, hn⟩ := hh
            exact ⟨n + 7, And.intro (jx_in_ok c8) (And.intro (fun _ => hn) (fun zz => absurd c9 zz))⟩
          obtain ⟨n, hn⟩ := s_D_readCondition_49 hRec hd0 hd (s_D_readCondition_14 hRec hd0 hd k) (u4 := u4) h hQ
          exact ⟨n + 0, hn⟩
        · rw [if_neg c9] at h
          suffices hh : ∃ n, jx_W jx_ShC d (some .boolean) jc_57 Q n 35 [some (.ref 80), some (.int x1), some (.int x2), some (.int x3), u4] [] σ by
            obtain ⟨n, hn⟩ := hh
            exact ⟨n + 7, And.intro (jx_in_ok c8) (And.intro (fun zz => absurd zz c9) (fun _ => hn))⟩
          by_cases c24 : (σ.1 82 ((σ.1 80 4)).toNatClampNeg) = 10
          · rw [if_pos c24] at h
            suffices hh : ∃ n, jx_W jx_ShC d (some .boolean) jc_57 Q n 49 [some (.ref 80), some (.int x1), some (.int x2), some (.int x3), u4] [] σ by
              obtain ⟨n, hn⟩ := hh
              exact ⟨n + 7, And.intro (jx_in_ok c8) (And.intro (fun zz => absurd c24 zz) (fun _ => hn))⟩
            obtain ⟨n, hn⟩ := s_D_readCondition_49 hRec hd0 hd (s_D_readCondition_14 hRec hd0 hd k) (u4 := u4) h hQ
            exact ⟨n + 0, hn⟩
          · rw [if_neg c24] at h
            suffices hh : ∃ n, jx_W jx_ShC d (some .boolean) jc_57 Q n 129 [some (.ref 80), some (.int x1), some (.int x2), some (.int x3), u4] [] σ by
              obtain ⟨n, hn⟩ := hh
              exact ⟨n + 7, And.intro (jx_in_ok c8) (And.intro (fun _ => hn) (fun zz => absurd zz c24))⟩
            obtain ⟨n, hn⟩ := s_D_readCondition_129 hRec hd0 hd (u1 := some (.int x1)) (u3 := some (.int x3)) (u4 := u4) h hQ
            exact ⟨n + 0, hn⟩
set_option maxRecDepth 20000 in
theorem s_D_readCondition {N : Nat} : ∀ (r : Nat) {d : Nat} {x1 : Int32} {σ : jw_M} {z : (Int32 × jw_M)} {Q : jw_Q}, 5 + 3 * r ≤ d → f_D_readCondition N r x1 σ = some z → Q (some (.int z.1)) (jx_ShC, z.2) → jw_C jp_kd jp_ys d 57 [.ref 80, .int x1] (jx_ShC, σ) Q
  | 0, _, _, _, _, _, _, h, _ => by cases h
  | r + 1, d, x1, σ, z, Q, hd, h, hQ => by
    obtain ⟨d, rfl⟩ : ∃ e, d = e + 1 := ⟨d - 1, by omega⟩
    have hd0 : 2 + (5 + 3 * r) ≤ d := by omega
    replace hd : 4 ≤ d := by omega
    have hRec := @s_D_readCondition N r
    refine jx_C rfl rfl ?_
    rw [f_D_readCondition] at h
    obtain ⟨z1, h2, h⟩ := Option.bind_eq_some_iff.mp h
    by_cases c3 : z1.1 = 0
    · rw [if_pos c3] at h
      suffices hh : ∃ n, jx_W jx_ShC d (some .boolean) jc_57 Q n 8 [some (.ref 80), some (.int x1), none, none, none] [] z1.2 by
        obtain ⟨n, hn⟩ := hh
        exact ⟨n + 4, s_D_readOne hRec (by omega) (by omega) h2 (And.intro (fun zz => absurd c3 zz) (fun _ => hn))⟩
      cases h
      exact ⟨2, And.intro (Or.inl rfl) (And.intro hQ (And.intro rfl rfl))⟩
    · rw [if_neg c3] at h
      suffices hh : ∃ n, jx_W jx_ShC d (some .boolean) jc_57 Q n 10 [some (.ref 80), some (.int x1), none, none, none] [] z1.2 by
        obtain ⟨n, hn⟩ := hh
        exact ⟨n + 4, s_D_readOne hRec (by omega) (by omega) h2 (And.intro (fun _ => hn) (fun zz => absurd zz c3))⟩
      obtain ⟨n, hn⟩ := s_D_readCondition_14 hRec hd0 hd N (u4 := none) h hQ
      exact ⟨n + 4, hn⟩
set_option maxRecDepth 20000 in
theorem s_R_addRule {N d : Nat} {x1 : Int32} {x2 : Int32} (hd : 1 ≤ d) {σ : jw_M} {z : jw_M} {Q : jw_Q} (h : f_R_addRule N x1 x2 σ = some z) (hQ : Q none (jx_ShC, z)) : jw_C jp_kd jp_ys d 70 [.ref 84, .int x1, .int x2] (jx_ShC, σ) Q := by
  obtain ⟨d, rfl⟩ : ∃ e, d = e + 1 := ⟨d - 1, by omega⟩
  replace hd : 0 ≤ d := by omega
  refine jx_C rfl rfl ?_
  unfold f_R_addRule at h
  by_cases c1 : 8 ≤ (σ.1 84 0)
  · rw [if_pos c1] at h
    suffices hh : ∃ n, jx_W jx_ShC d none jc_70 Q n 52 [some (.ref 84), some (.int x1), some (.int x2)] [] σ by
      obtain ⟨n, hn⟩ := hh
      exact ⟨n + 4, And.intro (fun _ => hn) (fun zz => absurd c1 zz)⟩
    cases h
    exact ⟨1, And.intro hQ (And.intro rfl rfl)⟩
  · rw [if_neg c1] at h
    suffices hh : ∃ n, jx_W jx_ShC d none jc_70 Q n 9 [some (.ref 84), some (.int x1), some (.int x2)] [] σ by
      obtain ⟨n, hn⟩ := hh
      exact ⟨n + 4, And.intro (fun zz => absurd zz c1) (fun _ => hn)⟩
    cases c2 : jx_in (σ.1 84 0) 8 with
    | false => rw [c2, cond_false] at h; cases h
    | true =>
      rw [c2, cond_true] at h
      cases c3 : jx_in ((jx_w σ 85 ((σ.1 84 0)).toNatClampNeg x1).1 84 0) 8 with
      | false => rw [c3, cond_false] at h; cases h
      | true =>
        rw [c3, cond_true] at h
        cases c4 : jx_in ((jx_w (jx_w σ 85 ((σ.1 84 0)).toNatClampNeg x1) 86 (((jx_w σ 85 ((σ.1 84 0)).toNatClampNeg x1).1 84 0)).toNatClampNeg x2).1 84 0) 8 with
        | false => rw [c4, cond_false] at h; cases h
        | true =>
          rw [c4, cond_true] at h
          cases h
          exact ⟨26, And.intro (jx_in_ok c2) (And.intro (jx_in_ok c3) (And.intro (jx_in_ok c4) (And.intro hQ (And.intro rfl rfl))))⟩
set_option maxRecDepth 20000 in
theorem s_D_readRule_53 {N d : Nat} {Q : jw_Q} (hd : 197 ≤ d) {x1 : Int32} {u2 : Option Value} {σ : jw_M} {z : (Int32 × jw_M)} (h : f_D_readRule_53 N x1 σ = some z) (hQ : Q (some (.int z.1)) (jx_ShC, z.2)) : ∃ n, jx_W jx_ShC d (some .boolean) jc_56 Q n 53 [some (.ref 80), some (.int x1), u2] [] σ := by
  unfold f_D_readRule_53 at h
  cases c14 : jx_in (σ.1 80 4) 201 with
  | false => rw [c14, cond_false] at h; cases h
  | true =>
    rw [c14, cond_true] at h
    obtain ⟨z15, h16, h⟩ := Option.bind_eq_some_iff.mp h
    by_cases c17 : z15.1 = 0
    · rw [if_pos c17] at h
      suffices hh : ∃ n, jx_W jx_ShC d (some .boolean) jc_56 Q n 75 [some (.ref 80), some (.int x1), some (.int ((σ.1 82 ((σ.1 80 4)).toNatClampNeg) - 6))] [] z15.2 by
        obtain ⟨n, hn⟩ := hh
        exact ⟨n + 13, And.intro (jx_in_ok c14) (s_F_isWithin (by omega) h16 (And.intro (fun zz => absurd c17 zz) (fun _ => hn)))⟩
      cases h
      exact ⟨2, And.intro (Or.inl rfl) (And.intro hQ (And.intro rfl rfl))⟩
    · rw [if_neg c17] at h
      suffices hh : ∃ n, jx_W jx_ShC d (some .boolean) jc_56 Q n 77 [some (.ref 80), some (.int x1), some (.int ((σ.1 82 ((σ.1 80 4)).toNatClampNeg) - 6))] [] z15.2 by
        obtain ⟨n, hn⟩ := hh
        exact ⟨n + 13, And.intro (jx_in_ok c14) (s_F_isWithin (by omega) h16 (And.intro (fun _ => hn) (fun zz => absurd zz c17)))⟩
      obtain ⟨z18, h19, h⟩ := Option.bind_eq_some_iff.mp h
      obtain ⟨z20, h21, h⟩ := Option.bind_eq_some_iff.mp h
      obtain ⟨z22, h23, h⟩ := Option.bind_eq_some_iff.mp h
      by_cases c24 : z22.1 = 0 ∨ z22.1 = 1
      · rw [if_pos c24] at h
        cases h
        exact ⟨11, s_D_goOn (by omega) h19 (s_R_addRule (by omega) h21 (s_D_readSign (by omega) h23 (And.intro c24 (And.intro hQ (And.intro rfl rfl)))))⟩
      · rw [if_neg c24] at h
        cases h
set_option maxRecDepth 20000 in
theorem s_D_readRule {N d : Nat} (hd : 198 ≤ d) {σ : jw_M} {z : (Int32 × jw_M)} {Q : jw_Q} (h : f_D_readRule N  σ = some z) (hQ : Q (some (.int z.1)) (jx_ShC, z.2)) : jw_C jp_kd jp_ys d 56 [.ref 80] (jx_ShC, σ) Q := by
  obtain ⟨d, rfl⟩ : ∃ e, d = e + 1 := ⟨d - 1, by omega⟩
  replace hd : 197 ≤ d := by omega
  refine jx_C rfl rfl ?_
  unfold f_D_readRule at h
  cases c1 : jx_in (σ.1 80 4) 201 with
  | false => rw [c1, cond_false] at h; cases h
  | true =>
    rw [c1, cond_true] at h
    obtain ⟨z2, h3, h⟩ := Option.bind_eq_some_iff.mp h
    by_cases c4 : z2.1 = 0
    · rw [if_pos c4] at h
      suffices hh : ∃ n, jx_W jx_ShC d (some .boolean) jc_56 Q n 19 [some (.ref 80), some (.int (σ.1 82 ((σ.1 80 4)).toNatClampNeg)), none] [] z2.2 by
        obtain ⟨n, hn⟩ := hh
        exact ⟨n + 11, And.intro (jx_in_ok c1) (s_F_isWithin (by omega) h3 (And.intro (fun zz => absurd c4 zz) (fun _ => hn)))⟩
      cases h
      exact ⟨2, And.intro (Or.inl rfl) (And.intro hQ (And.intro rfl rfl))⟩
    · rw [if_neg c4] at h
      suffices hh : ∃ n, jx_W jx_ShC d (some .boolean) jc_56 Q n 21 [some (.ref 80), some (.int (σ.1 82 ((σ.1 80 4)).toNatClampNeg)), none] [] z2.2 by
        obtain ⟨n, hn⟩ := hh
        exact ⟨n + 11, And.intro (jx_in_ok c1) (s_F_isWithin (by omega) h3 (And.intro (fun _ => hn) (fun zz => absurd zz c4)))⟩
      obtain ⟨z5, h6, h⟩ := Option.bind_eq_some_iff.mp h
      cases c7 : jx_in (z5.1 80 4) 201 with
      | false => rw [c7, cond_false] at h; cases h
      | true =>
        rw [c7, cond_true] at h
        by_cases c8 : (z5.1 82 ((z5.1 80 4)).toNatClampNeg) = 9
        · rw [if_pos c8] at h
          suffices hh : ∃ n, jx_W jx_ShC d (some .boolean) jc_56 Q n 39 [some (.ref 80), some (.int (σ.1 82 ((σ.1 80 4)).toNatClampNeg)), none] [] z5 by
            obtain ⟨n, hn⟩ := hh
            exact ⟨n + 9, s_D_goOn (by omega) h6 (And.intro (jx_in_ok c7) (And.intro (fun zz => absurd c8 zz) (fun _ => hn)))⟩
          obtain ⟨z9, h10, h⟩ := Option.bind_eq_some_iff.mp h
          obtain ⟨z11, h12, h⟩ := Option.bind_eq_some_iff.mp h
          by_cases c13 : z11.1 = 0
          · rw [if_pos c13] at h
            suffices hh : ∃ n, jx_W jx_ShC d (some .boolean) jc_56 Q n 51 [some (.ref 80), some (.int (σ.1 82 ((σ.1 80 4)).toNatClampNeg)), none] [] z11.2 by
              obtain ⟨n, hn⟩ := hh
              exact ⟨n + 6, s_D_goOn (by omega) h10 (s_D_readCondition 64 (by omega) h12 (And.intro (fun zz => absurd c13 zz) (fun _ => hn)))⟩
            cases h
            exact ⟨2, And.intro (Or.inl rfl) (And.intro hQ (And.intro rfl rfl))⟩
          · rw [if_neg c13] at h
            suffices hh : ∃ n, jx_W jx_ShC d (some .boolean) jc_56 Q n 53 [some (.ref 80), some (.int (σ.1 82 ((σ.1 80 4)).toNatClampNeg)), none] [] z11.2 by
              obtain ⟨n, hn⟩ := hh
              exact ⟨n + 6, s_D_goOn (by omega) h10 (s_D_readCondition 64 (by omega) h12 (And.intro (fun _ => hn) (fun zz => absurd zz c13)))⟩
            obtain ⟨n, hn⟩ := s_D_readRule_53 hd (u2 := none) h hQ
            exact ⟨n + 0, hn⟩
        · rw [if_neg c8] at h
          suffices hh : ∃ n, jx_W jx_ShC d (some .boolean) jc_56 Q n 53 [some (.ref 80), some (.int (σ.1 82 ((σ.1 80 4)).toNatClampNeg)), none] [] z5 by
            obtain ⟨n, hn⟩ := hh
            exact ⟨n + 9, s_D_goOn (by omega) h6 (And.intro (jx_in_ok c7) (And.intro (fun _ => hn) (fun zz => absurd zz c8)))⟩
          obtain ⟨n, hn⟩ := s_D_readRule_53 hd (u2 := none) h hQ
          exact ⟨n + 0, hn⟩
