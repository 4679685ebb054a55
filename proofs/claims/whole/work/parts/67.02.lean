set_option maxRecDepth 20000 in
theorem s_F_isOrIsUnder {N d : Nat} {x0 : Int32} {x1 : Int32} (hd : 1 ≤ d) {σ : jw_M} {z : (Int32 × jw_M)} {Q : jw_Q} (h : f_F_isOrIsUnder N x0 x1 σ = some z) (hQ : Q (some (.int z.1)) (jx_ShC, z.2)) : jw_C jp_kd jp_ys d 175 [.int x0, .int x1] (jx_ShC, σ) Q := by
  obtain ⟨d, rfl⟩ : ∃ e, d = e + 1 := ⟨d - 1, by omega⟩
  replace hd : 0 ≤ d := by omega
  refine jx_C rfl rfl ?_
  unfold f_F_isOrIsUnder at h
  cases c1 : jx_in x0 6 with
  | false => rw [c1, cond_false] at h; cases h
  | true =>
    rw [c1, cond_true] at h
    by_cases c2 : (((jw_tab.getD x0.toNatClampNeg 0) >>> (x1 &&& 31)) &&& 1) = 1
    · rw [if_pos c2] at h
      suffices hh : ∃ n, jx_W jx_ShC d (some .boolean) jc_175 Q n 13 [some (.int x0), some (.int x1)] [] σ by
        obtain ⟨n, hn⟩ := hh
        exact ⟨n + 9, And.intro rfl (And.intro (jx_in_ok c1) (And.intro (fun zz => absurd c2 zz) (fun _ => hn)))⟩
      cases h
      exact ⟨3, And.intro (Or.inr rfl) (And.intro hQ (And.intro rfl rfl))⟩
    · rw [if_neg c2] at h
      suffices hh : ∃ n, jx_W jx_ShC d (some .boolean) jc_175 Q n 17 [some (.int x0), some (.int x1)] [] σ by
        obtain ⟨n, hn⟩ := hh
        exact ⟨n + 9, And.intro rfl (And.intro (jx_in_ok c1) (And.intro (fun _ => hn) (fun zz => absurd zz c2)))⟩
      cases h
      exact ⟨2, And.intro (Or.inl rfl) (And.intro hQ (And.intro rfl rfl))⟩
set_option maxRecDepth 20000 in
theorem s_R_deedFor_46 {N d : Nat} {Q : jw_Q} {K4 : Int32 → Int32 → Int32 → jw_M → Option (Int32 × jw_M)} (hd : 1 ≤ d) (hK4 : ∀ {x1 : Int32} {x2 : Int32} {x3 : Int32} {σ : jw_M} {z : (Int32 × jw_M)}, K4 x1 x2 x3 σ = some z → Q (some (.int z.1)) (jx_ShC, z.2) → ∃ n, jx_W jx_ShC d (some .int) jc_72 Q n 4 [some (.ref 19), some (.int x1), some (.int x2), some (.int x3)] [] σ) {x1 : Int32} {x3 : Int32} {u2 : Option Value} {σ : jw_M} {z : (Int32 × jw_M)} (h : f_R_deedFor_46 N K4 x1 x3 σ = some z) (hQ : Q (some (.int z.1)) (jx_ShC, z.2)) : ∃ n, jx_W jx_ShC d (some .int) jc_72 Q n 46 [some (.ref 19), some (.int x1), u2, some (.int x3)] [] σ := by
  unfold f_R_deedFor_46 at h
  cases c6 : jx_in x3 8 with
  | false => rw [c6, cond_false] at h; cases h
  | true =>
    rw [c6, cond_true] at h
    obtain ⟨n, hn⟩ := hK4 h hQ
    exact ⟨n + 7, And.intro (jx_in_ok c6) (hn)⟩
set_option maxRecDepth 20000 in
theorem s_R_deedFor_4 {N d : Nat} {Q : jw_Q} (hd : 1 ≤ d) : ∀ (k : Nat) {x1 : Int32} {x2 : Int32} {x3 : Int32} {σ : jw_M} {z : (Int32 × jw_M)}, f_R_deedFor_4 N k x1 x2 x3 σ = some z → Q (some (.int z.1)) (jx_ShC, z.2) → ∃ n, jx_W jx_ShC d (some .int) jc_72 Q n 4 [some (.ref 19), some (.int x1), some (.int x2), some (.int x3)] [] σ
  | 0, _, _, _, _, _, h, _ => by cases h
  | k + 1, x1, x2, x3, σ, z, h, hQ => by
    rw [f_R_deedFor_4] at h
    by_cases c1 : (σ.1 19 0) ≤ x3
    · rw [if_pos c1] at h
      suffices hh : ∃ n, jx_W jx_ShC d (some .int) jc_72 Q n 59 [some (.ref 19), some (.int x1), some (.int x2), some (.int x3)] [] σ by
        obtain ⟨n, hn⟩ := hh
        exact ⟨n + 4, And.intro (fun _ => hn) (fun zz => absurd c1 zz)⟩
      cases h
      exact ⟨2, And.intro hQ (And.intro rfl rfl)⟩
    · rw [if_neg c1] at h
      suffices hh : ∃ n, jx_W jx_ShC d (some .int) jc_72 Q n 12 [some (.ref 19), some (.int x1), some (.int x2), some (.int x3)] [] σ by
        obtain ⟨n, hn⟩ := hh
        exact ⟨n + 4, And.intro (fun zz => absurd zz c1) (fun _ => hn)⟩
      cases c2 : jx_in x3 8 with
      | false => rw [c2, cond_false] at h; cases h
      | true =>
        rw [c2, cond_true] at h
        obtain ⟨z3, h4, h⟩ := Option.bind_eq_some_iff.mp h
        by_cases c5 : z3.1 = 0
        · rw [if_pos c5] at h
          suffices hh : ∃ n, jx_W jx_ShC d (some .int) jc_72 Q n 46 [some (.ref 19), some (.int x1), some (.int x2), some (.int x3)] [] z3.2 by
            obtain ⟨n, hn⟩ := hh
            exact ⟨n + 7, And.intro (jx_in_ok c2) (s_F_isOrIsUnder (by omega) h4 (And.intro (fun _ => hn) (fun zz => absurd c5 zz)))⟩
          obtain ⟨n, hn⟩ := s_R_deedFor_46 hd (s_R_deedFor_4 hd k) (u2 := some (.int x2)) h hQ
          exact ⟨n + 0, hn⟩
        · rw [if_neg c5] at h
          suffices hh : ∃ n, jx_W jx_ShC d (some .int) jc_72 Q n 25 [some (.ref 19), some (.int x1), some (.int x2), some (.int x3)] [] z3.2 by
            obtain ⟨n, hn⟩ := hh
            exact ⟨n + 7, And.intro (jx_in_ok c2) (s_F_isOrIsUnder (by omega) h4 (And.intro (fun zz => absurd zz c5) (fun _ => hn)))⟩
          obtain ⟨z7, h8, h⟩ := Option.bind_eq_some_iff.mp h
          by_cases c9 : z7.1 = 0
          · rw [if_pos c9] at h
            suffices hh : ∃ n, jx_W jx_ShC d (some .int) jc_72 Q n 46 [some (.ref 19), some (.int x1), some (.int x2), some (.int x3)] [] z7.2 by
              obtain ⟨n, hn⟩ := hh
              exact ⟨n + 8, And.intro (jx_in_ok c2) (s_R_holds (by omega) h8 (And.intro (fun _ => hn) (fun zz => absurd c9 zz)))⟩
            obtain ⟨n, hn⟩ := s_R_deedFor_46 hd (s_R_deedFor_4 hd k) (u2 := some (.int x2)) h hQ
            exact ⟨n + 0, hn⟩
          · rw [if_neg c9] at h
            suffices hh : ∃ n, jx_W jx_ShC d (some .int) jc_72 Q n 39 [some (.ref 19), some (.int x1), some (.int x2), some (.int x3)] [] z7.2 by
              obtain ⟨n, hn⟩ := hh
              exact ⟨n + 8, And.intro (jx_in_ok c2) (s_R_holds (by omega) h8 (And.intro (fun zz => absurd zz c9) (fun _ => hn)))⟩
            cases h
            exact ⟨5, And.intro (jx_in_ok c2) (And.intro hQ (And.intro rfl rfl))⟩
set_option maxRecDepth 20000 in
theorem s_R_deedFor {N d : Nat} {x1 : Int32} (hd : 2 ≤ d) {σ : jw_M} {z : (Int32 × jw_M)} {Q : jw_Q} (h : f_R_deedFor N x1 σ = some z) (hQ : Q (some (.int z.1)) (jx_ShC, z.2)) : jw_C jp_kd jp_ys d 72 [.ref 19, .int x1] (jx_ShC, σ) Q := by
  obtain ⟨d, rfl⟩ : ∃ e, d = e + 1 := ⟨d - 1, by omega⟩
  replace hd : 1 ≤ d := by omega
  refine jx_C rfl rfl ?_
  unfold f_R_deedFor at h
  obtain ⟨n, hn⟩ := s_R_deedFor_4 hd N h hQ
  exact ⟨n + 4, hn⟩
set_option maxRecDepth 20000 in
theorem s_J_bitCount {N d : Nat} {x0 : Int32} (hd : 1 ≤ d) {σ : jw_M} {z : (Int32 × jw_M)} {Q : jw_Q} (h : f_J_bitCount N x0 σ = some z) (hQ : Q (some (.int z.1)) (jx_ShC, z.2)) : jw_C jp_kd jp_ys d 319 [.int x0] (jx_ShC, σ) Q := by
  obtain ⟨d, rfl⟩ : ∃ e, d = e + 1 := ⟨d - 1, by omega⟩
  replace hd : 0 ≤ d := by omega
  refine jx_C rfl rfl ?_
  unfold f_J_bitCount at h
  cases h
  exact ⟨42, And.intro hQ (And.intro rfl rfl)⟩
set_option maxRecDepth 20000 in
theorem s_S_deedOf {N d : Nat} {p1 : Nat} {x2 : Int32} (hd : 3 ≤ d) (hp : p1 = 102 ∨ p1 = 106 ∨ p1 = 110 ∨ p1 = 27 ∨ p1 = 75 ∨ p1 = 94 ∨ p1 = 98) {σ : jw_M} {z : (Int32 × jw_M)} {Q : jw_Q} (h : f_S_deedOf N p1 x2 σ = some z) (hQ : Q (some (.int z.1)) (jx_ShC, z.2)) : jw_C jp_kd jp_ys d 93 [.ref 1, .ref p1, .int x2] (jx_ShC, σ) Q := by
  obtain ⟨d, rfl⟩ : ∃ e, d = e + 1 := ⟨d - 1, by omega⟩
  replace hd : 2 ≤ d := by omega
  refine jx_C rfl rfl ?_
  rcases hp with rfl | rfl | rfl | rfl | rfl | rfl | rfl
  · unfold f_S_deedOf at h
    by_cases c1 : (σ.1 19 0) = 0
    · rw [if_pos c1] at h
      suffices hh : ∃ n, jx_W jx_ShC d (some .int) jc_93 Q n 10 [some (.ref 1), some (.ref 102), some (.int x2)] [] σ by
        obtain ⟨n, hn⟩ := hh
        exact ⟨n + 4, And.intro (fun zz => absurd c1 zz) (fun _ => hn)⟩
      cases h
      exact ⟨2, And.intro hQ (And.intro rfl rfl)⟩
    · rw [if_neg c1] at h
      suffices hh : ∃ n, jx_W jx_ShC d (some .int) jc_93 Q n 12 [some (.ref 1), some (.ref 102), some (.int x2)] [] σ by
        obtain ⟨n, hn⟩ := hh
        exact ⟨n + 4, And.intro (fun _ => hn) (fun zz => absurd zz c1)⟩
      cases c2 : jx_in x2 6 with
      | false => rw [c2, cond_false] at h; cases h
      | true =>
        rw [c2, cond_true] at h
        obtain ⟨z3, h4, h⟩ := Option.bind_eq_some_iff.mp h
        obtain ⟨z5, h6, h⟩ := Option.bind_eq_some_iff.mp h
        obtain ⟨z7, h8, h⟩ := Option.bind_eq_some_iff.mp h
        cases h
        exact ⟨27, And.intro (jx_in_ok c2) (s_J_bitCount (by omega) h4 (And.intro (jx_in_ok c2) (And.intro (jx_in_ok c2) (s_R_tell (by omega) h6 (And.intro (jx_in_ok c2) (s_R_deedFor (by omega) h8 (And.intro hQ (And.intro rfl rfl))))))))⟩
  · unfold f_S_deedOf at h
    by_cases c1 : (σ.1 19 0) = 0
    · rw [if_pos c1] at h
      suffices hh : ∃ n, jx_W jx_ShC d (some .int) jc_93 Q n 10 [some (.ref 1), some (.ref 106), some (.int x2)] [] σ by
        obtain ⟨n, hn⟩ := hh
        exact ⟨n + 4, And.intro (fun zz => absurd c1 zz) (fun _ => hn)⟩
      cases h
      exact ⟨2, And.intro hQ (And.intro rfl rfl)⟩
    · rw [if_neg c1] at h
      suffices hh : ∃ n, jx_W jx_ShC d (some .int) jc_93 Q n 12 [some (.ref 1), some (.ref 106), some (.int x2)] [] σ by
        obtain ⟨n, hn⟩ := hh
        exact ⟨n + 4, And.intro (fun _ => hn) (fun zz => absurd zz c1)⟩
      cases c2 : jx_in x2 6 with
      | false => rw [c2, cond_false] at h; cases h
      | true =>
        rw [c2, cond_true] at h
        obtain ⟨z3, h4, h⟩ := Option.bind_eq_some_iff.mp h
        obtain ⟨z5, h6, h⟩ := Option.bind_eq_some_iff.mp h
        obtain ⟨z7, h8, h⟩ := Option.bind_eq_some_iff.mp h
        cases h
        exact ⟨27, And.intro (jx_in_ok c2) (s_J_bitCount (by omega) h4 (And.intro (jx_in_ok c2) (And.intro (jx_in_ok c2) (s_R_tell (by omega) h6 (And.intro (jx_in_ok c2) (s_R_deedFor (by omega) h8 (And.intro hQ (And.intro rfl rfl))))))))⟩
  · unfold f_S_deedOf at h
    by_cases c1 : (σ.1 19 0) = 0
    · rw [if_pos c1] at h
      suffices hh : ∃ n, jx_W jx_ShC d (some .int) jc_93 Q n 10 [some (.ref 1), some (.ref 110), some (.int x2)] [] σ by
        obtain ⟨n, hn⟩ := hh
        exact ⟨n + 4, And.intro (fun zz => absurd c1 zz) (fun _ => hn)⟩
      cases h
      exact ⟨2, And.intro hQ (And.intro rfl rfl)⟩
    · rw [if_neg c1] at h
      suffices hh : ∃ n, jx_W jx_ShC d (some .int) jc_93 Q n 12 [some (.ref 1), some (.ref 110), some (.int x2)] [] σ by
        obtain ⟨n, hn⟩ := hh
        exact ⟨n + 4, And.intro (fun _ => hn) (fun zz => absurd zz c1)⟩
      cases c2 : jx_in x2 6 with
      | false => rw [c2, cond_false] at h; cases h
      | true =>
        rw [c2, cond_true] at h
        obtain ⟨z3, h4, h⟩ := Option.bind_eq_some_iff.mp h
        obtain ⟨z5, h6, h⟩ := Option.bind_eq_some_iff.mp h
        obtain ⟨z7, h8, h⟩ := Option.bind_eq_some_iff.mp h
        cases h
        exact ⟨27, And.intro (jx_in_ok c2) (s_J_bitCount (by omega) h4 (And.intro (jx_in_ok c2) (And.intro (jx_in_ok c2) (s_R_tell (by omega) h6 (And.intro (jx_in_ok c2) (s_R_deedFor (by omega) h8 (And.intro hQ (And.intro rfl rfl))))))))⟩
  · unfold f_S_deedOf at h
    by_cases c1 : (σ.1 19 0) = 0
    · rw [if_pos c1] at h
      suffices hh : ∃ n, jx_W jx_ShC d (some .int) jc_93 Q n 10 [some (.ref 1), some (.ref 27), some (.int x2)] [] σ by
        obtain ⟨n, hn⟩ := hh
        exact ⟨n + 4, And.intro (fun zz => absurd c1 zz) (fun _ => hn)⟩
      cases h
      exact ⟨2, And.intro hQ (And.intro rfl rfl)⟩
    · rw [if_neg c1] at h
      suffices hh : ∃ n, jx_W jx_ShC d (some .int) jc_93 Q n 12 [some (.ref 1), some (.ref 27), some (.int x2)] [] σ by
        obtain ⟨n, hn⟩ := hh
        exact ⟨n + 4, And.intro (fun _ => hn) (fun zz => absurd zz c1)⟩
      cases c2 : jx_in x2 6 with
      | false => rw [c2, cond_false] at h; cases h
      | true =>
        rw [c2, cond_true] at h
        obtain ⟨z3, h4, h⟩ := Option.bind_eq_some_iff.mp h
        obtain ⟨z5, h6, h⟩ := Option.bind_eq_some_iff.mp h
        obtain ⟨z7, h8, h⟩ := Option.bind_eq_some_iff.mp h
        cases h
        exact ⟨27, And.intro (jx_in_ok c2) (s_J_bitCount (by omega) h4 (And.intro (jx_in_ok c2) (And.intro (jx_in_ok c2) (s_R_tell (by omega) h6 (And.intro (jx_in_ok c2) (s_R_deedFor (by omega) h8 (And.intro hQ (And.intro rfl rfl))))))))⟩
  · unfold f_S_deedOf at h
    by_cases c1 : (σ.1 19 0) = 0
    · rw [if_pos c1] at h
      suffices hh : ∃ n, jx_W jx_ShC d (some .int) jc_93 Q n 10 [some (.ref 1), some (.ref 75), some (.int x2)] [] σ by
        obtain ⟨n, hn⟩ := hh
        exact ⟨n + 4, And.intro (fun zz => absurd c1 zz) (fun _ => hn)⟩
      cases h
      exact ⟨2, And.intro hQ (And.intro rfl rfl)⟩
    · rw [if_neg c1] at h
      suffices hh : ∃ n, jx_W jx_ShC d (some .int) jc_93 Q n 12 [some (.ref 1), some (.ref 75), some (.int x2)] [] σ by
        obtain ⟨n, hn⟩ := hh
        exact ⟨n + 4, And.intro (fun _ => hn) (fun zz => absurd zz c1)⟩
      cases c2 : jx_in x2 6 with
      | false => rw [c2, cond_false] at h; cases h
      | true =>
        rw [c2, cond_true] at h
        obtain ⟨z3, h4, h⟩ := Option.bind_eq_some_iff.mp h
        obtain ⟨z5, h6, h⟩ := Option.bind_eq_some_iff.mp h
        obtain ⟨z7, h8, h⟩ := Option.bind_eq_some_iff.mp h
        cases h
        exact ⟨27, And.intro (jx_in_ok c2) (s_J_bitCount (by omega) h4 (And.intro (jx_in_ok c2) (And.intro (jx_in_ok c2) (s_R_tell (by omega) h6 (And.intro (jx_in_ok c2) (s_R_deedFor (by omega) h8 (And.intro hQ (And.intro rfl rfl))))))))⟩
  · unfold f_S_deedOf at h
    by_cases c1 : (σ.1 19 0) = 0
    · rw [if_pos c1] at h
      suffices hh : ∃ n, jx_W jx_ShC d (some .int) jc_93 Q n 10 [some (.ref 1), some (.ref 94), some (.int x2)] [] σ by
        obtain ⟨n, hn⟩ := hh
        exact ⟨n + 4, And.intro (fun zz => absurd c1 zz) (fun _ => hn)⟩
      cases h
      exact ⟨2, And.intro hQ (And.intro rfl rfl)⟩
    · rw [if_neg c1] at h
      suffices hh : ∃ n, jx_W jx_ShC d (some .int) jc_93 Q n 12 [some (.ref 1), some (.ref 94), some (.int x2)] [] σ by
        obtain ⟨n, hn⟩ := hh
        exact ⟨n + 4, And.intro (fun _ => hn) (fun zz => absurd zz c1)⟩
      cases c2 : jx_in x2 6 with
      | false => rw [c2, cond_false] at h; cases h
      | true =>
        rw [c2, cond_true] at h
        obtain ⟨z3, h4, h⟩ := Option.bind_eq_some_iff.mp h
        obtain ⟨z5, h6, h⟩ := Option.bind_eq_some_iff.mp h
        obtain ⟨z7, h8, h⟩ := Option.bind_eq_some_iff.mp h
        cases h
        exact ⟨27, And.intro (jx_in_ok c2) (s_J_bitCount (by omega) h4 (And.intro (jx_in_ok c2) (And.intro (jx_in_ok c2) (s_R_tell (by omega) h6 (And.intro (jx_in_ok c2) (s_R_deedFor (by omega) h8 (And.intro hQ (And.intro rfl rfl))))))))⟩
  · unfold f_S_deedOf at h
    by_cases c1 : (σ.1 19 0) = 0
    · rw [if_pos c1] at h
      suffices hh : ∃ n, jx_W jx_ShC d (some .int) jc_93 Q n 10 [some (.ref 1), some (.ref 98), some (.int x2)] [] σ by
        obtain ⟨n, hn⟩ := hh
        exact ⟨n + 4, And.intro (fun zz => absurd c1 zz) (fun _ => hn)⟩
      cases h
      exact ⟨2, And.intro hQ (And.intro rfl rfl)⟩
    · rw [if_neg c1] at h
      suffices hh : ∃ n, jx_W jx_ShC d (some .int) jc_93 Q n 12 [some (.ref 1), some (.ref 98), some (.int x2)] [] σ by
        obtain ⟨n, hn⟩ := hh
        exact ⟨n + 4, And.intro (fun _ => hn) (fun zz => absurd zz c1)⟩
      cases c2 : jx_in x2 6 with
      | false => rw [c2, cond_false] at h; cases h
      | true =>
        rw [c2, cond_true] at h
        obtain ⟨z3, h4, h⟩ := Option.bind_eq_some_iff.mp h
        obtain ⟨z5, h6, h⟩ := Option.bind_eq_some_iff.mp h
        obtain ⟨z7, h8, h⟩ := Option.bind_eq_some_iff.mp h
        cases h
        exact ⟨27, And.intro (jx_in_ok c2) (s_J_bitCount (by omega) h4 (And.intro (jx_in_ok c2) (And.intro (jx_in_ok c2) (s_R_tell (by omega) h6 (And.intro (jx_in_ok c2) (s_R_deedFor (by omega) h8 (And.intro hQ (And.intro rfl rfl))))))))⟩
set_option maxRecDepth 20000 in
theorem s_S_easiest_67 {N d : Nat} {p1 : Nat} {Q : jw_Q} {K11 : Int32 → Int32 → Int32 → Int32 → Int32 → jw_M → Option (Int32 × jw_M)} (hd : 0 ≤ d) (hp : p1 = 102 ∨ p1 = 106 ∨ p1 = 110 ∨ p1 = 27 ∨ p1 = 75 ∨ p1 = 94 ∨ p1 = 98) (hK11 : ∀ {x2 : Int32} {x3 : Int32} {x4 : Int32} {x5 : Int32} {x6 : Int32} {σ : jw_M} {z : (Int32 × jw_M)} {u7 : Option Value}, K11 x2 x3 x4 x5 x6 σ = some z → Q (some (.int z.1)) (jx_ShC, z.2) → ∃ n, jx_W jx_ShC d (some .int) jc_94 Q n 11 [some (.ref 1), some (.ref p1), some (.int x2), some (.int x3), some (.int x4), some (.int x5), some (.int x6), u7] [] σ) {x2 : Int32} {x3 : Int32} {x4 : Int32} {x5 : Int32} {x6 : Int32} {u7 : Option Value} {σ : jw_M} {z : (Int32 × jw_M)} (h : f_S_easiest_67 N p1 K11 x2 x3 x4 x5 x6 σ = some z) (hQ : Q (some (.int z.1)) (jx_ShC, z.2)) : ∃ n, jx_W jx_ShC d (some .int) jc_94 Q n 67 [some (.ref 1), some (.ref p1), some (.int x2), some (.int x3), some (.int x4), some (.int x5), some (.int x6), u7] [] σ := by
  unfold f_S_easiest_67 at h
  obtain ⟨n, hn⟩ := hK11 (u7 := u7) h hQ
  exact ⟨n + 2, hn⟩
set_option maxRecDepth 20000 in
theorem s_S_easiest_11 {N d : Nat} {p1 : Nat} {Q : jw_Q} (hd : 0 ≤ d) (hp : p1 = 102 ∨ p1 = 106 ∨ p1 = 110 ∨ p1 = 27 ∨ p1 = 75 ∨ p1 = 94 ∨ p1 = 98) : ∀ (k : Nat) {x2 : Int32} {x3 : Int32} {x4 : Int32} {x5 : Int32} {x6 : Int32} {u7 : Option Value} {σ : jw_M} {z : (Int32 × jw_M)}, f_S_easiest_11 N p1 k x2 x3 x4 x5 x6 σ = some z → Q (some (.int z.1)) (jx_ShC, z.2) → ∃ n, jx_W jx_ShC d (some .int) jc_94 Q n 11 [some (.ref 1), some (.ref p1), some (.int x2), some (.int x3), some (.int x4), some (.int x5), some (.int x6), u7] [] σ
  | 0, _, _, _, _, _, _, _, _, h, _ => by cases h
  | k + 1, x2, x3, x4, x5, x6, u7, σ, z, h, hQ => by
    rcases hp with rfl | rfl | rfl | rfl | rfl | rfl | rfl
    · rw [f_S_easiest_11] at h
      by_cases c1 : (σ.1 1 5) ≤ x6
      · rw [if_pos c1] at h
        suffices hh : ∃ n, jx_W jx_ShC d (some .int) jc_94 Q n 73 [some (.ref 1), some (.ref 102), some (.int x2), some (.int x3), some (.int x4), some (.int x5), some (.int x6), u7] [] σ by
          obtain ⟨n, hn⟩ := hh
          exact ⟨n + 4, And.intro (fun _ => hn) (fun zz => absurd c1 zz)⟩
        cases h
        exact ⟨2, And.intro hQ (And.intro rfl rfl)⟩
      · rw [if_neg c1] at h
        suffices hh : ∃ n, jx_W jx_ShC d (some .int) jc_94 Q n 20 [some (.ref 1), some (.ref 102), some (.int x2), some (.int x3), some (.int x4), some (.int x5), some (.int x6), u7] [] σ by
          obtain ⟨n, hn⟩ := hh
          exact ⟨n + 4, And.intro (fun zz => absurd zz c1) (fun _ => hn)⟩
        cases c2 : jx_in x6 8 with
        | false => rw [c2, cond_false] at h; cases h
        | true =>
          rw [c2, cond_true] at h
          cases c3 : jx_in ((x2 * 8) + x6) 48 with
          | false => rw [c3, cond_false] at h; cases h
          | true =>
            rw [c3, cond_true] at h
            by_cases c4 : ((x3 >>> (x6 &&& 31)) &&& 1) = 1
            · rw [if_pos c4] at h
              suffices hh : ∃ n, jx_W jx_ShC d (some .int) jc_94 Q n 52 [some (.ref 1), some (.ref 102), some (.int x2), some (.int x3), some (.int x4), some (.int x5), some (.int x6), some (.int ((σ.1 6 (x6).toNatClampNeg) - (σ.1 (102 + 1) (((x2 * 8) + x6)).toNatClampNeg)))] [] σ by
                obtain ⟨n, hn⟩ := hh
                exact ⟨n + 21, And.intro (jx_in_ok c2) (And.intro (jx_in_ok c3) (And.intro (fun zz => absurd c4 zz) (fun _ => hn)))⟩
              by_cases c5 : x4 ≤ ((σ.1 6 (x6).toNatClampNeg) - (σ.1 (102 + 1) (((x2 * 8) + x6)).toNatClampNeg))
              · rw [if_pos c5] at h
                suffices hh : ∃ n, jx_W jx_ShC d (some .int) jc_94 Q n 67 [some (.ref 1), some (.ref 102), some (.int x2), some (.int x3), some (.int x4), some (.int x5), some (.int x6), some (.int ((σ.1 6 (x6).toNatClampNeg) - (σ.1 (102 + 1) (((x2 * 8) + x6)).toNatClampNeg)))] [] σ by
                  obtain ⟨n, hn⟩ := hh
                  exact ⟨n + 3, And.intro (fun _ => hn) (fun zz => absurd c5 zz)⟩
                obtain ⟨n, hn⟩ := s_S_easiest_67 hd (by decide) (s_S_easiest_11 hd (by decide) k) (u7 := some (.int ((σ.1 6 (x6).toNatClampNeg) - (σ.1 (102 + 1) (((x2 * 8) + x6)).toNatClampNeg)))) h hQ
                exact ⟨n + 0, hn⟩
              · rw [if_neg c5] at h
                suffices hh : ∃ n, jx_W jx_ShC d (some .int) jc_94 Q n 59 [some (.ref 1), some (.ref 102), some (.int x2), some (.int x3), some (.int x4), some (.int x5), some (.int x6), some (.int ((σ.1 6 (x6).toNatClampNeg) - (σ.1 (102 + 1) (((x2 * 8) + x6)).toNatClampNeg)))] [] σ by
                  obtain ⟨n, hn⟩ := hh
                  exact ⟨n + 3, And.intro (fun zz => absurd zz c5) (fun _ => hn)⟩
                obtain ⟨n, hn⟩ := s_S_easiest_67 hd (by decide) (s_S_easiest_11 hd (by decide) k) (u7 := some (.int ((σ.1 6 (x6).toNatClampNeg) - (σ.1 (102 + 1) (((x2 * 8) + x6)).toNatClampNeg)))) h hQ
                exact ⟨n + 4, hn⟩
            · rw [if_neg c4] at h
              suffices hh : ∃ n, jx_W jx_ShC d (some .int) jc_94 Q n 67 [some (.ref 1), some (.ref 102), some (.int x2), some (.int x3), some (.int x4), some (.int x5), some (.int x6), some (.int ((σ.1 6 (x6).toNatClampNeg) - (σ.1 (102 + 1) (((x2 * 8) + x6)).toNatClampNeg)))] [] σ by
                obtain ⟨n, hn⟩ := hh
                exact ⟨n + 21, And.intro (jx_in_ok c2) (And.intro (jx_in_ok c3) (And.intro (fun _ => hn) (fun zz => absurd zz c4)))⟩
              obtain ⟨n, hn⟩ := s_S_easiest_67 hd (by decide) (s_S_easiest_11 hd (by decide) k) (u7 := some (.int ((σ.1 6 (x6).toNatClampNeg) - (σ.1 (102 + 1) (((x2 * 8) + x6)).toNatClampNeg)))) h hQ
              exact ⟨n + 0, hn⟩
    · rw [f_S_easiest_11] at h
      by_cases c1 : (σ.1 1 5) ≤ x6
      · rw [if_pos c1] at h
        suffices hh : ∃ n, jx_W jx_ShC d (some .int) jc_94 Q n 73 [some (.ref 1), some (.ref 106), some (.int x2), some (.int x3), some (.int x4), some (.int x5), some (.int x6), u7] [] σ by
          obtain ⟨n, hn⟩ := hh
          exact ⟨n + 4, And.intro (fun _ => hn) (fun zz => absurd c1 zz)⟩
        cases h
        exact ⟨2, And.intro hQ (And.intro rfl rfl)⟩
      · rw [if_neg c1] at h
        suffices hh : ∃ n, jx_W jx_ShC d (some .int) jc_94 Q n 20 [some (.ref 1), some (.ref 106), some (.int x2), some (.int x3), some (.int x4), some (.int x5), some (.int x6), u7] [] σ by
          obtain ⟨n, hn⟩ := hh
          exact ⟨n + 4, And.intro (fun zz => absurd zz c1) (fun _ => hn)⟩
        cases c2 : jx_in x6 8 with
        | false => rw [c2, cond_false] at h; cases h
        | true =>
          rw [c2, cond_true] at h
          cases c3 : jx_in ((x2 * 8) + x6) 48 with
          | false => rw [c3, cond_false] at h; cases h
          | true =>
            rw [c3, cond_true] at h
            by_cases c4 : ((x3 >>> (x6 &&& 31)) &&& 1) = 1
            · rw [if_pos c4] at h
              suffices hh : ∃ n, jx_W jx_ShC d (some .int) jc_94 Q n 52 [some (.ref 1), some (.ref 106), some (.int x2), some (.int x3), some (.int x4), some (.int x5), some (.int x6), some (.int ((σ.1 6 (x6).toNatClampNeg) - (σ.1 (106 + 1) (((x2 * 8) + x6)).toNatClampNeg)))] [] σ by
                obtain ⟨n, hn⟩ := hh
                exact ⟨n + 21, And.intro (jx_in_ok c2) (And.intro (jx_in_ok c3) (And.intro (fun zz => absurd c4 zz) (fun _ => hn)))⟩
              by_cases c5 : x4 ≤ ((σ.1 6 (x6).toNatClampNeg) - (σ.1 (106 + 1) (((x2 * 8) + x6)).toNatClampNeg))
              · rw [if_pos c5] at h
                suffices hh : ∃ n, jx_W jx_ShC d (some .int) jc_94 Q n 67 [some (.ref 1), some (.ref 106), some (.int x2), some (.int x3), some (.int x4), some (.int x5), some (.int x6), some (.int ((σ.1 6 (x6).toNatClampNeg) - (σ.1 (106 + 1) (((x2 * 8) + x6)).toNatClampNeg)))] [] σ by
                  obtain ⟨n, hn⟩ := hh
                  exact ⟨n + 3, And.intro (fun _ => hn) (fun zz => absurd c5 zz)⟩
                obtain ⟨n, hn⟩ := s_S_easiest_67 hd (by decide) (s_S_easiest_11 hd (by decide) k) (u7 := some (.int ((σ.1 6 (x6).toNatClampNeg) - (σ.1 (106 + 1) (((x2 * 8) + x6)).toNatClampNeg)))) h hQ
                exact ⟨n + 0, hn⟩
              · rw [if_neg c5] at h
                suffices hh : ∃ n, jx_W jx_ShC d (some .int) jc_94 Q n 59 [some (.ref 1), some (.ref 106), some (.int x2), some (.int x3), some (.int x4), some (.int x5), some (.int x6), some (.int ((σ.1 6 (x6).toNatClampNeg) - (σ.1 (106 + 1) (((x2 * 8) + x6)).toNatClampNeg)))] [] σ by
                  obtain ⟨n, hn⟩ := hh
                  exact ⟨n + 3, And.intro (fun zz => absurd zz c5) (fun _ => hn)⟩
                obtain ⟨n, hn⟩ := s_S_easiest_67 hd (by decide) (s_S_easiest_11 hd (by decide) k) (u7 := some (.int ((σ.1 6 (x6).toNatClampNeg) - (σ.1 (106 + 1) (((x2 * 8) + x6)).toNatClampNeg)))) h hQ
                exact ⟨n + 4, hn⟩
            · rw [if_neg c4] at h
              suffices hh : ∃ n, jx_W jx_ShC d (some .int) jc_94 Q n 67 [some (.ref 1), some (.ref 106), some (.int x2), some (.int x3), some (.int x4), some (.int x5), some (.int x6), some (.int ((σ.1 6 (x6).toNatClampNeg) - (σ.1 (106 + 1) (((x2 * 8) + x6)).toNatClampNeg)))] [] σ by
                obtain ⟨n, hn⟩ := hh
                exact ⟨n + 21, And.intro (jx_in_ok c2) (And.intro (jx_in_ok c3) (And.intro (fun _ => hn) (fun zz => absurd zz c4)))⟩
              obtain ⟨n, hn⟩ := s_S_easiest_67 hd (by decide) (s_S_easiest_11 hd (by decide) k) (u7 := some (.int ((σ.1 6 (x6).toNatClampNeg) - (σ.1 (106 + 1) (((x2 * 8) + x6)).toNatClampNeg)))) h hQ
              exact ⟨n + 0, hn⟩
    · rw [f_S_easiest_11] at h
      by_cases c1 : (σ.1 1 5) ≤ x6
      · rw [if_pos c1] at h
        suffices hh : ∃ n, jx_W jx_ShC d (some .int) jc_94 Q n 73 [some (.ref 1), some (.ref 110), some (.int x2), some (.int x3), some (.int x4), some (.int x5), some (.int x6), u7] [] σ by
          obtain ⟨n, hn⟩ := hh
          exact ⟨n + 4, And.intro (fun _ => hn) (fun zz => absurd c1 zz)⟩
        cases h
        exact ⟨2, And.intro hQ (And.intro rfl rfl)⟩
      · rw [if_neg c1] at h
        suffices hh : ∃ n, jx_W jx_ShC d (some .int) jc_94 Q n 20 [some (.ref 1), some (.ref 110), some (.int x2), some (.int x3), some (.int x4), some (.int x5), some (.int x6), u7] [] σ by
          obtain ⟨n, hn⟩ := hh
          exact ⟨n + 4, And.intro (fun zz => absurd zz c1) (fun _ => hn)⟩
        cases c2 : jx_in x6 8 with
        | false => rw [c2, cond_false] at h; cases h
        | true =>
          rw [c2, cond_true] at h
          cases c3 : jx_in ((x2 * 8) + x6) 48 with
          | false => rw [c3, cond_false] at h; cases h
          | true =>
            rw [c3, cond_true] at h
            by_cases c4 : ((x3 >>> (x6 &&& 31)) &&& 1) = 1
            · rw [if_pos c4] at h
              suffices hh : ∃ n, jx_W jx_ShC d (some .int) jc_94 Q n 52 [some (.ref 1), some (.ref 110), some (.int x2), some (.int x3), some (.int x4), some (.int x5), some (.int x6), some (.int ((σ.1 6 (x6).toNatClampNeg) - (σ.1 (110 + 1) (((x2 * 8) + x6)).toNatClampNeg)))] [] σ by
                obtain ⟨n, hn⟩ := hh
                exact ⟨n + 21, And.intro (jx_in_ok c2) (And.intro (jx_in_ok c3) (And.intro (fun zz => absurd c4 zz) (fun _ => hn)))⟩
              by_cases c5 : x4 ≤ ((σ.1 6 (x6).toNatClampNeg) - (σ.1 (110 + 1) (((x2 * 8) + x6)).toNatClampNeg))
              · rw [if_pos c5] at h
                suffices hh : ∃ n, jx_W jx_ShC d (some .int) jc_94 Q n 67 [some (.ref 1), some (.ref 110), some (.int x2), some (.int x3), some (.int x4), some (.int x5), some (.int x6), some (.int ((σ.1 6 (x6).toNatClampNeg) - (σ.1 (110 + 1) (((x2 * 8) + x6)).toNatClampNeg)))] [] σ by
                  obtain ⟨n, hn⟩ := hh
                  exact ⟨n + 3, And.intro (fun _ => hn) (fun zz => absurd c5 zz)⟩
                obtain ⟨n, hn⟩ := s_S_easiest_67 hd (by decide) (s_S_easiest_11 hd (by decide) k) (u7 := some (.int ((σ.1 6 (x6).toNatClampNeg) - (σ.1 (110 + 1) (((x2 * 8) + x6)).toNatClampNeg)))) h hQ
                exact ⟨n + 0, hn⟩
              · rw [if_neg c5] at h
                suffices hh : ∃ n, jx_W jx_ShC d (some .int) jc_94 Q n 59 [some (.ref 1), some (.ref 110), some (.int x2), some (.int x3), some (.int x4), some (.int x5), some (.int x6), some (.int ((σ.1 6 (x6).toNatClampNeg) - (σ.1 (110 + 1) (((x2 * 8) + x6)).toNatClampNeg)))] [] σ by
                  obtain ⟨n, hn⟩ := hh
                  exact ⟨n + 3, And.intro (fun zz => absurd zz c5) (fun _ => hn)⟩
                obtain ⟨n, hn⟩ := s_S_easiest_67 hd (by decide) (s_S_easiest_11 hd (by decide) k) (u7 := some (.int ((σ.1 6 (x6).toNatClampNeg) - (σ.1 (110 + 1) (((x2 * 8) + x6)).toNatClampNeg)))) h hQ
                exact ⟨n + 4, hn⟩
            · rw [if_neg c4] at h
              suffices hh : ∃ n, jx_W jx_ShC d (some .int) jc_94 Q n 67 [some (.ref 1), some (.ref 110), some (.int x2), some (.int x3), some (.int x4), some (.int x5), some (.int x6), some (.int ((σ.1 6 (x6).toNatClampNeg) - (σ.1 (110 + 1) (((x2 * 8) + x6)).toNatClampNeg)))] [] σ by
                obtain ⟨n, hn⟩ := hh
                exact ⟨n + 21, And.intro (jx_in_ok c2) (And.intro (jx_in_ok c3) (And.intro (fun _ => hn) (fun zz => absurd zz c4)))⟩
              obtain ⟨n, hn⟩ := s_S_easiest_67 hd (by decide) (s_S_easiest_11 hd (by decide) k) (u7 := some (.int ((σ.1 6 (x6).toNatClampNeg) - (σ.1 (110 + 1) (((x2 * 8) + x6)).toNatClampNeg)))) h hQ
              exact ⟨n + 0, hn⟩
    · rw [f_S_easiest_11] at h
      by_cases c1 : (σ.1 1 5) ≤ x6
      · rw [if_pos c1] at h
        suffices hh : ∃ n, jx_W jx_ShC d (some .int) jc_94 Q n 73 [some (.ref 1), some (.ref 27), some (.int x2), some (.int x3), some (.int x4), some (.int x5), some (.int x6), u7] [] σ by
          obtain ⟨n, hn⟩ := hh
          exact ⟨n + 4, And.intro (fun _ => hn) (fun zz => absurd c1 zz)⟩
        cases h
        exact ⟨2, And.intro hQ (And.intro rfl rfl)⟩
      · rw [if_neg c1] at h
        suffices hh : ∃ n, jx_W jx_ShC d (some .int) jc_94 Q n 20 [some (.ref 1), some (.ref 27), some (.int x2), some (.int x3), some (.int x4), some (.int x5), some (.int x6), u7] [] σ by
          obtain ⟨n, hn⟩ := hh
          exact ⟨n + 4, And.intro (fun zz => absurd zz c1) (fun _ => hn)⟩
        cases c2 : jx_in x6 8 with
        | false => rw [c2, cond_false] at h; cases h
        | true =>
          rw [c2, cond_true] at h
          cases c3 : jx_in ((x2 * 8) + x6) 48 with
          | false => rw [c3, cond_false] at h; cases h
          | true =>
            rw [c3, cond_true] at h
            by_cases c4 : ((x3 >>> (x6 &&& 31)) &&& 1) = 1
            · rw [if_pos c4] at h
              suffices hh : ∃ n, jx_W jx_ShC d (some .int) jc_94 Q n 52 [some (.ref 1), some (.ref 27), some (.int x2), some (.int x3), some (.int x4), some (.int x5), some (.int x6), some (.int ((σ.1 6 (x6).toNatClampNeg) - (σ.1 (27 + 1) (((x2 * 8) + x6)).toNatClampNeg)))] [] σ by
                obtain ⟨n, hn⟩ := hh
                exact ⟨n + 21, And.intro (jx_in_ok c2) (And.intro (jx_in_ok c3) (And.intro (fun zz => absurd c4 zz) (fun _ => hn)))⟩
              by_cases c5 : x4 ≤ ((σ.1 6 (x6).toNatClampNeg) - (σ.1 (27 + 1) (((x2 * 8) + x6)).toNatClampNeg))
              · rw [if_pos c5] at h
                suffices hh : ∃ n, jx_W jx_ShC d (some .int) jc_94 Q n 67 [some (.ref 1), some (.ref 27), some (.int x2), some (.int x3), some (.int x4), some (.int x5), some (.int x6), some (.int ((σ.1 6 (x6).toNatClampNeg) - (σ.1 (27 + 1) (((x2 * 8) + x6)).toNatClampNeg)))] [] σ by
                  obtain ⟨n, hn⟩ := hh
                  exact ⟨n + 3, And.intro (fun _ => hn) (fun zz => absurd c5 zz)⟩
                obtain ⟨n, hn⟩ := s_S_easiest_67 hd (by decide) (s_S_easiest_11 hd (by decide) k) (u7 := some (.int ((σ.1 6 (x6).toNatClampNeg) - (σ.1 (27 + 1) (((x2 * 8) + x6)).toNatClampNeg)))) h hQ
                exact ⟨n + 0, hn⟩
              · rw [if_neg c5] at h
                suffices hh : ∃ n, jx_W jx_ShC d (some .int) jc_94 Q n 59 [some (.ref 1), some (.ref 27), some (.int x2), some (.int x3), some (.int x4), some (.int x5), some (.int x6), some (.int ((σ.1 6 (x6).toNatClampNeg) - (σ.1 (27 + 1) (((x2 * 8) + x6)).toNatClampNeg)))] [] σ by
                  obtain ⟨n, hn⟩ := hh
                  exact ⟨n + 3, And.intro (fun zz => absurd zz c5) (fun _ => hn)⟩
                obtain ⟨n, hn⟩ := s_S_easiest_67 hd (by decide) (s_S_easiest_11 hd (by decide) k) (u7 := some (.int ((σ.1 6 (x6).toNatClampNeg) - (σ.1 (27 + 1) (((x2 * 8) + x6)).toNatClampNeg)))) h hQ
                exact ⟨n + 4, hn⟩
            · rw [if_neg c4] at h
              suffices hh : ∃ n, jx_W jx_ShC d (some .int) jc_94 Q n 67 [some (.ref 1), some (.ref 27), some (.int x2), some (.int x3), some (.int x4), some (.int x5), some (.int x6), some (.int ((σ.1 6 (x6).toNatClampNeg) - (σ.1 (27 + 1) (((x2 * 8) + x6)).toNatClampNeg)))] [] σ by
                obtain ⟨n, hn⟩ := hh
                exact ⟨n + 21, And.intro (jx_in_ok c2) (And.intro (jx_in_ok c3) (And.intro (fun _ => hn) (fun zz => absurd zz c4)))⟩
              obtain ⟨n, hn⟩ := s_S_easiest_67 hd (by decide) (s_S_easiest_11 hd (by decide) k) (u7 := some (.int ((σ.1 6 (x6).toNatClampNeg) - (σ.1 (27 + 1) (((x2 * 8) + x6)).toNatClampNeg)))) h hQ
              exact ⟨n + 0, hn⟩
    · rw [f_S_easiest_11] at h
      by_cases c1 : (σ.1 1 5) ≤ x6
      · rw [if_pos c1] at h
        suffices hh : ∃ n, jx_W jx_ShC d (some .int) jc_94 Q n 73 [some (.ref 1), some (.ref 75), some (.int x2), some (.int x3), some (.int x4), some (.int x5), some (.int x6), u7] [] σ by
          obtain ⟨n, hn⟩ := hh
          exact ⟨n + 4, And.intro (fun _ => hn) (fun zz => absurd c1 zz)⟩
        cases h
        exact ⟨2, And.intro hQ (And.intro rfl rfl)⟩
      · rw [if_neg c1] at h
        suffices hh : ∃ n, jx_W jx_ShC d (some .int) jc_94 Q n 20 [some (.ref 1), some (.ref 75), some (.int x2), some (.int x3), some (.int x4), some (.int x5), some (.int x6), u7] [] σ by
          obtain ⟨n, hn⟩ := hh
          exact ⟨n + 4, And.intro (fun zz => absurd zz c1) (fun _ => hn)⟩
        cases c2 : jx_in x6 8 with
        | false => rw [c2, cond_false] at h; cases h
        | true =>
          rw [c2, cond_true] at h
          cases c3 : jx_in ((x2 * 8) + x6) 48 with
          | false => rw [c3, cond_false] at h; cases h
          | true =>
            rw [c3, cond_true] at h
            by_cases c4 : ((x3 >>> (x6 &&& 31)) &&& 1) = 1
            · rw [if_pos c4] at h
              suffices hh : ∃ n, jx_W jx_ShC d (some .int) jc_94 Q n 52 [some (.ref 1), some (.ref 75), some (.int x2), some (.int x3), some (.int x4), some (.int x5), some (.int x6), some (.int ((σ.1 6 (x6).toNatClampNeg) - (σ.1 (75 + 1) (((x2 * 8) + x6)).toNatClampNeg)))] [] σ by
                obtain ⟨n, hn⟩ := hh
                exact ⟨n + 21, And.intro (jx_in_ok c2) (And.intro (jx_in_ok c3) (And.intro (fun zz => absurd c4 zz) (fun _ => hn)))⟩
              by_cases c5 : x4 ≤ ((σ.1 6 (x6).toNatClampNeg) - (σ.1 (75 + 1) (((x2 * 8) + x6)).toNatClampNeg))
              · rw [if_pos c5] at h
                suffices hh : ∃ n, jx_W jx_ShC d (some .int) jc_94 Q n 67 [some (.ref 1), some (.ref 75), some (.int x2), some (.int x3), some (.int x4), some (.int x5), some (.int x6), some (.int ((σ.1 6 (x6).toNatClampNeg) - (σ.1 (75 + 1) (((x2 * 8) + x6)).toNatClampNeg)))] [] σ by
                  obtain ⟨n, hn⟩ := hh
                  exact ⟨n + 3, And.intro (fun _ => hn) (fun zz => absurd c5 zz)⟩
                obtain ⟨n, hn⟩ := s_S_easiest_67 hd (by decide) (s_S_easiest_11 hd (by decide) k) (u7 := some (.int ((σ.1 6 (x6).toNatClampNeg) - (σ.1 (75 + 1) (((x2 * 8) + x6)).toNatClampNeg)))) h hQ
                exact ⟨n + 0, hn⟩
              · rw [if_neg c5] at h
                suffices hh : ∃ n, jx_W jx_ShC d (some .int) jc_94 Q n 59 [some (.ref 1), some (.ref 75), some (.int x2), some (.int x3), some (.int x4), some (.int x5), some (.int x6), some (.int ((σ.1 6 (x6).toNatClampNeg) - (σ.1 (75 + 1) (((x2 * 8) + x6)).toNatClampNeg)))] [] σ by
                  obtain ⟨n, hn⟩ := hh
                  exact ⟨n + 3, And.intro (fun zz => absurd zz c5) (fun _ => hn)⟩
                obtain ⟨n, hn⟩ := s_S_easiest_67 hd (by decide) (s_S_easiest_11 hd (by decide) k) (u7 := some (.int ((σ.1 6 (x6).toNatClampNeg) - (σ.1 (75 + 1) (((x2 * 8) + x6)).toNatClampNeg)))) h hQ
                exact ⟨n + 4, hn⟩
            · rw [if_neg c4] at h
              suffices hh : ∃ n, jx_W jx_ShC d (some .int) jc_94 Q n 67 [some (.ref 1), some (.ref 75), some (.int x2), some (.int x3), some (.int x4), some (.int x5), some (.int x6), some (.int ((σ.1 6 (x6).toNatClampNeg) - (σ.1 (75 + 1) (((x2 * 8) + x6)).toNatClampNeg)))] [] σ by
                obtain ⟨n, hn⟩ := hh
                exact ⟨n + 21, And.intro (jx_in_ok c2) (And.intro (jx_in_ok c3) (And.intro (fun _ => hn) (fun zz => absurd zz c4)))⟩
              obtain ⟨n, hn⟩ := s_S_easiest_67 hd (by decide) (s_S_easiest_11 hd (by decide) k) (u7 := some (.int ((σ.1 6 (x6).toNatClampNeg) - (σ.1 (75 + 1) (((x2 * 8) + x6)).toNatClampNeg)))) h hQ
              exact ⟨n + 0, hn⟩
    · rw [f_S_easiest_11] at h
      by_cases c1 : (σ.1 1 5) ≤ x6
      · rw [if_pos c1] at h
        suffices hh : ∃ n, jx_W jx_ShC d (some .int) jc_94 Q n 73 [some (.ref 1), some (.ref 94), some (.int x2), some (.int x3), some (.int x4), some (.int x5), some (.int x6), u7] [] σ by
          obtain ⟨n, hn⟩ := hh
          exact ⟨n + 4, And.intro (fun _ => hn) (fun zz => absurd c1 zz)⟩
        cases h
        exact ⟨2, And.intro hQ (And.intro rfl rfl)⟩
      · rw [if_neg c1] at h
        suffices hh : ∃ n, jx_W jx_ShC d (some .int) jc_94 Q n 20 [some (.ref 1), some (.ref 94), some (.int x2), some (.int x3), some (.int x4), some (.int x5), some (.int x6), u7] [] σ by
          obtain ⟨n, hn⟩ := hh
          exact ⟨n + 4, And.intro (fun zz => absurd zz c1) (fun _ => hn)⟩
        cases c2 : jx_in x6 8 with
        | false => rw [c2, cond_false] at h; cases h
        | true =>
          rw [c2, cond_true] at h
          cases c3 : jx_in ((x2 * 8) + x6) 48 with
          | false => rw [c3, cond_false] at h; cases h
          | true =>
            rw [c3, cond_true] at h
            by_cases c4 : ((x3 >>> (x6 &&& 31)) &&& 1) = 1
            · rw [if_pos c4] at h
              suffices hh : ∃ n, jx_W jx_ShC d (some .int) jc_94 Q n 52 [some (.ref 1), some (.ref 94), some (.int x2), some (.int x3), some (.int x4), some (.int x5), some (.int x6), some (.int ((σ.1 6 (x6).toNatClampNeg) - (σ.1 (94 + 1) (((x2 * 8) + x6)).toNatClampNeg)))] [] σ by
                obtain ⟨n, hn⟩ := hh
                exact ⟨n + 21, And.intro (jx_in_ok c2) (And.intro (jx_in_ok c3) (And.intro (fun zz => absurd c4 zz) (fun _ => hn)))⟩
              by_cases c5 : x4 ≤ ((σ.1 6 (x6).toNatClampNeg) - (σ.1 (94 + 1) (((x2 * 8) + x6)).toNatClampNeg))
              · rw [if_pos c5] at h
                suffices hh : ∃ n, jx_W jx_ShC d (some .int) jc_94 Q n 67 [some (.ref 1), some (.ref 94), some (.int x2), some (.int x3), some (.int x4), some (.int x5), some (.int x6), some (.int ((σ.1 6 (x6).toNatClampNeg) - (σ.1 (94 + 1) (((x2 * 8) + x6)).toNatClampNeg)))] [] σ by
                  obtain ⟨n, hn⟩ := hh
                  exact ⟨n + 3, And.intro (fun _ => hn) (fun zz => absurd c5 zz)⟩
                obtain ⟨n, hn⟩ := s_S_easiest_67 hd (by decide) (s_S_easiest_11 hd (by decide) k) (u7 := some (.int ((σ.1 6 (x6).toNatClampNeg) - (σ.1 (94 + 1) (((x2 * 8) + x6)).toNatClampNeg)))) h hQ
                exact ⟨n + 0, hn⟩
              · rw [if_neg c5] at h
                suffices hh : ∃ n, jx_W jx_ShC d (some .int) jc_94 Q n 59 [some (.ref 1), some (.ref 94), some (.int x2), some (.int x3), some (.int x4), some (.int x5), some (.int x6), some (.int ((σ.1 6 (x6).toNatClampNeg) - (σ.1 (94 + 1) (((x2 * 8) + x6)).toNatClampNeg)))] [] σ by
                  obtain ⟨n, hn⟩ := hh
                  exact ⟨n + 3, And.intro (fun zz => absurd zz c5) (fun _ => hn)⟩
                obtain ⟨n, hn⟩ := s_S_easiest_67 hd (by decide) (s_S_easiest_11 hd (by decide) k) (u7 := some (.int ((σ.1 6 (x6).toNatClampNeg) - (σ.1 (94 + 1) (((x2 * 8) + x6)).toNatClampNeg)))) h hQ
                exact ⟨n + 4, hn⟩
            · rw [if_neg c4] at h
              suffices hh : ∃ n, jx_W jx_ShC d (some .int) jc_94 Q n 67 [some (.ref 1), some (.ref 94), some (.int x2), some (.int x3), some (.int x4), some (.int x5), some (.int x6), some (.int ((σ.1 6 (x6).toNatClampNeg) - (σ.1 (94 + 1) (((x2 * 8) + x6)).toNatClampNeg)))] [] σ by
                obtain ⟨n, hn⟩ := hh
                exact ⟨n + 21, And.intro (jx_in_ok c2) (And.intro (jx_in_ok c3) (And.intro (fun _ => hn) (fun zz => absurd zz c4)))⟩
              obtain ⟨n, hn⟩ := s_S_easiest_67 hd (by decide) (s_S_easiest_11 hd (by decide) k) (u7 := some (.int ((σ.1 6 (x6).toNatClampNeg) - (σ.1 (94 + 1) (((x2 * 8) + x6)).toNatClampNeg)))) h hQ
              exact ⟨n + 0, hn⟩
    · rw [f_S_easiest_11] at h
      by_cases c1 : (σ.1 1 5) ≤ x6
      · rw [if_pos c1] at h
        suffices hh : ∃ n, jx_W jx_ShC d (some .int) jc_94 Q n 73 [some (.ref 1), some (.ref 98), some (.int x2), some (.int x3), some (.int x4), some (.int x5), some (.int x6), u7] [] σ by
          obtain ⟨n, hn⟩ := hh
          exact ⟨n + 4, And.intro (fun _ => hn) (fun zz => absurd c1 zz)⟩
        cases h
        exact ⟨2, And.intro hQ (And.intro rfl rfl)⟩
      · rw [if_neg c1] at h
        suffices hh : ∃ n, jx_W jx_ShC d (some .int) jc_94 Q n 20 [some (.ref 1), some (.ref 98), some (.int x2), some (.int x3), some (.int x4), some (.int x5), some (.int x6), u7] [] σ by
          obtain ⟨n, hn⟩ := hh
          exact ⟨n + 4, And.intro (fun zz => absurd zz c1) (fun _ => hn)⟩
        cases c2 : jx_in x6 8 with
        | false => rw [c2, cond_false] at h; cases h
        | true =>
          rw [c2, cond_true] at h
          cases c3 : jx_in ((x2 * 8) + x6) 48 with
          | false => rw [c3, cond_false] at h; cases h
          | true =>
            rw [c3, cond_true] at h
            by_cases c4 : ((x3 >>> (x6 &&& 31)) &&& 1) = 1
            · rw [if_pos c4] at h
              suffices hh : ∃ n, jx_W jx_ShC d (some .int) jc_94 Q n 52 [some (.ref 1), some (.ref 98), some (.int x2), some (.int x3), some (.int x4), some (.int x5), some (.int x6), some (.int ((σ.1 6 (x6).toNatClampNeg) - (σ.1 (98 + 1) (((x2 * 8) + x6)).toNatClampNeg)))] [] σ by
                obtain ⟨n, hn⟩ := hh
                exact ⟨n + 21, And.intro (jx_in_ok c2) (And.intro (jx_in_ok c3) (And.intro (fun zz => absurd c4 zz) (fun _ => hn)))⟩
              by_cases c5 : x4 ≤ ((σ.1 6 (x6).toNatClampNeg) - (σ.1 (98 + 1) (((x2 * 8) + x6)).toNatClampNeg))
              · rw [if_pos c5] at h
                suffices hh : ∃ n, jx_W jx_ShC d (some .int) jc_94 Q n 67 [some (.ref 1), some (.ref 98), some (.int x2), some (.int x3), some (.int x4), some (.int x5), some (.int x6), some (.int ((σ.1 6 (x6).toNatClampNeg) - (σ.1 (98 + 1) (((x2 * 8) + x6)).toNatClampNeg)))] [] σ by
                  obtain ⟨n, hn⟩ := hh
                  exact ⟨n + 3, And.intro (fun _ => hn) (fun zz => absurd c5 zz)⟩
                obtain ⟨n, hn⟩ := s_S_easiest_67 hd (by decide) (s_S_easiest_11 hd (by decide) k) (u7 := some (.int ((σ.1 6 (x6).toNatClampNeg) - (σ.1 (98 + 1) (((x2 * 8) + x6)).toNatClampNeg)))) h hQ
                exact ⟨n + 0, hn⟩
              · rw [if_neg c5] at h
                suffices hh : ∃ n, jx_W jx_ShC d (some .int) jc_94 Q n 59 [some (.ref 1), some (.ref 98), some (.int x2), some (.int x3), some (.int x4), some (.int x5), some (.int x6), some (.int ((σ.1 6 (x6).toNatClampNeg) - (σ.1 (98 + 1) (((x2 * 8) + x6)).toNatClampNeg)))] [] σ by
                  obtain ⟨n, hn⟩ := hh
                  exact ⟨n + 3, And.intro (fun zz => absurd zz c5) (fun _ => hn)⟩
                obtain ⟨n, hn⟩ := s_S_easiest_67 hd (by decide) (s_S_easiest_11 hd (by decide) k) (u7 := some (.int ((σ.1 6 (x6).toNatClampNeg) - (σ.1 (98 + 1) (((x2 * 8) + x6)).toNatClampNeg)))) h hQ
                exact ⟨n + 4, hn⟩
            · rw [if_neg c4] at h
              suffices hh : ∃ n, jx_W jx_ShC d (some .int) jc_94 Q n 67 [some (.ref 1), some (.ref 98), some (.int x2), some (.int x3), some (.int x4), some (.int x5), some (.int x6), some (.int ((σ.1 6 (x6).toNatClampNeg) - (σ.1 (98 + 1) (((x2 * 8) + x6)).toNatClampNeg)))] [] σ by
                obtain ⟨n, hn⟩ := hh
                exact ⟨n + 21, And.intro (jx_in_ok c2) (And.intro (jx_in_ok c3) (And.intro (fun _ => hn) (fun zz => absurd zz c4)))⟩
              obtain ⟨n, hn⟩ := s_S_easiest_67 hd (by decide) (s_S_easiest_11 hd (by decide) k) (u7 := some (.int ((σ.1 6 (x6).toNatClampNeg) - (σ.1 (98 + 1) (((x2 * 8) + x6)).toNatClampNeg)))) h hQ
              exact ⟨n + 0, hn⟩
set_option maxRecDepth 20000 in
theorem s_S_easiest {N d : Nat} {p1 : Nat} {x2 : Int32} {x3 : Int32} (hd : 1 ≤ d) (hp : p1 = 102 ∨ p1 = 106 ∨ p1 = 110 ∨ p1 = 27 ∨ p1 = 75 ∨ p1 = 94 ∨ p1 = 98) {σ : jw_M} {z : (Int32 × jw_M)} {Q : jw_Q} (h : f_S_easiest N p1 x2 x3 σ = some z) (hQ : Q (some (.int z.1)) (jx_ShC, z.2)) : jw_C jp_kd jp_ys d 94 [.ref 1, .ref p1, .int x2, .int x3] (jx_ShC, σ) Q := by
  obtain ⟨d, rfl⟩ : ∃ e, d = e + 1 := ⟨d - 1, by omega⟩
  replace hd : 0 ≤ d := by omega
  refine jx_C rfl rfl ?_
  unfold f_S_easiest at h
  obtain ⟨n, hn⟩ := s_S_easiest_11 hd hp N (u7 := none) h hQ
  exact ⟨n + 6, hn⟩
set_option maxRecDepth 20000 in
theorem s_J_numberOfLeadingZeros_73 {N d : Nat} {Q : jw_Q} (hd : 0 ≤ d) {x0 : Int32} {x1 : Int32} {σ : jw_M} {z : (Int32 × jw_M)} (h : f_J_numberOfLeadingZeros_73 N x0 x1 σ = some z) (hQ : Q (some (.int z.1)) (jx_ShC, z.2)) : ∃ n, jx_W jx_ShC d (some .int) jc_317 Q n 73 [some (.int x0), some (.int x1)] [] σ := by
  unfold f_J_numberOfLeadingZeros_73 at h
  cases h
  exact ⟨6, And.intro hQ (And.intro rfl rfl)⟩
set_option maxRecDepth 20000 in
theorem s_J_numberOfLeadingZeros_61 {N d : Nat} {Q : jw_Q} (hd : 0 ≤ d) {x0 : Int32} {x1 : Int32} {σ : jw_M} {z : (Int32 × jw_M)} (h : f_J_numberOfLeadingZeros_61 N x0 x1 σ = some z) (hQ : Q (some (.int z.1)) (jx_ShC, z.2)) : ∃ n, jx_W jx_ShC d (some .int) jc_317 Q n 61 [some (.int x0), some (.int x1)] [] σ := by
  unfold f_J_numberOfLeadingZeros_61 at h
  by_cases c5 : x0 < 4
  · rw [if_pos c5] at h
    suffices hh : ∃ n, jx_W jx_ShC d (some .int) jc_317 Q n 73 [some (.int x0), some (.int x1)] [] σ by
      obtain ⟨n, hn⟩ := hh
      exact ⟨n + 3, And.intro (fun _ => hn) (fun zz => absurd c5 zz)⟩
    obtain ⟨n, hn⟩ := s_J_numberOfLeadingZeros_73 hd h hQ
    exact ⟨n + 0, hn⟩
  · rw [if_neg c5] at h
    suffices hh : ∃ n, jx_W jx_ShC d (some .int) jc_317 Q n 66 [some (.int x0), some (.int x1)] [] σ by
      obtain ⟨n, hn⟩ := hh
      exact ⟨n + 3, And.intro (fun zz => absurd zz c5) (fun _ => hn)⟩
    obtain ⟨n, hn⟩ := s_J_numberOfLeadingZeros_73 hd h hQ
    exact ⟨n + 5, hn⟩
set_option maxRecDepth 20000 in
theorem s_J_numberOfLeadingZeros_48 {N d : Nat} {Q : jw_Q} (hd : 0 ≤ d) {x0 : Int32} {x1 : Int32} {σ : jw_M} {z : (Int32 × jw_M)} (h : f_J_numberOfLeadingZeros_48 N x0 x1 σ = some z) (hQ : Q (some (.int z.1)) (jx_ShC, z.2)) : ∃ n, jx_W jx_ShC d (some .int) jc_317 Q n 48 [some (.int x0), some (.int x1)] [] σ := by
  unfold f_J_numberOfLeadingZeros_48 at h
  by_cases c4 : x0 < 16
  · rw [if_pos c4] at h
    suffices hh : ∃ n, jx_W jx_ShC d (some .int) jc_317 Q n 61 [some (.int x0), some (.int x1)] [] σ by
      obtain ⟨n, hn⟩ := hh
      exact ⟨n + 3, And.intro (fun _ => hn) (fun zz => absurd c4 zz)⟩
    obtain ⟨n, hn⟩ := s_J_numberOfLeadingZeros_61 hd h hQ
    exact ⟨n + 0, hn⟩
  · rw [if_neg c4] at h
    suffices hh : ∃ n, jx_W jx_ShC d (some .int) jc_317 Q n 54 [some (.int x0), some (.int x1)] [] σ by
      obtain ⟨n, hn⟩ := hh
      exact ⟨n + 3, And.intro (fun zz => absurd zz c4) (fun _ => hn)⟩
    obtain ⟨n, hn⟩ := s_J_numberOfLeadingZeros_61 hd h hQ
    exact ⟨n + 5, hn⟩
set_option maxRecDepth 20000 in
theorem s_J_numberOfLeadingZeros_33 {N d : Nat} {Q : jw_Q} (hd : 0 ≤ d) {x0 : Int32} {x1 : Int32} {σ : jw_M} {z : (Int32 × jw_M)} (h : f_J_numberOfLeadingZeros_33 N x0 x1 σ = some z) (hQ : Q (some (.int z.1)) (jx_ShC, z.2)) : ∃ n, jx_W jx_ShC d (some .int) jc_317 Q n 33 [some (.int x0), some (.int x1)] [] σ := by
  unfold f_J_numberOfLeadingZeros_33 at h
  by_cases c3 : x0 < 256
  · rw [if_pos c3] at h
    suffices hh : ∃ n, jx_W jx_ShC d (some .int) jc_317 Q n 48 [some (.int x0), some (.int x1)] [] σ by
      obtain ⟨n, hn⟩ := hh
      exact ⟨n + 3, And.intro (fun _ => hn) (fun zz => absurd c3 zz)⟩
    obtain ⟨n, hn⟩ := s_J_numberOfLeadingZeros_48 hd h hQ
    exact ⟨n + 0, hn⟩
  · rw [if_neg c3] at h
    suffices hh : ∃ n, jx_W jx_ShC d (some .int) jc_317 Q n 40 [some (.int x0), some (.int x1)] [] σ by
      obtain ⟨n, hn⟩ := hh
      exact ⟨n + 3, And.intro (fun zz => absurd zz c3) (fun _ => hn)⟩
    obtain ⟨n, hn⟩ := s_J_numberOfLeadingZeros_48 hd h hQ
    exact ⟨n + 5, hn⟩
set_option maxRecDepth 20000 in
theorem s_J_numberOfLeadingZeros {N d : Nat} {x0 : Int32} (hd : 1 ≤ d) {σ : jw_M} {z : (Int32 × jw_M)} {Q : jw_Q} (h : f_J_numberOfLeadingZeros N x0 σ = some z) (hQ : Q (some (.int z.1)) (jx_ShC, z.2)) : jw_C jp_kd jp_ys d 317 [.int x0] (jx_ShC, σ) Q := by
  obtain ⟨d, rfl⟩ : ∃ e, d = e + 1 := ⟨d - 1, by omega⟩
  replace hd : 0 ≤ d := by omega
  refine jx_C rfl rfl ?_
  unfold f_J_numberOfLeadingZeros at h
  by_cases c1 : 0 < x0
  · rw [if_pos c1] at h
    suffices hh : ∃ n, jx_W jx_ShC d (some .int) jc_317 Q n 15 [some (.int x0), none] [] σ by
      obtain ⟨n, hn⟩ := hh
      exact ⟨n + 2, And.intro (fun _ => hn) (fun zz => absurd c1 zz)⟩
    by_cases c2 : x0 < 65536
    · rw [if_pos c2] at h
      suffices hh : ∃ n, jx_W jx_ShC d (some .int) jc_317 Q n 33 [some (.int x0), some (.int 31)] [] σ by
        obtain ⟨n, hn⟩ := hh
        exact ⟨n + 5, And.intro (fun _ => hn) (fun zz => absurd c2 zz)⟩
      obtain ⟨n, hn⟩ := s_J_numberOfLeadingZeros_33 hd h hQ
      exact ⟨n + 0, hn⟩
    · rw [if_neg c2] at h
      suffices hh : ∃ n, jx_W jx_ShC d (some .int) jc_317 Q n 25 [some (.int x0), some (.int 31)] [] σ by
        obtain ⟨n, hn⟩ := hh
        exact ⟨n + 5, And.intro (fun zz => absurd zz c2) (fun _ => hn)⟩
      obtain ⟨n, hn⟩ := s_J_numberOfLeadingZeros_33 hd h hQ
      exact ⟨n + 5, hn⟩
  · rw [if_neg c1] at h
    suffices hh : ∃ n, jx_W jx_ShC d (some .int) jc_317 Q n 4 [some (.int x0), none] [] σ by
      obtain ⟨n, hn⟩ := hh
      exact ⟨n + 2, And.intro (fun zz => absurd zz c1) (fun _ => hn)⟩
    by_cases c6 : x0 = 0
    · rw [if_pos c6] at h
      suffices hh : ∃ n, jx_W jx_ShC d (some .int) jc_317 Q n 8 [some (.int x0), none] [] σ by
        obtain ⟨n, hn⟩ := hh
        exact ⟨n + 2, And.intro (fun zz => absurd c6 zz) (fun _ => hn)⟩
      cases h
      exact ⟨3, And.intro hQ (And.intro rfl rfl)⟩
    · rw [if_neg c6] at h
      suffices hh : ∃ n, jx_W jx_ShC d (some .int) jc_317 Q n 13 [some (.int x0), none] [] σ by
        obtain ⟨n, hn⟩ := hh
        exact ⟨n + 2, And.intro (fun _ => hn) (fun zz => absurd zz c6)⟩
      cases h
      exact ⟨2, And.intro hQ (And.intro rfl rfl)⟩
set_option maxRecDepth 20000 in
theorem s_J_numberOfTrailingZeros_74 {N d : Nat} {Q : jw_Q} (hd : 0 ≤ d) {x0 : Int32} {x1 : Int32} {σ : jw_M} {z : (Int32 × jw_M)} (h : f_J_numberOfTrailingZeros_74 N x0 x1 σ = some z) (hQ : Q (some (.int z.1)) (jx_ShC, z.2)) : ∃ n, jx_W jx_ShC d (some .int) jc_318 Q n 74 [some (.int x0), some (.int x1)] [] σ := by
  unfold f_J_numberOfTrailingZeros_74 at h
  cases h
  exact ⟨6, And.intro hQ (And.intro rfl rfl)⟩
set_option maxRecDepth 20000 in
theorem s_J_numberOfTrailingZeros_62 {N d : Nat} {Q : jw_Q} (hd : 0 ≤ d) {x0 : Int32} {x1 : Int32} {σ : jw_M} {z : (Int32 × jw_M)} (h : f_J_numberOfTrailingZeros_62 N x0 x1 σ = some z) (hQ : Q (some (.int z.1)) (jx_ShC, z.2)) : ∃ n, jx_W jx_ShC d (some .int) jc_318 Q n 62 [some (.int x0), some (.int x1)] [] σ := by
  unfold f_J_numberOfTrailingZeros_62 at h
  by_cases c5 : x0 ≤ 4
  · rw [if_pos c5] at h
    suffices hh : ∃ n, jx_W jx_ShC d (some .int) jc_318 Q n 74 [some (.int x0), some (.int x1)] [] σ by
      obtain ⟨n, hn⟩ := hh
      exact ⟨n + 3, And.intro (fun _ => hn) (fun zz => absurd c5 zz)⟩
    obtain ⟨n, hn⟩ := s_J_numberOfTrailingZeros_74 hd h hQ
    exact ⟨n + 0, hn⟩
  · rw [if_neg c5] at h
    suffices hh : ∃ n, jx_W jx_ShC d (some .int) jc_318 Q n 67 [some (.int x0), some (.int x1)] [] σ by
      obtain ⟨n, hn⟩ := hh
      exact ⟨n + 3, And.intro (fun zz => absurd zz c5) (fun _ => hn)⟩
    obtain ⟨n, hn⟩ := s_J_numberOfTrailingZeros_74 hd h hQ
    exact ⟨n + 5, hn⟩
set_option maxRecDepth 20000 in
theorem s_J_numberOfTrailingZeros_49 {N d : Nat} {Q : jw_Q} (hd : 0 ≤ d) {x0 : Int32} {x1 : Int32} {σ : jw_M} {z : (Int32 × jw_M)} (h : f_J_numberOfTrailingZeros_49 N x0 x1 σ = some z) (hQ : Q (some (.int z.1)) (jx_ShC, z.2)) : ∃ n, jx_W jx_ShC d (some .int) jc_318 Q n 49 [some (.int x0), some (.int x1)] [] σ := by
  unfold f_J_numberOfTrailingZeros_49 at h
  by_cases c4 : x0 ≤ 16
  · rw [if_pos c4] at h
    suffices hh : ∃ n, jx_W jx_ShC d (some .int) jc_318 Q n 62 [some (.int x0), some (.int x1)] [] σ by
      obtain ⟨n, hn⟩ := hh
      exact ⟨n + 3, And.intro (fun _ => hn) (fun zz => absurd c4 zz)⟩
    obtain ⟨n, hn⟩ := s_J_numberOfTrailingZeros_62 hd h hQ
    exact ⟨n + 0, hn⟩
  · rw [if_neg c4] at h
    suffices hh : ∃ n, jx_W jx_ShC d (some .int) jc_318 Q n 55 [some (.int x0), some (.int x1)] [] σ by
      obtain ⟨n, hn⟩ := hh
      exact ⟨n + 3, And.intro (fun zz => absurd zz c4) (fun _ => hn)⟩
    obtain ⟨n, hn⟩ := s_J_numberOfTrailingZeros_62 hd h hQ
    exact ⟨n + 5, hn⟩
set_option maxRecDepth 20000 in
theorem s_J_numberOfTrailingZeros_34 {N d : Nat} {Q : jw_Q} (hd : 0 ≤ d) {x0 : Int32} {x1 : Int32} {σ : jw_M} {z : (Int32 × jw_M)} (h : f_J_numberOfTrailingZeros_34 N x0 x1 σ = some z) (hQ : Q (some (.int z.1)) (jx_ShC, z.2)) : ∃ n, jx_W jx_ShC d (some .int) jc_318 Q n 34 [some (.int x0), some (.int x1)] [] σ := by
  unfold f_J_numberOfTrailingZeros_34 at h
  by_cases c3 : x0 ≤ 256
  · rw [if_pos c3] at h
    suffices hh : ∃ n, jx_W jx_ShC d (some .int) jc_318 Q n 49 [some (.int x0), some (.int x1)] [] σ by
      obtain ⟨n, hn⟩ := hh
      exact ⟨n + 3, And.intro (fun _ => hn) (fun zz => absurd c3 zz)⟩
    obtain ⟨n, hn⟩ := s_J_numberOfTrailingZeros_49 hd h hQ
    exact ⟨n + 0, hn⟩
  · rw [if_neg c3] at h
    suffices hh : ∃ n, jx_W jx_ShC d (some .int) jc_318 Q n 41 [some (.int x0), some (.int x1)] [] σ by
      obtain ⟨n, hn⟩ := hh
      exact ⟨n + 3, And.intro (fun zz => absurd zz c3) (fun _ => hn)⟩
    obtain ⟨n, hn⟩ := s_J_numberOfTrailingZeros_49 hd h hQ
    exact ⟨n + 5, hn⟩
set_option maxRecDepth 20000 in
theorem s_J_numberOfTrailingZeros {N d : Nat} {x0 : Int32} (hd : 1 ≤ d) {σ : jw_M} {z : (Int32 × jw_M)} {Q : jw_Q} (h : f_J_numberOfTrailingZeros N x0 σ = some z) (hQ : Q (some (.int z.1)) (jx_ShC, z.2)) : jw_C jp_kd jp_ys d 318 [.int x0] (jx_ShC, σ) Q := by
  obtain ⟨d, rfl⟩ : ∃ e, d = e + 1 := ⟨d - 1, by omega⟩
  replace hd : 0 ≤ d := by omega
  refine jx_C rfl rfl ?_
  unfold f_J_numberOfTrailingZeros at h
  by_cases c1 : 0 < ((x0 ^^^ (-1)) &&& (x0 - 1))
  · rw [if_pos c1] at h
    suffices hh : ∃ n, jx_W jx_ShC d (some .int) jc_318 Q n 17 [some (.int ((x0 ^^^ (-1)) &&& (x0 - 1))), none] [] σ by
      obtain ⟨n, hn⟩ := hh
      exact ⟨n + 10, And.intro (fun _ => hn) (fun zz => absurd c1 zz)⟩
    by_cases c2 : ((x0 ^^^ (-1)) &&& (x0 - 1)) ≤ 65536
    · rw [if_pos c2] at h
      suffices hh : ∃ n, jx_W jx_ShC d (some .int) jc_318 Q n 34 [some (.int ((x0 ^^^ (-1)) &&& (x0 - 1))), some (.int 1)] [] σ by
        obtain ⟨n, hn⟩ := hh
        exact ⟨n + 5, And.intro (fun _ => hn) (fun zz => absurd c2 zz)⟩
      obtain ⟨n, hn⟩ := s_J_numberOfTrailingZeros_34 hd h hQ
      exact ⟨n + 0, hn⟩
    · rw [if_neg c2] at h
      suffices hh : ∃ n, jx_W jx_ShC d (some .int) jc_318 Q n 26 [some (.int ((x0 ^^^ (-1)) &&& (x0 - 1))), some (.int 1)] [] σ by
        obtain ⟨n, hn⟩ := hh
        exact ⟨n + 5, And.intro (fun zz => absurd zz c2) (fun _ => hn)⟩
      obtain ⟨n, hn⟩ := s_J_numberOfTrailingZeros_34 hd h hQ
      exact ⟨n + 5, hn⟩
  · rw [if_neg c1] at h
    suffices hh : ∃ n, jx_W jx_ShC d (some .int) jc_318 Q n 12 [some (.int ((x0 ^^^ (-1)) &&& (x0 - 1))), none] [] σ by
      obtain ⟨n, hn⟩ := hh
      exact ⟨n + 10, And.intro (fun zz => absurd zz c1) (fun _ => hn)⟩
    cases h
    exact ⟨4, And.intro hQ (And.intro rfl rfl)⟩
set_option maxRecDepth 20000 in
theorem s_S_choice {N d : Nat} {p1 : Nat} {x2 : Int32} {x3 : Int32} (hd : 4 ≤ d) (hp : p1 = 102 ∨ p1 = 106 ∨ p1 = 110 ∨ p1 = 27 ∨ p1 = 75 ∨ p1 = 94 ∨ p1 = 98) {σ : jw_M} {z : (Int32 × jw_M)} {Q : jw_Q} (h : f_S_choice N p1 x2 x3 σ = some z) (hQ : Q (some (.int z.1)) (jx_ShC, z.2)) : jw_C jp_kd jp_ys d 91 [.ref 1, .ref p1, .int x2, .int x3] (jx_ShC, σ) Q := by
  obtain ⟨d, rfl⟩ : ∃ e, d = e + 1 := ⟨d - 1, by omega⟩
  replace hd : 3 ≤ d := by omega
  refine jx_C rfl rfl ?_
  rcases hp with rfl | rfl | rfl | rfl | rfl | rfl | rfl
  · unfold f_S_choice at h
    obtain ⟨z1, h2, h⟩ := Option.bind_eq_some_iff.mp h
    by_cases c3 : z1.1 = 0
    · rw [if_pos c3] at h
      suffices hh : ∃ n, jx_W jx_ShC d (some .int) jc_91 Q n 14 [some (.ref 1), some (.ref 102), some (.int x2), some (.int x3), some (.int z1.1)] [] z1.2 by
        obtain ⟨n, hn⟩ := hh
        exact ⟨n + 8, s_S_openTo (by omega) (by decide) h2 (And.intro (fun zz => absurd c3 zz) (fun _ => hn))⟩
      cases h
      exact ⟨2, And.intro hQ (And.intro rfl rfl)⟩
    · rw [if_neg c3] at h
      suffices hh : ∃ n, jx_W jx_ShC d (some .int) jc_91 Q n 17 [some (.ref 1), some (.ref 102), some (.int x2), some (.int x3), some (.int z1.1)] [] z1.2 by
        obtain ⟨n, hn⟩ := hh
        exact ⟨n + 8, s_S_openTo (by omega) (by decide) h2 (And.intro (fun _ => hn) (fun zz => absurd zz c3))⟩
      obtain ⟨z4, h5, h⟩ := Option.bind_eq_some_iff.mp h
      by_cases c14 : z4.1 = 0
      · rw [if_pos c14] at h
        suffices hh : ∃ n, jx_W jx_ShC d (some .int) jc_91 Q n 48 [some (.ref 1), some (.ref 102), some (.int x2), some (.int x3), some (.int z1.1)] [] z4.2 by
          obtain ⟨n, hn⟩ := hh
          exact ⟨n + 5, s_S_deedOf (by omega) (by decide) h5 (And.intro (fun _ => hn) (fun zz => absurd c14 zz))⟩
        obtain ⟨z6, h7, h⟩ := Option.bind_eq_some_iff.mp h
        cases h
        exact ⟨5, s_J_numberOfLeadingZeros (by omega) h7 (And.intro hQ (And.intro rfl rfl))⟩
      · rw [if_neg c14] at h
        by_cases c13 : z4.1 = 1
        · rw [if_pos c13] at h
          suffices hh : ∃ n, jx_W jx_ShC d (some .int) jc_91 Q n 57 [some (.ref 1), some (.ref 102), some (.int x2), some (.int x3), some (.int z1.1)] [] z4.2 by
            obtain ⟨n, hn⟩ := hh
            exact ⟨n + 5, s_S_deedOf (by omega) (by decide) h5 (And.intro (fun zz => absurd zz c14) (fun _ => And.intro (fun _ => hn) (fun zz => absurd c13 zz)))⟩
          obtain ⟨z8, h9, h⟩ := Option.bind_eq_some_iff.mp h
          cases h
          exact ⟨6, s_S_easiest (by omega) (by decide) h9 (And.intro hQ (And.intro rfl rfl))⟩
        · rw [if_neg c13] at h
          by_cases c12 : z4.1 = 2
          · rw [if_pos c12] at h
            suffices hh : ∃ n, jx_W jx_ShC d (some .int) jc_91 Q n 66 [some (.ref 1), some (.ref 102), some (.int x2), some (.int x3), some (.int z1.1)] [] z4.2 by
              obtain ⟨n, hn⟩ := hh
              exact ⟨n + 5, s_S_deedOf (by omega) (by decide) h5 (And.intro (fun zz => absurd zz c14) (fun _ => And.intro (fun zz => absurd zz c13) (fun _ => And.intro (fun _ => hn) (fun zz => absurd c12 zz))))⟩
            cases h
            exact ⟨2, And.intro hQ (And.intro rfl rfl)⟩
          · rw [if_neg c12] at h
            obtain ⟨z10, h11, h⟩ := Option.bind_eq_some_iff.mp h
            cases h
            exact ⟨8, s_S_deedOf (by omega) (by decide) h5 (And.intro (fun zz => absurd zz c14) (fun _ => And.intro (fun zz => absurd zz c13) (fun _ => And.intro (fun zz => absurd zz c12) (fun _ => s_J_numberOfTrailingZeros (by omega) h11 (And.intro hQ (And.intro rfl rfl))))))⟩
  · unfold f_S_choice at h
    obtain ⟨z1, h2, h⟩ := Option.bind_eq_some_iff.mp h
    by_cases c3 : z1.1 = 0
    · rw [if_pos c3] at h
      suffices hh : ∃ n, jx_W jx_ShC d (some .int) jc_91 Q n 14 [some (.ref 1), some (.ref 106), some (.int x2), some (.int x3), some (.int z1.1)] [] z1.2 by
        obtain ⟨n, hn⟩ := hh
        exact ⟨n + 8, s_S_openTo (by omega) (by decide) h2 (And.intro (fun zz => absurd c3 zz) (fun _ => hn))⟩
      cases h
      exact ⟨2, And.intro hQ (And.intro rfl rfl)⟩
    · rw [if_neg c3] at h
      suffices hh : ∃ n, jx_W jx_ShC d (some .int) jc_91 Q n 17 [some (.ref 1), some (.ref 106), some (.int x2), some (.int x3), some (.int z1.1)] [] z1.2 by
        obtain ⟨n, hn⟩ := hh
        exact ⟨n + 8, s_S_openTo (by omega) (by decide) h2 (And.intro (fun _ => hn) (fun zz => absurd zz c3))⟩
      obtain ⟨z4, h5, h⟩ := Option.bind_eq_some_iff.mp h
      by_cases c14 : z4.1 = 0
      · rw [if_pos c14] at h
        suffices hh : ∃ n, jx_W jx_ShC d (some .int) jc_91 Q n 48 [some (.ref 1), some (.ref 106), some (.int x2), some (.int x3), some (.int z1.1)] [] z4.2 by
          obtain ⟨n, hn⟩ := hh
          exact ⟨n + 5, s_S_deedOf (by omega) (by decide) h5 (And.intro (fun _ => hn) (fun zz => absurd c14 zz))⟩
        obtain ⟨z6, h7, h⟩ := Option.bind_eq_some_iff.mp h
        cases h
        exact ⟨5, s_J_numberOfLeadingZeros (by omega) h7 (And.intro hQ (And.intro rfl rfl))⟩
      · rw [if_neg c14] at h
        by_cases c13 : z4.1 = 1
        · rw [if_pos c13] at h
          suffices hh : ∃ n, jx_W jx_ShC d (some .int) jc_91 Q n 57 [some (.ref 1), some (.ref 106), some (.int x2), some (.int x3), some (.int z1.1)] [] z4.2 by
            obtain ⟨n, hn⟩ := hh
            exact ⟨n + 5, s_S_deedOf (by omega) (by decide) h5 (And.intro (fun zz => absurd zz c14) (fun _ => And.intro (fun _ => hn) (fun zz => absurd c13 zz)))⟩
          obtain ⟨z8, h9, h⟩ := Option.bind_eq_some_iff.mp h
          cases h
          exact ⟨6, s_S_easiest (by omega) (by decide) h9 (And.intro hQ (And.intro rfl rfl))⟩
        · rw [if_neg c13] at h
          by_cases c12 : z4.1 = 2
          · rw [if_pos c12] at h
            suffices hh : ∃ n, jx_W jx_ShC d (some .int) jc_91 Q n 66 [some (.ref 1), some (.ref 106), some (.int x2), some (.int x3), some (.int z1.1)] [] z4.2 by
              obtain ⟨n, hn⟩ := hh
              exact ⟨n + 5, s_S_deedOf (by omega) (by decide) h5 (And.intro (fun zz => absurd zz c14) (fun _ => And.intro (fun zz => absurd zz c13) (fun _ => And.intro (fun _ => hn) (fun zz => absurd c12 zz))))⟩
            cases h
            exact ⟨2, And.intro hQ (And.intro rfl rfl)⟩
          · rw [if_neg c12] at h
            obtain ⟨z10, h11, h⟩ := Option.bind_eq_some_iff.mp h
            cases h
            exact ⟨8, s_S_deedOf (by omega) (by decide) h5 (And.intro (fun zz => absurd zz c14) (fun _ => And.intro (fun zz => absurd zz c13) (fun _ => And.intro (fun zz => absurd zz c12) (fun _ => s_J_numberOfTrailingZeros (by omega) h11 (And.intro hQ (And.intro rfl rfl))))))⟩
  · unfold f_S_choice at h
    obtain ⟨z1, h2, h⟩ := Option.bind_eq_some_iff.mp h
    by_cases c3 : z1.1 = 0
    · rw [if_pos c3] at h
      suffices hh : ∃ n, jx_W jx_ShC d (some .int) jc_91 Q n 14 [some (.ref 1), some (.ref 110), some (.int x2), some (.int x3), some (.int z1.1)] [] z1.2 by
        obtain ⟨n, hn⟩ := hh
        exact ⟨n + 8, s_S_openTo (by omega) (by decide) h2 (And.intro (fun zz => absurd c3 zz) (fun _ => hn))⟩
      cases h
      exact ⟨2, And.intro hQ (And.intro rfl rfl)⟩
    · rw [if_neg c3] at h
      suffices hh : ∃ n, jx_W jx_ShC d (some .int) jc_91 Q n 17 [some (.ref 1), some (.ref 110), some (.int x2), some (.int x3), some (.int z1.1)] [] z1.2 by
        obtain ⟨n, hn⟩ := hh
        exact ⟨n + 8, s_S_openTo (by omega) (by decide) h2 (And.intro (fun _ => hn) (fun zz => absurd zz c3))⟩
      obtain ⟨z4, h5, h⟩ := Option.bind_eq_some_iff.mp h
      by_cases c14 : z4.1 = 0
      · rw [if_pos c14] at h
        suffices hh : ∃ n, jx_W jx_ShC d (some .int) jc_91 Q n 48 [some (.ref 1), some (.ref 110), some (.int x2), some (.int x3), some (.int z1.1)] [] z4.2 by
          obtain ⟨n, hn⟩ := hh
          exact ⟨n + 5, s_S_deedOf (by omega) (by decide) h5 (And.intro (fun _ => hn) (fun zz => absurd c14 zz))⟩
        obtain ⟨z6, h7, h⟩ := Option.bind_eq_some_iff.mp h
        cases h
        exact ⟨5, s_J_numberOfLeadingZeros (by omega) h7 (And.intro hQ (And.intro rfl rfl))⟩
      · rw [if_neg c14] at h
        by_cases c13 : z4.1 = 1
        · rw [if_pos c13] at h
          suffices hh : ∃ n, jx_W jx_ShC d (some .int) jc_91 Q n 57 [some (.ref 1), some (.ref 110), some (.int x2), some (.int x3), some (.int z1.1)] [] z4.2 by
            obtain ⟨n, hn⟩ := hh
            exact ⟨n + 5, s_S_deedOf (by omega) (by decide) h5 (And.intro (fun zz => absurd zz c14) (fun _ => And.intro (fun _ => hn) (fun zz => absurd c13 zz)))⟩
          obtain ⟨z8, h9, h⟩ := Option.bind_eq_some_iff.mp h
          cases h
          exact ⟨6, s_S_easiest (by omega) (by decide) h9 (And.intro hQ (And.intro rfl rfl))⟩
        · rw [if_neg c13] at h
          by_cases c12 : z4.1 = 2
          · rw [if_pos c12] at h
            suffices hh : ∃ n, jx_W jx_ShC d (some .int) jc_91 Q n 66 [some (.ref 1), some (.ref 110), some (.int x2), some (.int x3), some (.int z1.1)] [] z4.2 by
              obtain ⟨n, hn⟩ := hh
              exact ⟨n + 5, s_S_deedOf (by omega) (by decide) h5 (And.intro (fun zz => absurd zz c14) (fun _ => And.intro (fun zz => absurd zz c13) (fun _ => And.intro (fun _ => hn) (fun zz => absurd c12 zz))))⟩
            cases h
            exact ⟨2, And.intro hQ (And.intro rfl rfl)⟩
          · rw [if_neg c12] at h
            obtain ⟨z10, h11, h⟩ := Option.bind_eq_some_iff.mp h
            cases h
            exact ⟨8, s_S_deedOf (by omega) (by decide) h5 (And.intro (fun zz => absurd zz c14) (fun _ => And.intro (fun zz => absurd zz c13) (fun _ => And.intro (fun zz => absurd zz c12) (fun _ => s_J_numberOfTrailingZeros (by omega) h11 (And.intro hQ (And.intro rfl rfl))))))⟩
  · unfold f_S_choice at h
    obtain ⟨z1, h2, h⟩ := Option.bind_eq_some_iff.mp h
    by_cases c3 : z1.1 = 0
    · rw [if_pos c3] at h
      suffices hh : ∃ n, jx_W jx_ShC d (some .int) jc_91 Q n 14 [some (.ref 1), some (.ref 27), some (.int x2), some (.int x3), some (.int z1.1)] [] z1.2 by
        obtain ⟨n, hn⟩ := hh
        exact ⟨n + 8, s_S_openTo (by omega) (by decide) h2 (And.intro (fun zz => absurd c3 zz) (fun _ => hn))⟩
      cases h
      exact ⟨2, And.intro hQ (And.intro rfl rfl)⟩
    · rw [if_neg c3] at h
      suffices hh : ∃ n, jx_W jx_ShC d (some .int) jc_91 Q n 17 [some (.ref 1), some (.ref 27), some (.int x2), some (.int x3), some (.int z1.1)] [] z1.2 by
        obtain ⟨n, hn⟩ := hh
        exact ⟨n + 8, s_S_openTo (by omega) (by decide) h2 (And.intro (fun _ => hn) (fun zz => absurd zz c3))⟩
      obtain ⟨z4, h5, h⟩ := Option.bind_eq_some_iff.mp h
      by_cases c14 : z4.1 = 0
      · rw [if_pos c14] at h
        suffices hh : ∃ n, jx_W jx_ShC d (some .int) jc_91 Q n 48 [some (.ref 1), some (.ref 27), some (.int x2), some (.int x3), some (.int z1.1)] [] z4.2 by
          obtain ⟨n, hn⟩ := hh
          exact ⟨n + 5, s_S_deedOf (by omega) (by decide) h5 (And.intro (fun _ => hn) (fun zz => absurd c14 zz))⟩
        obtain ⟨z6, h7, h⟩ := Option.bind_eq_some_iff.mp h
        cases h
        exact ⟨5, s_J_numberOfLeadingZeros (by omega) h7 (And.intro hQ (And.intro rfl rfl))⟩
      · rw [if_neg c14] at h
        by_cases c13 : z4.1 = 1
        · rw [if_pos c13] at h
          suffices hh : ∃ n, jx_W jx_ShC d (some .int) jc_91 Q n 57 [some (.ref 1), some (.ref 27), some (.int x2), some (.int x3), some (.int z1.1)] [] z4.2 by
            obtain ⟨n, hn⟩ := hh
            exact ⟨n + 5, s_S_deedOf (by omega) (by decide) h5 (And.intro (fun zz => absurd zz c14) (fun _ => And.intro (fun _ => hn) (fun zz => absurd c13 zz)))⟩
          obtain ⟨z8, h9, h⟩ := Option.bind_eq_some_iff.mp h
          cases h
          exact ⟨6, s_S_easiest (by omega) (by decide) h9 (And.intro hQ (And.intro rfl rfl))⟩
        · rw [if_neg c13] at h
          by_cases c12 : z4.1 = 2
          · rw [if_pos c12] at h
            suffices hh : ∃ n, jx_W jx_ShC d (some .int) jc_91 Q n 66 [some (.ref 1), some (.ref 27), some (.int x2), some (.int x3), some (.int z1.1)] [] z4.2 by
              obtain ⟨n, hn⟩ := hh
              exact ⟨n + 5, s_S_deedOf (by omega) (by decide) h5 (And.intro (fun zz => absurd zz c14) (fun _ => And.intro (fun zz => absurd zz c13) (fun _ => And.intro (fun _ => hn) (fun zz => absurd c12 zz))))⟩
            cases h
            exact ⟨2, And.intro hQ (And.intro rfl rfl)⟩
          · rw [if_neg c12] at h
            obtain ⟨z10, h11, h⟩ := Option.bind_eq_some_iff.mp h
            cases h
            exact ⟨8, s_S_deedOf (by omega) (by decide) h5 (And.intro (fun zz => absurd zz c14) (fun _ => And.intro (fun zz => absurd zz c13) (fun _ => And.intro (fun zz => absurd zz c12) (fun _ => s_J_numberOfTrailingZeros (by omega) h11 (And.intro hQ (And.intro rfl rfl))))))⟩
  · unfold f_S_choice at h
    obtain ⟨z1, h2, h⟩ := Option.bind_eq_some_iff.mp h
    by_cases c3 : z1.1 = 0
    · rw [if_pos c3] at h
      suffices hh : ∃ n, jx_W jx_ShC d (some .int) jc_91 Q n 14 [some (.ref 1), some (.ref 75), some (.int x2), some (.int x3), some (.int z1.1)] [] z1.2 by
        obtain ⟨n, hn⟩ := hh
        exact ⟨n + 8, s_S_openTo (by omega) (by decide) h2 (And.intro (fun zz => absurd c3 zz) (fun _ => hn))⟩
      cases h
      exact ⟨2, And.intro hQ (And.intro rfl rfl)⟩
    · rw [if_neg c3] at h
      suffices hh : ∃ n, jx_W jx_ShC d (some .int) jc_91 Q n 17 [some (.ref 1), some (.ref 75), some (.int x2), some (.int x3), some (.int z1.1)] [] z1.2 by
        obtain ⟨n, hn⟩ := hh
        exact ⟨n + 8, s_S_openTo (by omega) (by decide) h2 (And.intro (fun _ => hn) (fun zz => absurd zz c3))⟩
      obtain ⟨z4, h5, h⟩ := Option.bind_eq_some_iff.mp h
      by_cases c14 : z4.1 = 0
      · rw [if_pos c14] at h
        suffices hh : ∃ n, jx_W jx_ShC d (some .int) jc_91 Q n 48 [some (.ref 1), some (.ref 75), some (.int x2), some (.int x3), some (.int z1.1)] [] z4.2 by
          obtain ⟨n, hn⟩ := hh
          exact ⟨n + 5, s_S_deedOf (by omega) (by decide) h5 (And.intro (fun _ => hn) (fun zz => absurd c14 zz))⟩
        obtain ⟨z6, h7, h⟩ := Option.bind_eq_some_iff.mp h
        cases h
        exact ⟨5, s_J_numberOfLeadingZeros (by omega) h7 (And.intro hQ (And.intro rfl rfl))⟩
      · rw [if_neg c14] at h
        by_cases c13 : z4.1 = 1
        · rw [if_pos c13] at h
          suffices hh : ∃ n, jx_W jx_ShC d (some .int) jc_91 Q n 57 [some (.ref 1), some (.ref 75), some (.int x2), some (.int x3), some (.int z1.1)] [] z4.2 by
            obtain ⟨n, hn⟩ := hh
            exact ⟨n + 5, s_S_deedOf (by omega) (by decide) h5 (And.intro (fun zz => absurd zz c14) (fun _ => And.intro (fun _ => hn) (fun zz => absurd c13 zz)))⟩
          obtain ⟨z8, h9, h⟩ := Option.bind_eq_some_iff.mp h
          cases h
          exact ⟨6, s_S_easiest (by omega) (by decide) h9 (And.intro hQ (And.intro rfl rfl))⟩
        · rw [if_neg c13] at h
          by_cases c12 : z4.1 = 2
          · rw [if_pos c12] at h
            suffices hh : ∃ n, jx_W jx_ShC d (some .int) jc_91 Q n 66 [some (.ref 1), some (.ref 75), some (.int x2), some (.int x3), some (.int z1.1)] [] z4.2 by
              obtain ⟨n, hn⟩ := hh
              exact ⟨n + 5, s_S_deedOf (by omega) (by decide) h5 (And.intro (fun zz => absurd zz c14) (fun _ => And.intro (fun zz => absurd zz c13) (fun _ => And.intro (fun _ => hn) (fun zz => absurd c12 zz))))⟩
            cases h
            exact ⟨2, And.intro hQ (And.intro rfl rfl)⟩
          · rw [if_neg c12] at h
            obtain ⟨z10, h11, h⟩ := Option.bind_eq_some_iff.mp h
            cases h
            exact ⟨8, s_S_deedOf (by omega) (by decide) h5 (And.intro (fun zz => absurd zz c14) (fun _ => And.intro (fun zz => absurd zz c13) (fun _ => And.intro (fun zz => absurd zz c12) (fun _ => s_J_numberOfTrailingZeros (by omega) h11 (And.intro hQ (And.intro rfl rfl))))))⟩
  · unfold f_S_choice at h
    obtain ⟨z1, h2, h⟩ := Option.bind_eq_some_iff.mp h
    by_cases c3 : z1.1 = 0
    · rw [if_pos c3] at h
      suffices hh : ∃ n, jx_W jx_ShC d (some .int) jc_91 Q n 14 [some (.ref 1), some (.ref 94), some (.int x2), some (.int x3), some (.int z1.1)] [] z1.2 by
        obtain ⟨n, hn⟩ := hh
        exact ⟨n + 8, s_S_openTo (by omega) (by decide) h2 (And.intro (fun zz => absurd c3 zz) (fun _ => hn))⟩
      cases h
      exact ⟨2, And.intro hQ (And.intro rfl rfl)⟩
    · rw [if_neg c3] at h
      suffices hh : ∃ n, jx_W jx_ShC d (some .int) jc_91 Q n 17 [some (.ref 1), some (.ref 94), some (.int x2), some (.int x3), some (.int z1.1)] [] z1.2 by
        obtain ⟨n, hn⟩ := hh
        exact ⟨n + 8, s_S_openTo (by omega) (by decide) h2 (And.intro (fun _ => hn) (fun zz => absurd zz c3))⟩
      obtain ⟨z4, h5, h⟩ := Option.bind_eq_some_iff.mp h
      by_cases c14 : z4.1 = 0
      · rw [if_pos c14] at h
        suffices hh : ∃ n, jx_W jx_ShC d (some .int) jc_91 Q n 48 [some (.ref 1), some (.ref 94), some (.int x2), some (.int x3), some (.int z1.1)] [] z4.2 by
          obtain ⟨n, hn⟩ := hh
          exact ⟨n + 5, s_S_deedOf (by omega) (by decide) h5 (And.intro (fun _ => hn) (fun zz => absurd c14 zz))⟩
        obtain ⟨z6, h7, h⟩ := Option.bind_eq_some_iff.mp h
        cases h
        exact ⟨5, s_J_numberOfLeadingZeros (by omega) h7 (And.intro hQ (And.intro rfl rfl))⟩
      · rw [if_neg c14] at h
        by_cases c13 : z4.1 = 1
        · rw [if_pos c13] at h
          suffices hh : ∃ n, jx_W jx_ShC d (some .int) jc_91 Q n 57 [some (.ref 1), some (.ref 94), some (.int x2), some (.int x3), some (.int z1.1)] [] z4.2 by
            obtain ⟨n, hn⟩ := hh
            exact ⟨n + 5, s_S_deedOf (by omega) (by decide) h5 (And.intro (fun zz => absurd zz c14) (fun _ => And.intro (fun _ => hn) (fun zz => absurd c13 zz)))⟩
          obtain ⟨z8, h9, h⟩ := Option.bind_eq_some_iff.mp h
          cases h
          exact ⟨6, s_S_easiest (by omega) (by decide) h9 (And.intro hQ (And.intro rfl rfl))⟩
        · rw [if_neg c13] at h
          by_cases c12 : z4.1 = 2
          · rw [if_pos c12] at h
            suffices hh : ∃ n, jx_W jx_ShC d (some .int) jc_91 Q n 66 [some (.ref 1), some (.ref 94), some (.int x2), some (.int x3), some (.int z1.1)] [] z4.2 by
              obtain ⟨n, hn⟩ := hh
              exact ⟨n + 5, s_S_deedOf (by omega) (by decide) h5 (And.intro (fun zz => absurd zz c14) (fun _ => And.intro (fun zz => absurd zz c13) (fun _ => And.intro (fun _ => hn) (fun zz => absurd c12 zz))))⟩
            cases h
            exact ⟨2, And.intro hQ (And.intro rfl rfl)⟩
          · rw [if_neg c12] at h
            obtain ⟨z10, h11, h⟩ := Option.bind_eq_some_iff.mp h
            cases h
            exact ⟨8, s_S_deedOf (by omega) (by decide) h5 (And.intro (fun zz => absurd zz c14) (fun _ => And.intro (fun zz => absurd zz c13) (fun _ => And.intro (fun zz => absurd zz c12) (fun _ => s_J_numberOfTrailingZeros (by omega) h11 (And.intro hQ (And.intro rfl rfl))))))⟩
  · unfold f_S_choice at h
    obtain ⟨z1, h2, h⟩ := Option.bind_eq_some_iff.mp h
    by_cases c3 : z1.1 = 0
    · rw [if_pos c3] at h
      suffices hh : ∃ n, jx_W jx_ShC d (some .int) jc_91 Q n 14 [some (.ref 1), some (.ref 98), some (.int x2), some (.int x3), some (.int z1.1)] [] z1.2 by
        obtain ⟨n, hn⟩ := hh
        exact ⟨n + 8, s_S_openTo (by omega) (by decide) h2 (And.intro (fun zz => absurd c3 zz) (fun _ => hn))⟩
      cases h
      exact ⟨2, And.intro hQ (And.intro rfl rfl)⟩
    · rw [if_neg c3] at h
      suffices hh : ∃ n, jx_W jx_ShC d (some .int) jc_91 Q n 17 [some (.ref 1), some (.ref 98), some (.int x2), some (.int x3), some (.int z1.1)] [] z1.2 by
        obtain ⟨n, hn⟩ := hh
        exact ⟨n + 8, s_S_openTo (by omega) (by decide) h2 (And.intro (fun _ => hn) (fun zz => absurd zz c3))⟩
      obtain ⟨z4, h5, h⟩ := Option.bind_eq_some_iff.mp h
      by_cases c14 : z4.1 = 0
      · rw [if_pos c14] at h
        suffices hh : ∃ n, jx_W jx_ShC d (some .int) jc_91 Q n 48 [some (.ref 1), some (.ref 98), some (.int x2), some (.int x3), some (.int z1.1)] [] z4.2 by
          obtain ⟨n, hn⟩ := hh
          exact ⟨n + 5, s_S_deedOf (by omega) (by decide) h5 (And.intro (fun _ => hn) (fun zz => absurd c14 zz))⟩
        obtain ⟨z6, h7, h⟩ := Option.bind_eq_some_iff.mp h
        cases h
        exact ⟨5, s_J_numberOfLeadingZeros (by omega) h7 (And.intro hQ (And.intro rfl rfl))⟩
      · rw [if_neg c14] at h
        by_cases c13 : z4.1 = 1
        · rw [if_pos c13] at h
          suffices hh : ∃ n, jx_W jx_ShC d (some .int) jc_91 Q n 57 [some (.ref 1), some (.ref 98), some (.int x2), some (.int x3), some (.int z1.1)] [] z4.2 by
            obtain ⟨n, hn⟩ := hh
            exact ⟨n + 5, s_S_deedOf (by omega) (by decide) h5 (And.intro (fun zz => absurd zz c14) (fun _ => And.intro (fun _ => hn) (fun zz => absurd c13 zz)))⟩
          obtain ⟨z8, h9, h⟩ := Option.bind_eq_some_iff.mp h
          cases h
          exact ⟨6, s_S_easiest (by omega) (by decide) h9 (And.intro hQ (And.intro rfl rfl))⟩
        · rw [if_neg c13] at h
          by_cases c12 : z4.1 = 2
          · rw [if_pos c12] at h
            suffices hh : ∃ n, jx_W jx_ShC d (some .int) jc_91 Q n 66 [some (.ref 1), some (.ref 98), some (.int x2), some (.int x3), some (.int z1.1)] [] z4.2 by
              obtain ⟨n, hn⟩ := hh
              exact ⟨n + 5, s_S_deedOf (by omega) (by decide) h5 (And.intro (fun zz => absurd zz c14) (fun _ => And.intro (fun zz => absurd zz c13) (fun _ => And.intro (fun _ => hn) (fun zz => absurd c12 zz))))⟩
            cases h
            exact ⟨2, And.intro hQ (And.intro rfl rfl)⟩
          · rw [if_neg c12] at h
            obtain ⟨z10, h11, h⟩ := Option.bind_eq_some_iff.mp h
            cases h
            exact ⟨8, s_S_deedOf (by omega) (by decide) h5 (And.intro (fun zz => absurd zz c14) (fun _ => And.intro (fun zz => absurd zz c13) (fun _ => And.intro (fun zz => absurd zz c12) (fun _ => s_J_numberOfTrailingZeros (by omega) h11 (And.intro hQ (And.intro rfl rfl))))))⟩
