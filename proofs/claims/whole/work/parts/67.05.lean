set_option maxRecDepth 20000 in
theorem s_L_valueOfGame {N d : Nat} {x2 : Int32} (hd : 71 ≤ d) {σ : jw_M} {z : (Int32 × jw_M)} {Q : jw_Q} (h : f_L_valueOfGame N x2 σ = some z) (hQ : Q (some (.int z.1)) (jx_ShC, z.2)) : jw_C jp_kd jp_ys d 34 [.ref 92, .ref 1, .int x2] (jx_ShC, σ) Q := by
  obtain ⟨d, rfl⟩ : ∃ e, d = e + 1 := ⟨d - 1, by omega⟩
  replace hd : 70 ≤ d := by omega
  refine jx_C rfl rfl ?_
  unfold f_L_valueOfGame at h
  obtain ⟨z1, h2, h⟩ := Option.bind_eq_some_iff.mp h
  obtain ⟨z3, h4, h⟩ := Option.bind_eq_some_iff.mp h
  cases h
  exact ⟨16, And.intro (jx_in_ok rfl) (s_P_copyFrom (by omega) (by decide) h2 (s_L_valueFrom 64 (by omega) h4 (And.intro hQ (And.intro rfl rfl))))⟩
set_option maxRecDepth 20000 in
theorem s_L_makeRows_64 {N d : Nat} {Q : jw_Q} {K17 : Int32 → jw_M → Option (Int32 × jw_M)} (hd : 5 ≤ d) (hK17 : ∀ {x3 : Int32} {σ : jw_M} {z : (Int32 × jw_M)}, K17 x3 σ = some z → Q (some (.int z.1)) (jx_ShC, z.2) → ∃ n, jx_W jx_ShC d (some .int) jc_36 Q n 17 [some (.ref 92), some (.ref 1), some (.ref 94), some (.int x3)] [] σ) {x3 : Int32} {r_0 : Nat} {σ : jw_M} {z : (Int32 × jw_M)} (hr_0 : r_0 = 117 ∨ r_0 = 118 ∨ r_0 = 119 ∨ r_0 = 120) (h : f_L_makeRows_64 N K17 x3 r_0 σ = some z) (hQ : Q (some (.int z.1)) (jx_ShC, z.2)) : ∃ n, jx_W jx_ShC d (some .int) jc_36 Q n 64 [some (.ref 92), some (.ref 1), some (.ref 94), some (.int x3)] [.ref r_0] σ := by
  rcases hr_0 with rfl | rfl | rfl | rfl
  · unfold f_L_makeRows_64 at h
    obtain ⟨z9, h10, h⟩ := Option.bind_eq_some_iff.mp h
    obtain ⟨n, hn⟩ := hK17 h hQ
    exact ⟨n + 6, s_P_learntBySome (by omega) (by decide) h10 (And.intro (jx_in_ok rfl) (hn))⟩
  · unfold f_L_makeRows_64 at h
    obtain ⟨z9, h10, h⟩ := Option.bind_eq_some_iff.mp h
    obtain ⟨n, hn⟩ := hK17 h hQ
    exact ⟨n + 6, s_P_learntBySome (by omega) (by decide) h10 (And.intro (jx_in_ok rfl) (hn))⟩
  · unfold f_L_makeRows_64 at h
    obtain ⟨z9, h10, h⟩ := Option.bind_eq_some_iff.mp h
    obtain ⟨n, hn⟩ := hK17 h hQ
    exact ⟨n + 6, s_P_learntBySome (by omega) (by decide) h10 (And.intro (jx_in_ok rfl) (hn))⟩
  · unfold f_L_makeRows_64 at h
    obtain ⟨z9, h10, h⟩ := Option.bind_eq_some_iff.mp h
    obtain ⟨n, hn⟩ := hK17 h hQ
    exact ⟨n + 6, s_P_learntBySome (by omega) (by decide) h10 (And.intro (jx_in_ok rfl) (hn))⟩
set_option maxRecDepth 20000 in
theorem s_L_makeRows_63 {N d : Nat} {Q : jw_Q} {K17 : Int32 → jw_M → Option (Int32 × jw_M)} (hd : 5 ≤ d) (hK17 : ∀ {x3 : Int32} {σ : jw_M} {z : (Int32 × jw_M)}, K17 x3 σ = some z → Q (some (.int z.1)) (jx_ShC, z.2) → ∃ n, jx_W jx_ShC d (some .int) jc_36 Q n 17 [some (.ref 92), some (.ref 1), some (.ref 94), some (.int x3)] [] σ) {x3 : Int32} {y1 : Int32} {σ : jw_M} {z : (Int32 × jw_M)} (h : f_L_makeRows_63 N K17 x3 y1 σ = some z) (hQ : Q (some (.int z.1)) (jx_ShC, z.2)) : ∃ n, jx_W jx_ShC d (some .int) jc_36 Q n 63 [some (.ref 92), some (.ref 1), some (.ref 94), some (.int x3)] [.int y1, .ref 116] σ := by
  unfold f_L_makeRows_63 at h
  cases c8 : jx_in y1 4 with
  | false => rw [c8, cond_false] at h; cases h
  | true =>
    rw [c8, cond_true] at h
    rcases jx_ix4 (jx_in_ok c8) with rfl | rfl | rfl | rfl
    · try rw [show (117 + (0 : Int32).toNatClampNeg) = 117 from by decide] at h
      obtain ⟨n, hn⟩ := s_L_makeRows_64 hd hK17 (by decide) h hQ
      exact ⟨n + 1, And.intro (jx_in_ok c8) (hn)⟩
    · try rw [show (117 + (1 : Int32).toNatClampNeg) = 118 from by decide] at h
      obtain ⟨n, hn⟩ := s_L_makeRows_64 hd hK17 (by decide) h hQ
      exact ⟨n + 1, And.intro (jx_in_ok c8) (hn)⟩
    · try rw [show (117 + (2 : Int32).toNatClampNeg) = 119 from by decide] at h
      obtain ⟨n, hn⟩ := s_L_makeRows_64 hd hK17 (by decide) h hQ
      exact ⟨n + 1, And.intro (jx_in_ok c8) (hn)⟩
    · try rw [show (117 + (3 : Int32).toNatClampNeg) = 120 from by decide] at h
      obtain ⟨n, hn⟩ := s_L_makeRows_64 hd hK17 (by decide) h hQ
      exact ⟨n + 1, And.intro (jx_in_ok c8) (hn)⟩
set_option maxRecDepth 20000 in
theorem s_L_makeRows_45 {N d : Nat} {Q : jw_Q} {K17 : Int32 → jw_M → Option (Int32 × jw_M)} (hd : 5 ≤ d) (hK17 : ∀ {x3 : Int32} {σ : jw_M} {z : (Int32 × jw_M)}, K17 x3 σ = some z → Q (some (.int z.1)) (jx_ShC, z.2) → ∃ n, jx_W jx_ShC d (some .int) jc_36 Q n 17 [some (.ref 92), some (.ref 1), some (.ref 94), some (.int x3)] [] σ) {x3 : Int32} {r_0 : Nat} {σ : jw_M} {z : (Int32 × jw_M)} (hr_0 : r_0 = 117 ∨ r_0 = 118 ∨ r_0 = 119 ∨ r_0 = 120) (h : f_L_makeRows_45 N K17 x3 r_0 σ = some z) (hQ : Q (some (.int z.1)) (jx_ShC, z.2)) : ∃ n, jx_W jx_ShC d (some .int) jc_36 Q n 45 [some (.ref 92), some (.ref 1), some (.ref 94), some (.int x3)] [.ref r_0] σ := by
  rcases hr_0 with rfl | rfl | rfl | rfl
  · unfold f_L_makeRows_45 at h
    cases c5 : jx_in x3 4 with
    | false => rw [c5, cond_false] at h; cases h
    | true =>
      rw [c5, cond_true] at h
      obtain ⟨z6, h7, h⟩ := Option.bind_eq_some_iff.mp h
      obtain ⟨n, hn⟩ := s_L_makeRows_63 hd hK17 h hQ
      exact ⟨n + 12, And.intro (jx_in_ok c5) (s_S_goBy (by omega) (by decide) h7 (And.intro (jx_in_ok rfl) (hn)))⟩
  · unfold f_L_makeRows_45 at h
    cases c5 : jx_in x3 4 with
    | false => rw [c5, cond_false] at h; cases h
    | true =>
      rw [c5, cond_true] at h
      obtain ⟨z6, h7, h⟩ := Option.bind_eq_some_iff.mp h
      obtain ⟨n, hn⟩ := s_L_makeRows_63 hd hK17 h hQ
      exact ⟨n + 12, And.intro (jx_in_ok c5) (s_S_goBy (by omega) (by decide) h7 (And.intro (jx_in_ok rfl) (hn)))⟩
  · unfold f_L_makeRows_45 at h
    cases c5 : jx_in x3 4 with
    | false => rw [c5, cond_false] at h; cases h
    | true =>
      rw [c5, cond_true] at h
      obtain ⟨z6, h7, h⟩ := Option.bind_eq_some_iff.mp h
      obtain ⟨n, hn⟩ := s_L_makeRows_63 hd hK17 h hQ
      exact ⟨n + 12, And.intro (jx_in_ok c5) (s_S_goBy (by omega) (by decide) h7 (And.intro (jx_in_ok rfl) (hn)))⟩
  · unfold f_L_makeRows_45 at h
    cases c5 : jx_in x3 4 with
    | false => rw [c5, cond_false] at h; cases h
    | true =>
      rw [c5, cond_true] at h
      obtain ⟨z6, h7, h⟩ := Option.bind_eq_some_iff.mp h
      obtain ⟨n, hn⟩ := s_L_makeRows_63 hd hK17 h hQ
      exact ⟨n + 12, And.intro (jx_in_ok c5) (s_S_goBy (by omega) (by decide) h7 (And.intro (jx_in_ok rfl) (hn)))⟩
set_option maxRecDepth 20000 in
theorem s_L_makeRows_44 {N d : Nat} {Q : jw_Q} {K17 : Int32 → jw_M → Option (Int32 × jw_M)} (hd : 5 ≤ d) (hK17 : ∀ {x3 : Int32} {σ : jw_M} {z : (Int32 × jw_M)}, K17 x3 σ = some z → Q (some (.int z.1)) (jx_ShC, z.2) → ∃ n, jx_W jx_ShC d (some .int) jc_36 Q n 17 [some (.ref 92), some (.ref 1), some (.ref 94), some (.int x3)] [] σ) {x3 : Int32} {y1 : Int32} {σ : jw_M} {z : (Int32 × jw_M)} (h : f_L_makeRows_44 N K17 x3 y1 σ = some z) (hQ : Q (some (.int z.1)) (jx_ShC, z.2)) : ∃ n, jx_W jx_ShC d (some .int) jc_36 Q n 44 [some (.ref 92), some (.ref 1), some (.ref 94), some (.int x3)] [.int y1, .ref 116] σ := by
  unfold f_L_makeRows_44 at h
  cases c4 : jx_in y1 4 with
  | false => rw [c4, cond_false] at h; cases h
  | true =>
    rw [c4, cond_true] at h
    rcases jx_ix4 (jx_in_ok c4) with rfl | rfl | rfl | rfl
    · try rw [show (117 + (0 : Int32).toNatClampNeg) = 117 from by decide] at h
      obtain ⟨n, hn⟩ := s_L_makeRows_45 hd hK17 (by decide) h hQ
      exact ⟨n + 1, And.intro (jx_in_ok c4) (hn)⟩
    · try rw [show (117 + (1 : Int32).toNatClampNeg) = 118 from by decide] at h
      obtain ⟨n, hn⟩ := s_L_makeRows_45 hd hK17 (by decide) h hQ
      exact ⟨n + 1, And.intro (jx_in_ok c4) (hn)⟩
    · try rw [show (117 + (2 : Int32).toNatClampNeg) = 119 from by decide] at h
      obtain ⟨n, hn⟩ := s_L_makeRows_45 hd hK17 (by decide) h hQ
      exact ⟨n + 1, And.intro (jx_in_ok c4) (hn)⟩
    · try rw [show (117 + (3 : Int32).toNatClampNeg) = 120 from by decide] at h
      obtain ⟨n, hn⟩ := s_L_makeRows_45 hd hK17 (by decide) h hQ
      exact ⟨n + 1, And.intro (jx_in_ok c4) (hn)⟩
set_option maxRecDepth 20000 in
theorem s_L_makeRows_31 {N d : Nat} {Q : jw_Q} {K17 : Int32 → jw_M → Option (Int32 × jw_M)} (hd : 5 ≤ d) (hK17 : ∀ {x3 : Int32} {σ : jw_M} {z : (Int32 × jw_M)}, K17 x3 σ = some z → Q (some (.int z.1)) (jx_ShC, z.2) → ∃ n, jx_W jx_ShC d (some .int) jc_36 Q n 17 [some (.ref 92), some (.ref 1), some (.ref 94), some (.int x3)] [] σ) {x3 : Int32} {r_0 : Nat} {σ : jw_M} {z : (Int32 × jw_M)} (hr_0 : r_0 = 117 ∨ r_0 = 118 ∨ r_0 = 119 ∨ r_0 = 120) (h : f_L_makeRows_31 N K17 x3 r_0 σ = some z) (hQ : Q (some (.int z.1)) (jx_ShC, z.2)) : ∃ n, jx_W jx_ShC d (some .int) jc_36 Q n 31 [some (.ref 92), some (.ref 1), some (.ref 94), some (.int x3)] [.ref r_0] σ := by
  rcases hr_0 with rfl | rfl | rfl | rfl
  · unfold f_L_makeRows_31 at h
    cases c3 : jx_in x3 4 with
    | false => rw [c3, cond_false] at h; cases h
    | true =>
      rw [c3, cond_true] at h
      obtain ⟨n, hn⟩ := s_L_makeRows_44 hd hK17 h hQ
      exact ⟨n + 9, And.intro (jx_in_ok c3) (And.intro (jx_in_ok rfl) (hn))⟩
  · unfold f_L_makeRows_31 at h
    cases c3 : jx_in x3 4 with
    | false => rw [c3, cond_false] at h; cases h
    | true =>
      rw [c3, cond_true] at h
      obtain ⟨n, hn⟩ := s_L_makeRows_44 hd hK17 h hQ
      exact ⟨n + 9, And.intro (jx_in_ok c3) (And.intro (jx_in_ok rfl) (hn))⟩
  · unfold f_L_makeRows_31 at h
    cases c3 : jx_in x3 4 with
    | false => rw [c3, cond_false] at h; cases h
    | true =>
      rw [c3, cond_true] at h
      obtain ⟨n, hn⟩ := s_L_makeRows_44 hd hK17 h hQ
      exact ⟨n + 9, And.intro (jx_in_ok c3) (And.intro (jx_in_ok rfl) (hn))⟩
  · unfold f_L_makeRows_31 at h
    cases c3 : jx_in x3 4 with
    | false => rw [c3, cond_false] at h; cases h
    | true =>
      rw [c3, cond_true] at h
      obtain ⟨n, hn⟩ := s_L_makeRows_44 hd hK17 h hQ
      exact ⟨n + 9, And.intro (jx_in_ok c3) (And.intro (jx_in_ok rfl) (hn))⟩
set_option maxRecDepth 20000 in
theorem s_L_makeRows_30 {N d : Nat} {Q : jw_Q} {K17 : Int32 → jw_M → Option (Int32 × jw_M)} (hd : 5 ≤ d) (hK17 : ∀ {x3 : Int32} {σ : jw_M} {z : (Int32 × jw_M)}, K17 x3 σ = some z → Q (some (.int z.1)) (jx_ShC, z.2) → ∃ n, jx_W jx_ShC d (some .int) jc_36 Q n 17 [some (.ref 92), some (.ref 1), some (.ref 94), some (.int x3)] [] σ) {x3 : Int32} {y1 : Int32} {σ : jw_M} {z : (Int32 × jw_M)} (h : f_L_makeRows_30 N K17 x3 y1 σ = some z) (hQ : Q (some (.int z.1)) (jx_ShC, z.2)) : ∃ n, jx_W jx_ShC d (some .int) jc_36 Q n 30 [some (.ref 92), some (.ref 1), some (.ref 94), some (.int x3)] [.int y1, .ref 116] σ := by
  unfold f_L_makeRows_30 at h
  cases c2 : jx_in y1 4 with
  | false => rw [c2, cond_false] at h; cases h
  | true =>
    rw [c2, cond_true] at h
    rcases jx_ix4 (jx_in_ok c2) with rfl | rfl | rfl | rfl
    · try rw [show (117 + (0 : Int32).toNatClampNeg) = 117 from by decide] at h
      obtain ⟨n, hn⟩ := s_L_makeRows_31 hd hK17 (by decide) h hQ
      exact ⟨n + 1, And.intro (jx_in_ok c2) (hn)⟩
    · try rw [show (117 + (1 : Int32).toNatClampNeg) = 118 from by decide] at h
      obtain ⟨n, hn⟩ := s_L_makeRows_31 hd hK17 (by decide) h hQ
      exact ⟨n + 1, And.intro (jx_in_ok c2) (hn)⟩
    · try rw [show (117 + (2 : Int32).toNatClampNeg) = 119 from by decide] at h
      obtain ⟨n, hn⟩ := s_L_makeRows_31 hd hK17 (by decide) h hQ
      exact ⟨n + 1, And.intro (jx_in_ok c2) (hn)⟩
    · try rw [show (117 + (3 : Int32).toNatClampNeg) = 120 from by decide] at h
      obtain ⟨n, hn⟩ := s_L_makeRows_31 hd hK17 (by decide) h hQ
      exact ⟨n + 1, And.intro (jx_in_ok c2) (hn)⟩
set_option maxRecDepth 20000 in
theorem s_L_makeRows_17 {N d : Nat} {Q : jw_Q} (hd : 5 ≤ d) : ∀ (k : Nat) {x3 : Int32} {σ : jw_M} {z : (Int32 × jw_M)}, f_L_makeRows_17 N k x3 σ = some z → Q (some (.int z.1)) (jx_ShC, z.2) → ∃ n, jx_W jx_ShC d (some .int) jc_36 Q n 17 [some (.ref 92), some (.ref 1), some (.ref 94), some (.int x3)] [] σ
  | 0, _, _, _, h, _ => by cases h
  | k + 1, x3, σ, z, h, hQ => by
    rw [f_L_makeRows_17] at h
    by_cases c1 : (σ.1 92 10) ≤ x3
    · rw [if_pos c1] at h
      suffices hh : ∃ n, jx_W jx_ShC d (some .int) jc_36 Q n 76 [some (.ref 92), some (.ref 1), some (.ref 94), some (.int x3)] [] σ by
        obtain ⟨n, hn⟩ := hh
        exact ⟨n + 4, And.intro (fun _ => hn) (fun zz => absurd c1 zz)⟩
      cases h
      exact ⟨3, And.intro hQ (And.intro rfl rfl)⟩
    · rw [if_neg c1] at h
      suffices hh : ∃ n, jx_W jx_ShC d (some .int) jc_36 Q n 25 [some (.ref 92), some (.ref 1), some (.ref 94), some (.int x3)] [] σ by
        obtain ⟨n, hn⟩ := hh
        exact ⟨n + 4, And.intro (fun zz => absurd zz c1) (fun _ => hn)⟩
      obtain ⟨n, hn⟩ := s_L_makeRows_30 hd (s_L_makeRows_17 hd k) h hQ
      exact ⟨n + 3, hn⟩
set_option maxRecDepth 20000 in
theorem s_L_makeRows {N d : Nat} (hd : 6 ≤ d) {σ : jw_M} {z : (Int32 × jw_M)} {Q : jw_Q} (h : f_L_makeRows N  σ = some z) (hQ : Q (some (.int z.1)) (jx_ShC, z.2)) : jw_C jp_kd jp_ys d 36 [.ref 92, .ref 1] (jx_ShC, σ) Q := by
  obtain ⟨d, rfl⟩ : ∃ e, d = e + 1 := ⟨d - 1, by omega⟩
  replace hd : 5 ≤ d := by omega
  refine jx_C rfl rfl ?_
  unfold f_L_makeRows at h
  obtain ⟨n, hn⟩ := s_L_makeRows_17 hd N h hQ
  exact ⟨n + 11, And.intro (jx_in_ok rfl) (hn)⟩
set_option maxRecDepth 20000 in
theorem s_L_hasRowPart {N d : Nat} {x1 : Int32} {x2 : Int32} (hd : 1 ≤ d) {σ : jw_M} {z : (Int32 × jw_M)} {Q : jw_Q} (h : f_L_hasRowPart N x1 x2 σ = some z) (hQ : Q (some (.int z.1)) (jx_ShC, z.2)) : jw_C jp_kd jp_ys d 37 [.ref 92, .int x1, .int x2] (jx_ShC, σ) Q := by
  obtain ⟨d, rfl⟩ : ∃ e, d = e + 1 := ⟨d - 1, by omega⟩
  replace hd : 0 ≤ d := by omega
  refine jx_C rfl rfl ?_
  unfold f_L_hasRowPart at h
  by_cases c1 : x1 < 0
  · rw [if_pos c1] at h
    suffices hh : ∃ n, jx_W jx_ShC d (some .boolean) jc_37 Q n 25 [some (.ref 92), some (.int x1), some (.int x2)] [] σ by
      obtain ⟨n, hn⟩ := hh
      exact ⟨n + 2, And.intro (fun _ => hn) (fun zz => absurd c1 zz)⟩
    cases h
    exact ⟨2, And.intro (Or.inl rfl) (And.intro hQ (And.intro rfl rfl))⟩
  · rw [if_neg c1] at h
    suffices hh : ∃ n, jx_W jx_ShC d (some .boolean) jc_37 Q n 4 [some (.ref 92), some (.int x1), some (.int x2)] [] σ by
      obtain ⟨n, hn⟩ := hh
      exact ⟨n + 2, And.intro (fun zz => absurd zz c1) (fun _ => hn)⟩
    by_cases c2 : (σ.1 92 10) ≤ x1
    · rw [if_pos c2] at h
      suffices hh : ∃ n, jx_W jx_ShC d (some .boolean) jc_37 Q n 25 [some (.ref 92), some (.int x1), some (.int x2)] [] σ by
        obtain ⟨n, hn⟩ := hh
        exact ⟨n + 4, And.intro (fun _ => hn) (fun zz => absurd c2 zz)⟩
      cases h
      exact ⟨2, And.intro (Or.inl rfl) (And.intro hQ (And.intro rfl rfl))⟩
    · rw [if_neg c2] at h
      suffices hh : ∃ n, jx_W jx_ShC d (some .boolean) jc_37 Q n 12 [some (.ref 92), some (.int x1), some (.int x2)] [] σ by
        obtain ⟨n, hn⟩ := hh
        exact ⟨n + 4, And.intro (fun zz => absurd zz c2) (fun _ => hn)⟩
      by_cases c3 : x2 < 0
      · rw [if_pos c3] at h
        suffices hh : ∃ n, jx_W jx_ShC d (some .boolean) jc_37 Q n 25 [some (.ref 92), some (.int x1), some (.int x2)] [] σ by
          obtain ⟨n, hn⟩ := hh
          exact ⟨n + 2, And.intro (fun _ => hn) (fun zz => absurd c3 zz)⟩
        cases h
        exact ⟨2, And.intro (Or.inl rfl) (And.intro hQ (And.intro rfl rfl))⟩
      · rw [if_neg c3] at h
        suffices hh : ∃ n, jx_W jx_ShC d (some .boolean) jc_37 Q n 16 [some (.ref 92), some (.int x1), some (.int x2)] [] σ by
          obtain ⟨n, hn⟩ := hh
          exact ⟨n + 2, And.intro (fun zz => absurd zz c3) (fun _ => hn)⟩
        by_cases c4 : 3 ≤ x2
        · rw [if_pos c4] at h
          suffices hh : ∃ n, jx_W jx_ShC d (some .boolean) jc_37 Q n 25 [some (.ref 92), some (.int x1), some (.int x2)] [] σ by
            obtain ⟨n, hn⟩ := hh
            exact ⟨n + 3, And.intro (fun _ => hn) (fun zz => absurd c4 zz)⟩
          cases h
          exact ⟨2, And.intro (Or.inl rfl) (And.intro hQ (And.intro rfl rfl))⟩
        · rw [if_neg c4] at h
          suffices hh : ∃ n, jx_W jx_ShC d (some .boolean) jc_37 Q n 21 [some (.ref 92), some (.int x1), some (.int x2)] [] σ by
            obtain ⟨n, hn⟩ := hh
            exact ⟨n + 3, And.intro (fun zz => absurd zz c4) (fun _ => hn)⟩
          cases h
          exact ⟨3, And.intro (Or.inr rfl) (And.intro hQ (And.intro rfl rfl))⟩
set_option maxRecDepth 20000 in
theorem s_S_isAct {N d : Nat} {x1 : Int32} (hd : 1 ≤ d) {σ : jw_M} {z : (Int32 × jw_M)} {Q : jw_Q} (h : f_S_isAct N x1 σ = some z) (hQ : Q (some (.int z.1)) (jx_ShC, z.2)) : jw_C jp_kd jp_ys d 78 [.ref 1, .int x1] (jx_ShC, σ) Q := by
  obtain ⟨d, rfl⟩ : ∃ e, d = e + 1 := ⟨d - 1, by omega⟩
  replace hd : 0 ≤ d := by omega
  refine jx_C rfl rfl ?_
  unfold f_S_isAct at h
  by_cases c1 : x1 < 0
  · rw [if_pos c1] at h
    suffices hh : ∃ n, jx_W jx_ShC d (some .boolean) jc_78 Q n 16 [some (.ref 1), some (.int x1)] [] σ by
      obtain ⟨n, hn⟩ := hh
      exact ⟨n + 2, And.intro (fun _ => hn) (fun zz => absurd c1 zz)⟩
    cases h
    exact ⟨2, And.intro (Or.inl rfl) (And.intro hQ (And.intro rfl rfl))⟩
  · rw [if_neg c1] at h
    suffices hh : ∃ n, jx_W jx_ShC d (some .boolean) jc_78 Q n 4 [some (.ref 1), some (.int x1)] [] σ by
      obtain ⟨n, hn⟩ := hh
      exact ⟨n + 2, And.intro (fun zz => absurd zz c1) (fun _ => hn)⟩
    by_cases c2 : (σ.1 1 0) < x1
    · rw [if_pos c2] at h
      suffices hh : ∃ n, jx_W jx_ShC d (some .boolean) jc_78 Q n 16 [some (.ref 1), some (.int x1)] [] σ by
        obtain ⟨n, hn⟩ := hh
        exact ⟨n + 4, And.intro (fun _ => hn) (fun zz => absurd c2 zz)⟩
      cases h
      exact ⟨2, And.intro (Or.inl rfl) (And.intro hQ (And.intro rfl rfl))⟩
    · rw [if_neg c2] at h
      suffices hh : ∃ n, jx_W jx_ShC d (some .boolean) jc_78 Q n 12 [some (.ref 1), some (.int x1)] [] σ by
        obtain ⟨n, hn⟩ := hh
        exact ⟨n + 4, And.intro (fun zz => absurd zz c2) (fun _ => hn)⟩
      cases h
      exact ⟨3, And.intro (Or.inr rfl) (And.intro hQ (And.intro rfl rfl))⟩
set_option maxRecDepth 20000 in
theorem s_L_firstWrongRow_31 {N d : Nat} {Q : jw_Q} {K17 : Int32 → jw_M → Option (Int32 × jw_M)} (hd : 5 ≤ d) (hK17 : ∀ {x3 : Int32} {σ : jw_M} {z : (Int32 × jw_M)} {u4 : Option Value}, K17 x3 σ = some z → Q (some (.int z.1)) (jx_ShC, z.2) → ∃ n, jx_W jx_ShC d (some .int) jc_38 Q n 17 [some (.ref 92), some (.ref 1), some (.ref 94), some (.int x3), u4] [] σ) {x3 : Int32} {r_0 : Nat} {u4 : Option Value} {σ : jw_M} {z : (Int32 × jw_M)} (hr_0 : r_0 = 117 ∨ r_0 = 118 ∨ r_0 = 119 ∨ r_0 = 120) (h : f_L_firstWrongRow_31 N K17 x3 r_0 σ = some z) (hQ : Q (some (.int z.1)) (jx_ShC, z.2)) : ∃ n, jx_W jx_ShC d (some .int) jc_38 Q n 31 [some (.ref 92), some (.ref 1), some (.ref 94), some (.int x3), u4] [.ref r_0] σ := by
  rcases hr_0 with rfl | rfl | rfl | rfl
  · unfold f_L_firstWrongRow_31 at h
    obtain ⟨z5, h6, h⟩ := Option.bind_eq_some_iff.mp h
    by_cases c7 : z5.1 = 0
    · rw [if_pos c7] at h
      suffices hh : ∃ n, jx_W jx_ShC d (some .int) jc_38 Q n 79 [some (.ref 92), some (.ref 1), some (.ref 94), some (.int x3), some (.ref 117)] [] z5.2 by
        obtain ⟨n, hn⟩ := hh
        exact ⟨n + 7, And.intro (jx_in_ok rfl) (s_S_isAct (by omega) h6 (And.intro (fun _ => hn) (fun zz => absurd c7 zz)))⟩
      cases h
      exact ⟨4, And.intro hQ (And.intro rfl rfl)⟩
    · rw [if_neg c7] at h
      suffices hh : ∃ n, jx_W jx_ShC d (some .int) jc_38 Q n 44 [some (.ref 92), some (.ref 1), some (.ref 94), some (.int x3), some (.ref 117)] [] z5.2 by
        obtain ⟨n, hn⟩ := hh
        exact ⟨n + 7, And.intro (jx_in_ok rfl) (s_S_isAct (by omega) h6 (And.intro (fun zz => absurd zz c7) (fun _ => hn)))⟩
      obtain ⟨z8, h9, h⟩ := Option.bind_eq_some_iff.mp h
      by_cases c10 : z8.1 = 0
      · rw [if_pos c10] at h
        suffices hh : ∃ n, jx_W jx_ShC d (some .int) jc_38 Q n 52 [some (.ref 92), some (.ref 1), some (.ref 94), some (.int x3), some (.ref 117)] [] z8.2 by
          obtain ⟨n, hn⟩ := hh
          exact ⟨n + 4, s_S_isOver (by omega) (by decide) h9 (And.intro (fun zz => absurd c10 zz) (fun _ => hn))⟩
        obtain ⟨z11, h12, h⟩ := Option.bind_eq_some_iff.mp h
        by_cases c13 : z11.1 = (z11.2.1 117 1)
        · rw [if_pos c13] at h
          suffices hh : ∃ n, jx_W jx_ShC d (some .int) jc_38 Q n 68 [some (.ref 92), some (.ref 1), some (.ref 94), some (.int x3), some (.ref 117)] [] z11.2 by
            obtain ⟨n, hn⟩ := hh
            exact ⟨n + 10, And.intro (jx_in_ok rfl) (s_S_goBy (by omega) (by decide) h12 (And.intro (jx_in_ok rfl) (And.intro (fun zz => absurd c13 zz) (fun _ => hn))))⟩
          obtain ⟨z14, h15, h⟩ := Option.bind_eq_some_iff.mp h
          by_cases c16 : z14.1 = (z14.2.1 117 2)
          · rw [if_pos c16] at h
            suffices hh : ∃ n, jx_W jx_ShC d (some .int) jc_38 Q n 83 [some (.ref 92), some (.ref 1), some (.ref 94), some (.int x3), some (.ref 117)] [] z14.2 by
              obtain ⟨n, hn⟩ := hh
              exact ⟨n + 6, s_P_learntBySome (by omega) (by decide) h15 (And.intro (jx_in_ok rfl) (And.intro (fun _ => hn) (fun zz => absurd c16 zz)))⟩
            obtain ⟨n, hn⟩ := hK17 (u4 := some (.ref 117)) h hQ
            exact ⟨n + 2, hn⟩
          · rw [if_neg c16] at h
            suffices hh : ∃ n, jx_W jx_ShC d (some .int) jc_38 Q n 79 [some (.ref 92), some (.ref 1), some (.ref 94), some (.int x3), some (.ref 117)] [] z14.2 by
              obtain ⟨n, hn⟩ := hh
              exact ⟨n + 6, s_P_learntBySome (by omega) (by decide) h15 (And.intro (jx_in_ok rfl) (And.intro (fun zz => absurd zz c16) (fun _ => hn)))⟩
            cases h
            exact ⟨4, And.intro hQ (And.intro rfl rfl)⟩
        · rw [if_neg c13] at h
          suffices hh : ∃ n, jx_W jx_ShC d (some .int) jc_38 Q n 79 [some (.ref 92), some (.ref 1), some (.ref 94), some (.int x3), some (.ref 117)] [] z11.2 by
            obtain ⟨n, hn⟩ := hh
            exact ⟨n + 10, And.intro (jx_in_ok rfl) (s_S_goBy (by omega) (by decide) h12 (And.intro (jx_in_ok rfl) (And.intro (fun _ => hn) (fun zz => absurd zz c13))))⟩
          cases h
          exact ⟨4, And.intro hQ (And.intro rfl rfl)⟩
      · rw [if_neg c10] at h
        suffices hh : ∃ n, jx_W jx_ShC d (some .int) jc_38 Q n 79 [some (.ref 92), some (.ref 1), some (.ref 94), some (.int x3), some (.ref 117)] [] z8.2 by
          obtain ⟨n, hn⟩ := hh
          exact ⟨n + 4, s_S_isOver (by omega) (by decide) h9 (And.intro (fun _ => hn) (fun zz => absurd zz c10))⟩
        cases h
        exact ⟨4, And.intro hQ (And.intro rfl rfl)⟩
  · unfold f_L_firstWrongRow_31 at h
    obtain ⟨z5, h6, h⟩ := Option.bind_eq_some_iff.mp h
    by_cases c7 : z5.1 = 0
    · rw [if_pos c7] at h
      suffices hh : ∃ n, jx_W jx_ShC d (some .int) jc_38 Q n 79 [some (.ref 92), some (.ref 1), some (.ref 94), some (.int x3), some (.ref 118)] [] z5.2 by
        obtain ⟨n, hn⟩ := hh
        exact ⟨n + 7, And.intro (jx_in_ok rfl) (s_S_isAct (by omega) h6 (And.intro (fun _ => hn) (fun zz => absurd c7 zz)))⟩
      cases h
      exact ⟨4, And.intro hQ (And.intro rfl rfl)⟩
    · rw [if_neg c7] at h
      suffices hh : ∃ n, jx_W jx_ShC d (some .int) jc_38 Q n 44 [some (.ref 92), some (.ref 1), some (.ref 94), some (.int x3), some (.ref 118)] [] z5.2 by
        obtain ⟨n, hn⟩ := hh
        exact ⟨n + 7, And.intro (jx_in_ok rfl) (s_S_isAct (by omega) h6 (And.intro (fun zz => absurd zz c7) (fun _ => hn)))⟩
      obtain ⟨z8, h9, h⟩ := Option.bind_eq_some_iff.mp h
      by_cases c10 : z8.1 = 0
      · rw [if_pos c10] at h
        suffices hh : ∃ n, jx_W jx_ShC d (some .int) jc_38 Q n 52 [some (.ref 92), some (.ref 1), some (.ref 94), some (.int x3), some (.ref 118)] [] z8.2 by
          obtain ⟨n, hn⟩ := hh
          exact ⟨n + 4, s_S_isOver (by omega) (by decide) h9 (And.intro (fun zz => absurd c10 zz) (fun _ => hn))⟩
        obtain ⟨z11, h12, h⟩ := Option.bind_eq_some_iff.mp h
        by_cases c13 : z11.1 = (z11.2.1 118 1)
        · rw [if_pos c13] at h
          suffices hh : ∃ n, jx_W jx_ShC d (some .int) jc_38 Q n 68 [some (.ref 92), some (.ref 1), some (.ref 94), some (.int x3), some (.ref 118)] [] z11.2 by
            obtain ⟨n, hn⟩ := hh
            exact ⟨n + 10, And.intro (jx_in_ok rfl) (s_S_goBy (by omega) (by decide) h12 (And.intro (jx_in_ok rfl) (And.intro (fun zz => absurd c13 zz) (fun _ => hn))))⟩
          obtain ⟨z14, h15, h⟩ := Option.bind_eq_some_iff.mp h
          by_cases c16 : z14.1 = (z14.2.1 118 2)
          · rw [if_pos c16] at h
            suffices hh : ∃ n, jx_W jx_ShC d (some .int) jc_38 Q n 83 [some (.ref 92), some (.ref 1), some (.ref 94), some (.int x3), some (.ref 118)] [] z14.2 by
              obtain ⟨n, hn⟩ := hh
              exact ⟨n + 6, s_P_learntBySome (by omega) (by decide) h15 (And.intro (jx_in_ok rfl) (And.intro (fun _ => hn) (fun zz => absurd c16 zz)))⟩
            obtain ⟨n, hn⟩ := hK17 (u4 := some (.ref 118)) h hQ
            exact ⟨n + 2, hn⟩
          · rw [if_neg c16] at h
            suffices hh : ∃ n, jx_W jx_ShC d (some .int) jc_38 Q n 79 [some (.ref 92), some (.ref 1), some (.ref 94), some (.int x3), some (.ref 118)] [] z14.2 by
              obtain ⟨n, hn⟩ := hh
              exact ⟨n + 6, s_P_learntBySome (by omega) (by decide) h15 (And.intro (jx_in_ok rfl) (And.intro (fun zz => absurd zz c16) (fun _ => hn)))⟩
            cases h
            exact ⟨4, And.intro hQ (And.intro rfl rfl)⟩
        · rw [if_neg c13] at h
          suffices hh : ∃ n, jx_W jx_ShC d (some .int) jc_38 Q n 79 [some (.ref 92), some (.ref 1), some (.ref 94), some (.int x3), some (.ref 118)] [] z11.2 by
            obtain ⟨n, hn⟩ := hh
            exact ⟨n + 10, And.intro (jx_in_ok rfl) (s_S_goBy (by omega) (by decide) h12 (And.intro (jx_in_ok rfl) (And.intro (fun _ => hn) (fun zz => absurd zz c13))))⟩
          cases h
          exact ⟨4, And.intro hQ (And.intro rfl rfl)⟩
      · rw [if_neg c10] at h
        suffices hh : ∃ n, jx_W jx_ShC d (some .int) jc_38 Q n 79 [some (.ref 92), some (.ref 1), some (.ref 94), some (.int x3), some (.ref 118)] [] z8.2 by
          obtain ⟨n, hn⟩ := hh
          exact ⟨n + 4, s_S_isOver (by omega) (by decide) h9 (And.intro (fun _ => hn) (fun zz => absurd zz c10))⟩
        cases h
        exact ⟨4, And.intro hQ (And.intro rfl rfl)⟩
  · unfold f_L_firstWrongRow_31 at h
    obtain ⟨z5, h6, h⟩ := Option.bind_eq_some_iff.mp h
    by_cases c7 : z5.1 = 0
    · rw [if_pos c7] at h
      suffices hh : ∃ n, jx_W jx_ShC d (some .int) jc_38 Q n 79 [some (.ref 92), some (.ref 1), some (.ref 94), some (.int x3), some (.ref 119)] [] z5.2 by
        obtain ⟨n, hn⟩ := hh
        exact ⟨n + 7, And.intro (jx_in_ok rfl) (s_S_isAct (by omega) h6 (And.intro (fun _ => hn) (fun zz => absurd c7 zz)))⟩
      cases h
      exact ⟨4, And.intro hQ (And.intro rfl rfl)⟩
    · rw [if_neg c7] at h
      suffices hh : ∃ n, jx_W jx_ShC d (some .int) jc_38 Q n 44 [some (.ref 92), some (.ref 1), some (.ref 94), some (.int x3), some (.ref 119)] [] z5.2 by
        obtain ⟨n, hn⟩ := hh
        exact ⟨n + 7, And.intro (jx_in_ok rfl) (s_S_isAct (by omega) h6 (And.intro (fun zz => absurd zz c7) (fun _ => hn)))⟩
      obtain ⟨z8, h9, h⟩ := Option.bind_eq_some_iff.mp h
      by_cases c10 : z8.1 = 0
      · rw [if_pos c10] at h
        suffices hh : ∃ n, jx_W jx_ShC d (some .int) jc_38 Q n 52 [some (.ref 92), some (.ref 1), some (.ref 94), some (.int x3), some (.ref 119)] [] z8.2 by
          obtain ⟨n, hn⟩ := hh
          exact ⟨n + 4, s_S_isOver (by omega) (by decide) h9 (And.intro (fun zz => absurd c10 zz) (fun _ => hn))⟩
        obtain ⟨z11, h12, h⟩ := Option.bind_eq_some_iff.mp h
        by_cases c13 : z11.1 = (z11.2.1 119 1)
        · rw [if_pos c13] at h
          suffices hh : ∃ n, jx_W jx_ShC d (some .int) jc_38 Q n 68 [some (.ref 92), some (.ref 1), some (.ref 94), some (.int x3), some (.ref 119)] [] z11.2 by
            obtain ⟨n, hn⟩ := hh
            exact ⟨n + 10, And.intro (jx_in_ok rfl) (s_S_goBy (by omega) (by decide) h12 (And.intro (jx_in_ok rfl) (And.intro (fun zz => absurd c13 zz) (fun _ => hn))))⟩
          obtain ⟨z14, h15, h⟩ := Option.bind_eq_some_iff.mp h
          by_cases c16 : z14.1 = (z14.2.1 119 2)
          · rw [if_pos c16] at h
            suffices hh : ∃ n, jx_W jx_ShC d (some .int) jc_38 Q n 83 [some (.ref 92), some (.ref 1), some (.ref 94), some (.int x3), some (.ref 119)] [] z14.2 by
              obtain ⟨n, hn⟩ := hh
              exact ⟨n + 6, s_P_learntBySome (by omega) (by decide) h15 (And.intro (jx_in_ok rfl) (And.intro (fun _ => hn) (fun zz => absurd c16 zz)))⟩
            obtain ⟨n, hn⟩ := hK17 (u4 := some (.ref 119)) h hQ
            exact ⟨n + 2, hn⟩
          · rw [if_neg c16] at h
            suffices hh : ∃ n, jx_W jx_ShC d (some .int) jc_38 Q n 79 [some (.ref 92), some (.ref 1), some (.ref 94), some (.int x3), some (.ref 119)] [] z14.2 by
              obtain ⟨n, hn⟩ := hh
              exact ⟨n + 6, s_P_learntBySome (by omega) (by decide) h15 (And.intro (jx_in_ok rfl) (And.intro (fun zz => absurd zz c16) (fun _ => hn)))⟩
            cases h
            exact ⟨4, And.intro hQ (And.intro rfl rfl)⟩
        · rw [if_neg c13] at h
          suffices hh : ∃ n, jx_W jx_ShC d (some .int) jc_38 Q n 79 [some (.ref 92), some (.ref 1), some (.ref 94), some (.int x3), some (.ref 119)] [] z11.2 by
            obtain ⟨n, hn⟩ := hh
            exact ⟨n + 10, And.intro (jx_in_ok rfl) (s_S_goBy (by omega) (by decide) h12 (And.intro (jx_in_ok rfl) (And.intro (fun _ => hn) (fun zz => absurd zz c13))))⟩
          cases h
          exact ⟨4, And.intro hQ (And.intro rfl rfl)⟩
      · rw [if_neg c10] at h
        suffices hh : ∃ n, jx_W jx_ShC d (some .int) jc_38 Q n 79 [some (.ref 92), some (.ref 1), some (.ref 94), some (.int x3), some (.ref 119)] [] z8.2 by
          obtain ⟨n, hn⟩ := hh
          exact ⟨n + 4, s_S_isOver (by omega) (by decide) h9 (And.intro (fun _ => hn) (fun zz => absurd zz c10))⟩
        cases h
        exact ⟨4, And.intro hQ (And.intro rfl rfl)⟩
  · unfold f_L_firstWrongRow_31 at h
    obtain ⟨z5, h6, h⟩ := Option.bind_eq_some_iff.mp h
    by_cases c7 : z5.1 = 0
    · rw [if_pos c7] at h
      suffices hh : ∃ n, jx_W jx_ShC d (some .int) jc_38 Q n 79 [some (.ref 92), some (.ref 1), some (.ref 94), some (.int x3), some (.ref 120)] [] z5.2 by
        obtain ⟨n, hn⟩ := hh
        exact ⟨n + 7, And.intro (jx_in_ok rfl) (s_S_isAct (by omega) h6 (And.intro (fun _ => hn) (fun zz => absurd c7 zz)))⟩
      cases h
      exact ⟨4, And.intro hQ (And.intro rfl rfl)⟩
    · rw [if_neg c7] at h
      suffices hh : ∃ n, jx_W jx_ShC d (some .int) jc_38 Q n 44 [some (.ref 92), some (.ref 1), some (.ref 94), some (.int x3), some (.ref 120)] [] z5.2 by
        obtain ⟨n, hn⟩ := hh
        exact ⟨n + 7, And.intro (jx_in_ok rfl) (s_S_isAct (by omega) h6 (And.intro (fun zz => absurd zz c7) (fun _ => hn)))⟩
      obtain ⟨z8, h9, h⟩ := Option.bind_eq_some_iff.mp h
      by_cases c10 : z8.1 = 0
      · rw [if_pos c10] at h
        suffices hh : ∃ n, jx_W jx_ShC d (some .int) jc_38 Q n 52 [some (.ref 92), some (.ref 1), some (.ref 94), some (.int x3), some (.ref 120)] [] z8.2 by
          obtain ⟨n, hn⟩ := hh
          exact ⟨n + 4, s_S_isOver (by omega) (by decide) h9 (And.intro (fun zz => absurd c10 zz) (fun _ => hn))⟩
        obtain ⟨z11, h12, h⟩ := Option.bind_eq_some_iff.mp h
        by_cases c13 : z11.1 = (z11.2.1 120 1)
        · rw [if_pos c13] at h
          suffices hh : ∃ n, jx_W jx_ShC d (some .int) jc_38 Q n 68 [some (.ref 92), some (.ref 1), some (.ref 94), some (.int x3), some (.ref 120)] [] z11.2 by
            obtain ⟨n, hn⟩ := hh
            exact ⟨n + 10, And.intro (jx_in_ok rfl) (s_S_goBy (by omega) (by decide) h12 (And.intro (jx_in_ok rfl) (And.intro (fun zz => absurd c13 zz) (fun _ => hn))))⟩
          obtain ⟨z14, h15, h⟩ := Option.bind_eq_some_iff.mp h
          by_cases c16 : z14.1 = (z14.2.1 120 2)
          · rw [if_pos c16] at h
            suffices hh : ∃ n, jx_W jx_ShC d (some .int) jc_38 Q n 83 [some (.ref 92), some (.ref 1), some (.ref 94), some (.int x3), some (.ref 120)] [] z14.2 by
              obtain ⟨n, hn⟩ := hh
              exact ⟨n + 6, s_P_learntBySome (by omega) (by decide) h15 (And.intro (jx_in_ok rfl) (And.intro (fun _ => hn) (fun zz => absurd c16 zz)))⟩
            obtain ⟨n, hn⟩ := hK17 (u4 := some (.ref 120)) h hQ
            exact ⟨n + 2, hn⟩
          · rw [if_neg c16] at h
            suffices hh : ∃ n, jx_W jx_ShC d (some .int) jc_38 Q n 79 [some (.ref 92), some (.ref 1), some (.ref 94), some (.int x3), some (.ref 120)] [] z14.2 by
              obtain ⟨n, hn⟩ := hh
              exact ⟨n + 6, s_P_learntBySome (by omega) (by decide) h15 (And.intro (jx_in_ok rfl) (And.intro (fun zz => absurd zz c16) (fun _ => hn)))⟩
            cases h
            exact ⟨4, And.intro hQ (And.intro rfl rfl)⟩
        · rw [if_neg c13] at h
          suffices hh : ∃ n, jx_W jx_ShC d (some .int) jc_38 Q n 79 [some (.ref 92), some (.ref 1), some (.ref 94), some (.int x3), some (.ref 120)] [] z11.2 by
            obtain ⟨n, hn⟩ := hh
            exact ⟨n + 10, And.intro (jx_in_ok rfl) (s_S_goBy (by omega) (by decide) h12 (And.intro (jx_in_ok rfl) (And.intro (fun _ => hn) (fun zz => absurd zz c13))))⟩
          cases h
          exact ⟨4, And.intro hQ (And.intro rfl rfl)⟩
      · rw [if_neg c10] at h
        suffices hh : ∃ n, jx_W jx_ShC d (some .int) jc_38 Q n 79 [some (.ref 92), some (.ref 1), some (.ref 94), some (.int x3), some (.ref 120)] [] z8.2 by
          obtain ⟨n, hn⟩ := hh
          exact ⟨n + 4, s_S_isOver (by omega) (by decide) h9 (And.intro (fun _ => hn) (fun zz => absurd zz c10))⟩
        cases h
        exact ⟨4, And.intro hQ (And.intro rfl rfl)⟩
set_option maxRecDepth 20000 in
theorem s_L_firstWrongRow_30 {N d : Nat} {Q : jw_Q} {K17 : Int32 → jw_M → Option (Int32 × jw_M)} (hd : 5 ≤ d) (hK17 : ∀ {x3 : Int32} {σ : jw_M} {z : (Int32 × jw_M)} {u4 : Option Value}, K17 x3 σ = some z → Q (some (.int z.1)) (jx_ShC, z.2) → ∃ n, jx_W jx_ShC d (some .int) jc_38 Q n 17 [some (.ref 92), some (.ref 1), some (.ref 94), some (.int x3), u4] [] σ) {x3 : Int32} {y1 : Int32} {u4 : Option Value} {σ : jw_M} {z : (Int32 × jw_M)} (h : f_L_firstWrongRow_30 N K17 x3 y1 σ = some z) (hQ : Q (some (.int z.1)) (jx_ShC, z.2)) : ∃ n, jx_W jx_ShC d (some .int) jc_38 Q n 30 [some (.ref 92), some (.ref 1), some (.ref 94), some (.int x3), u4] [.int y1, .ref 116] σ := by
  unfold f_L_firstWrongRow_30 at h
  cases c4 : jx_in y1 4 with
  | false => rw [c4, cond_false] at h; cases h
  | true =>
    rw [c4, cond_true] at h
    rcases jx_ix4 (jx_in_ok c4) with rfl | rfl | rfl | rfl
    · try rw [show (117 + (0 : Int32).toNatClampNeg) = 117 from by decide] at h
      obtain ⟨n, hn⟩ := s_L_firstWrongRow_31 hd hK17 (u4 := u4) (by decide) h hQ
      exact ⟨n + 1, And.intro (jx_in_ok c4) (hn)⟩
    · try rw [show (117 + (1 : Int32).toNatClampNeg) = 118 from by decide] at h
      obtain ⟨n, hn⟩ := s_L_firstWrongRow_31 hd hK17 (u4 := u4) (by decide) h hQ
      exact ⟨n + 1, And.intro (jx_in_ok c4) (hn)⟩
    · try rw [show (117 + (2 : Int32).toNatClampNeg) = 119 from by decide] at h
      obtain ⟨n, hn⟩ := s_L_firstWrongRow_31 hd hK17 (u4 := u4) (by decide) h hQ
      exact ⟨n + 1, And.intro (jx_in_ok c4) (hn)⟩
    · try rw [show (117 + (3 : Int32).toNatClampNeg) = 120 from by decide] at h
      obtain ⟨n, hn⟩ := s_L_firstWrongRow_31 hd hK17 (u4 := u4) (by decide) h hQ
      exact ⟨n + 1, And.intro (jx_in_ok c4) (hn)⟩
set_option maxRecDepth 20000 in
theorem s_L_firstWrongRow_17 {N d : Nat} {Q : jw_Q} (hd : 5 ≤ d) : ∀ (k : Nat) {x3 : Int32} {u4 : Option Value} {σ : jw_M} {z : (Int32 × jw_M)}, f_L_firstWrongRow_17 N k x3 σ = some z → Q (some (.int z.1)) (jx_ShC, z.2) → ∃ n, jx_W jx_ShC d (some .int) jc_38 Q n 17 [some (.ref 92), some (.ref 1), some (.ref 94), some (.int x3), u4] [] σ
  | 0, _, _, _, _, h, _ => by cases h
  | k + 1, x3, u4, σ, z, h, hQ => by
    rw [f_L_firstWrongRow_17] at h
    by_cases c3 : (σ.1 92 10) ≤ x3
    · rw [if_pos c3] at h
      suffices hh : ∃ n, jx_W jx_ShC d (some .int) jc_38 Q n 89 [some (.ref 92), some (.ref 1), some (.ref 94), some (.int x3), u4] [] σ by
        obtain ⟨n, hn⟩ := hh
        exact ⟨n + 4, And.intro (fun _ => hn) (fun zz => absurd c3 zz)⟩
      cases h
      exact ⟨2, And.intro hQ (And.intro rfl rfl)⟩
    · rw [if_neg c3] at h
      suffices hh : ∃ n, jx_W jx_ShC d (some .int) jc_38 Q n 25 [some (.ref 92), some (.ref 1), some (.ref 94), some (.int x3), u4] [] σ by
        obtain ⟨n, hn⟩ := hh
        exact ⟨n + 4, And.intro (fun zz => absurd zz c3) (fun _ => hn)⟩
      obtain ⟨n, hn⟩ := s_L_firstWrongRow_30 hd (s_L_firstWrongRow_17 hd k) (u4 := u4) h hQ
      exact ⟨n + 3, hn⟩
set_option maxRecDepth 20000 in
theorem s_L_firstWrongRow {N d : Nat} (hd : 6 ≤ d) {σ : jw_M} {z : (Int32 × jw_M)} {Q : jw_Q} (h : f_L_firstWrongRow N  σ = some z) (hQ : Q (some (.int z.1)) (jx_ShC, z.2)) : jw_C jp_kd jp_ys d 38 [.ref 92, .ref 1] (jx_ShC, σ) Q := by
  obtain ⟨d, rfl⟩ : ∃ e, d = e + 1 := ⟨d - 1, by omega⟩
  replace hd : 5 ≤ d := by omega
  refine jx_C rfl rfl ?_
  unfold f_L_firstWrongRow at h
  obtain ⟨z1, h2, h⟩ := Option.bind_eq_some_iff.mp h
  obtain ⟨n, hn⟩ := s_L_firstWrongRow_17 hd N (u4 := none) h hQ
  exact ⟨n + 11, And.intro (jx_in_ok rfl) (s_P_copyFrom (by omega) (by decide) h2 (hn))⟩
set_option maxRecDepth 20000 in
theorem s_P_clear {N d : Nat} (hd : 3 ≤ d) {σ : jw_M} {z : jw_M} {Q : jw_Q} (h : f_P_clear N  σ = some z) (hQ : Q none (jx_ShC, z)) : jw_C jp_kd jp_ys d 41 [.ref 27] (jx_ShC, σ) Q := by
  obtain ⟨d, rfl⟩ : ∃ e, d = e + 1 := ⟨d - 1, by omega⟩
  replace hd : 2 ≤ d := by omega
  refine jx_C rfl rfl ?_
  unfold f_P_clear at h
  obtain ⟨z1, h2, h⟩ := Option.bind_eq_some_iff.mp h
  obtain ⟨z3, h4, h⟩ := Option.bind_eq_some_iff.mp h
  cases h
  exact ⟨15, s_J_fill (by omega) rfl h2 (s_J_fill (by omega) rfl h4 (And.intro hQ (And.intro rfl rfl)))⟩
set_option maxRecDepth 20000 in
theorem s_P_hasLearnt {N d : Nat} {x1 : Int32} {x2 : Int32} (hd : 1 ≤ d) {σ : jw_M} {z : (Int32 × jw_M)} {Q : jw_Q} (h : f_P_hasLearnt N x1 x2 σ = some z) (hQ : Q (some (.int z.1)) (jx_ShC, z.2)) : jw_C jp_kd jp_ys d 42 [.ref 75, .int x1, .int x2] (jx_ShC, σ) Q := by
  obtain ⟨d, rfl⟩ : ∃ e, d = e + 1 := ⟨d - 1, by omega⟩
  replace hd : 0 ≤ d := by omega
  refine jx_C rfl rfl ?_
  unfold f_P_hasLearnt at h
  cases c1 : jx_in x1 6 with
  | false => rw [c1, cond_false] at h; cases h
  | true =>
    rw [c1, cond_true] at h
    by_cases c2 : (((σ.1 77 (x1).toNatClampNeg) >>> (x2 &&& 31)) &&& 1) = 1
    · rw [if_pos c2] at h
      suffices hh : ∃ n, jx_W jx_ShC d (some .boolean) jc_42 Q n 14 [some (.ref 75), some (.int x1), some (.int x2)] [] σ by
        obtain ⟨n, hn⟩ := hh
        exact ⟨n + 10, And.intro (jx_in_ok c1) (And.intro (fun zz => absurd c2 zz) (fun _ => hn))⟩
      cases h
      exact ⟨3, And.intro (Or.inr rfl) (And.intro hQ (And.intro rfl rfl))⟩
    · rw [if_neg c2] at h
      suffices hh : ∃ n, jx_W jx_ShC d (some .boolean) jc_42 Q n 18 [some (.ref 75), some (.int x1), some (.int x2)] [] σ by
        obtain ⟨n, hn⟩ := hh
        exact ⟨n + 10, And.intro (jx_in_ok c1) (And.intro (fun _ => hn) (fun zz => absurd zz c2))⟩
      cases h
      exact ⟨2, And.intro (Or.inl rfl) (And.intro hQ (And.intro rfl rfl))⟩
set_option maxRecDepth 20000 in
theorem s_P_howManyLearnt_4 {N d : Nat} {Q : jw_Q} (hd : 0 ≤ d) : ∀ (k : Nat) {x1 : Int32} {x2 : Int32} {x3 : Int32} {σ : jw_M} {z : (Int32 × jw_M)}, f_P_howManyLearnt_4 N k x1 x2 x3 σ = some z → Q (some (.int z.1)) (jx_ShC, z.2) → ∃ n, jx_W jx_ShC d (some .int) jc_43 Q n 4 [some (.ref 27), some (.int x1), some (.int x2), some (.int x3)] [] σ
  | 0, _, _, _, _, _, h, _ => by cases h
  | k + 1, x1, x2, x3, σ, z, h, hQ => by
    rw [f_P_howManyLearnt_4] at h
    by_cases c1 : 6 ≤ x3
    · rw [if_pos c1] at h
      suffices hh : ∃ n, jx_W jx_ShC d (some .int) jc_43 Q n 29 [some (.ref 27), some (.int x1), some (.int x2), some (.int x3)] [] σ by
        obtain ⟨n, hn⟩ := hh
        exact ⟨n + 3, And.intro (fun _ => hn) (fun zz => absurd c1 zz)⟩
      cases h
      exact ⟨2, And.intro hQ (And.intro rfl rfl)⟩
    · rw [if_neg c1] at h
      suffices hh : ∃ n, jx_W jx_ShC d (some .int) jc_43 Q n 10 [some (.ref 27), some (.int x1), some (.int x2), some (.int x3)] [] σ by
        obtain ⟨n, hn⟩ := hh
        exact ⟨n + 3, And.intro (fun zz => absurd zz c1) (fun _ => hn)⟩
      cases c2 : jx_in x3 6 with
      | false => rw [c2, cond_false] at h; cases h
      | true =>
        rw [c2, cond_true] at h
        obtain ⟨n, hn⟩ := s_P_howManyLearnt_4 hd k h hQ
        exact ⟨n + 13, And.intro (jx_in_ok c2) (hn)⟩
set_option maxRecDepth 20000 in
theorem s_P_howManyLearnt {N d : Nat} {x1 : Int32} (hd : 1 ≤ d) {σ : jw_M} {z : (Int32 × jw_M)} {Q : jw_Q} (h : f_P_howManyLearnt N x1 σ = some z) (hQ : Q (some (.int z.1)) (jx_ShC, z.2)) : jw_C jp_kd jp_ys d 43 [.ref 27, .int x1] (jx_ShC, σ) Q := by
  obtain ⟨d, rfl⟩ : ∃ e, d = e + 1 := ⟨d - 1, by omega⟩
  replace hd : 0 ≤ d := by omega
  refine jx_C rfl rfl ?_
  unfold f_P_howManyLearnt at h
  obtain ⟨n, hn⟩ := s_P_howManyLearnt_4 hd N h hQ
  exact ⟨n + 4, hn⟩
set_option maxRecDepth 20000 in
theorem s_D_take_56 {N d : Nat} {Q : jw_Q} (hd : 0 ≤ d) {u1 : Option Value} {u2 : Option Value} {u3 : Option Value} {u4 : Option Value} {σ : jw_M} {z : (Int32 × jw_M)} (h : f_D_take_56 N  σ = some z) (hQ : Q (some (.int z.1)) (jx_ShC, z.2)) : ∃ n, jx_W jx_ShC d (some .int) jc_47 Q n 56 [some (.ref 80), u1, u2, u3, u4] [] σ := by
  unfold f_D_take_56 at h
  cases h
  exact ⟨3, And.intro hQ (And.intro rfl rfl)⟩
set_option maxRecDepth 20000 in
theorem s_D_take_3 {N d : Nat} {Q : jw_Q} (hd : 0 ≤ d) : ∀ (k : Nat) {x1 : Int64} {x3 : Int32} {x4 : Int32} {u2 : Option Value} {σ : jw_M} {z : (Int32 × jw_M)}, f_D_take_3 N k x1 x3 x4 σ = some z → Q (some (.int z.1)) (jx_ShC, z.2) → ∃ n, jx_W jx_ShC d (some .int) jc_47 Q n 3 [some (.ref 80), some (.long x1), u2, some (.int x3), some (.int x4)] [] σ
  | 0, _, _, _, _, _, _, h, _ => by cases h
  | k + 1, x1, x3, x4, u2, σ, z, h, hQ => by
    rw [f_D_take_3] at h
    by_cases c1 : x3 ≤ x4
    · rw [if_pos c1] at h
      suffices hh : ∃ n, jx_W jx_ShC d (some .int) jc_47 Q n 56 [some (.ref 80), some (.long x1), u2, some (.int x3), some (.int x4)] [] σ by
        obtain ⟨n, hn⟩ := hh
        exact ⟨n + 3, And.intro (fun _ => hn) (fun zz => absurd c1 zz)⟩
      obtain ⟨n, hn⟩ := s_D_take_56 hd (u1 := some (.long x1)) (u2 := u2) (u3 := some (.int x3)) (u4 := some (.int x4)) h hQ
      exact ⟨n + 0, hn⟩
    · rw [if_neg c1] at h
      suffices hh : ∃ n, jx_W jx_ShC d (some .int) jc_47 Q n 9 [some (.ref 80), some (.long x1), u2, some (.int x3), some (.int x4)] [] σ by
        obtain ⟨n, hn⟩ := hh
        exact ⟨n + 3, And.intro (fun zz => absurd zz c1) (fun _ => hn)⟩
      by_cases c2 : 200 ≤ (σ.1 80 0)
      · rw [if_pos c2] at h
        suffices hh : ∃ n, jx_W jx_ShC d (some .int) jc_47 Q n 56 [some (.ref 80), some (.long x1), u2, some (.int x3), some (.int x4)] [] σ by
          obtain ⟨n, hn⟩ := hh
          exact ⟨n + 4, And.intro (fun _ => hn) (fun zz => absurd c2 zz)⟩
        obtain ⟨n, hn⟩ := s_D_take_56 hd (u1 := some (.long x1)) (u2 := u2) (u3 := some (.int x3)) (u4 := some (.int x4)) h hQ
        exact ⟨n + 0, hn⟩
      · rw [if_neg c2] at h
        suffices hh : ∃ n, jx_W jx_ShC d (some .int) jc_47 Q n 19 [some (.ref 80), some (.long x1), u2, some (.int x3), some (.int x4)] [] σ by
          obtain ⟨n, hn⟩ := hh
          exact ⟨n + 4, And.intro (fun zz => absurd zz c2) (fun _ => hn)⟩
        cases c3 : jx_in (σ.1 80 0) 200 with
        | false => rw [c3, cond_false] at h; cases h
        | true =>
          rw [c3, cond_true] at h
          obtain ⟨n, hn⟩ := s_D_take_3 hd k (u2 := u2) h hQ
          exact ⟨n + 21, And.intro (jx_in_ok c3) (hn)⟩
set_option maxRecDepth 20000 in
theorem s_D_take {N d : Nat} {x1 : Int64} {x3 : Int32} (hd : 1 ≤ d) {σ : jw_M} {z : (Int32 × jw_M)} {Q : jw_Q} (h : f_D_take N x1 x3 σ = some z) (hQ : Q (some (.int z.1)) (jx_ShC, z.2)) : jw_C jp_kd jp_ys d 47 [.ref 80, .long x1, .int x3] (jx_ShC, σ) Q := by
  obtain ⟨d, rfl⟩ : ∃ e, d = e + 1 := ⟨d - 1, by omega⟩
  replace hd : 0 ≤ d := by omega
  refine jx_C rfl rfl ?_
  unfold f_D_take at h
  obtain ⟨n, hn⟩ := s_D_take_3 hd N (u2 := none) h hQ
  exact ⟨n + 2, hn⟩
set_option maxRecDepth 20000 in
theorem s_D_sortOf_14 {N d : Nat} {Q : jw_Q} (hd : 0 ≤ d) {x1 : Int32} {u0 : Option Value} {σ : jw_M} {z : (Int32 × jw_M)} (h : f_D_sortOf_14 N x1 σ = some z) (hQ : Q (some (.int z.1)) (jx_ShC, z.2)) : ∃ n, jx_W jx_ShC d (some .int) jc_50 Q n 14 [u0, some (.int x1)] [] σ := by
  unfold f_D_sortOf_14 at h
  by_cases c2 : x1 < 48
  · rw [if_pos c2] at h
    suffices hh : ∃ n, jx_W jx_ShC d (some .int) jc_50 Q n 30 [u0, some (.int x1)] [] σ by
      obtain ⟨n, hn⟩ := hh
      exact ⟨n + 3, And.intro (fun _ => hn) (fun zz => absurd c2 zz)⟩
    cases h
    exact ⟨2, And.intro hQ (And.intro rfl rfl)⟩
  · rw [if_neg c2] at h
    suffices hh : ∃ n, jx_W jx_ShC d (some .int) jc_50 Q n 20 [u0, some (.int x1)] [] σ by
      obtain ⟨n, hn⟩ := hh
      exact ⟨n + 3, And.intro (fun zz => absurd zz c2) (fun _ => hn)⟩
    by_cases c3 : 57 < x1
    · rw [if_pos c3] at h
      suffices hh : ∃ n, jx_W jx_ShC d (some .int) jc_50 Q n 30 [u0, some (.int x1)] [] σ by
        obtain ⟨n, hn⟩ := hh
        exact ⟨n + 3, And.intro (fun _ => hn) (fun zz => absurd c3 zz)⟩
      cases h
      exact ⟨2, And.intro hQ (And.intro rfl rfl)⟩
    · rw [if_neg c3] at h
      suffices hh : ∃ n, jx_W jx_ShC d (some .int) jc_50 Q n 26 [u0, some (.int x1)] [] σ by
        obtain ⟨n, hn⟩ := hh
        exact ⟨n + 3, And.intro (fun zz => absurd zz c3) (fun _ => hn)⟩
      cases h
      exact ⟨3, And.intro hQ (And.intro rfl rfl)⟩
set_option maxRecDepth 20000 in
theorem s_D_sortOf {N d : Nat} {x1 : Int32} (hd : 1 ≤ d) {σ : jw_M} {z : (Int32 × jw_M)} {Q : jw_Q} (h : f_D_sortOf N x1 σ = some z) (hQ : Q (some (.int z.1)) (jx_ShC, z.2)) : jw_C jp_kd jp_ys d 50 [.ref 80, .int x1] (jx_ShC, σ) Q := by
  obtain ⟨d, rfl⟩ : ∃ e, d = e + 1 := ⟨d - 1, by omega⟩
  replace hd : 0 ≤ d := by omega
  refine jx_C rfl rfl ?_
  unfold f_D_sortOf at h
  by_cases c1 : x1 < 97
  · rw [if_pos c1] at h
    suffices hh : ∃ n, jx_W jx_ShC d (some .int) jc_50 Q n 14 [some (.ref 80), some (.int x1)] [] σ by
      obtain ⟨n, hn⟩ := hh
      exact ⟨n + 3, And.intro (fun _ => hn) (fun zz => absurd c1 zz)⟩
    obtain ⟨n, hn⟩ := s_D_sortOf_14 hd (u0 := some (.ref 80)) h hQ
    exact ⟨n + 0, hn⟩
  · rw [if_neg c1] at h
    suffices hh : ∃ n, jx_W jx_ShC d (some .int) jc_50 Q n 6 [some (.ref 80), some (.int x1)] [] σ by
      obtain ⟨n, hn⟩ := hh
      exact ⟨n + 3, And.intro (fun zz => absurd zz c1) (fun _ => hn)⟩
    by_cases c4 : 122 < x1
    · rw [if_pos c4] at h
      suffices hh : ∃ n, jx_W jx_ShC d (some .int) jc_50 Q n 14 [some (.ref 80), some (.int x1)] [] σ by
        obtain ⟨n, hn⟩ := hh
        exact ⟨n + 3, And.intro (fun _ => hn) (fun zz => absurd c4 zz)⟩
      obtain ⟨n, hn⟩ := s_D_sortOf_14 hd (u0 := some (.ref 80)) h hQ
      exact ⟨n + 0, hn⟩
    · rw [if_neg c4] at h
      suffices hh : ∃ n, jx_W jx_ShC d (some .int) jc_50 Q n 12 [some (.ref 80), some (.int x1)] [] σ by
        obtain ⟨n, hn⟩ := hh
        exact ⟨n + 3, And.intro (fun zz => absurd zz c4) (fun _ => hn)⟩
      cases h
      exact ⟨2, And.intro hQ (And.intro rfl rfl)⟩
set_option maxRecDepth 20000 in
theorem s_D_signAt {N d : Nat} {x1 : Int32} (hd : 1 ≤ d) {σ : jw_M} {z : (Int32 × jw_M)} {Q : jw_Q} (h : f_D_signAt N x1 σ = some z) (hQ : Q (some (.int z.1)) (jx_ShC, z.2)) : jw_C jp_kd jp_ys d 52 [.ref 80, .int x1] (jx_ShC, σ) Q := by
  obtain ⟨d, rfl⟩ : ∃ e, d = e + 1 := ⟨d - 1, by omega⟩
  replace hd : 0 ≤ d := by omega
  refine jx_C rfl rfl ?_
  unfold f_D_signAt at h
  cases c1 : jx_in x1 200 with
  | false => rw [c1, cond_false] at h; cases h
  | true =>
    rw [c1, cond_true] at h
    by_cases c7 : (σ.1 81 (x1).toNatClampNeg) = 40
    · rw [if_pos c7] at h
      suffices hh : ∃ n, jx_W jx_ShC d (some .int) jc_52 Q n 64 [some (.ref 80), some (.int x1)] [] σ by
        obtain ⟨n, hn⟩ := hh
        exact ⟨n + 5, And.intro (jx_in_ok c1) (And.intro (fun _ => hn) (fun zz => absurd c7 zz))⟩
      cases h
      exact ⟨5, And.intro (jx_in_ok c1) (And.intro hQ (And.intro rfl rfl))⟩
    · rw [if_neg c7] at h
      by_cases c6 : (σ.1 81 (x1).toNatClampNeg) = 41
      · rw [if_pos c6] at h
        suffices hh : ∃ n, jx_W jx_ShC d (some .int) jc_52 Q n 64 [some (.ref 80), some (.int x1)] [] σ by
          obtain ⟨n, hn⟩ := hh
          exact ⟨n + 5, And.intro (jx_in_ok c1) (And.intro (fun zz => absurd zz c7) (fun _ => And.intro (fun _ => hn) (fun zz => absurd c6 zz)))⟩
        cases h
        exact ⟨5, And.intro (jx_in_ok c1) (And.intro hQ (And.intro rfl rfl))⟩
      · rw [if_neg c6] at h
        by_cases c5 : (σ.1 81 (x1).toNatClampNeg) = 59
        · rw [if_pos c5] at h
          suffices hh : ∃ n, jx_W jx_ShC d (some .int) jc_52 Q n 64 [some (.ref 80), some (.int x1)] [] σ by
            obtain ⟨n, hn⟩ := hh
            exact ⟨n + 5, And.intro (jx_in_ok c1) (And.intro (fun zz => absurd zz c7) (fun _ => And.intro (fun zz => absurd zz c6) (fun _ => And.intro (fun _ => hn) (fun zz => absurd c5 zz))))⟩
          cases h
          exact ⟨5, And.intro (jx_in_ok c1) (And.intro hQ (And.intro rfl rfl))⟩
        · rw [if_neg c5] at h
          by_cases c4 : (σ.1 81 (x1).toNatClampNeg) = 60
          · rw [if_pos c4] at h
            suffices hh : ∃ n, jx_W jx_ShC d (some .int) jc_52 Q n 64 [some (.ref 80), some (.int x1)] [] σ by
              obtain ⟨n, hn⟩ := hh
              exact ⟨n + 5, And.intro (jx_in_ok c1) (And.intro (fun zz => absurd zz c7) (fun _ => And.intro (fun zz => absurd zz c6) (fun _ => And.intro (fun zz => absurd zz c5) (fun _ => And.intro (fun _ => hn) (fun zz => absurd c4 zz)))))⟩
            cases h
            exact ⟨5, And.intro (jx_in_ok c1) (And.intro hQ (And.intro rfl rfl))⟩
          · rw [if_neg c4] at h
            by_cases c3 : (σ.1 81 (x1).toNatClampNeg) = 61
            · rw [if_pos c3] at h
              suffices hh : ∃ n, jx_W jx_ShC d (some .int) jc_52 Q n 64 [some (.ref 80), some (.int x1)] [] σ by
                obtain ⟨n, hn⟩ := hh
                exact ⟨n + 5, And.intro (jx_in_ok c1) (And.intro (fun zz => absurd zz c7) (fun _ => And.intro (fun zz => absurd zz c6) (fun _ => And.intro (fun zz => absurd zz c5) (fun _ => And.intro (fun zz => absurd zz c4) (fun _ => And.intro (fun _ => hn) (fun zz => absurd c3 zz))))))⟩
              cases h
              exact ⟨5, And.intro (jx_in_ok c1) (And.intro hQ (And.intro rfl rfl))⟩
            · rw [if_neg c3] at h
              by_cases c2 : (σ.1 81 (x1).toNatClampNeg) = 62
              · rw [if_pos c2] at h
                suffices hh : ∃ n, jx_W jx_ShC d (some .int) jc_52 Q n 64 [some (.ref 80), some (.int x1)] [] σ by
                  obtain ⟨n, hn⟩ := hh
                  exact ⟨n + 5, And.intro (jx_in_ok c1) (And.intro (fun zz => absurd zz c7) (fun _ => And.intro (fun zz => absurd zz c6) (fun _ => And.intro (fun zz => absurd zz c5) (fun _ => And.intro (fun zz => absurd zz c4) (fun _ => And.intro (fun zz => absurd zz c3) (fun _ => And.intro (fun _ => hn) (fun zz => absurd c2 zz)))))))⟩
                cases h
                exact ⟨5, And.intro (jx_in_ok c1) (And.intro hQ (And.intro rfl rfl))⟩
              · rw [if_neg c2] at h
                cases h
                exact ⟨7, And.intro (jx_in_ok c1) (And.intro (fun zz => absurd zz c7) (fun _ => And.intro (fun zz => absurd zz c6) (fun _ => And.intro (fun zz => absurd zz c5) (fun _ => And.intro (fun zz => absurd zz c4) (fun _ => And.intro (fun zz => absurd zz c3) (fun _ => And.intro (fun zz => absurd zz c2) (fun _ => And.intro hQ (And.intro rfl rfl))))))))⟩
set_option maxRecDepth 20000 in
theorem s_D_isNameAt_3 {N d : Nat} {Q : jw_Q} (hd : 6 ≤ d) : ∀ (k : Nat) {x1 : Int32} {x2 : Int32} {x3 : Int32} {x4 : Int32} {σ : jw_M} {z : (Int32 × jw_M)}, f_D_isNameAt_3 N k x1 x2 x3 x4 σ = some z → Q (some (.int z.1)) (jx_ShC, z.2) → ∃ n, jx_W jx_ShC d (some .boolean) jc_54 Q n 3 [some (.ref 80), some (.int x1), some (.int x2), some (.int x3), some (.int x4)] [] σ
  | 0, _, _, _, _, _, _, h, _ => by cases h
  | k + 1, x1, x2, x3, x4, σ, z, h, hQ => by
    rw [f_D_isNameAt_3] at h
    by_cases c1 : x3 ≤ x4
    · rw [if_pos c1] at h
      suffices hh : ∃ n, jx_W jx_ShC d (some .boolean) jc_54 Q n 38 [some (.ref 80), some (.int x1), some (.int x2), some (.int x3), some (.int x4)] [] σ by
        obtain ⟨n, hn⟩ := hh
        exact ⟨n + 3, And.intro (fun _ => hn) (fun zz => absurd c1 zz)⟩
      cases h
      exact ⟨2, And.intro (Or.inr rfl) (And.intro hQ (And.intro rfl rfl))⟩
    · rw [if_neg c1] at h
      suffices hh : ∃ n, jx_W jx_ShC d (some .boolean) jc_54 Q n 9 [some (.ref 80), some (.int x1), some (.int x2), some (.int x3), some (.int x4)] [] σ by
        obtain ⟨n, hn⟩ := hh
        exact ⟨n + 3, And.intro (fun zz => absurd zz c1) (fun _ => hn)⟩
      cases c2 : jx_in (x1 + x4) 103 with
      | false => rw [c2, cond_false] at h; cases h
      | true =>
        rw [c2, cond_true] at h
        cases c3 : jx_in (x2 + x4) 200 with
        | false => rw [c3, cond_false] at h; cases h
        | true =>
          rw [c3, cond_true] at h
          by_cases c4 : (jw_chr (x1 + x4)) = (σ.1 81 ((x2 + x4)).toNatClampNeg)
          · rw [if_pos c4] at h
            suffices hh : ∃ n, jx_W jx_ShC d (some .boolean) jc_54 Q n 32 [some (.ref 80), some (.int x1), some (.int x2), some (.int x3), some (.int x4)] [] σ by
              obtain ⟨n, hn⟩ := hh
              exact ⟨n + 12, jx_chr (by omega) (jx_in_ok c2) (And.intro (jx_in_ok c3) (And.intro (fun _ => hn) (fun zz => absurd c4 zz)))⟩
            obtain ⟨n, hn⟩ := s_D_isNameAt_3 hd k h hQ
            exact ⟨n + 2, hn⟩
          · rw [if_neg c4] at h
            suffices hh : ∃ n, jx_W jx_ShC d (some .boolean) jc_54 Q n 30 [some (.ref 80), some (.int x1), some (.int x2), some (.int x3), some (.int x4)] [] σ by
              obtain ⟨n, hn⟩ := hh
              exact ⟨n + 12, jx_chr (by omega) (jx_in_ok c2) (And.intro (jx_in_ok c3) (And.intro (fun zz => absurd zz c4) (fun _ => hn)))⟩
            cases h
            exact ⟨2, And.intro (Or.inl rfl) (And.intro hQ (And.intro rfl rfl))⟩
set_option maxRecDepth 20000 in
theorem s_D_isNameAt {N d : Nat} {x1 : Int32} {x2 : Int32} {x3 : Int32} (hd : 7 ≤ d) {σ : jw_M} {z : (Int32 × jw_M)} {Q : jw_Q} (h : f_D_isNameAt N x1 x2 x3 σ = some z) (hQ : Q (some (.int z.1)) (jx_ShC, z.2)) : jw_C jp_kd jp_ys d 54 [.ref 80, .int x1, .int x2, .int x3] (jx_ShC, σ) Q := by
  obtain ⟨d, rfl⟩ : ∃ e, d = e + 1 := ⟨d - 1, by omega⟩
  replace hd : 6 ≤ d := by omega
  refine jx_C rfl rfl ?_
  unfold f_D_isNameAt at h
  obtain ⟨n, hn⟩ := s_D_isNameAt_3 hd N h hQ
  exact ⟨n + 2, hn⟩
set_option maxRecDepth 20000 in
theorem s_D_nameAt_65 {N d : Nat} {Q : jw_Q} {K8 : Int32 → Int32 → Int32 → Int32 → Int32 → jw_M → Option (Int32 × jw_M)} (hd : 7 ≤ d) (hK8 : ∀ {x1 : Int32} {x2 : Int32} {x3 : Int32} {x4 : Int32} {x5 : Int32} {σ : jw_M} {z : (Int32 × jw_M)}, K8 x1 x2 x3 x4 x5 σ = some z → Q (some (.int z.1)) (jx_ShC, z.2) → ∃ n, jx_W jx_ShC d (some .int) jc_53 Q n 8 [some (.ref 80), some (.int x1), some (.int x2), some (.int x3), some (.int x4), some (.int x5)] [] σ) {x1 : Int32} {x2 : Int32} {x3 : Int32} {x4 : Int32} {x5 : Int32} {σ : jw_M} {z : (Int32 × jw_M)} (h : f_D_nameAt_65 N K8 x1 x2 x3 x4 x5 σ = some z) (hQ : Q (some (.int z.1)) (jx_ShC, z.2)) : ∃ n, jx_W jx_ShC d (some .int) jc_53 Q n 65 [some (.ref 80), some (.int x1), some (.int x2), some (.int x3), some (.int x4), some (.int x5)] [] σ := by
  unfold f_D_nameAt_65 at h
  obtain ⟨n, hn⟩ := hK8 h hQ
  exact ⟨n + 2, hn⟩
set_option maxRecDepth 20000 in
theorem s_D_nameAt_56 {N d : Nat} {Q : jw_Q} {K8 : Int32 → Int32 → Int32 → Int32 → Int32 → jw_M → Option (Int32 × jw_M)} (hd : 7 ≤ d) (hK8 : ∀ {x1 : Int32} {x2 : Int32} {x3 : Int32} {x4 : Int32} {x5 : Int32} {σ : jw_M} {z : (Int32 × jw_M)}, K8 x1 x2 x3 x4 x5 σ = some z → Q (some (.int z.1)) (jx_ShC, z.2) → ∃ n, jx_W jx_ShC d (some .int) jc_53 Q n 8 [some (.ref 80), some (.int x1), some (.int x2), some (.int x3), some (.int x4), some (.int x5)] [] σ) {x1 : Int32} {x2 : Int32} {x3 : Int32} {x5 : Int32} {u4 : Option Value} {σ : jw_M} {z : (Int32 × jw_M)} (h : f_D_nameAt_56 N K8 x1 x2 x3 x5 σ = some z) (hQ : Q (some (.int z.1)) (jx_ShC, z.2)) : ∃ n, jx_W jx_ShC d (some .int) jc_53 Q n 56 [some (.ref 80), some (.int x1), some (.int x2), some (.int x3), u4, some (.int x5)] [] σ := by
  unfold f_D_nameAt_56 at h
  obtain ⟨n, hn⟩ := s_D_nameAt_65 hd hK8 h hQ
  exact ⟨n + 5, hn⟩
set_option maxRecDepth 20000 in
theorem s_D_nameAt_8 {N d : Nat} {Q : jw_Q} (hd : 7 ≤ d) : ∀ (k : Nat) {x1 : Int32} {x2 : Int32} {x3 : Int32} {x4 : Int32} {x5 : Int32} {σ : jw_M} {z : (Int32 × jw_M)}, f_D_nameAt_8 N k x1 x2 x3 x4 x5 σ = some z → Q (some (.int z.1)) (jx_ShC, z.2) → ∃ n, jx_W jx_ShC d (some .int) jc_53 Q n 8 [some (.ref 80), some (.int x1), some (.int x2), some (.int x3), some (.int x4), some (.int x5)] [] σ
  | 0, _, _, _, _, _, _, _, h, _ => by cases h
  | k + 1, x1, x2, x3, x4, x5, σ, z, h, hQ => by
    rw [f_D_nameAt_8] at h
    by_cases c1 : 103 ≤ x5
    · rw [if_pos c1] at h
      suffices hh : ∃ n, jx_W jx_ShC d (some .int) jc_53 Q n 71 [some (.ref 80), some (.int x1), some (.int x2), some (.int x3), some (.int x4), some (.int x5)] [] σ by
        obtain ⟨n, hn⟩ := hh
        exact ⟨n + 4, jx_len (by omega) (And.intro (fun _ => hn) (fun zz => absurd c1 zz))⟩
      cases h
      exact ⟨2, And.intro hQ (And.intro rfl rfl)⟩
    · rw [if_neg c1] at h
      suffices hh : ∃ n, jx_W jx_ShC d (some .int) jc_53 Q n 18 [some (.ref 80), some (.int x1), some (.int x2), some (.int x3), some (.int x4), some (.int x5)] [] σ by
        obtain ⟨n, hn⟩ := hh
        exact ⟨n + 4, jx_len (by omega) (And.intro (fun zz => absurd zz c1) (fun _ => hn))⟩
      cases c2 : jx_in x5 103 with
      | false => rw [c2, cond_false] at h; cases h
      | true =>
        rw [c2, cond_true] at h
        by_cases c3 : (jw_chr x5) = 32
        · rw [if_pos c3] at h
          suffices hh : ∃ n, jx_W jx_ShC d (some .int) jc_53 Q n 30 [some (.ref 80), some (.int x1), some (.int x2), some (.int x3), some (.int x4), some (.int x5)] [] σ by
            obtain ⟨n, hn⟩ := hh
            exact ⟨n + 5, jx_chr (by omega) (jx_in_ok c2) (And.intro (fun zz => absurd c3 zz) (fun _ => hn))⟩
          by_cases c4 : (x5 - x4) = (x2 - x1)
          · rw [if_pos c4] at h
            suffices hh : ∃ n, jx_W jx_ShC d (some .int) jc_53 Q n 41 [some (.ref 80), some (.int x1), some (.int x2), some (.int x3), some (.int x4), some (.int x5)] [] σ by
              obtain ⟨n, hn⟩ := hh
              exact ⟨n + 7, And.intro (fun zz => absurd c4 zz) (fun _ => hn)⟩
            obtain ⟨z5, h6, h⟩ := Option.bind_eq_some_iff.mp h
            by_cases c7 : z5.1 = 0
            · rw [if_pos c7] at h
              suffices hh : ∃ n, jx_W jx_ShC d (some .int) jc_53 Q n 56 [some (.ref 80), some (.int x1), some (.int x2), some (.int x3), some (.int x4), some (.int x5)] [] z5.2 by
                obtain ⟨n, hn⟩ := hh
                exact ⟨n + 8, s_D_isNameAt (by omega) h6 (And.intro (fun _ => hn) (fun zz => absurd c7 zz))⟩
              obtain ⟨n, hn⟩ := s_D_nameAt_56 hd (s_D_nameAt_8 hd k) (u4 := some (.int x4)) h hQ
              exact ⟨n + 0, hn⟩
            · rw [if_neg c7] at h
              suffices hh : ∃ n, jx_W jx_ShC d (some .int) jc_53 Q n 54 [some (.ref 80), some (.int x1), some (.int x2), some (.int x3), some (.int x4), some (.int x5)] [] z5.2 by
                obtain ⟨n, hn⟩ := hh
                exact ⟨n + 8, s_D_isNameAt (by omega) h6 (And.intro (fun zz => absurd zz c7) (fun _ => hn))⟩
              cases h
              exact ⟨2, And.intro hQ (And.intro rfl rfl)⟩
          · rw [if_neg c4] at h
            suffices hh : ∃ n, jx_W jx_ShC d (some .int) jc_53 Q n 56 [some (.ref 80), some (.int x1), some (.int x2), some (.int x3), some (.int x4), some (.int x5)] [] σ by
              obtain ⟨n, hn⟩ := hh
              exact ⟨n + 7, And.intro (fun _ => hn) (fun zz => absurd zz c4)⟩
            obtain ⟨n, hn⟩ := s_D_nameAt_56 hd (s_D_nameAt_8 hd k) (u4 := some (.int x4)) h hQ
            exact ⟨n + 0, hn⟩
        · rw [if_neg c3] at h
          suffices hh : ∃ n, jx_W jx_ShC d (some .int) jc_53 Q n 65 [some (.ref 80), some (.int x1), some (.int x2), some (.int x3), some (.int x4), some (.int x5)] [] σ by
            obtain ⟨n, hn⟩ := hh
            exact ⟨n + 5, jx_chr (by omega) (jx_in_ok c2) (And.intro (fun _ => hn) (fun zz => absurd zz c3))⟩
          obtain ⟨n, hn⟩ := s_D_nameAt_65 hd (s_D_nameAt_8 hd k) h hQ
          exact ⟨n + 0, hn⟩
set_option maxRecDepth 20000 in
theorem s_D_nameAt {N d : Nat} {x1 : Int32} {x2 : Int32} (hd : 8 ≤ d) {σ : jw_M} {z : (Int32 × jw_M)} {Q : jw_Q} (h : f_D_nameAt N x1 x2 σ = some z) (hQ : Q (some (.int z.1)) (jx_ShC, z.2)) : jw_C jp_kd jp_ys d 53 [.ref 80, .int x1, .int x2] (jx_ShC, σ) Q := by
  obtain ⟨d, rfl⟩ : ∃ e, d = e + 1 := ⟨d - 1, by omega⟩
  replace hd : 7 ≤ d := by omega
  refine jx_C rfl rfl ?_
  unfold f_D_nameAt at h
  obtain ⟨n, hn⟩ := s_D_nameAt_8 hd N h hQ
  exact ⟨n + 6, hn⟩
