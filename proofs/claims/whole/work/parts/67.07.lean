set_option maxRecDepth 20000 in
theorem s_R_clear {N d : Nat} (hd : 1 ≤ d) {σ : jw_M} {z : jw_M} {Q : jw_Q} (h : f_R_clear N  σ = some z) (hQ : Q none (jx_ShC, z)) : jw_C jp_kd jp_ys d 67 [.ref 84] (jx_ShC, σ) Q := by
  obtain ⟨d, rfl⟩ : ∃ e, d = e + 1 := ⟨d - 1, by omega⟩
  replace hd : 0 ≤ d := by omega
  refine jx_C rfl rfl ?_
  unfold f_R_clear at h
  cases h
  exact ⟨10, And.intro hQ (And.intro rfl rfl)⟩
set_option maxRecDepth 20000 in
theorem s_D_readAll_69 {N d : Nat} {Q : jw_Q} (hd : 198 ≤ d) {u1 : Option Value} {σ : jw_M} {z : (Int32 × jw_M)} (h : f_D_readAll_69 N  σ = some z) (hQ : Q (some (.int z.1)) (jx_ShC, z.2)) : ∃ n, jx_W jx_ShC d (some .int) jc_48 Q n 69 [some (.ref 80), u1] [] σ := by
  unfold f_D_readAll_69 at h
  cases c6 : jx_in (σ.1 80 4) 201 with
  | false => rw [c6, cond_false] at h; cases h
  | true =>
    rw [c6, cond_true] at h
    by_cases c7 : (σ.1 82 ((σ.1 80 4)).toNatClampNeg) = (-2)
    · rw [if_pos c7] at h
      suffices hh : ∃ n, jx_W jx_ShC d (some .int) jc_48 Q n 83 [some (.ref 80), u1] [] σ by
        obtain ⟨n, hn⟩ := hh
        exact ⟨n + 7, And.intro (jx_in_ok c6) (And.intro (fun zz => absurd c7 zz) (fun _ => hn))⟩
      cases h
      exact ⟨5, And.intro hQ (And.intro rfl rfl)⟩
    · rw [if_neg c7] at h
      suffices hh : ∃ n, jx_W jx_ShC d (some .int) jc_48 Q n 93 [some (.ref 80), u1] [] σ by
        obtain ⟨n, hn⟩ := hh
        exact ⟨n + 7, And.intro (jx_in_ok c6) (And.intro (fun _ => hn) (fun zz => absurd zz c7))⟩
      have hz := Option.some.inj h; clear h; subst hz
      exact ⟨8, And.intro (jx_in_ok c6) (And.intro hQ (And.intro rfl rfl))⟩
set_option maxRecDepth 20000 in
theorem s_D_readAll_23 {N d : Nat} {Q : jw_Q} (hd : 198 ≤ d) : ∀ (k : Nat) {x1 : Int32} {σ : jw_M} {z : (Int32 × jw_M)}, f_D_readAll_23 N k x1 σ = some z → Q (some (.int z.1)) (jx_ShC, z.2) → ∃ n, jx_W jx_ShC d (some .int) jc_48 Q n 23 [some (.ref 80), some (.int x1)] [] σ
  | 0, _, _, _, h, _ => by cases h
  | k + 1, x1, σ, z, h, hQ => by
    rw [f_D_readAll_23] at h
    by_cases c5 : 8 ≤ x1
    · rw [if_pos c5] at h
      suffices hh : ∃ n, jx_W jx_ShC d (some .int) jc_48 Q n 69 [some (.ref 80), some (.int x1)] [] σ by
        obtain ⟨n, hn⟩ := hh
        exact ⟨n + 3, And.intro (fun _ => hn) (fun zz => absurd c5 zz)⟩
      obtain ⟨n, hn⟩ := s_D_readAll_69 hd (u1 := some (.int x1)) h hQ
      exact ⟨n + 0, hn⟩
    · rw [if_neg c5] at h
      suffices hh : ∃ n, jx_W jx_ShC d (some .int) jc_48 Q n 29 [some (.ref 80), some (.int x1)] [] σ by
        obtain ⟨n, hn⟩ := hh
        exact ⟨n + 3, And.intro (fun zz => absurd zz c5) (fun _ => hn)⟩
      cases c8 : jx_in (σ.1 80 4) 201 with
      | false => rw [c8, cond_false] at h; cases h
      | true =>
        rw [c8, cond_true] at h
        by_cases c9 : (σ.1 82 ((σ.1 80 4)).toNatClampNeg) = (-2)
        · rw [if_pos c9] at h
          suffices hh : ∃ n, jx_W jx_ShC d (some .int) jc_48 Q n 69 [some (.ref 80), some (.int x1)] [] σ by
            obtain ⟨n, hn⟩ := hh
            exact ⟨n + 7, And.intro (jx_in_ok c8) (And.intro (fun _ => hn) (fun zz => absurd c9 zz))⟩
          obtain ⟨n, hn⟩ := s_D_readAll_69 hd (u1 := some (.int x1)) h hQ
          exact ⟨n + 0, hn⟩
        · rw [if_neg c9] at h
          suffices hh : ∃ n, jx_W jx_ShC d (some .int) jc_48 Q n 43 [some (.ref 80), some (.int x1)] [] σ by
            obtain ⟨n, hn⟩ := hh
            exact ⟨n + 7, And.intro (jx_in_ok c8) (And.intro (fun zz => absurd zz c9) (fun _ => hn))⟩
          obtain ⟨z10, h11, h⟩ := Option.bind_eq_some_iff.mp h
          by_cases c12 : z10.1 = 0
          · rw [if_pos c12] at h
            suffices hh : ∃ n, jx_W jx_ShC d (some .int) jc_48 Q n 50 [some (.ref 80), some (.int x1)] [] z10.2 by
              obtain ⟨n, hn⟩ := hh
              exact ⟨n + 3, s_D_readRule (by omega) h11 (And.intro (fun zz => absurd c12 zz) (fun _ => hn))⟩
            cases c13 : jx_in (z10.2.1 80 4) 201 with
            | false => rw [c13, cond_false] at h; cases h
            | true =>
              rw [c13, cond_true] at h
              have hz := Option.some.inj h; clear h; subst hz
              exact ⟨8, And.intro (jx_in_ok c13) (And.intro hQ (And.intro rfl rfl))⟩
          · rw [if_neg c12] at h
            suffices hh : ∃ n, jx_W jx_ShC d (some .int) jc_48 Q n 63 [some (.ref 80), some (.int x1)] [] z10.2 by
              obtain ⟨n, hn⟩ := hh
              exact ⟨n + 3, s_D_readRule (by omega) h11 (And.intro (fun _ => hn) (fun zz => absurd zz c12))⟩
            obtain ⟨n, hn⟩ := s_D_readAll_23 hd k h hQ
            exact ⟨n + 2, hn⟩
set_option maxRecDepth 20000 in
theorem s_D_readAll {N d : Nat} (hd : 199 ≤ d) {σ : jw_M} {z : (Int32 × jw_M)} {Q : jw_Q} (h : f_D_readAll N  σ = some z) (hQ : Q (some (.int z.1)) (jx_ShC, z.2)) : jw_C jp_kd jp_ys d 48 [.ref 80] (jx_ShC, σ) Q := by
  obtain ⟨d, rfl⟩ : ∃ e, d = e + 1 := ⟨d - 1, by omega⟩
  replace hd : 198 ≤ d := by omega
  refine jx_C rfl rfl ?_
  unfold f_D_readAll at h
  obtain ⟨z1, h2, h⟩ := Option.bind_eq_some_iff.mp h
  obtain ⟨z3, h4, h⟩ := Option.bind_eq_some_iff.mp h
  obtain ⟨n, hn⟩ := s_D_readAll_23 hd N h hQ
  exact ⟨n + 13, s_D_cutIntoTokens (by omega) h2 (s_R_clear (by omega) h4 (hn))⟩
set_option maxRecDepth 20000 in
theorem s_R_copyFrom_82 {N d : Nat} {p0 : Nat} {p1 : Nat} {Q : jw_Q} (hd : 2 ≤ d) (hp : (p0 = 19 ∧ p1 = 56) ∨ (p0 = 19 ∧ p1 = 84) ∨ (p0 = 56 ∧ p1 = 19)) {σ : jw_M} {z : jw_M} (h : f_R_copyFrom_82 N p0 p1  σ = some z) (hQ : Q none (jx_ShC, z)) : ∃ n, jx_W jx_ShC d none jc_66 Q n 82 [some (.ref p0), some (.ref p1)] [] σ := by
  rcases hp with ⟨rfl, rfl⟩ | ⟨rfl, rfl⟩ | ⟨rfl, rfl⟩
  · unfold f_R_copyFrom_82 at h
    obtain ⟨z13, h14, h⟩ := Option.bind_eq_some_iff.mp h
    cases h
    exact ⟨10, s_F_copyRow (by omega) rfl rfl h14 (And.intro hQ (And.intro rfl rfl))⟩
  · unfold f_R_copyFrom_82 at h
    obtain ⟨z13, h14, h⟩ := Option.bind_eq_some_iff.mp h
    cases h
    exact ⟨10, s_F_copyRow (by omega) rfl rfl h14 (And.intro hQ (And.intro rfl rfl))⟩
  · unfold f_R_copyFrom_82 at h
    obtain ⟨z13, h14, h⟩ := Option.bind_eq_some_iff.mp h
    cases h
    exact ⟨10, s_F_copyRow (by omega) rfl rfl h14 (And.intro hQ (And.intro rfl rfl))⟩
set_option maxRecDepth 20000 in
theorem s_R_copyFrom_71 {N d : Nat} {p0 : Nat} {p1 : Nat} {Q : jw_Q} (hd : 2 ≤ d) (hp : (p0 = 19 ∧ p1 = 56) ∨ (p0 = 19 ∧ p1 = 84) ∨ (p0 = 56 ∧ p1 = 19)) {σ : jw_M} {z : jw_M} (h : f_R_copyFrom_71 N p0 p1  σ = some z) (hQ : Q none (jx_ShC, z)) : ∃ n, jx_W jx_ShC d none jc_66 Q n 71 [some (.ref p0), some (.ref p1)] [] σ := by
  rcases hp with ⟨rfl, rfl⟩ | ⟨rfl, rfl⟩ | ⟨rfl, rfl⟩
  · unfold f_R_copyFrom_71 at h
    obtain ⟨z11, h12, h⟩ := Option.bind_eq_some_iff.mp h
    obtain ⟨n, hn⟩ := s_R_copyFrom_82 hd (by decide) h hQ
    exact ⟨n + 5, s_F_copyRow (by omega) rfl rfl h12 (hn)⟩
  · unfold f_R_copyFrom_71 at h
    obtain ⟨z11, h12, h⟩ := Option.bind_eq_some_iff.mp h
    obtain ⟨n, hn⟩ := s_R_copyFrom_82 hd (by decide) h hQ
    exact ⟨n + 5, s_F_copyRow (by omega) rfl rfl h12 (hn)⟩
  · unfold f_R_copyFrom_71 at h
    obtain ⟨z11, h12, h⟩ := Option.bind_eq_some_iff.mp h
    obtain ⟨n, hn⟩ := s_R_copyFrom_82 hd (by decide) h hQ
    exact ⟨n + 5, s_F_copyRow (by omega) rfl rfl h12 (hn)⟩
set_option maxRecDepth 20000 in
theorem s_R_copyFrom_60 {N d : Nat} {p0 : Nat} {p1 : Nat} {Q : jw_Q} (hd : 2 ≤ d) (hp : (p0 = 19 ∧ p1 = 56) ∨ (p0 = 19 ∧ p1 = 84) ∨ (p0 = 56 ∧ p1 = 19)) {σ : jw_M} {z : jw_M} (h : f_R_copyFrom_60 N p0 p1  σ = some z) (hQ : Q none (jx_ShC, z)) : ∃ n, jx_W jx_ShC d none jc_66 Q n 60 [some (.ref p0), some (.ref p1)] [] σ := by
  rcases hp with ⟨rfl, rfl⟩ | ⟨rfl, rfl⟩ | ⟨rfl, rfl⟩
  · unfold f_R_copyFrom_60 at h
    obtain ⟨z9, h10, h⟩ := Option.bind_eq_some_iff.mp h
    obtain ⟨n, hn⟩ := s_R_copyFrom_71 hd (by decide) h hQ
    exact ⟨n + 5, s_F_copyRow (by omega) rfl rfl h10 (hn)⟩
  · unfold f_R_copyFrom_60 at h
    obtain ⟨z9, h10, h⟩ := Option.bind_eq_some_iff.mp h
    obtain ⟨n, hn⟩ := s_R_copyFrom_71 hd (by decide) h hQ
    exact ⟨n + 5, s_F_copyRow (by omega) rfl rfl h10 (hn)⟩
  · unfold f_R_copyFrom_60 at h
    obtain ⟨z9, h10, h⟩ := Option.bind_eq_some_iff.mp h
    obtain ⟨n, hn⟩ := s_R_copyFrom_71 hd (by decide) h hQ
    exact ⟨n + 5, s_F_copyRow (by omega) rfl rfl h10 (hn)⟩
set_option maxRecDepth 20000 in
theorem s_R_copyFrom_49 {N d : Nat} {p0 : Nat} {p1 : Nat} {Q : jw_Q} (hd : 2 ≤ d) (hp : (p0 = 19 ∧ p1 = 56) ∨ (p0 = 19 ∧ p1 = 84) ∨ (p0 = 56 ∧ p1 = 19)) {σ : jw_M} {z : jw_M} (h : f_R_copyFrom_49 N p0 p1  σ = some z) (hQ : Q none (jx_ShC, z)) : ∃ n, jx_W jx_ShC d none jc_66 Q n 49 [some (.ref p0), some (.ref p1)] [] σ := by
  rcases hp with ⟨rfl, rfl⟩ | ⟨rfl, rfl⟩ | ⟨rfl, rfl⟩
  · unfold f_R_copyFrom_49 at h
    obtain ⟨z7, h8, h⟩ := Option.bind_eq_some_iff.mp h
    obtain ⟨n, hn⟩ := s_R_copyFrom_60 hd (by decide) h hQ
    exact ⟨n + 5, s_F_copyRow (by omega) rfl rfl h8 (hn)⟩
  · unfold f_R_copyFrom_49 at h
    obtain ⟨z7, h8, h⟩ := Option.bind_eq_some_iff.mp h
    obtain ⟨n, hn⟩ := s_R_copyFrom_60 hd (by decide) h hQ
    exact ⟨n + 5, s_F_copyRow (by omega) rfl rfl h8 (hn)⟩
  · unfold f_R_copyFrom_49 at h
    obtain ⟨z7, h8, h⟩ := Option.bind_eq_some_iff.mp h
    obtain ⟨n, hn⟩ := s_R_copyFrom_60 hd (by decide) h hQ
    exact ⟨n + 5, s_F_copyRow (by omega) rfl rfl h8 (hn)⟩
set_option maxRecDepth 20000 in
theorem s_R_copyFrom_38 {N d : Nat} {p0 : Nat} {p1 : Nat} {Q : jw_Q} (hd : 2 ≤ d) (hp : (p0 = 19 ∧ p1 = 56) ∨ (p0 = 19 ∧ p1 = 84) ∨ (p0 = 56 ∧ p1 = 19)) {σ : jw_M} {z : jw_M} (h : f_R_copyFrom_38 N p0 p1  σ = some z) (hQ : Q none (jx_ShC, z)) : ∃ n, jx_W jx_ShC d none jc_66 Q n 38 [some (.ref p0), some (.ref p1)] [] σ := by
  rcases hp with ⟨rfl, rfl⟩ | ⟨rfl, rfl⟩ | ⟨rfl, rfl⟩
  · unfold f_R_copyFrom_38 at h
    obtain ⟨z5, h6, h⟩ := Option.bind_eq_some_iff.mp h
    obtain ⟨n, hn⟩ := s_R_copyFrom_49 hd (by decide) h hQ
    exact ⟨n + 5, s_F_copyRow (by omega) rfl rfl h6 (hn)⟩
  · unfold f_R_copyFrom_38 at h
    obtain ⟨z5, h6, h⟩ := Option.bind_eq_some_iff.mp h
    obtain ⟨n, hn⟩ := s_R_copyFrom_49 hd (by decide) h hQ
    exact ⟨n + 5, s_F_copyRow (by omega) rfl rfl h6 (hn)⟩
  · unfold f_R_copyFrom_38 at h
    obtain ⟨z5, h6, h⟩ := Option.bind_eq_some_iff.mp h
    obtain ⟨n, hn⟩ := s_R_copyFrom_49 hd (by decide) h hQ
    exact ⟨n + 5, s_F_copyRow (by omega) rfl rfl h6 (hn)⟩
set_option maxRecDepth 20000 in
theorem s_R_copyFrom_27 {N d : Nat} {p0 : Nat} {p1 : Nat} {Q : jw_Q} (hd : 2 ≤ d) (hp : (p0 = 19 ∧ p1 = 56) ∨ (p0 = 19 ∧ p1 = 84) ∨ (p0 = 56 ∧ p1 = 19)) {σ : jw_M} {z : jw_M} (h : f_R_copyFrom_27 N p0 p1  σ = some z) (hQ : Q none (jx_ShC, z)) : ∃ n, jx_W jx_ShC d none jc_66 Q n 27 [some (.ref p0), some (.ref p1)] [] σ := by
  rcases hp with ⟨rfl, rfl⟩ | ⟨rfl, rfl⟩ | ⟨rfl, rfl⟩
  · unfold f_R_copyFrom_27 at h
    obtain ⟨z3, h4, h⟩ := Option.bind_eq_some_iff.mp h
    obtain ⟨n, hn⟩ := s_R_copyFrom_38 hd (by decide) h hQ
    exact ⟨n + 5, s_F_copyRow (by omega) rfl rfl h4 (hn)⟩
  · unfold f_R_copyFrom_27 at h
    obtain ⟨z3, h4, h⟩ := Option.bind_eq_some_iff.mp h
    obtain ⟨n, hn⟩ := s_R_copyFrom_38 hd (by decide) h hQ
    exact ⟨n + 5, s_F_copyRow (by omega) rfl rfl h4 (hn)⟩
  · unfold f_R_copyFrom_27 at h
    obtain ⟨z3, h4, h⟩ := Option.bind_eq_some_iff.mp h
    obtain ⟨n, hn⟩ := s_R_copyFrom_38 hd (by decide) h hQ
    exact ⟨n + 5, s_F_copyRow (by omega) rfl rfl h4 (hn)⟩
set_option maxRecDepth 20000 in
theorem s_R_copyFrom {N d : Nat} {p0 : Nat} {p1 : Nat} (hd : 3 ≤ d) (hp : (p0 = 19 ∧ p1 = 56) ∨ (p0 = 19 ∧ p1 = 84) ∨ (p0 = 56 ∧ p1 = 19)) {σ : jw_M} {z : jw_M} {Q : jw_Q} (h : f_R_copyFrom N p0 p1 σ = some z) (hQ : Q none (jx_ShC, z)) : jw_C jp_kd jp_ys d 66 [.ref p0, .ref p1] (jx_ShC, σ) Q := by
  obtain ⟨d, rfl⟩ : ∃ e, d = e + 1 := ⟨d - 1, by omega⟩
  replace hd : 2 ≤ d := by omega
  refine jx_C rfl rfl ?_
  rcases hp with ⟨rfl, rfl⟩ | ⟨rfl, rfl⟩ | ⟨rfl, rfl⟩
  · unfold f_R_copyFrom at h
    obtain ⟨z1, h2, h⟩ := Option.bind_eq_some_iff.mp h
    obtain ⟨n, hn⟩ := s_R_copyFrom_27 hd (by decide) h hQ
    exact ⟨n + 13, s_F_copyRow (by omega) rfl rfl h2 (hn)⟩
  · unfold f_R_copyFrom at h
    obtain ⟨z1, h2, h⟩ := Option.bind_eq_some_iff.mp h
    obtain ⟨n, hn⟩ := s_R_copyFrom_27 hd (by decide) h hQ
    exact ⟨n + 13, s_F_copyRow (by omega) rfl rfl h2 (hn)⟩
  · unfold f_R_copyFrom at h
    obtain ⟨z1, h2, h⟩ := Option.bind_eq_some_iff.mp h
    obtain ⟨n, hn⟩ := s_R_copyFrom_27 hd (by decide) h hQ
    exact ⟨n + 13, s_F_copyRow (by omega) rfl rfl h2 (hn)⟩
set_option maxRecDepth 20000 in
theorem s_S_copyFrom_1_38_157 {N d : Nat} {Q : jw_Q} {K136 : Int32 → jw_M → Option jw_M} (hd : 3 ≤ d) (hK136 : ∀ {x2 : Int32} {σ : jw_M} {z : jw_M}, K136 x2 σ = some z → Q none (jx_ShC, z) → ∃ n, jx_W jx_ShC d none jc_75 Q n 136 [some (.ref 1), some (.ref 38), some (.int x2)] [] σ) {x2 : Int32} {σ : jw_M} {z : jw_M} (h : f_S_copyFrom_1_38_157 N K136 x2 σ = some z) (hQ : Q none (jx_ShC, z)) : ∃ n, jx_W jx_ShC d none jc_75 Q n 157 [some (.ref 1), some (.ref 38), some (.int x2)] [] σ := by
  unfold f_S_copyFrom_1_38_157 at h
  obtain ⟨n, hn⟩ := hK136 h hQ
  exact ⟨n + 2, hn⟩
set_option maxRecDepth 20000 in
theorem s_S_copyFrom_1_38_154 {N d : Nat} {Q : jw_Q} {K136 : Int32 → jw_M → Option jw_M} (hd : 3 ≤ d) (hK136 : ∀ {x2 : Int32} {σ : jw_M} {z : jw_M}, K136 x2 σ = some z → Q none (jx_ShC, z) → ∃ n, jx_W jx_ShC d none jc_75 Q n 136 [some (.ref 1), some (.ref 38), some (.int x2)] [] σ) {x2 : Int32} {r_0 : Nat} {r_1 : Nat} {σ : jw_M} {z : jw_M} (hr_0 : r_0 = 50 ∨ r_0 = 51 ∨ r_0 = 52 ∨ r_0 = 53 ∨ r_0 = 54 ∨ r_0 = 55) (hr_1 : r_1 = 13 ∨ r_1 = 14 ∨ r_1 = 15 ∨ r_1 = 16 ∨ r_1 = 17 ∨ r_1 = 18) (h : f_S_copyFrom_1_38_154 N K136 x2 r_0 r_1 σ = some z) (hQ : Q none (jx_ShC, z)) : ∃ n, jx_W jx_ShC d none jc_75 Q n 154 [some (.ref 1), some (.ref 38), some (.int x2)] [.ref r_1, .ref r_0] σ := by
  rcases hr_0 with rfl | rfl | rfl | rfl | rfl | rfl
  · rcases hr_1 with rfl | rfl | rfl | rfl | rfl | rfl
    · unfold f_S_copyFrom_1_38_154 at h
      obtain ⟨z28, h29, h⟩ := Option.bind_eq_some_iff.mp h
      obtain ⟨n, hn⟩ := s_S_copyFrom_1_38_157 hd hK136 h hQ
      exact ⟨n + 1, s_F_copyRow (by omega) rfl rfl h29 (hn)⟩
    · unfold f_S_copyFrom_1_38_154 at h
      obtain ⟨z28, h29, h⟩ := Option.bind_eq_some_iff.mp h
      obtain ⟨n, hn⟩ := s_S_copyFrom_1_38_157 hd hK136 h hQ
      exact ⟨n + 1, s_F_copyRow (by omega) rfl rfl h29 (hn)⟩
    · unfold f_S_copyFrom_1_38_154 at h
      obtain ⟨z28, h29, h⟩ := Option.bind_eq_some_iff.mp h
      obtain ⟨n, hn⟩ := s_S_copyFrom_1_38_157 hd hK136 h hQ
      exact ⟨n + 1, s_F_copyRow (by omega) rfl rfl h29 (hn)⟩
    · unfold f_S_copyFrom_1_38_154 at h
      obtain ⟨z28, h29, h⟩ := Option.bind_eq_some_iff.mp h
      obtain ⟨n, hn⟩ := s_S_copyFrom_1_38_157 hd hK136 h hQ
      exact ⟨n + 1, s_F_copyRow (by omega) rfl rfl h29 (hn)⟩
    · unfold f_S_copyFrom_1_38_154 at h
      obtain ⟨z28, h29, h⟩ := Option.bind_eq_some_iff.mp h
      obtain ⟨n, hn⟩ := s_S_copyFrom_1_38_157 hd hK136 h hQ
      exact ⟨n + 1, s_F_copyRow (by omega) rfl rfl h29 (hn)⟩
    · unfold f_S_copyFrom_1_38_154 at h
      obtain ⟨z28, h29, h⟩ := Option.bind_eq_some_iff.mp h
      obtain ⟨n, hn⟩ := s_S_copyFrom_1_38_157 hd hK136 h hQ
      exact ⟨n + 1, s_F_copyRow (by omega) rfl rfl h29 (hn)⟩
  · rcases hr_1 with rfl | rfl | rfl | rfl | rfl | rfl
    · unfold f_S_copyFrom_1_38_154 at h
      obtain ⟨z28, h29, h⟩ := Option.bind_eq_some_iff.mp h
      obtain ⟨n, hn⟩ := s_S_copyFrom_1_38_157 hd hK136 h hQ
      exact ⟨n + 1, s_F_copyRow (by omega) rfl rfl h29 (hn)⟩
    · unfold f_S_copyFrom_1_38_154 at h
      obtain ⟨z28, h29, h⟩ := Option.bind_eq_some_iff.mp h
      obtain ⟨n, hn⟩ := s_S_copyFrom_1_38_157 hd hK136 h hQ
      exact ⟨n + 1, s_F_copyRow (by omega) rfl rfl h29 (hn)⟩
    · unfold f_S_copyFrom_1_38_154 at h
      obtain ⟨z28, h29, h⟩ := Option.bind_eq_some_iff.mp h
      obtain ⟨n, hn⟩ := s_S_copyFrom_1_38_157 hd hK136 h hQ
      exact ⟨n + 1, s_F_copyRow (by omega) rfl rfl h29 (hn)⟩
    · unfold f_S_copyFrom_1_38_154 at h
      obtain ⟨z28, h29, h⟩ := Option.bind_eq_some_iff.mp h
      obtain ⟨n, hn⟩ := s_S_copyFrom_1_38_157 hd hK136 h hQ
      exact ⟨n + 1, s_F_copyRow (by omega) rfl rfl h29 (hn)⟩
    · unfold f_S_copyFrom_1_38_154 at h
      obtain ⟨z28, h29, h⟩ := Option.bind_eq_some_iff.mp h
      obtain ⟨n, hn⟩ := s_S_copyFrom_1_38_157 hd hK136 h hQ
      exact ⟨n + 1, s_F_copyRow (by omega) rfl rfl h29 (hn)⟩
    · unfold f_S_copyFrom_1_38_154 at h
      obtain ⟨z28, h29, h⟩ := Option.bind_eq_some_iff.mp h
      obtain ⟨n, hn⟩ := s_S_copyFrom_1_38_157 hd hK136 h hQ
      exact ⟨n + 1, s_F_copyRow (by omega) rfl rfl h29 (hn)⟩
  · rcases hr_1 with rfl | rfl | rfl | rfl | rfl | rfl
    · unfold f_S_copyFrom_1_38_154 at h
      obtain ⟨z28, h29, h⟩ := Option.bind_eq_some_iff.mp h
      obtain ⟨n, hn⟩ := s_S_copyFrom_1_38_157 hd hK136 h hQ
      exact ⟨n + 1, s_F_copyRow (by omega) rfl rfl h29 (hn)⟩
    · unfold f_S_copyFrom_1_38_154 at h
      obtain ⟨z28, h29, h⟩ := Option.bind_eq_some_iff.mp h
      obtain ⟨n, hn⟩ := s_S_copyFrom_1_38_157 hd hK136 h hQ
      exact ⟨n + 1, s_F_copyRow (by omega) rfl rfl h29 (hn)⟩
    · unfold f_S_copyFrom_1_38_154 at h
      obtain ⟨z28, h29, h⟩ := Option.bind_eq_some_iff.mp h
      obtain ⟨n, hn⟩ := s_S_copyFrom_1_38_157 hd hK136 h hQ
      exact ⟨n + 1, s_F_copyRow (by omega) rfl rfl h29 (hn)⟩
    · unfold f_S_copyFrom_1_38_154 at h
      obtain ⟨z28, h29, h⟩ := Option.bind_eq_some_iff.mp h
      obtain ⟨n, hn⟩ := s_S_copyFrom_1_38_157 hd hK136 h hQ
      exact ⟨n + 1, s_F_copyRow (by omega) rfl rfl h29 (hn)⟩
    · unfold f_S_copyFrom_1_38_154 at h
      obtain ⟨z28, h29, h⟩ := Option.bind_eq_some_iff.mp h
      obtain ⟨n, hn⟩ := s_S_copyFrom_1_38_157 hd hK136 h hQ
      exact ⟨n + 1, s_F_copyRow (by omega) rfl rfl h29 (hn)⟩
    · unfold f_S_copyFrom_1_38_154 at h
      obtain ⟨z28, h29, h⟩ := Option.bind_eq_some_iff.mp h
      obtain ⟨n, hn⟩ := s_S_copyFrom_1_38_157 hd hK136 h hQ
      exact ⟨n + 1, s_F_copyRow (by omega) rfl rfl h29 (hn)⟩
  · rcases hr_1 with rfl | rfl | rfl | rfl | rfl | rfl
    · unfold f_S_copyFrom_1_38_154 at h
      obtain ⟨z28, h29, h⟩ := Option.bind_eq_some_iff.mp h
      obtain ⟨n, hn⟩ := s_S_copyFrom_1_38_157 hd hK136 h hQ
      exact ⟨n + 1, s_F_copyRow (by omega) rfl rfl h29 (hn)⟩
    · unfold f_S_copyFrom_1_38_154 at h
      obtain ⟨z28, h29, h⟩ := Option.bind_eq_some_iff.mp h
      obtain ⟨n, hn⟩ := s_S_copyFrom_1_38_157 hd hK136 h hQ
      exact ⟨n + 1, s_F_copyRow (by omega) rfl rfl h29 (hn)⟩
    · unfold f_S_copyFrom_1_38_154 at h
      obtain ⟨z28, h29, h⟩ := Option.bind_eq_some_iff.mp h
      obtain ⟨n, hn⟩ := s_S_copyFrom_1_38_157 hd hK136 h hQ
      exact ⟨n + 1, s_F_copyRow (by omega) rfl rfl h29 (hn)⟩
    · unfold f_S_copyFrom_1_38_154 at h
      obtain ⟨z28, h29, h⟩ := Option.bind_eq_some_iff.mp h
      obtain ⟨n, hn⟩ := s_S_copyFrom_1_38_157 hd hK136 h hQ
      exact ⟨n + 1, s_F_copyRow (by omega) rfl rfl h29 (hn)⟩
    · unfold f_S_copyFrom_1_38_154 at h
      obtain ⟨z28, h29, h⟩ := Option.bind_eq_some_iff.mp h
      obtain ⟨n, hn⟩ := s_S_copyFrom_1_38_157 hd hK136 h hQ
      exact ⟨n + 1, s_F_copyRow (by omega) rfl rfl h29 (hn)⟩
    · unfold f_S_copyFrom_1_38_154 at h
      obtain ⟨z28, h29, h⟩ := Option.bind_eq_some_iff.mp h
      obtain ⟨n, hn⟩ := s_S_copyFrom_1_38_157 hd hK136 h hQ
      exact ⟨n + 1, s_F_copyRow (by omega) rfl rfl h29 (hn)⟩
  · rcases hr_1 with rfl | rfl | rfl | rfl | rfl | rfl
    · unfold f_S_copyFrom_1_38_154 at h
      obtain ⟨z28, h29, h⟩ := Option.bind_eq_some_iff.mp h
      obtain ⟨n, hn⟩ := s_S_copyFrom_1_38_157 hd hK136 h hQ
      exact ⟨n + 1, s_F_copyRow (by omega) rfl rfl h29 (hn)⟩
    · unfold f_S_copyFrom_1_38_154 at h
      obtain ⟨z28, h29, h⟩ := Option.bind_eq_some_iff.mp h
      obtain ⟨n, hn⟩ := s_S_copyFrom_1_38_157 hd hK136 h hQ
      exact ⟨n + 1, s_F_copyRow (by omega) rfl rfl h29 (hn)⟩
    · unfold f_S_copyFrom_1_38_154 at h
      obtain ⟨z28, h29, h⟩ := Option.bind_eq_some_iff.mp h
      obtain ⟨n, hn⟩ := s_S_copyFrom_1_38_157 hd hK136 h hQ
      exact ⟨n + 1, s_F_copyRow (by omega) rfl rfl h29 (hn)⟩
    · unfold f_S_copyFrom_1_38_154 at h
      obtain ⟨z28, h29, h⟩ := Option.bind_eq_some_iff.mp h
      obtain ⟨n, hn⟩ := s_S_copyFrom_1_38_157 hd hK136 h hQ
      exact ⟨n + 1, s_F_copyRow (by omega) rfl rfl h29 (hn)⟩
    · unfold f_S_copyFrom_1_38_154 at h
      obtain ⟨z28, h29, h⟩ := Option.bind_eq_some_iff.mp h
      obtain ⟨n, hn⟩ := s_S_copyFrom_1_38_157 hd hK136 h hQ
      exact ⟨n + 1, s_F_copyRow (by omega) rfl rfl h29 (hn)⟩
    · unfold f_S_copyFrom_1_38_154 at h
      obtain ⟨z28, h29, h⟩ := Option.bind_eq_some_iff.mp h
      obtain ⟨n, hn⟩ := s_S_copyFrom_1_38_157 hd hK136 h hQ
      exact ⟨n + 1, s_F_copyRow (by omega) rfl rfl h29 (hn)⟩
  · rcases hr_1 with rfl | rfl | rfl | rfl | rfl | rfl
    · unfold f_S_copyFrom_1_38_154 at h
      obtain ⟨z28, h29, h⟩ := Option.bind_eq_some_iff.mp h
      obtain ⟨n, hn⟩ := s_S_copyFrom_1_38_157 hd hK136 h hQ
      exact ⟨n + 1, s_F_copyRow (by omega) rfl rfl h29 (hn)⟩
    · unfold f_S_copyFrom_1_38_154 at h
      obtain ⟨z28, h29, h⟩ := Option.bind_eq_some_iff.mp h
      obtain ⟨n, hn⟩ := s_S_copyFrom_1_38_157 hd hK136 h hQ
      exact ⟨n + 1, s_F_copyRow (by omega) rfl rfl h29 (hn)⟩
    · unfold f_S_copyFrom_1_38_154 at h
      obtain ⟨z28, h29, h⟩ := Option.bind_eq_some_iff.mp h
      obtain ⟨n, hn⟩ := s_S_copyFrom_1_38_157 hd hK136 h hQ
      exact ⟨n + 1, s_F_copyRow (by omega) rfl rfl h29 (hn)⟩
    · unfold f_S_copyFrom_1_38_154 at h
      obtain ⟨z28, h29, h⟩ := Option.bind_eq_some_iff.mp h
      obtain ⟨n, hn⟩ := s_S_copyFrom_1_38_157 hd hK136 h hQ
      exact ⟨n + 1, s_F_copyRow (by omega) rfl rfl h29 (hn)⟩
    · unfold f_S_copyFrom_1_38_154 at h
      obtain ⟨z28, h29, h⟩ := Option.bind_eq_some_iff.mp h
      obtain ⟨n, hn⟩ := s_S_copyFrom_1_38_157 hd hK136 h hQ
      exact ⟨n + 1, s_F_copyRow (by omega) rfl rfl h29 (hn)⟩
    · unfold f_S_copyFrom_1_38_154 at h
      obtain ⟨z28, h29, h⟩ := Option.bind_eq_some_iff.mp h
      obtain ⟨n, hn⟩ := s_S_copyFrom_1_38_157 hd hK136 h hQ
      exact ⟨n + 1, s_F_copyRow (by omega) rfl rfl h29 (hn)⟩
set_option maxRecDepth 20000 in
theorem s_S_copyFrom_1_38_153 {N d : Nat} {Q : jw_Q} {K136 : Int32 → jw_M → Option jw_M} (hd : 3 ≤ d) (hK136 : ∀ {x2 : Int32} {σ : jw_M} {z : jw_M}, K136 x2 σ = some z → Q none (jx_ShC, z) → ∃ n, jx_W jx_ShC d none jc_75 Q n 136 [some (.ref 1), some (.ref 38), some (.int x2)] [] σ) {x2 : Int32} {r_0 : Nat} {y2 : Int32} {σ : jw_M} {z : jw_M} (hr_0 : r_0 = 50 ∨ r_0 = 51 ∨ r_0 = 52 ∨ r_0 = 53 ∨ r_0 = 54 ∨ r_0 = 55) (h : f_S_copyFrom_1_38_153 N K136 x2 r_0 y2 σ = some z) (hQ : Q none (jx_ShC, z)) : ∃ n, jx_W jx_ShC d none jc_75 Q n 153 [some (.ref 1), some (.ref 38), some (.int x2)] [.int y2, .ref 12, .ref r_0] σ := by
  unfold f_S_copyFrom_1_38_153 at h
  cases c27 : jx_in y2 6 with
  | false => rw [c27, cond_false] at h; cases h
  | true =>
    rw [c27, cond_true] at h
    rcases jx_ix6 (jx_in_ok c27) with rfl | rfl | rfl | rfl | rfl | rfl
    · try rw [show (13 + (0 : Int32).toNatClampNeg) = 13 from by decide] at h
      obtain ⟨n, hn⟩ := s_S_copyFrom_1_38_154 hd hK136 hr_0 (by decide) h hQ
      exact ⟨n + 1, And.intro (jx_in_ok c27) (hn)⟩
    · try rw [show (13 + (1 : Int32).toNatClampNeg) = 14 from by decide] at h
      obtain ⟨n, hn⟩ := s_S_copyFrom_1_38_154 hd hK136 hr_0 (by decide) h hQ
      exact ⟨n + 1, And.intro (jx_in_ok c27) (hn)⟩
    · try rw [show (13 + (2 : Int32).toNatClampNeg) = 15 from by decide] at h
      obtain ⟨n, hn⟩ := s_S_copyFrom_1_38_154 hd hK136 hr_0 (by decide) h hQ
      exact ⟨n + 1, And.intro (jx_in_ok c27) (hn)⟩
    · try rw [show (13 + (3 : Int32).toNatClampNeg) = 16 from by decide] at h
      obtain ⟨n, hn⟩ := s_S_copyFrom_1_38_154 hd hK136 hr_0 (by decide) h hQ
      exact ⟨n + 1, And.intro (jx_in_ok c27) (hn)⟩
    · try rw [show (13 + (4 : Int32).toNatClampNeg) = 17 from by decide] at h
      obtain ⟨n, hn⟩ := s_S_copyFrom_1_38_154 hd hK136 hr_0 (by decide) h hQ
      exact ⟨n + 1, And.intro (jx_in_ok c27) (hn)⟩
    · try rw [show (13 + (5 : Int32).toNatClampNeg) = 18 from by decide] at h
      obtain ⟨n, hn⟩ := s_S_copyFrom_1_38_154 hd hK136 hr_0 (by decide) h hQ
      exact ⟨n + 1, And.intro (jx_in_ok c27) (hn)⟩
set_option maxRecDepth 20000 in
theorem s_S_copyFrom_1_38_148 {N d : Nat} {Q : jw_Q} {K136 : Int32 → jw_M → Option jw_M} (hd : 3 ≤ d) (hK136 : ∀ {x2 : Int32} {σ : jw_M} {z : jw_M}, K136 x2 σ = some z → Q none (jx_ShC, z) → ∃ n, jx_W jx_ShC d none jc_75 Q n 136 [some (.ref 1), some (.ref 38), some (.int x2)] [] σ) {x2 : Int32} {r_0 : Nat} {σ : jw_M} {z : jw_M} (hr_0 : r_0 = 50 ∨ r_0 = 51 ∨ r_0 = 52 ∨ r_0 = 53 ∨ r_0 = 54 ∨ r_0 = 55) (h : f_S_copyFrom_1_38_148 N K136 x2 r_0 σ = some z) (hQ : Q none (jx_ShC, z)) : ∃ n, jx_W jx_ShC d none jc_75 Q n 148 [some (.ref 1), some (.ref 38), some (.int x2)] [.ref r_0] σ := by
  unfold f_S_copyFrom_1_38_148 at h
  obtain ⟨n, hn⟩ := s_S_copyFrom_1_38_153 hd hK136 hr_0 h hQ
  exact ⟨n + 3, hn⟩
set_option maxRecDepth 20000 in
theorem s_S_copyFrom_1_38_147 {N d : Nat} {Q : jw_Q} {K136 : Int32 → jw_M → Option jw_M} (hd : 3 ≤ d) (hK136 : ∀ {x2 : Int32} {σ : jw_M} {z : jw_M}, K136 x2 σ = some z → Q none (jx_ShC, z) → ∃ n, jx_W jx_ShC d none jc_75 Q n 136 [some (.ref 1), some (.ref 38), some (.int x2)] [] σ) {x2 : Int32} {y1 : Int32} {σ : jw_M} {z : jw_M} (h : f_S_copyFrom_1_38_147 N K136 x2 y1 σ = some z) (hQ : Q none (jx_ShC, z)) : ∃ n, jx_W jx_ShC d none jc_75 Q n 147 [some (.ref 1), some (.ref 38), some (.int x2)] [.int y1, .ref 49] σ := by
  unfold f_S_copyFrom_1_38_147 at h
  cases c26 : jx_in y1 6 with
  | false => rw [c26, cond_false] at h; cases h
  | true =>
    rw [c26, cond_true] at h
    rcases jx_ix6 (jx_in_ok c26) with rfl | rfl | rfl | rfl | rfl | rfl
    · try rw [show (50 + (0 : Int32).toNatClampNeg) = 50 from by decide] at h
      obtain ⟨n, hn⟩ := s_S_copyFrom_1_38_148 hd hK136 (by decide) h hQ
      exact ⟨n + 1, And.intro (jx_in_ok c26) (hn)⟩
    · try rw [show (50 + (1 : Int32).toNatClampNeg) = 51 from by decide] at h
      obtain ⟨n, hn⟩ := s_S_copyFrom_1_38_148 hd hK136 (by decide) h hQ
      exact ⟨n + 1, And.intro (jx_in_ok c26) (hn)⟩
    · try rw [show (50 + (2 : Int32).toNatClampNeg) = 52 from by decide] at h
      obtain ⟨n, hn⟩ := s_S_copyFrom_1_38_148 hd hK136 (by decide) h hQ
      exact ⟨n + 1, And.intro (jx_in_ok c26) (hn)⟩
    · try rw [show (50 + (3 : Int32).toNatClampNeg) = 53 from by decide] at h
      obtain ⟨n, hn⟩ := s_S_copyFrom_1_38_148 hd hK136 (by decide) h hQ
      exact ⟨n + 1, And.intro (jx_in_ok c26) (hn)⟩
    · try rw [show (50 + (4 : Int32).toNatClampNeg) = 54 from by decide] at h
      obtain ⟨n, hn⟩ := s_S_copyFrom_1_38_148 hd hK136 (by decide) h hQ
      exact ⟨n + 1, And.intro (jx_in_ok c26) (hn)⟩
    · try rw [show (50 + (5 : Int32).toNatClampNeg) = 55 from by decide] at h
      obtain ⟨n, hn⟩ := s_S_copyFrom_1_38_148 hd hK136 (by decide) h hQ
      exact ⟨n + 1, And.intro (jx_in_ok c26) (hn)⟩
set_option maxRecDepth 20000 in
theorem s_S_copyFrom_1_38_136 {N d : Nat} {Q : jw_Q} (hd : 3 ≤ d) : ∀ (k : Nat) {x2 : Int32} {σ : jw_M} {z : jw_M}, f_S_copyFrom_1_38_136 N k x2 σ = some z → Q none (jx_ShC, z) → ∃ n, jx_W jx_ShC d none jc_75 Q n 136 [some (.ref 1), some (.ref 38), some (.int x2)] [] σ
  | 0, _, _, _, h, _ => by cases h
  | k + 1, x2, σ, z, h, hQ => by
    rw [f_S_copyFrom_1_38_136] at h
    by_cases c21 : 6 ≤ x2
    · rw [if_pos c21] at h
      suffices hh : ∃ n, jx_W jx_ShC d none jc_75 Q n 163 [some (.ref 1), some (.ref 38), some (.int x2)] [] σ by
        obtain ⟨n, hn⟩ := hh
        exact ⟨n + 3, And.intro (fun _ => hn) (fun zz => absurd c21 zz)⟩
      obtain ⟨z22, h23, h⟩ := Option.bind_eq_some_iff.mp h
      obtain ⟨z24, h25, h⟩ := Option.bind_eq_some_iff.mp h
      cases h
      exact ⟨19, s_R_copyFrom (by omega) (by decide) h23 (s_P_copyFrom (by omega) (by decide) h25 (And.intro hQ (And.intro rfl rfl)))⟩
    · rw [if_neg c21] at h
      suffices hh : ∃ n, jx_W jx_ShC d none jc_75 Q n 142 [some (.ref 1), some (.ref 38), some (.int x2)] [] σ by
        obtain ⟨n, hn⟩ := hh
        exact ⟨n + 3, And.intro (fun zz => absurd zz c21) (fun _ => hn)⟩
      obtain ⟨n, hn⟩ := s_S_copyFrom_1_38_147 hd (s_S_copyFrom_1_38_136 hd k) h hQ
      exact ⟨n + 3, hn⟩
set_option maxRecDepth 20000 in
theorem s_S_copyFrom_1_38 {N d : Nat} (hd : 4 ≤ d) {σ : jw_M} {z : jw_M} {Q : jw_Q} (h : f_S_copyFrom_1_38 N  σ = some z) (hQ : Q none (jx_ShC, z)) : jw_C jp_kd jp_ys d 75 [.ref 1, .ref 38] (jx_ShC, σ) Q := by
  obtain ⟨d, rfl⟩ : ∃ e, d = e + 1 := ⟨d - 1, by omega⟩
  replace hd : 3 ≤ d := by omega
  refine jx_C rfl rfl ?_
  unfold f_S_copyFrom_1_38 at h
  obtain ⟨z1, h2, h⟩ := Option.bind_eq_some_iff.mp h
  obtain ⟨z3, h4, h⟩ := Option.bind_eq_some_iff.mp h
  obtain ⟨z5, h6, h⟩ := Option.bind_eq_some_iff.mp h
  obtain ⟨z7, h8, h⟩ := Option.bind_eq_some_iff.mp h
  obtain ⟨z9, h10, h⟩ := Option.bind_eq_some_iff.mp h
  obtain ⟨z11, h12, h⟩ := Option.bind_eq_some_iff.mp h
  obtain ⟨z13, h14, h⟩ := Option.bind_eq_some_iff.mp h
  obtain ⟨z15, h16, h⟩ := Option.bind_eq_some_iff.mp h
  obtain ⟨z17, h18, h⟩ := Option.bind_eq_some_iff.mp h
  obtain ⟨z19, h20, h⟩ := Option.bind_eq_some_iff.mp h
  obtain ⟨n, hn⟩ := s_S_copyFrom_1_38_136 hd N h hQ
  exact ⟨n + 64, s_F_copyRow (by omega) rfl rfl h2 (s_F_copyRow (by omega) rfl rfl h4 (s_F_copyRow (by omega) rfl rfl h6 (s_F_copyRow (by omega) rfl rfl h8 (s_F_copyRow (by omega) rfl rfl h10 (s_F_copyRow (by omega) rfl rfl h12 (s_F_copyRow (by omega) rfl rfl h14 (s_F_copyRow (by omega) rfl rfl h16 (s_F_copyRow (by omega) rfl rfl h18 (s_F_copyRow (by omega) rfl rfl h20 (hn))))))))))⟩
set_option maxRecDepth 20000 in
theorem s_S_copyFrom_38_1_157 {N d : Nat} {Q : jw_Q} {K136 : Int32 → jw_M → Option jw_M} (hd : 3 ≤ d) (hK136 : ∀ {x2 : Int32} {σ : jw_M} {z : jw_M}, K136 x2 σ = some z → Q none (jx_ShC, z) → ∃ n, jx_W jx_ShC d none jc_75 Q n 136 [some (.ref 38), some (.ref 1), some (.int x2)] [] σ) {x2 : Int32} {σ : jw_M} {z : jw_M} (h : f_S_copyFrom_38_1_157 N K136 x2 σ = some z) (hQ : Q none (jx_ShC, z)) : ∃ n, jx_W jx_ShC d none jc_75 Q n 157 [some (.ref 38), some (.ref 1), some (.int x2)] [] σ := by
  unfold f_S_copyFrom_38_1_157 at h
  obtain ⟨n, hn⟩ := hK136 h hQ
  exact ⟨n + 2, hn⟩
set_option maxRecDepth 20000 in
theorem s_S_copyFrom_38_1_154 {N d : Nat} {Q : jw_Q} {K136 : Int32 → jw_M → Option jw_M} (hd : 3 ≤ d) (hK136 : ∀ {x2 : Int32} {σ : jw_M} {z : jw_M}, K136 x2 σ = some z → Q none (jx_ShC, z) → ∃ n, jx_W jx_ShC d none jc_75 Q n 136 [some (.ref 38), some (.ref 1), some (.int x2)] [] σ) {x2 : Int32} {r_0 : Nat} {r_1 : Nat} {σ : jw_M} {z : jw_M} (hr_0 : r_0 = 13 ∨ r_0 = 14 ∨ r_0 = 15 ∨ r_0 = 16 ∨ r_0 = 17 ∨ r_0 = 18) (hr_1 : r_1 = 50 ∨ r_1 = 51 ∨ r_1 = 52 ∨ r_1 = 53 ∨ r_1 = 54 ∨ r_1 = 55) (h : f_S_copyFrom_38_1_154 N K136 x2 r_0 r_1 σ = some z) (hQ : Q none (jx_ShC, z)) : ∃ n, jx_W jx_ShC d none jc_75 Q n 154 [some (.ref 38), some (.ref 1), some (.int x2)] [.ref r_1, .ref r_0] σ := by
  rcases hr_0 with rfl | rfl | rfl | rfl | rfl | rfl
  · rcases hr_1 with rfl | rfl | rfl | rfl | rfl | rfl
    · unfold f_S_copyFrom_38_1_154 at h
      obtain ⟨z28, h29, h⟩ := Option.bind_eq_some_iff.mp h
      obtain ⟨n, hn⟩ := s_S_copyFrom_38_1_157 hd hK136 h hQ
      exact ⟨n + 1, s_F_copyRow (by omega) rfl rfl h29 (hn)⟩
    · unfold f_S_copyFrom_38_1_154 at h
      obtain ⟨z28, h29, h⟩ := Option.bind_eq_some_iff.mp h
      obtain ⟨n, hn⟩ := s_S_copyFrom_38_1_157 hd hK136 h hQ
      exact ⟨n + 1, s_F_copyRow (by omega) rfl rfl h29 (hn)⟩
    · unfold f_S_copyFrom_38_1_154 at h
      obtain ⟨z28, h29, h⟩ := Option.bind_eq_some_iff.mp h
      obtain ⟨n, hn⟩ := s_S_copyFrom_38_1_157 hd hK136 h hQ
      exact ⟨n + 1, s_F_copyRow (by omega) rfl rfl h29 (hn)⟩
    · unfold f_S_copyFrom_38_1_154 at h
      obtain ⟨z28, h29, h⟩ := Option.bind_eq_some_iff.mp h
      obtain ⟨n, hn⟩ := s_S_copyFrom_38_1_157 hd hK136 h hQ
      exact ⟨n + 1, s_F_copyRow (by omega) rfl rfl h29 (hn)⟩
    · unfold f_S_copyFrom_38_1_154 at h
      obtain ⟨z28, h29, h⟩ := Option.bind_eq_some_iff.mp h
      obtain ⟨n, hn⟩ := s_S_copyFrom_38_1_157 hd hK136 h hQ
      exact ⟨n + 1, s_F_copyRow (by omega) rfl rfl h29 (hn)⟩
    · unfold f_S_copyFrom_38_1_154 at h
      obtain ⟨z28, h29, h⟩ := Option.bind_eq_some_iff.mp h
      obtain ⟨n, hn⟩ := s_S_copyFrom_38_1_157 hd hK136 h hQ
      exact ⟨n + 1, s_F_copyRow (by omega) rfl rfl h29 (hn)⟩
  · rcases hr_1 with rfl | rfl | rfl | rfl | rfl | rfl
    · unfold f_S_copyFrom_38_1_154 at h
      obtain ⟨z28, h29, h⟩ := Option.bind_eq_some_iff.mp h
      obtain ⟨n, hn⟩ := s_S_copyFrom_38_1_157 hd hK136 h hQ
      exact ⟨n + 1, s_F_copyRow (by omega) rfl rfl h29 (hn)⟩
    · unfold f_S_copyFrom_38_1_154 at h
      obtain ⟨z28, h29, h⟩ := Option.bind_eq_some_iff.mp h
      obtain ⟨n, hn⟩ := s_S_copyFrom_38_1_157 hd hK136 h hQ
      exact ⟨n + 1, s_F_copyRow (by omega) rfl rfl h29 (hn)⟩
    · unfold f_S_copyFrom_38_1_154 at h
      obtain ⟨z28, h29, h⟩ := Option.bind_eq_some_iff.mp h
      obtain ⟨n, hn⟩ := s_S_copyFrom_38_1_157 hd hK136 h hQ
      exact ⟨n + 1, s_F_copyRow (by omega) rfl rfl h29 (hn)⟩
    · unfold f_S_copyFrom_38_1_154 at h
      obtain ⟨z28, h29, h⟩ := Option.bind_eq_some_iff.mp h
      obtain ⟨n, hn⟩ := s_S_copyFrom_38_1_157 hd hK136 h hQ
      exact ⟨n + 1, s_F_copyRow (by omega) rfl rfl h29 (hn)⟩
    · unfold f_S_copyFrom_38_1_154 at h
      obtain ⟨z28, h29, h⟩ := Option.bind_eq_some_iff.mp h
      obtain ⟨n, hn⟩ := s_S_copyFrom_38_1_157 hd hK136 h hQ
      exact ⟨n + 1, s_F_copyRow (by omega) rfl rfl h29 (hn)⟩
    · unfold f_S_copyFrom_38_1_154 at h
      obtain ⟨z28, h29, h⟩ := Option.bind_eq_some_iff.mp h
      obtain ⟨n, hn⟩ := s_S_copyFrom_38_1_157 hd hK136 h hQ
      exact ⟨n + 1, s_F_copyRow (by omega) rfl rfl h29 (hn)⟩
  · rcases hr_1 with rfl | rfl | rfl | rfl | rfl | rfl
    · unfold f_S_copyFrom_38_1_154 at h
      obtain ⟨z28, h29, h⟩ := Option.bind_eq_some_iff.mp h
      obtain ⟨n, hn⟩ := s_S_copyFrom_38_1_157 hd hK136 h hQ
      exact ⟨n + 1, s_F_copyRow (by omega) rfl rfl h29 (hn)⟩
    · unfold f_S_copyFrom_38_1_154 at h
      obtain ⟨z28, h29, h⟩ := Option.bind_eq_some_iff.mp h
      obtain ⟨n, hn⟩ := s_S_copyFrom_38_1_157 hd hK136 h hQ
      exact ⟨n + 1, s_F_copyRow (by omega) rfl rfl h29 (hn)⟩
    · unfold f_S_copyFrom_38_1_154 at h
      obtain ⟨z28, h29, h⟩ := Option.bind_eq_some_iff.mp h
      obtain ⟨n, hn⟩ := s_S_copyFrom_38_1_157 hd hK136 h hQ
      exact ⟨n + 1, s_F_copyRow (by omega) rfl rfl h29 (hn)⟩
    · unfold f_S_copyFrom_38_1_154 at h
      obtain ⟨z28, h29, h⟩ := Option.bind_eq_some_iff.mp h
      obtain ⟨n, hn⟩ := s_S_copyFrom_38_1_157 hd hK136 h hQ
      exact ⟨n + 1, s_F_copyRow (by omega) rfl rfl h29 (hn)⟩
    · unfold f_S_copyFrom_38_1_154 at h
      obtain ⟨z28, h29, h⟩ := Option.bind_eq_some_iff.mp h
      obtain ⟨n, hn⟩ := s_S_copyFrom_38_1_157 hd hK136 h hQ
      exact ⟨n + 1, s_F_copyRow (by omega) rfl rfl h29 (hn)⟩
    · unfold f_S_copyFrom_38_1_154 at h
      obtain ⟨z28, h29, h⟩ := Option.bind_eq_some_iff.mp h
      obtain ⟨n, hn⟩ := s_S_copyFrom_38_1_157 hd hK136 h hQ
      exact ⟨n + 1, s_F_copyRow (by omega) rfl rfl h29 (hn)⟩
  · rcases hr_1 with rfl | rfl | rfl | rfl | rfl | rfl
    · unfold f_S_copyFrom_38_1_154 at h
      obtain ⟨z28, h29, h⟩ := Option.bind_eq_some_iff.mp h
      obtain ⟨n, hn⟩ := s_S_copyFrom_38_1_157 hd hK136 h hQ
      exact ⟨n + 1, s_F_copyRow (by omega) rfl rfl h29 (hn)⟩
    · unfold f_S_copyFrom_38_1_154 at h
      obtain ⟨z28, h29, h⟩ := Option.bind_eq_some_iff.mp h
      obtain ⟨n, hn⟩ := s_S_copyFrom_38_1_157 hd hK136 h hQ
      exact ⟨n + 1, s_F_copyRow (by omega) rfl rfl h29 (hn)⟩
    · unfold f_S_copyFrom_38_1_154 at h
      obtain ⟨z28, h29, h⟩ := Option.bind_eq_some_iff.mp h
      obtain ⟨n, hn⟩ := s_S_copyFrom_38_1_157 hd hK136 h hQ
      exact ⟨n + 1, s_F_copyRow (by omega) rfl rfl h29 (hn)⟩
    · unfold f_S_copyFrom_38_1_154 at h
      obtain ⟨z28, h29, h⟩ := Option.bind_eq_some_iff.mp h
      obtain ⟨n, hn⟩ := s_S_copyFrom_38_1_157 hd hK136 h hQ
      exact ⟨n + 1, s_F_copyRow (by omega) rfl rfl h29 (hn)⟩
    · unfold f_S_copyFrom_38_1_154 at h
      obtain ⟨z28, h29, h⟩ := Option.bind_eq_some_iff.mp h
      obtain ⟨n, hn⟩ := s_S_copyFrom_38_1_157 hd hK136 h hQ
      exact ⟨n + 1, s_F_copyRow (by omega) rfl rfl h29 (hn)⟩
    · unfold f_S_copyFrom_38_1_154 at h
      obtain ⟨z28, h29, h⟩ := Option.bind_eq_some_iff.mp h
      obtain ⟨n, hn⟩ := s_S_copyFrom_38_1_157 hd hK136 h hQ
      exact ⟨n + 1, s_F_copyRow (by omega) rfl rfl h29 (hn)⟩
  · rcases hr_1 with rfl | rfl | rfl | rfl | rfl | rfl
    · unfold f_S_copyFrom_38_1_154 at h
      obtain ⟨z28, h29, h⟩ := Option.bind_eq_some_iff.mp h
      obtain ⟨n, hn⟩ := s_S_copyFrom_38_1_157 hd hK136 h hQ
      exact ⟨n + 1, s_F_copyRow (by omega) rfl rfl h29 (hn)⟩
    · unfold f_S_copyFrom_38_1_154 at h
      obtain ⟨z28, h29, h⟩ := Option.bind_eq_some_iff.mp h
      obtain ⟨n, hn⟩ := s_S_copyFrom_38_1_157 hd hK136 h hQ
      exact ⟨n + 1, s_F_copyRow (by omega) rfl rfl h29 (hn)⟩
    · unfold f_S_copyFrom_38_1_154 at h
      obtain ⟨z28, h29, h⟩ := Option.bind_eq_some_iff.mp h
      obtain ⟨n, hn⟩ := s_S_copyFrom_38_1_157 hd hK136 h hQ
      exact ⟨n + 1, s_F_copyRow (by omega) rfl rfl h29 (hn)⟩
    · unfold f_S_copyFrom_38_1_154 at h
      obtain ⟨z28, h29, h⟩ := Option.bind_eq_some_iff.mp h
      obtain ⟨n, hn⟩ := s_S_copyFrom_38_1_157 hd hK136 h hQ
      exact ⟨n + 1, s_F_copyRow (by omega) rfl rfl h29 (hn)⟩
    · unfold f_S_copyFrom_38_1_154 at h
      obtain ⟨z28, h29, h⟩ := Option.bind_eq_some_iff.mp h
      obtain ⟨n, hn⟩ := s_S_copyFrom_38_1_157 hd hK136 h hQ
      exact ⟨n + 1, s_F_copyRow (by omega) rfl rfl h29 (hn)⟩
    · unfold f_S_copyFrom_38_1_154 at h
      obtain ⟨z28, h29, h⟩ := Option.bind_eq_some_iff.mp h
      obtain ⟨n, hn⟩ := s_S_copyFrom_38_1_157 hd hK136 h hQ
      exact ⟨n + 1, s_F_copyRow (by omega) rfl rfl h29 (hn)⟩
  · rcases hr_1 with rfl | rfl | rfl | rfl | rfl | rfl
    · unfold f_S_copyFrom_38_1_154 at h
      obtain ⟨z28, h29, h⟩ := Option.bind_eq_some_iff.mp h
      obtain ⟨n, hn⟩ := s_S_copyFrom_38_1_157 hd hK136 h hQ
      exact ⟨n + 1, s_F_copyRow (by omega) rfl rfl h29 (hn)⟩
    · unfold f_S_copyFrom_38_1_154 at h
      obtain ⟨z28, h29, h⟩ := Option.bind_eq_some_iff.mp h
      obtain ⟨n, hn⟩ := s_S_copyFrom_38_1_157 hd hK136 h hQ
      exact ⟨n + 1, s_F_copyRow (by omega) rfl rfl h29 (hn)⟩
    · unfold f_S_copyFrom_38_1_154 at h
      obtain ⟨z28, h29, h⟩ := Option.bind_eq_some_iff.mp h
      obtain ⟨n, hn⟩ := s_S_copyFrom_38_1_157 hd hK136 h hQ
      exact ⟨n + 1, s_F_copyRow (by omega) rfl rfl h29 (hn)⟩
    · unfold f_S_copyFrom_38_1_154 at h
      obtain ⟨z28, h29, h⟩ := Option.bind_eq_some_iff.mp h
      obtain ⟨n, hn⟩ := s_S_copyFrom_38_1_157 hd hK136 h hQ
      exact ⟨n + 1, s_F_copyRow (by omega) rfl rfl h29 (hn)⟩
    · unfold f_S_copyFrom_38_1_154 at h
      obtain ⟨z28, h29, h⟩ := Option.bind_eq_some_iff.mp h
      obtain ⟨n, hn⟩ := s_S_copyFrom_38_1_157 hd hK136 h hQ
      exact ⟨n + 1, s_F_copyRow (by omega) rfl rfl h29 (hn)⟩
    · unfold f_S_copyFrom_38_1_154 at h
      obtain ⟨z28, h29, h⟩ := Option.bind_eq_some_iff.mp h
      obtain ⟨n, hn⟩ := s_S_copyFrom_38_1_157 hd hK136 h hQ
      exact ⟨n + 1, s_F_copyRow (by omega) rfl rfl h29 (hn)⟩
set_option maxRecDepth 20000 in
theorem s_S_copyFrom_38_1_153 {N d : Nat} {Q : jw_Q} {K136 : Int32 → jw_M → Option jw_M} (hd : 3 ≤ d) (hK136 : ∀ {x2 : Int32} {σ : jw_M} {z : jw_M}, K136 x2 σ = some z → Q none (jx_ShC, z) → ∃ n, jx_W jx_ShC d none jc_75 Q n 136 [some (.ref 38), some (.ref 1), some (.int x2)] [] σ) {x2 : Int32} {r_0 : Nat} {y2 : Int32} {σ : jw_M} {z : jw_M} (hr_0 : r_0 = 13 ∨ r_0 = 14 ∨ r_0 = 15 ∨ r_0 = 16 ∨ r_0 = 17 ∨ r_0 = 18) (h : f_S_copyFrom_38_1_153 N K136 x2 r_0 y2 σ = some z) (hQ : Q none (jx_ShC, z)) : ∃ n, jx_W jx_ShC d none jc_75 Q n 153 [some (.ref 38), some (.ref 1), some (.int x2)] [.int y2, .ref 49, .ref r_0] σ := by
  unfold f_S_copyFrom_38_1_153 at h
  cases c27 : jx_in y2 6 with
  | false => rw [c27, cond_false] at h; cases h
  | true =>
    rw [c27, cond_true] at h
    rcases jx_ix6 (jx_in_ok c27) with rfl | rfl | rfl | rfl | rfl | rfl
    · try rw [show (50 + (0 : Int32).toNatClampNeg) = 50 from by decide] at h
      obtain ⟨n, hn⟩ := s_S_copyFrom_38_1_154 hd hK136 hr_0 (by decide) h hQ
      exact ⟨n + 1, And.intro (jx_in_ok c27) (hn)⟩
    · try rw [show (50 + (1 : Int32).toNatClampNeg) = 51 from by decide] at h
      obtain ⟨n, hn⟩ := s_S_copyFrom_38_1_154 hd hK136 hr_0 (by decide) h hQ
      exact ⟨n + 1, And.intro (jx_in_ok c27) (hn)⟩
    · try rw [show (50 + (2 : Int32).toNatClampNeg) = 52 from by decide] at h
      obtain ⟨n, hn⟩ := s_S_copyFrom_38_1_154 hd hK136 hr_0 (by decide) h hQ
      exact ⟨n + 1, And.intro (jx_in_ok c27) (hn)⟩
    · try rw [show (50 + (3 : Int32).toNatClampNeg) = 53 from by decide] at h
      obtain ⟨n, hn⟩ := s_S_copyFrom_38_1_154 hd hK136 hr_0 (by decide) h hQ
      exact ⟨n + 1, And.intro (jx_in_ok c27) (hn)⟩
    · try rw [show (50 + (4 : Int32).toNatClampNeg) = 54 from by decide] at h
      obtain ⟨n, hn⟩ := s_S_copyFrom_38_1_154 hd hK136 hr_0 (by decide) h hQ
      exact ⟨n + 1, And.intro (jx_in_ok c27) (hn)⟩
    · try rw [show (50 + (5 : Int32).toNatClampNeg) = 55 from by decide] at h
      obtain ⟨n, hn⟩ := s_S_copyFrom_38_1_154 hd hK136 hr_0 (by decide) h hQ
      exact ⟨n + 1, And.intro (jx_in_ok c27) (hn)⟩
set_option maxRecDepth 20000 in
theorem s_S_copyFrom_38_1_148 {N d : Nat} {Q : jw_Q} {K136 : Int32 → jw_M → Option jw_M} (hd : 3 ≤ d) (hK136 : ∀ {x2 : Int32} {σ : jw_M} {z : jw_M}, K136 x2 σ = some z → Q none (jx_ShC, z) → ∃ n, jx_W jx_ShC d none jc_75 Q n 136 [some (.ref 38), some (.ref 1), some (.int x2)] [] σ) {x2 : Int32} {r_0 : Nat} {σ : jw_M} {z : jw_M} (hr_0 : r_0 = 13 ∨ r_0 = 14 ∨ r_0 = 15 ∨ r_0 = 16 ∨ r_0 = 17 ∨ r_0 = 18) (h : f_S_copyFrom_38_1_148 N K136 x2 r_0 σ = some z) (hQ : Q none (jx_ShC, z)) : ∃ n, jx_W jx_ShC d none jc_75 Q n 148 [some (.ref 38), some (.ref 1), some (.int x2)] [.ref r_0] σ := by
  unfold f_S_copyFrom_38_1_148 at h
  obtain ⟨n, hn⟩ := s_S_copyFrom_38_1_153 hd hK136 hr_0 h hQ
  exact ⟨n + 3, hn⟩
set_option maxRecDepth 20000 in
theorem s_S_copyFrom_38_1_147 {N d : Nat} {Q : jw_Q} {K136 : Int32 → jw_M → Option jw_M} (hd : 3 ≤ d) (hK136 : ∀ {x2 : Int32} {σ : jw_M} {z : jw_M}, K136 x2 σ = some z → Q none (jx_ShC, z) → ∃ n, jx_W jx_ShC d none jc_75 Q n 136 [some (.ref 38), some (.ref 1), some (.int x2)] [] σ) {x2 : Int32} {y1 : Int32} {σ : jw_M} {z : jw_M} (h : f_S_copyFrom_38_1_147 N K136 x2 y1 σ = some z) (hQ : Q none (jx_ShC, z)) : ∃ n, jx_W jx_ShC d none jc_75 Q n 147 [some (.ref 38), some (.ref 1), some (.int x2)] [.int y1, .ref 12] σ := by
  unfold f_S_copyFrom_38_1_147 at h
  cases c26 : jx_in y1 6 with
  | false => rw [c26, cond_false] at h; cases h
  | true =>
    rw [c26, cond_true] at h
    rcases jx_ix6 (jx_in_ok c26) with rfl | rfl | rfl | rfl | rfl | rfl
    · try rw [show (13 + (0 : Int32).toNatClampNeg) = 13 from by decide] at h
      obtain ⟨n, hn⟩ := s_S_copyFrom_38_1_148 hd hK136 (by decide) h hQ
      exact ⟨n + 1, And.intro (jx_in_ok c26) (hn)⟩
    · try rw [show (13 + (1 : Int32).toNatClampNeg) = 14 from by decide] at h
      obtain ⟨n, hn⟩ := s_S_copyFrom_38_1_148 hd hK136 (by decide) h hQ
      exact ⟨n + 1, And.intro (jx_in_ok c26) (hn)⟩
    · try rw [show (13 + (2 : Int32).toNatClampNeg) = 15 from by decide] at h
      obtain ⟨n, hn⟩ := s_S_copyFrom_38_1_148 hd hK136 (by decide) h hQ
      exact ⟨n + 1, And.intro (jx_in_ok c26) (hn)⟩
    · try rw [show (13 + (3 : Int32).toNatClampNeg) = 16 from by decide] at h
      obtain ⟨n, hn⟩ := s_S_copyFrom_38_1_148 hd hK136 (by decide) h hQ
      exact ⟨n + 1, And.intro (jx_in_ok c26) (hn)⟩
    · try rw [show (13 + (4 : Int32).toNatClampNeg) = 17 from by decide] at h
      obtain ⟨n, hn⟩ := s_S_copyFrom_38_1_148 hd hK136 (by decide) h hQ
      exact ⟨n + 1, And.intro (jx_in_ok c26) (hn)⟩
    · try rw [show (13 + (5 : Int32).toNatClampNeg) = 18 from by decide] at h
      obtain ⟨n, hn⟩ := s_S_copyFrom_38_1_148 hd hK136 (by decide) h hQ
      exact ⟨n + 1, And.intro (jx_in_ok c26) (hn)⟩
set_option maxRecDepth 20000 in
theorem s_S_copyFrom_38_1_136 {N d : Nat} {Q : jw_Q} (hd : 3 ≤ d) : ∀ (k : Nat) {x2 : Int32} {σ : jw_M} {z : jw_M}, f_S_copyFrom_38_1_136 N k x2 σ = some z → Q none (jx_ShC, z) → ∃ n, jx_W jx_ShC d none jc_75 Q n 136 [some (.ref 38), some (.ref 1), some (.int x2)] [] σ
  | 0, _, _, _, h, _ => by cases h
  | k + 1, x2, σ, z, h, hQ => by
    rw [f_S_copyFrom_38_1_136] at h
    by_cases c21 : 6 ≤ x2
    · rw [if_pos c21] at h
      suffices hh : ∃ n, jx_W jx_ShC d none jc_75 Q n 163 [some (.ref 38), some (.ref 1), some (.int x2)] [] σ by
        obtain ⟨n, hn⟩ := hh
        exact ⟨n + 3, And.intro (fun _ => hn) (fun zz => absurd c21 zz)⟩
      obtain ⟨z22, h23, h⟩ := Option.bind_eq_some_iff.mp h
      obtain ⟨z24, h25, h⟩ := Option.bind_eq_some_iff.mp h
      cases h
      exact ⟨19, s_R_copyFrom (by omega) (by decide) h23 (s_P_copyFrom (by omega) (by decide) h25 (And.intro hQ (And.intro rfl rfl)))⟩
    · rw [if_neg c21] at h
      suffices hh : ∃ n, jx_W jx_ShC d none jc_75 Q n 142 [some (.ref 38), some (.ref 1), some (.int x2)] [] σ by
        obtain ⟨n, hn⟩ := hh
        exact ⟨n + 3, And.intro (fun zz => absurd zz c21) (fun _ => hn)⟩
      obtain ⟨n, hn⟩ := s_S_copyFrom_38_1_147 hd (s_S_copyFrom_38_1_136 hd k) h hQ
      exact ⟨n + 3, hn⟩
set_option maxRecDepth 20000 in
theorem s_S_copyFrom_38_1 {N d : Nat} (hd : 4 ≤ d) {σ : jw_M} {z : jw_M} {Q : jw_Q} (h : f_S_copyFrom_38_1 N  σ = some z) (hQ : Q none (jx_ShC, z)) : jw_C jp_kd jp_ys d 75 [.ref 38, .ref 1] (jx_ShC, σ) Q := by
  obtain ⟨d, rfl⟩ : ∃ e, d = e + 1 := ⟨d - 1, by omega⟩
  replace hd : 3 ≤ d := by omega
  refine jx_C rfl rfl ?_
  unfold f_S_copyFrom_38_1 at h
  obtain ⟨z1, h2, h⟩ := Option.bind_eq_some_iff.mp h
  obtain ⟨z3, h4, h⟩ := Option.bind_eq_some_iff.mp h
  obtain ⟨z5, h6, h⟩ := Option.bind_eq_some_iff.mp h
  obtain ⟨z7, h8, h⟩ := Option.bind_eq_some_iff.mp h
  obtain ⟨z9, h10, h⟩ := Option.bind_eq_some_iff.mp h
  obtain ⟨z11, h12, h⟩ := Option.bind_eq_some_iff.mp h
  obtain ⟨z13, h14, h⟩ := Option.bind_eq_some_iff.mp h
  obtain ⟨z15, h16, h⟩ := Option.bind_eq_some_iff.mp h
  obtain ⟨z17, h18, h⟩ := Option.bind_eq_some_iff.mp h
  obtain ⟨z19, h20, h⟩ := Option.bind_eq_some_iff.mp h
  obtain ⟨n, hn⟩ := s_S_copyFrom_38_1_136 hd N h hQ
  exact ⟨n + 64, s_F_copyRow (by omega) rfl rfl h2 (s_F_copyRow (by omega) rfl rfl h4 (s_F_copyRow (by omega) rfl rfl h6 (s_F_copyRow (by omega) rfl rfl h8 (s_F_copyRow (by omega) rfl rfl h10 (s_F_copyRow (by omega) rfl rfl h12 (s_F_copyRow (by omega) rfl rfl h14 (s_F_copyRow (by omega) rfl rfl h16 (s_F_copyRow (by omega) rfl rfl h18 (s_F_copyRow (by omega) rfl rfl h20 (hn))))))))))⟩
set_option maxRecDepth 20000 in
theorem s_S_isShadow {N d : Nat} {x1 : Int32} (hd : 1 ≤ d) {σ : jw_M} {z : (Int32 × jw_M)} {Q : jw_Q} (h : f_S_isShadow N x1 σ = some z) (hQ : Q (some (.int z.1)) (jx_ShC, z.2)) : jw_C jp_kd jp_ys d 76 [.ref 1, .int x1] (jx_ShC, σ) Q := by
  obtain ⟨d, rfl⟩ : ∃ e, d = e + 1 := ⟨d - 1, by omega⟩
  replace hd : 0 ≤ d := by omega
  refine jx_C rfl rfl ?_
  unfold f_S_isShadow at h
  by_cases c1 : x1 < 0
  · rw [if_pos c1] at h
    suffices hh : ∃ n, jx_W jx_ShC d (some .boolean) jc_76 Q n 16 [some (.ref 1), some (.int x1)] [] σ by
      obtain ⟨n, hn⟩ := hh
      exact ⟨n + 2, And.intro (fun _ => hn) (fun zz => absurd c1 zz)⟩
    cases h
    exact ⟨2, And.intro (Or.inl rfl) (And.intro hQ (And.intro rfl rfl))⟩
  · rw [if_neg c1] at h
    suffices hh : ∃ n, jx_W jx_ShC d (some .boolean) jc_76 Q n 4 [some (.ref 1), some (.int x1)] [] σ by
      obtain ⟨n, hn⟩ := hh
      exact ⟨n + 2, And.intro (fun zz => absurd zz c1) (fun _ => hn)⟩
    by_cases c2 : (σ.1 1 0) ≤ x1
    · rw [if_pos c2] at h
      suffices hh : ∃ n, jx_W jx_ShC d (some .boolean) jc_76 Q n 16 [some (.ref 1), some (.int x1)] [] σ by
        obtain ⟨n, hn⟩ := hh
        exact ⟨n + 4, And.intro (fun _ => hn) (fun zz => absurd c2 zz)⟩
      cases h
      exact ⟨2, And.intro (Or.inl rfl) (And.intro hQ (And.intro rfl rfl))⟩
    · rw [if_neg c2] at h
      suffices hh : ∃ n, jx_W jx_ShC d (some .boolean) jc_76 Q n 12 [some (.ref 1), some (.int x1)] [] σ by
        obtain ⟨n, hn⟩ := hh
        exact ⟨n + 4, And.intro (fun zz => absurd zz c2) (fun _ => hn)⟩
      cases h
      exact ⟨3, And.intro (Or.inr rfl) (And.intro hQ (And.intro rfl rfl))⟩
set_option maxRecDepth 20000 in
theorem s_S_isLesson {N d : Nat} {x1 : Int32} (hd : 1 ≤ d) {σ : jw_M} {z : (Int32 × jw_M)} {Q : jw_Q} (h : f_S_isLesson N x1 σ = some z) (hQ : Q (some (.int z.1)) (jx_ShC, z.2)) : jw_C jp_kd jp_ys d 77 [.ref 1, .int x1] (jx_ShC, σ) Q := by
  obtain ⟨d, rfl⟩ : ∃ e, d = e + 1 := ⟨d - 1, by omega⟩
  replace hd : 0 ≤ d := by omega
  refine jx_C rfl rfl ?_
  unfold f_S_isLesson at h
  by_cases c1 : x1 < 0
  · rw [if_pos c1] at h
    suffices hh : ∃ n, jx_W jx_ShC d (some .boolean) jc_77 Q n 16 [some (.ref 1), some (.int x1)] [] σ by
      obtain ⟨n, hn⟩ := hh
      exact ⟨n + 2, And.intro (fun _ => hn) (fun zz => absurd c1 zz)⟩
    cases h
    exact ⟨2, And.intro (Or.inl rfl) (And.intro hQ (And.intro rfl rfl))⟩
  · rw [if_neg c1] at h
    suffices hh : ∃ n, jx_W jx_ShC d (some .boolean) jc_77 Q n 4 [some (.ref 1), some (.int x1)] [] σ by
      obtain ⟨n, hn⟩ := hh
      exact ⟨n + 2, And.intro (fun zz => absurd zz c1) (fun _ => hn)⟩
    by_cases c2 : (σ.1 1 5) ≤ x1
    · rw [if_pos c2] at h
      suffices hh : ∃ n, jx_W jx_ShC d (some .boolean) jc_77 Q n 16 [some (.ref 1), some (.int x1)] [] σ by
        obtain ⟨n, hn⟩ := hh
        exact ⟨n + 4, And.intro (fun _ => hn) (fun zz => absurd c2 zz)⟩
      cases h
      exact ⟨2, And.intro (Or.inl rfl) (And.intro hQ (And.intro rfl rfl))⟩
    · rw [if_neg c2] at h
      suffices hh : ∃ n, jx_W jx_ShC d (some .boolean) jc_77 Q n 12 [some (.ref 1), some (.int x1)] [] σ by
        obtain ⟨n, hn⟩ := hh
        exact ⟨n + 4, And.intro (fun zz => absurd zz c2) (fun _ => hn)⟩
      cases h
      exact ⟨3, And.intro (Or.inr rfl) (And.intro hQ (And.intro rfl rfl))⟩
set_option maxRecDepth 20000 in
theorem s_S_allLessons {N d : Nat} (hd : 1 ≤ d) {σ : jw_M} {z : (Int32 × jw_M)} {Q : jw_Q} (h : f_S_allLessons N  σ = some z) (hQ : Q (some (.int z.1)) (jx_ShC, z.2)) : jw_C jp_kd jp_ys d 80 [.ref 1] (jx_ShC, σ) Q := by
  obtain ⟨d, rfl⟩ : ∃ e, d = e + 1 := ⟨d - 1, by omega⟩
  replace hd : 0 ≤ d := by omega
  refine jx_C rfl rfl ?_
  unfold f_S_allLessons at h
  cases h
  exact ⟨7, And.intro hQ (And.intro rfl rfl)⟩
set_option maxRecDepth 20000 in
theorem s_S_isSetOfLessons {N d : Nat} {x1 : Int32} (hd : 2 ≤ d) {σ : jw_M} {z : (Int32 × jw_M)} {Q : jw_Q} (h : f_S_isSetOfLessons N x1 σ = some z) (hQ : Q (some (.int z.1)) (jx_ShC, z.2)) : jw_C jp_kd jp_ys d 79 [.ref 1, .int x1] (jx_ShC, σ) Q := by
  obtain ⟨d, rfl⟩ : ∃ e, d = e + 1 := ⟨d - 1, by omega⟩
  replace hd : 1 ≤ d := by omega
  refine jx_C rfl rfl ?_
  unfold f_S_isSetOfLessons at h
  obtain ⟨z1, h2, h⟩ := Option.bind_eq_some_iff.mp h
  by_cases c3 : (x1 &&& (z1.1 ^^^ (-1))) = 0
  · rw [if_pos c3] at h
    suffices hh : ∃ n, jx_W jx_ShC d (some .boolean) jc_79 Q n 11 [some (.ref 1), some (.int x1)] [] z1.2 by
      obtain ⟨n, hn⟩ := hh
      exact ⟨n + 7, s_S_allLessons (by omega) h2 (And.intro (fun zz => absurd c3 zz) (fun _ => hn))⟩
    cases h
    exact ⟨3, And.intro (Or.inr rfl) (And.intro hQ (And.intro rfl rfl))⟩
  · rw [if_neg c3] at h
    suffices hh : ∃ n, jx_W jx_ShC d (some .boolean) jc_79 Q n 15 [some (.ref 1), some (.int x1)] [] z1.2 by
      obtain ⟨n, hn⟩ := hh
      exact ⟨n + 7, s_S_allLessons (by omega) h2 (And.intro (fun _ => hn) (fun zz => absurd zz c3))⟩
    cases h
    exact ⟨2, And.intro (Or.inl rfl) (And.intro hQ (And.intro rfl rfl))⟩
set_option maxRecDepth 20000 in
theorem s_S_addShadow {N d : Nat} {x1 : Int32} {x2 : Int32} {x3 : Int32} (hd : 1 ≤ d) {σ : jw_M} {z : (Int32 × jw_M)} {Q : jw_Q} (h : f_S_addShadow N x1 x2 x3 σ = some z) (hQ : Q (some (.int z.1)) (jx_ShC, z.2)) : jw_C jp_kd jp_ys d 82 [.ref 1, .int x1, .int x2, .int x3] (jx_ShC, σ) Q := by
  obtain ⟨d, rfl⟩ : ∃ e, d = e + 1 := ⟨d - 1, by omega⟩
  replace hd : 0 ≤ d := by omega
  refine jx_C rfl rfl ?_
  unfold f_S_addShadow at h
  cases c1 : jx_in (σ.1 1 0) 6 with
  | false => rw [c1, cond_false] at h; cases h
  | true =>
    rw [c1, cond_true] at h
    cases h
    exact ⟨25, And.intro (jx_in_ok c1) (And.intro (jx_in_ok c1) (And.intro (jx_in_ok c1) (And.intro hQ (And.intro rfl rfl))))⟩
set_option maxRecDepth 20000 in
theorem s_S_addLesson_58 {N d : Nat} {Q : jw_Q} (hd : 0 ≤ d) : ∀ (k : Nat) {x4 : Int32} {x6 : Int32} {x7 : Int32} {u1 : Option Value} {u2 : Option Value} {u3 : Option Value} {u5 : Option Value} {σ : jw_M} {z : (Int32 × jw_M)}, f_S_addLesson_58 N k x4 x6 x7 σ = some z → Q (some (.int z.1)) (jx_ShC, z.2) → ∃ n, jx_W jx_ShC d (some .int) jc_83 Q n 58 [some (.ref 1), u1, u2, u3, some (.int x4), u5, some (.int x6), some (.int x7)] [] σ
  | 0, _, _, _, _, _, _, _, _, _, h, _ => by cases h
  | k + 1, x4, x6, x7, u1, u2, u3, u5, σ, z, h, hQ => by
    rw [f_S_addLesson_58] at h
    by_cases c2 : x4 < x7
    · rw [if_pos c2] at h
      suffices hh : ∃ n, jx_W jx_ShC d (some .int) jc_83 Q n 85 [some (.ref 1), u1, u2, u3, some (.int x4), u5, some (.int x6), some (.int x7)] [] σ by
        obtain ⟨n, hn⟩ := hh
        exact ⟨n + 3, And.intro (fun _ => hn) (fun zz => absurd c2 zz)⟩
      cases h
      exact ⟨2, And.intro hQ (And.intro rfl rfl)⟩
    · rw [if_neg c2] at h
      suffices hh : ∃ n, jx_W jx_ShC d (some .int) jc_83 Q n 65 [some (.ref 1), u1, u2, u3, some (.int x4), u5, some (.int x6), some (.int x7)] [] σ by
        obtain ⟨n, hn⟩ := hh
        exact ⟨n + 3, And.intro (fun zz => absurd zz c2) (fun _ => hn)⟩
      cases c3 : jx_in x7 17 with
      | false => rw [c3, cond_false] at h; cases h
      | true =>
        rw [c3, cond_true] at h
        obtain ⟨n, hn⟩ := s_S_addLesson_58 hd k (u1 := u1) (u2 := u2) (u3 := u3) (u5 := u5) h hQ
        exact ⟨n + 12, And.intro (jx_in_ok c3) (And.intro (jx_in_ok c3) (hn))⟩
set_option maxRecDepth 20000 in
theorem s_S_addLesson {N d : Nat} {x1 : Int32} {x2 : Int32} {x3 : Int32} {x4 : Int32} {x5 : Int32} (hd : 1 ≤ d) {σ : jw_M} {z : (Int32 × jw_M)} {Q : jw_Q} (h : f_S_addLesson N x1 x2 x3 x4 x5 σ = some z) (hQ : Q (some (.int z.1)) (jx_ShC, z.2)) : jw_C jp_kd jp_ys d 83 [.ref 1, .int x1, .int x2, .int x3, .int x4, .int x5] (jx_ShC, σ) Q := by
  obtain ⟨d, rfl⟩ : ∃ e, d = e + 1 := ⟨d - 1, by omega⟩
  replace hd : 0 ≤ d := by omega
  refine jx_C rfl rfl ?_
  unfold f_S_addLesson at h
  cases c1 : jx_in (σ.1 1 5) 8 with
  | false => rw [c1, cond_false] at h; cases h
  | true =>
    rw [c1, cond_true] at h
    obtain ⟨n, hn⟩ := s_S_addLesson_58 hd N (u1 := some (.int x1)) (u2 := some (.int x2)) (u3 := some (.int x3)) (u5 := some (.int x5)) h hQ
    exact ⟨n + 35, And.intro (jx_in_ok c1) (And.intro (jx_in_ok c1) (And.intro (jx_in_ok c1) (And.intro (jx_in_ok c1) (And.intro (jx_in_ok c1) (hn)))))⟩
set_option maxRecDepth 20000 in
theorem s_S_addReport_50 {N d : Nat} {Q : jw_Q} (hd : 0 ≤ d) {x4 : Int32} {x5 : Int32} {r_0 : Nat} {u0 : Option Value} {u1 : Option Value} {u2 : Option Value} {u3 : Option Value} {σ : jw_M} {z : (Int32 × jw_M)} (hr_0 : r_0 = 13 ∨ r_0 = 14 ∨ r_0 = 15 ∨ r_0 = 16 ∨ r_0 = 17 ∨ r_0 = 18) (h : f_S_addReport_50 N x4 x5 r_0 σ = some z) (hQ : Q (some (.int z.1)) (jx_ShC, z.2)) : ∃ n, jx_W jx_ShC d (some .int) jc_84 Q n 50 [u0, u1, u2, u3, some (.int x4), some (.int x5)] [.ref r_0] σ := by
  rcases hr_0 with rfl | rfl | rfl | rfl | rfl | rfl
  · unfold f_S_addReport_50 at h
    cases h
    exact ⟨5, And.intro (jx_in_ok rfl) (And.intro hQ (And.intro rfl rfl))⟩
  · unfold f_S_addReport_50 at h
    cases h
    exact ⟨5, And.intro (jx_in_ok rfl) (And.intro hQ (And.intro rfl rfl))⟩
  · unfold f_S_addReport_50 at h
    cases h
    exact ⟨5, And.intro (jx_in_ok rfl) (And.intro hQ (And.intro rfl rfl))⟩
  · unfold f_S_addReport_50 at h
    cases h
    exact ⟨5, And.intro (jx_in_ok rfl) (And.intro hQ (And.intro rfl rfl))⟩
  · unfold f_S_addReport_50 at h
    cases h
    exact ⟨5, And.intro (jx_in_ok rfl) (And.intro hQ (And.intro rfl rfl))⟩
  · unfold f_S_addReport_50 at h
    cases h
    exact ⟨5, And.intro (jx_in_ok rfl) (And.intro hQ (And.intro rfl rfl))⟩
set_option maxRecDepth 20000 in
theorem s_S_addReport_49 {N d : Nat} {Q : jw_Q} (hd : 0 ≤ d) {x4 : Int32} {x5 : Int32} {y1 : Int32} {u0 : Option Value} {u1 : Option Value} {u2 : Option Value} {u3 : Option Value} {σ : jw_M} {z : (Int32 × jw_M)} (h : f_S_addReport_49 N x4 x5 y1 σ = some z) (hQ : Q (some (.int z.1)) (jx_ShC, z.2)) : ∃ n, jx_W jx_ShC d (some .int) jc_84 Q n 49 [u0, u1, u2, u3, some (.int x4), some (.int x5)] [.int y1, .ref 12] σ := by
  unfold f_S_addReport_49 at h
  cases c4 : jx_in y1 6 with
  | false => rw [c4, cond_false] at h; cases h
  | true =>
    rw [c4, cond_true] at h
    rcases jx_ix6 (jx_in_ok c4) with rfl | rfl | rfl | rfl | rfl | rfl
    · try rw [show (13 + (0 : Int32).toNatClampNeg) = 13 from by decide] at h
      obtain ⟨n, hn⟩ := s_S_addReport_50 hd (u0 := u0) (u1 := u1) (u2 := u2) (u3 := u3) (by decide) h hQ
      exact ⟨n + 1, And.intro (jx_in_ok c4) (hn)⟩
    · try rw [show (13 + (1 : Int32).toNatClampNeg) = 14 from by decide] at h
      obtain ⟨n, hn⟩ := s_S_addReport_50 hd (u0 := u0) (u1 := u1) (u2 := u2) (u3 := u3) (by decide) h hQ
      exact ⟨n + 1, And.intro (jx_in_ok c4) (hn)⟩
    · try rw [show (13 + (2 : Int32).toNatClampNeg) = 15 from by decide] at h
      obtain ⟨n, hn⟩ := s_S_addReport_50 hd (u0 := u0) (u1 := u1) (u2 := u2) (u3 := u3) (by decide) h hQ
      exact ⟨n + 1, And.intro (jx_in_ok c4) (hn)⟩
    · try rw [show (13 + (3 : Int32).toNatClampNeg) = 16 from by decide] at h
      obtain ⟨n, hn⟩ := s_S_addReport_50 hd (u0 := u0) (u1 := u1) (u2 := u2) (u3 := u3) (by decide) h hQ
      exact ⟨n + 1, And.intro (jx_in_ok c4) (hn)⟩
    · try rw [show (13 + (4 : Int32).toNatClampNeg) = 17 from by decide] at h
      obtain ⟨n, hn⟩ := s_S_addReport_50 hd (u0 := u0) (u1 := u1) (u2 := u2) (u3 := u3) (by decide) h hQ
      exact ⟨n + 1, And.intro (jx_in_ok c4) (hn)⟩
    · try rw [show (13 + (5 : Int32).toNatClampNeg) = 18 from by decide] at h
      obtain ⟨n, hn⟩ := s_S_addReport_50 hd (u0 := u0) (u1 := u1) (u2 := u2) (u3 := u3) (by decide) h hQ
      exact ⟨n + 1, And.intro (jx_in_ok c4) (hn)⟩
set_option maxRecDepth 20000 in
theorem s_S_addReport_40 {N d : Nat} {Q : jw_Q} (hd : 0 ≤ d) {x3 : Int32} {x4 : Int32} {x5 : Int32} {r_0 : Nat} {u1 : Option Value} {u2 : Option Value} {σ : jw_M} {z : (Int32 × jw_M)} (hr_0 : r_0 = 13 ∨ r_0 = 14 ∨ r_0 = 15 ∨ r_0 = 16 ∨ r_0 = 17 ∨ r_0 = 18) (h : f_S_addReport_40 N x3 x4 x5 r_0 σ = some z) (hQ : Q (some (.int z.1)) (jx_ShC, z.2)) : ∃ n, jx_W jx_ShC d (some .int) jc_84 Q n 40 [some (.ref 1), u1, u2, some (.int x3), some (.int x4), some (.int x5)] [.ref r_0] σ := by
  rcases hr_0 with rfl | rfl | rfl | rfl | rfl | rfl
  · unfold f_S_addReport_40 at h
    obtain ⟨n, hn⟩ := s_S_addReport_49 hd (u0 := some (.ref 1)) (u1 := u1) (u2 := u2) (u3 := some (.int x3)) h hQ
    exact ⟨n + 6, And.intro (jx_in_ok rfl) (hn)⟩
  · unfold f_S_addReport_40 at h
    obtain ⟨n, hn⟩ := s_S_addReport_49 hd (u0 := some (.ref 1)) (u1 := u1) (u2 := u2) (u3 := some (.int x3)) h hQ
    exact ⟨n + 6, And.intro (jx_in_ok rfl) (hn)⟩
  · unfold f_S_addReport_40 at h
    obtain ⟨n, hn⟩ := s_S_addReport_49 hd (u0 := some (.ref 1)) (u1 := u1) (u2 := u2) (u3 := some (.int x3)) h hQ
    exact ⟨n + 6, And.intro (jx_in_ok rfl) (hn)⟩
  · unfold f_S_addReport_40 at h
    obtain ⟨n, hn⟩ := s_S_addReport_49 hd (u0 := some (.ref 1)) (u1 := u1) (u2 := u2) (u3 := some (.int x3)) h hQ
    exact ⟨n + 6, And.intro (jx_in_ok rfl) (hn)⟩
  · unfold f_S_addReport_40 at h
    obtain ⟨n, hn⟩ := s_S_addReport_49 hd (u0 := some (.ref 1)) (u1 := u1) (u2 := u2) (u3 := some (.int x3)) h hQ
    exact ⟨n + 6, And.intro (jx_in_ok rfl) (hn)⟩
  · unfold f_S_addReport_40 at h
    obtain ⟨n, hn⟩ := s_S_addReport_49 hd (u0 := some (.ref 1)) (u1 := u1) (u2 := u2) (u3 := some (.int x3)) h hQ
    exact ⟨n + 6, And.intro (jx_in_ok rfl) (hn)⟩
set_option maxRecDepth 20000 in
theorem s_S_addReport_39 {N d : Nat} {Q : jw_Q} (hd : 0 ≤ d) {x3 : Int32} {x4 : Int32} {x5 : Int32} {y1 : Int32} {u1 : Option Value} {u2 : Option Value} {σ : jw_M} {z : (Int32 × jw_M)} (h : f_S_addReport_39 N x3 x4 x5 y1 σ = some z) (hQ : Q (some (.int z.1)) (jx_ShC, z.2)) : ∃ n, jx_W jx_ShC d (some .int) jc_84 Q n 39 [some (.ref 1), u1, u2, some (.int x3), some (.int x4), some (.int x5)] [.int y1, .ref 12] σ := by
  unfold f_S_addReport_39 at h
  cases c3 : jx_in y1 6 with
  | false => rw [c3, cond_false] at h; cases h
  | true =>
    rw [c3, cond_true] at h
    rcases jx_ix6 (jx_in_ok c3) with rfl | rfl | rfl | rfl | rfl | rfl
    · try rw [show (13 + (0 : Int32).toNatClampNeg) = 13 from by decide] at h
      obtain ⟨n, hn⟩ := s_S_addReport_40 hd (u1 := u1) (u2 := u2) (by decide) h hQ
      exact ⟨n + 1, And.intro (jx_in_ok c3) (hn)⟩
    · try rw [show (13 + (1 : Int32).toNatClampNeg) = 14 from by decide] at h
      obtain ⟨n, hn⟩ := s_S_addReport_40 hd (u1 := u1) (u2 := u2) (by decide) h hQ
      exact ⟨n + 1, And.intro (jx_in_ok c3) (hn)⟩
    · try rw [show (13 + (2 : Int32).toNatClampNeg) = 15 from by decide] at h
      obtain ⟨n, hn⟩ := s_S_addReport_40 hd (u1 := u1) (u2 := u2) (by decide) h hQ
      exact ⟨n + 1, And.intro (jx_in_ok c3) (hn)⟩
    · try rw [show (13 + (3 : Int32).toNatClampNeg) = 16 from by decide] at h
      obtain ⟨n, hn⟩ := s_S_addReport_40 hd (u1 := u1) (u2 := u2) (by decide) h hQ
      exact ⟨n + 1, And.intro (jx_in_ok c3) (hn)⟩
    · try rw [show (13 + (4 : Int32).toNatClampNeg) = 17 from by decide] at h
      obtain ⟨n, hn⟩ := s_S_addReport_40 hd (u1 := u1) (u2 := u2) (by decide) h hQ
      exact ⟨n + 1, And.intro (jx_in_ok c3) (hn)⟩
    · try rw [show (13 + (5 : Int32).toNatClampNeg) = 18 from by decide] at h
      obtain ⟨n, hn⟩ := s_S_addReport_40 hd (u1 := u1) (u2 := u2) (by decide) h hQ
      exact ⟨n + 1, And.intro (jx_in_ok c3) (hn)⟩
set_option maxRecDepth 20000 in
theorem s_S_addReport_30 {N d : Nat} {Q : jw_Q} (hd : 0 ≤ d) {x2 : Int32} {x3 : Int32} {x4 : Int32} {x5 : Int32} {r_0 : Nat} {u1 : Option Value} {σ : jw_M} {z : (Int32 × jw_M)} (hr_0 : r_0 = 13 ∨ r_0 = 14 ∨ r_0 = 15 ∨ r_0 = 16 ∨ r_0 = 17 ∨ r_0 = 18) (h : f_S_addReport_30 N x2 x3 x4 x5 r_0 σ = some z) (hQ : Q (some (.int z.1)) (jx_ShC, z.2)) : ∃ n, jx_W jx_ShC d (some .int) jc_84 Q n 30 [some (.ref 1), u1, some (.int x2), some (.int x3), some (.int x4), some (.int x5)] [.ref r_0] σ := by
  rcases hr_0 with rfl | rfl | rfl | rfl | rfl | rfl
  · unfold f_S_addReport_30 at h
    obtain ⟨n, hn⟩ := s_S_addReport_39 hd (u1 := u1) (u2 := some (.int x2)) h hQ
    exact ⟨n + 6, And.intro (jx_in_ok rfl) (hn)⟩
  · unfold f_S_addReport_30 at h
    obtain ⟨n, hn⟩ := s_S_addReport_39 hd (u1 := u1) (u2 := some (.int x2)) h hQ
    exact ⟨n + 6, And.intro (jx_in_ok rfl) (hn)⟩
  · unfold f_S_addReport_30 at h
    obtain ⟨n, hn⟩ := s_S_addReport_39 hd (u1 := u1) (u2 := some (.int x2)) h hQ
    exact ⟨n + 6, And.intro (jx_in_ok rfl) (hn)⟩
  · unfold f_S_addReport_30 at h
    obtain ⟨n, hn⟩ := s_S_addReport_39 hd (u1 := u1) (u2 := some (.int x2)) h hQ
    exact ⟨n + 6, And.intro (jx_in_ok rfl) (hn)⟩
  · unfold f_S_addReport_30 at h
    obtain ⟨n, hn⟩ := s_S_addReport_39 hd (u1 := u1) (u2 := some (.int x2)) h hQ
    exact ⟨n + 6, And.intro (jx_in_ok rfl) (hn)⟩
  · unfold f_S_addReport_30 at h
    obtain ⟨n, hn⟩ := s_S_addReport_39 hd (u1 := u1) (u2 := some (.int x2)) h hQ
    exact ⟨n + 6, And.intro (jx_in_ok rfl) (hn)⟩
set_option maxRecDepth 20000 in
theorem s_S_addReport_29 {N d : Nat} {Q : jw_Q} (hd : 0 ≤ d) {x2 : Int32} {x3 : Int32} {x4 : Int32} {x5 : Int32} {y1 : Int32} {u1 : Option Value} {σ : jw_M} {z : (Int32 × jw_M)} (h : f_S_addReport_29 N x2 x3 x4 x5 y1 σ = some z) (hQ : Q (some (.int z.1)) (jx_ShC, z.2)) : ∃ n, jx_W jx_ShC d (some .int) jc_84 Q n 29 [some (.ref 1), u1, some (.int x2), some (.int x3), some (.int x4), some (.int x5)] [.int y1, .ref 12] σ := by
  unfold f_S_addReport_29 at h
  cases c2 : jx_in y1 6 with
  | false => rw [c2, cond_false] at h; cases h
  | true =>
    rw [c2, cond_true] at h
    rcases jx_ix6 (jx_in_ok c2) with rfl | rfl | rfl | rfl | rfl | rfl
    · try rw [show (13 + (0 : Int32).toNatClampNeg) = 13 from by decide] at h
      obtain ⟨n, hn⟩ := s_S_addReport_30 hd (u1 := u1) (by decide) h hQ
      exact ⟨n + 1, And.intro (jx_in_ok c2) (hn)⟩
    · try rw [show (13 + (1 : Int32).toNatClampNeg) = 14 from by decide] at h
      obtain ⟨n, hn⟩ := s_S_addReport_30 hd (u1 := u1) (by decide) h hQ
      exact ⟨n + 1, And.intro (jx_in_ok c2) (hn)⟩
    · try rw [show (13 + (2 : Int32).toNatClampNeg) = 15 from by decide] at h
      obtain ⟨n, hn⟩ := s_S_addReport_30 hd (u1 := u1) (by decide) h hQ
      exact ⟨n + 1, And.intro (jx_in_ok c2) (hn)⟩
    · try rw [show (13 + (3 : Int32).toNatClampNeg) = 16 from by decide] at h
      obtain ⟨n, hn⟩ := s_S_addReport_30 hd (u1 := u1) (by decide) h hQ
      exact ⟨n + 1, And.intro (jx_in_ok c2) (hn)⟩
    · try rw [show (13 + (4 : Int32).toNatClampNeg) = 17 from by decide] at h
      obtain ⟨n, hn⟩ := s_S_addReport_30 hd (u1 := u1) (by decide) h hQ
      exact ⟨n + 1, And.intro (jx_in_ok c2) (hn)⟩
    · try rw [show (13 + (5 : Int32).toNatClampNeg) = 18 from by decide] at h
      obtain ⟨n, hn⟩ := s_S_addReport_30 hd (u1 := u1) (by decide) h hQ
      exact ⟨n + 1, And.intro (jx_in_ok c2) (hn)⟩
set_option maxRecDepth 20000 in
theorem s_S_addReport_20 {N d : Nat} {Q : jw_Q} (hd : 0 ≤ d) {x1 : Int32} {x2 : Int32} {x3 : Int32} {x4 : Int32} {x5 : Int32} {r_0 : Nat} {σ : jw_M} {z : (Int32 × jw_M)} (hr_0 : r_0 = 13 ∨ r_0 = 14 ∨ r_0 = 15 ∨ r_0 = 16 ∨ r_0 = 17 ∨ r_0 = 18) (h : f_S_addReport_20 N x1 x2 x3 x4 x5 r_0 σ = some z) (hQ : Q (some (.int z.1)) (jx_ShC, z.2)) : ∃ n, jx_W jx_ShC d (some .int) jc_84 Q n 20 [some (.ref 1), some (.int x1), some (.int x2), some (.int x3), some (.int x4), some (.int x5)] [.ref r_0] σ := by
  rcases hr_0 with rfl | rfl | rfl | rfl | rfl | rfl
  · unfold f_S_addReport_20 at h
    obtain ⟨n, hn⟩ := s_S_addReport_29 hd (u1 := some (.int x1)) h hQ
    exact ⟨n + 6, And.intro (jx_in_ok rfl) (hn)⟩
  · unfold f_S_addReport_20 at h
    obtain ⟨n, hn⟩ := s_S_addReport_29 hd (u1 := some (.int x1)) h hQ
    exact ⟨n + 6, And.intro (jx_in_ok rfl) (hn)⟩
  · unfold f_S_addReport_20 at h
    obtain ⟨n, hn⟩ := s_S_addReport_29 hd (u1 := some (.int x1)) h hQ
    exact ⟨n + 6, And.intro (jx_in_ok rfl) (hn)⟩
  · unfold f_S_addReport_20 at h
    obtain ⟨n, hn⟩ := s_S_addReport_29 hd (u1 := some (.int x1)) h hQ
    exact ⟨n + 6, And.intro (jx_in_ok rfl) (hn)⟩
  · unfold f_S_addReport_20 at h
    obtain ⟨n, hn⟩ := s_S_addReport_29 hd (u1 := some (.int x1)) h hQ
    exact ⟨n + 6, And.intro (jx_in_ok rfl) (hn)⟩
  · unfold f_S_addReport_20 at h
    obtain ⟨n, hn⟩ := s_S_addReport_29 hd (u1 := some (.int x1)) h hQ
    exact ⟨n + 6, And.intro (jx_in_ok rfl) (hn)⟩
set_option maxRecDepth 20000 in
theorem s_S_addReport_19 {N d : Nat} {Q : jw_Q} (hd : 0 ≤ d) {x1 : Int32} {x2 : Int32} {x3 : Int32} {x4 : Int32} {x5 : Int32} {y1 : Int32} {σ : jw_M} {z : (Int32 × jw_M)} (h : f_S_addReport_19 N x1 x2 x3 x4 x5 y1 σ = some z) (hQ : Q (some (.int z.1)) (jx_ShC, z.2)) : ∃ n, jx_W jx_ShC d (some .int) jc_84 Q n 19 [some (.ref 1), some (.int x1), some (.int x2), some (.int x3), some (.int x4), some (.int x5)] [.int y1, .ref 12] σ := by
  unfold f_S_addReport_19 at h
  cases c1 : jx_in y1 6 with
  | false => rw [c1, cond_false] at h; cases h
  | true =>
    rw [c1, cond_true] at h
    rcases jx_ix6 (jx_in_ok c1) with rfl | rfl | rfl | rfl | rfl | rfl
    · try rw [show (13 + (0 : Int32).toNatClampNeg) = 13 from by decide] at h
      obtain ⟨n, hn⟩ := s_S_addReport_20 hd (by decide) h hQ
      exact ⟨n + 1, And.intro (jx_in_ok c1) (hn)⟩
    · try rw [show (13 + (1 : Int32).toNatClampNeg) = 14 from by decide] at h
      obtain ⟨n, hn⟩ := s_S_addReport_20 hd (by decide) h hQ
      exact ⟨n + 1, And.intro (jx_in_ok c1) (hn)⟩
    · try rw [show (13 + (2 : Int32).toNatClampNeg) = 15 from by decide] at h
      obtain ⟨n, hn⟩ := s_S_addReport_20 hd (by decide) h hQ
      exact ⟨n + 1, And.intro (jx_in_ok c1) (hn)⟩
    · try rw [show (13 + (3 : Int32).toNatClampNeg) = 16 from by decide] at h
      obtain ⟨n, hn⟩ := s_S_addReport_20 hd (by decide) h hQ
      exact ⟨n + 1, And.intro (jx_in_ok c1) (hn)⟩
    · try rw [show (13 + (4 : Int32).toNatClampNeg) = 17 from by decide] at h
      obtain ⟨n, hn⟩ := s_S_addReport_20 hd (by decide) h hQ
      exact ⟨n + 1, And.intro (jx_in_ok c1) (hn)⟩
    · try rw [show (13 + (5 : Int32).toNatClampNeg) = 18 from by decide] at h
      obtain ⟨n, hn⟩ := s_S_addReport_20 hd (by decide) h hQ
      exact ⟨n + 1, And.intro (jx_in_ok c1) (hn)⟩
set_option maxRecDepth 20000 in
theorem s_S_addReport {N d : Nat} {x1 : Int32} {x2 : Int32} {x3 : Int32} {x4 : Int32} (hd : 1 ≤ d) {σ : jw_M} {z : (Int32 × jw_M)} {Q : jw_Q} (h : f_S_addReport N x1 x2 x3 x4 σ = some z) (hQ : Q (some (.int z.1)) (jx_ShC, z.2)) : jw_C jp_kd jp_ys d 84 [.ref 1, .int x1, .int x2, .int x3, .int x4] (jx_ShC, σ) Q := by
  obtain ⟨d, rfl⟩ : ∃ e, d = e + 1 := ⟨d - 1, by omega⟩
  replace hd : 0 ≤ d := by omega
  refine jx_C rfl rfl ?_
  unfold f_S_addReport at h
  obtain ⟨n, hn⟩ := s_S_addReport_19 hd h hQ
  exact ⟨n + 11, hn⟩
