set_option maxRecDepth 20000 in
theorem s_R_copyFrom {N d : Nat} {p0 : Nat} {p1 : Nat} (hd : 3 ≤ d) (hp : (p0 = 19 ∧ p1 = 56) ∨ (p0 = 19 ∧ p1 = 84) ∨ (p0 = 56 ∧ p1 = 19)) {σ : jw_M} {z : jw_M} {Q : jw_Q} (h : f_R_copyFrom N p0 p1 σ = some z) (hQ : Q none (jx_ShC, z)) : jw_C jp_kd jp_ys d 68 [.ref p0, .ref p1] (jx_ShC, σ) Q := by
  obtain ⟨d, rfl⟩ : ∃ e, d = e + 1 := ⟨d - 1, by omega⟩
  replace hd : 2 ≤ d := by omega
  refine jx_C rfl rfl ?_
  rcases hp with ⟨rfl, rfl⟩ | ⟨rfl, rfl⟩ | ⟨rfl, rfl⟩
  · unfold f_R_copyFrom at h
    obtain ⟨z1, h2, h⟩ := Option.bind_eq_some_iff.mp h
    obtain ⟨z3, h4, h⟩ := Option.bind_eq_some_iff.mp h
    obtain ⟨z5, h6, h⟩ := Option.bind_eq_some_iff.mp h
    obtain ⟨z7, h8, h⟩ := Option.bind_eq_some_iff.mp h
    obtain ⟨z9, h10, h⟩ := Option.bind_eq_some_iff.mp h
    obtain ⟨z11, h12, h⟩ := Option.bind_eq_some_iff.mp h
    obtain ⟨z13, h14, h⟩ := Option.bind_eq_some_iff.mp h
    cases h
    exact ⟨48, s_F_copyRow (by omega) rfl rfl h2 (s_F_copyRow (by omega) rfl rfl h4 (s_F_copyRow (by omega) rfl rfl h6 (s_F_copyRow (by omega) rfl rfl h8 (s_F_copyRow (by omega) rfl rfl h10 (s_F_copyRow (by omega) rfl rfl h12 (s_F_copyRow (by omega) rfl rfl h14 (And.intro hQ (And.intro rfl rfl))))))))⟩
  · unfold f_R_copyFrom at h
    obtain ⟨z1, h2, h⟩ := Option.bind_eq_some_iff.mp h
    obtain ⟨z3, h4, h⟩ := Option.bind_eq_some_iff.mp h
    obtain ⟨z5, h6, h⟩ := Option.bind_eq_some_iff.mp h
    obtain ⟨z7, h8, h⟩ := Option.bind_eq_some_iff.mp h
    obtain ⟨z9, h10, h⟩ := Option.bind_eq_some_iff.mp h
    obtain ⟨z11, h12, h⟩ := Option.bind_eq_some_iff.mp h
    obtain ⟨z13, h14, h⟩ := Option.bind_eq_some_iff.mp h
    cases h
    exact ⟨48, s_F_copyRow (by omega) rfl rfl h2 (s_F_copyRow (by omega) rfl rfl h4 (s_F_copyRow (by omega) rfl rfl h6 (s_F_copyRow (by omega) rfl rfl h8 (s_F_copyRow (by omega) rfl rfl h10 (s_F_copyRow (by omega) rfl rfl h12 (s_F_copyRow (by omega) rfl rfl h14 (And.intro hQ (And.intro rfl rfl))))))))⟩
  · unfold f_R_copyFrom at h
    obtain ⟨z1, h2, h⟩ := Option.bind_eq_some_iff.mp h
    obtain ⟨z3, h4, h⟩ := Option.bind_eq_some_iff.mp h
    obtain ⟨z5, h6, h⟩ := Option.bind_eq_some_iff.mp h
    obtain ⟨z7, h8, h⟩ := Option.bind_eq_some_iff.mp h
    obtain ⟨z9, h10, h⟩ := Option.bind_eq_some_iff.mp h
    obtain ⟨z11, h12, h⟩ := Option.bind_eq_some_iff.mp h
    obtain ⟨z13, h14, h⟩ := Option.bind_eq_some_iff.mp h
    cases h
    exact ⟨48, s_F_copyRow (by omega) rfl rfl h2 (s_F_copyRow (by omega) rfl rfl h4 (s_F_copyRow (by omega) rfl rfl h6 (s_F_copyRow (by omega) rfl rfl h8 (s_F_copyRow (by omega) rfl rfl h10 (s_F_copyRow (by omega) rfl rfl h12 (s_F_copyRow (by omega) rfl rfl h14 (And.intro hQ (And.intro rfl rfl))))))))⟩
set_option maxRecDepth 20000 in
theorem s_S_copyFrom_1_38_153 {N d : Nat} {Q : jw_Q} {K136 : Int32 → jw_M → Option jw_M} (hd : 3 ≤ d) (hK136 : ∀ {x2 : Int32} {σ : jw_M} {z : jw_M}, K136 x2 σ = some z → Q none (jx_ShC, z) → ∃ n, jx_W jx_ShC d none jc_77 Q n 136 [some (.ref 1), some (.ref 38), some (.int x2)] [] σ) {x2 : Int32} {r_0 : Nat} {y2 : Int32} {σ : jw_M} {z : jw_M} (hr_0 : r_0 = 50 ∨ r_0 = 51 ∨ r_0 = 52 ∨ r_0 = 53 ∨ r_0 = 54 ∨ r_0 = 55) (h : f_S_copyFrom_1_38_153 N K136 x2 r_0 y2 σ = some z) (hQ : Q none (jx_ShC, z)) : ∃ n, jx_W jx_ShC d none jc_77 Q n 153 [some (.ref 1), some (.ref 38), some (.int x2)] [.int y2, .ref 12, .ref r_0] σ := by
  rcases hr_0 with rfl | rfl | rfl | rfl | rfl | rfl
  · unfold f_S_copyFrom_1_38_153 at h
    cases c27 : jx_in y2 6 with
    | false => rw [c27, cond_false] at h; cases h
    | true =>
      rw [c27, cond_true] at h
      rcases jx_ix6 (jx_in_ok c27) with rfl | rfl | rfl | rfl | rfl | rfl
      · try rw [show (13 + (0 : Int32).toNatClampNeg) = 13 from by decide] at h
        obtain ⟨z28, h29, h⟩ := Option.bind_eq_some_iff.mp h
        obtain ⟨n, hn⟩ := hK136 h hQ
        exact ⟨n + 4, And.intro (jx_in_ok c27) (s_F_copyRow (by omega) rfl rfl h29 (hn))⟩
      · try rw [show (13 + (1 : Int32).toNatClampNeg) = 14 from by decide] at h
        obtain ⟨z28, h29, h⟩ := Option.bind_eq_some_iff.mp h
        obtain ⟨n, hn⟩ := hK136 h hQ
        exact ⟨n + 4, And.intro (jx_in_ok c27) (s_F_copyRow (by omega) rfl rfl h29 (hn))⟩
      · try rw [show (13 + (2 : Int32).toNatClampNeg) = 15 from by decide] at h
        obtain ⟨z28, h29, h⟩ := Option.bind_eq_some_iff.mp h
        obtain ⟨n, hn⟩ := hK136 h hQ
        exact ⟨n + 4, And.intro (jx_in_ok c27) (s_F_copyRow (by omega) rfl rfl h29 (hn))⟩
      · try rw [show (13 + (3 : Int32).toNatClampNeg) = 16 from by decide] at h
        obtain ⟨z28, h29, h⟩ := Option.bind_eq_some_iff.mp h
        obtain ⟨n, hn⟩ := hK136 h hQ
        exact ⟨n + 4, And.intro (jx_in_ok c27) (s_F_copyRow (by omega) rfl rfl h29 (hn))⟩
      · try rw [show (13 + (4 : Int32).toNatClampNeg) = 17 from by decide] at h
        obtain ⟨z28, h29, h⟩ := Option.bind_eq_some_iff.mp h
        obtain ⟨n, hn⟩ := hK136 h hQ
        exact ⟨n + 4, And.intro (jx_in_ok c27) (s_F_copyRow (by omega) rfl rfl h29 (hn))⟩
      · try rw [show (13 + (5 : Int32).toNatClampNeg) = 18 from by decide] at h
        obtain ⟨z28, h29, h⟩ := Option.bind_eq_some_iff.mp h
        obtain ⟨n, hn⟩ := hK136 h hQ
        exact ⟨n + 4, And.intro (jx_in_ok c27) (s_F_copyRow (by omega) rfl rfl h29 (hn))⟩
  · unfold f_S_copyFrom_1_38_153 at h
    cases c27 : jx_in y2 6 with
    | false => rw [c27, cond_false] at h; cases h
    | true =>
      rw [c27, cond_true] at h
      rcases jx_ix6 (jx_in_ok c27) with rfl | rfl | rfl | rfl | rfl | rfl
      · try rw [show (13 + (0 : Int32).toNatClampNeg) = 13 from by decide] at h
        obtain ⟨z28, h29, h⟩ := Option.bind_eq_some_iff.mp h
        obtain ⟨n, hn⟩ := hK136 h hQ
        exact ⟨n + 4, And.intro (jx_in_ok c27) (s_F_copyRow (by omega) rfl rfl h29 (hn))⟩
      · try rw [show (13 + (1 : Int32).toNatClampNeg) = 14 from by decide] at h
        obtain ⟨z28, h29, h⟩ := Option.bind_eq_some_iff.mp h
        obtain ⟨n, hn⟩ := hK136 h hQ
        exact ⟨n + 4, And.intro (jx_in_ok c27) (s_F_copyRow (by omega) rfl rfl h29 (hn))⟩
      · try rw [show (13 + (2 : Int32).toNatClampNeg) = 15 from by decide] at h
        obtain ⟨z28, h29, h⟩ := Option.bind_eq_some_iff.mp h
        obtain ⟨n, hn⟩ := hK136 h hQ
        exact ⟨n + 4, And.intro (jx_in_ok c27) (s_F_copyRow (by omega) rfl rfl h29 (hn))⟩
      · try rw [show (13 + (3 : Int32).toNatClampNeg) = 16 from by decide] at h
        obtain ⟨z28, h29, h⟩ := Option.bind_eq_some_iff.mp h
        obtain ⟨n, hn⟩ := hK136 h hQ
        exact ⟨n + 4, And.intro (jx_in_ok c27) (s_F_copyRow (by omega) rfl rfl h29 (hn))⟩
      · try rw [show (13 + (4 : Int32).toNatClampNeg) = 17 from by decide] at h
        obtain ⟨z28, h29, h⟩ := Option.bind_eq_some_iff.mp h
        obtain ⟨n, hn⟩ := hK136 h hQ
        exact ⟨n + 4, And.intro (jx_in_ok c27) (s_F_copyRow (by omega) rfl rfl h29 (hn))⟩
      · try rw [show (13 + (5 : Int32).toNatClampNeg) = 18 from by decide] at h
        obtain ⟨z28, h29, h⟩ := Option.bind_eq_some_iff.mp h
        obtain ⟨n, hn⟩ := hK136 h hQ
        exact ⟨n + 4, And.intro (jx_in_ok c27) (s_F_copyRow (by omega) rfl rfl h29 (hn))⟩
  · unfold f_S_copyFrom_1_38_153 at h
    cases c27 : jx_in y2 6 with
    | false => rw [c27, cond_false] at h; cases h
    | true =>
      rw [c27, cond_true] at h
      rcases jx_ix6 (jx_in_ok c27) with rfl | rfl | rfl | rfl | rfl | rfl
      · try rw [show (13 + (0 : Int32).toNatClampNeg) = 13 from by decide] at h
        obtain ⟨z28, h29, h⟩ := Option.bind_eq_some_iff.mp h
        obtain ⟨n, hn⟩ := hK136 h hQ
        exact ⟨n + 4, And.intro (jx_in_ok c27) (s_F_copyRow (by omega) rfl rfl h29 (hn))⟩
      · try rw [show (13 + (1 : Int32).toNatClampNeg) = 14 from by decide] at h
        obtain ⟨z28, h29, h⟩ := Option.bind_eq_some_iff.mp h
        obtain ⟨n, hn⟩ := hK136 h hQ
        exact ⟨n + 4, And.intro (jx_in_ok c27) (s_F_copyRow (by omega) rfl rfl h29 (hn))⟩
      · try rw [show (13 + (2 : Int32).toNatClampNeg) = 15 from by decide] at h
        obtain ⟨z28, h29, h⟩ := Option.bind_eq_some_iff.mp h
        obtain ⟨n, hn⟩ := hK136 h hQ
        exact ⟨n + 4, And.intro (jx_in_ok c27) (s_F_copyRow (by omega) rfl rfl h29 (hn))⟩
      · try rw [show (13 + (3 : Int32).toNatClampNeg) = 16 from by decide] at h
        obtain ⟨z28, h29, h⟩ := Option.bind_eq_some_iff.mp h
        obtain ⟨n, hn⟩ := hK136 h hQ
        exact ⟨n + 4, And.intro (jx_in_ok c27) (s_F_copyRow (by omega) rfl rfl h29 (hn))⟩
      · try rw [show (13 + (4 : Int32).toNatClampNeg) = 17 from by decide] at h
        obtain ⟨z28, h29, h⟩ := Option.bind_eq_some_iff.mp h
        obtain ⟨n, hn⟩ := hK136 h hQ
        exact ⟨n + 4, And.intro (jx_in_ok c27) (s_F_copyRow (by omega) rfl rfl h29 (hn))⟩
      · try rw [show (13 + (5 : Int32).toNatClampNeg) = 18 from by decide] at h
        obtain ⟨z28, h29, h⟩ := Option.bind_eq_some_iff.mp h
        obtain ⟨n, hn⟩ := hK136 h hQ
        exact ⟨n + 4, And.intro (jx_in_ok c27) (s_F_copyRow (by omega) rfl rfl h29 (hn))⟩
  · unfold f_S_copyFrom_1_38_153 at h
    cases c27 : jx_in y2 6 with
    | false => rw [c27, cond_false] at h; cases h
    | true =>
      rw [c27, cond_true] at h
      rcases jx_ix6 (jx_in_ok c27) with rfl | rfl | rfl | rfl | rfl | rfl
      · try rw [show (13 + (0 : Int32).toNatClampNeg) = 13 from by decide] at h
        obtain ⟨z28, h29, h⟩ := Option.bind_eq_some_iff.mp h
        obtain ⟨n, hn⟩ := hK136 h hQ
        exact ⟨n + 4, And.intro (jx_in_ok c27) (s_F_copyRow (by omega) rfl rfl h29 (hn))⟩
      · try rw [show (13 + (1 : Int32).toNatClampNeg) = 14 from by decide] at h
        obtain ⟨z28, h29, h⟩ := Option.bind_eq_some_iff.mp h
        obtain ⟨n, hn⟩ := hK136 h hQ
        exact ⟨n + 4, And.intro (jx_in_ok c27) (s_F_copyRow (by omega) rfl rfl h29 (hn))⟩
      · try rw [show (13 + (2 : Int32).toNatClampNeg) = 15 from by decide] at h
        obtain ⟨z28, h29, h⟩ := Option.bind_eq_some_iff.mp h
        obtain ⟨n, hn⟩ := hK136 h hQ
        exact ⟨n + 4, And.intro (jx_in_ok c27) (s_F_copyRow (by omega) rfl rfl h29 (hn))⟩
      · try rw [show (13 + (3 : Int32).toNatClampNeg) = 16 from by decide] at h
        obtain ⟨z28, h29, h⟩ := Option.bind_eq_some_iff.mp h
        obtain ⟨n, hn⟩ := hK136 h hQ
        exact ⟨n + 4, And.intro (jx_in_ok c27) (s_F_copyRow (by omega) rfl rfl h29 (hn))⟩
      · try rw [show (13 + (4 : Int32).toNatClampNeg) = 17 from by decide] at h
        obtain ⟨z28, h29, h⟩ := Option.bind_eq_some_iff.mp h
        obtain ⟨n, hn⟩ := hK136 h hQ
        exact ⟨n + 4, And.intro (jx_in_ok c27) (s_F_copyRow (by omega) rfl rfl h29 (hn))⟩
      · try rw [show (13 + (5 : Int32).toNatClampNeg) = 18 from by decide] at h
        obtain ⟨z28, h29, h⟩ := Option.bind_eq_some_iff.mp h
        obtain ⟨n, hn⟩ := hK136 h hQ
        exact ⟨n + 4, And.intro (jx_in_ok c27) (s_F_copyRow (by omega) rfl rfl h29 (hn))⟩
  · unfold f_S_copyFrom_1_38_153 at h
    cases c27 : jx_in y2 6 with
    | false => rw [c27, cond_false] at h; cases h
    | true =>
      rw [c27, cond_true] at h
      rcases jx_ix6 (jx_in_ok c27) with rfl | rfl | rfl | rfl | rfl | rfl
      · try rw [show (13 + (0 : Int32).toNatClampNeg) = 13 from by decide] at h
        obtain ⟨z28, h29, h⟩ := Option.bind_eq_some_iff.mp h
        obtain ⟨n, hn⟩ := hK136 h hQ
        exact ⟨n + 4, And.intro (jx_in_ok c27) (s_F_copyRow (by omega) rfl rfl h29 (hn))⟩
      · try rw [show (13 + (1 : Int32).toNatClampNeg) = 14 from by decide] at h
        obtain ⟨z28, h29, h⟩ := Option.bind_eq_some_iff.mp h
        obtain ⟨n, hn⟩ := hK136 h hQ
        exact ⟨n + 4, And.intro (jx_in_ok c27) (s_F_copyRow (by omega) rfl rfl h29 (hn))⟩
      · try rw [show (13 + (2 : Int32).toNatClampNeg) = 15 from by decide] at h
        obtain ⟨z28, h29, h⟩ := Option.bind_eq_some_iff.mp h
        obtain ⟨n, hn⟩ := hK136 h hQ
        exact ⟨n + 4, And.intro (jx_in_ok c27) (s_F_copyRow (by omega) rfl rfl h29 (hn))⟩
      · try rw [show (13 + (3 : Int32).toNatClampNeg) = 16 from by decide] at h
        obtain ⟨z28, h29, h⟩ := Option.bind_eq_some_iff.mp h
        obtain ⟨n, hn⟩ := hK136 h hQ
        exact ⟨n + 4, And.intro (jx_in_ok c27) (s_F_copyRow (by omega) rfl rfl h29 (hn))⟩
      · try rw [show (13 + (4 : Int32).toNatClampNeg) = 17 from by decide] at h
        obtain ⟨z28, h29, h⟩ := Option.bind_eq_some_iff.mp h
        obtain ⟨n, hn⟩ := hK136 h hQ
        exact ⟨n + 4, And.intro (jx_in_ok c27) (s_F_copyRow (by omega) rfl rfl h29 (hn))⟩
      · try rw [show (13 + (5 : Int32).toNatClampNeg) = 18 from by decide] at h
        obtain ⟨z28, h29, h⟩ := Option.bind_eq_some_iff.mp h
        obtain ⟨n, hn⟩ := hK136 h hQ
        exact ⟨n + 4, And.intro (jx_in_ok c27) (s_F_copyRow (by omega) rfl rfl h29 (hn))⟩
  · unfold f_S_copyFrom_1_38_153 at h
    cases c27 : jx_in y2 6 with
    | false => rw [c27, cond_false] at h; cases h
    | true =>
      rw [c27, cond_true] at h
      rcases jx_ix6 (jx_in_ok c27) with rfl | rfl | rfl | rfl | rfl | rfl
      · try rw [show (13 + (0 : Int32).toNatClampNeg) = 13 from by decide] at h
        obtain ⟨z28, h29, h⟩ := Option.bind_eq_some_iff.mp h
        obtain ⟨n, hn⟩ := hK136 h hQ
        exact ⟨n + 4, And.intro (jx_in_ok c27) (s_F_copyRow (by omega) rfl rfl h29 (hn))⟩
      · try rw [show (13 + (1 : Int32).toNatClampNeg) = 14 from by decide] at h
        obtain ⟨z28, h29, h⟩ := Option.bind_eq_some_iff.mp h
        obtain ⟨n, hn⟩ := hK136 h hQ
        exact ⟨n + 4, And.intro (jx_in_ok c27) (s_F_copyRow (by omega) rfl rfl h29 (hn))⟩
      · try rw [show (13 + (2 : Int32).toNatClampNeg) = 15 from by decide] at h
        obtain ⟨z28, h29, h⟩ := Option.bind_eq_some_iff.mp h
        obtain ⟨n, hn⟩ := hK136 h hQ
        exact ⟨n + 4, And.intro (jx_in_ok c27) (s_F_copyRow (by omega) rfl rfl h29 (hn))⟩
      · try rw [show (13 + (3 : Int32).toNatClampNeg) = 16 from by decide] at h
        obtain ⟨z28, h29, h⟩ := Option.bind_eq_some_iff.mp h
        obtain ⟨n, hn⟩ := hK136 h hQ
        exact ⟨n + 4, And.intro (jx_in_ok c27) (s_F_copyRow (by omega) rfl rfl h29 (hn))⟩
      · try rw [show (13 + (4 : Int32).toNatClampNeg) = 17 from by decide] at h
        obtain ⟨z28, h29, h⟩ := Option.bind_eq_some_iff.mp h
        obtain ⟨n, hn⟩ := hK136 h hQ
        exact ⟨n + 4, And.intro (jx_in_ok c27) (s_F_copyRow (by omega) rfl rfl h29 (hn))⟩
      · try rw [show (13 + (5 : Int32).toNatClampNeg) = 18 from by decide] at h
        obtain ⟨z28, h29, h⟩ := Option.bind_eq_some_iff.mp h
        obtain ⟨n, hn⟩ := hK136 h hQ
        exact ⟨n + 4, And.intro (jx_in_ok c27) (s_F_copyRow (by omega) rfl rfl h29 (hn))⟩
set_option maxRecDepth 20000 in
theorem s_S_copyFrom_1_38_147 {N d : Nat} {Q : jw_Q} {K136 : Int32 → jw_M → Option jw_M} (hd : 3 ≤ d) (hK136 : ∀ {x2 : Int32} {σ : jw_M} {z : jw_M}, K136 x2 σ = some z → Q none (jx_ShC, z) → ∃ n, jx_W jx_ShC d none jc_77 Q n 136 [some (.ref 1), some (.ref 38), some (.int x2)] [] σ) {x2 : Int32} {y1 : Int32} {σ : jw_M} {z : jw_M} (h : f_S_copyFrom_1_38_147 N K136 x2 y1 σ = some z) (hQ : Q none (jx_ShC, z)) : ∃ n, jx_W jx_ShC d none jc_77 Q n 147 [some (.ref 1), some (.ref 38), some (.int x2)] [.int y1, .ref 49] σ := by
  unfold f_S_copyFrom_1_38_147 at h
  cases c26 : jx_in y1 6 with
  | false => rw [c26, cond_false] at h; cases h
  | true =>
    rw [c26, cond_true] at h
    rcases jx_ix6 (jx_in_ok c26) with rfl | rfl | rfl | rfl | rfl | rfl
    · try rw [show (50 + (0 : Int32).toNatClampNeg) = 50 from by decide] at h
      obtain ⟨n, hn⟩ := s_S_copyFrom_1_38_153 hd hK136 (by decide) h hQ
      exact ⟨n + 4, And.intro (jx_in_ok c26) (hn)⟩
    · try rw [show (50 + (1 : Int32).toNatClampNeg) = 51 from by decide] at h
      obtain ⟨n, hn⟩ := s_S_copyFrom_1_38_153 hd hK136 (by decide) h hQ
      exact ⟨n + 4, And.intro (jx_in_ok c26) (hn)⟩
    · try rw [show (50 + (2 : Int32).toNatClampNeg) = 52 from by decide] at h
      obtain ⟨n, hn⟩ := s_S_copyFrom_1_38_153 hd hK136 (by decide) h hQ
      exact ⟨n + 4, And.intro (jx_in_ok c26) (hn)⟩
    · try rw [show (50 + (3 : Int32).toNatClampNeg) = 53 from by decide] at h
      obtain ⟨n, hn⟩ := s_S_copyFrom_1_38_153 hd hK136 (by decide) h hQ
      exact ⟨n + 4, And.intro (jx_in_ok c26) (hn)⟩
    · try rw [show (50 + (4 : Int32).toNatClampNeg) = 54 from by decide] at h
      obtain ⟨n, hn⟩ := s_S_copyFrom_1_38_153 hd hK136 (by decide) h hQ
      exact ⟨n + 4, And.intro (jx_in_ok c26) (hn)⟩
    · try rw [show (50 + (5 : Int32).toNatClampNeg) = 55 from by decide] at h
      obtain ⟨n, hn⟩ := s_S_copyFrom_1_38_153 hd hK136 (by decide) h hQ
      exact ⟨n + 4, And.intro (jx_in_ok c26) (hn)⟩
set_option maxRecDepth 20000 in
theorem s_S_copyFrom_1_38_136 {N d : Nat} {Q : jw_Q} (hd : 3 ≤ d) : ∀ (k : Nat) {x2 : Int32} {σ : jw_M} {z : jw_M}, f_S_copyFrom_1_38_136 N k x2 σ = some z → Q none (jx_ShC, z) → ∃ n, jx_W jx_ShC d none jc_77 Q n 136 [some (.ref 1), some (.ref 38), some (.int x2)] [] σ
  | 0, _, _, _, h, _ => by cases h
  | k + 1, x2, σ, z, h, hQ => by
    rw [f_S_copyFrom_1_38_136] at h
    by_cases c21 : 6 ≤ x2
    · rw [if_pos c21] at h
      suffices hh : ∃ n, jx_W jx_ShC d none jc_77 Q n 163 [some (.ref 1), some (.ref 38), some (.int x2)] [] σ by
        obtain ⟨n, hn⟩ := hh
        exact ⟨n + 3, And.intro (fun _ => hn) (fun zz => absurd c21 zz)⟩
      obtain ⟨z22, h23, h⟩ := Option.bind_eq_some_iff.mp h
      obtain ⟨z24, h25, h⟩ := Option.bind_eq_some_iff.mp h
      cases h
      exact ⟨19, s_R_copyFrom (by omega) (by decide) h23 (s_P_copyFrom (by omega) (by decide) h25 (And.intro hQ (And.intro rfl rfl)))⟩
    · rw [if_neg c21] at h
      suffices hh : ∃ n, jx_W jx_ShC d none jc_77 Q n 142 [some (.ref 1), some (.ref 38), some (.int x2)] [] σ by
        obtain ⟨n, hn⟩ := hh
        exact ⟨n + 3, And.intro (fun zz => absurd zz c21) (fun _ => hn)⟩
      obtain ⟨n, hn⟩ := s_S_copyFrom_1_38_147 hd (s_S_copyFrom_1_38_136 hd k) h hQ
      exact ⟨n + 3, hn⟩
set_option maxRecDepth 20000 in
theorem s_S_copyFrom_1_38 {N d : Nat} (hd : 4 ≤ d) {σ : jw_M} {z : jw_M} {Q : jw_Q} (h : f_S_copyFrom_1_38 N  σ = some z) (hQ : Q none (jx_ShC, z)) : jw_C jp_kd jp_ys d 77 [.ref 1, .ref 38] (jx_ShC, σ) Q := by
  obtain ⟨d, rfl⟩ : ∃ e, d = e + 1 := ⟨d - 1, by omega⟩
  replace hd : 3 ≤ d := by omega
  refine jx_C rfl rfl ?_
  unfold f_S_copyFrom_1_38 at h
  obtain ⟨z1, h2, h⟩ := Option.bind_eq_some_iff.mp h
  obtain ⟨z3, h4, h⟩ := Option.bind_eq_some_iff.mp h
  obtain ⟨z5, h6, h⟩ := Option.bind_eq_some_iff.mp h
  obtain ⟨z7, h8, h⟩ := Option.bind_eq_some_iff.mp h
  obtain ⟨z9, h10, h⟩ := Option.bind_eq_some_iff.mp h
  obtain ⟨z11, h12, h⟩ := Option.bind_eq_some_iff.mp h
  obtain ⟨z13, h14, h⟩ := Option.bind_eq_some_iff.mp h
  obtain ⟨z15, h16, h⟩ := Option.bind_eq_some_iff.mp h
  obtain ⟨z17, h18, h⟩ := Option.bind_eq_some_iff.mp h
  obtain ⟨z19, h20, h⟩ := Option.bind_eq_some_iff.mp h
  obtain ⟨n, hn⟩ := s_S_copyFrom_1_38_136 hd N h hQ
  exact ⟨n + 64, s_F_copyRow (by omega) rfl rfl h2 (s_F_copyRow (by omega) rfl rfl h4 (s_F_copyRow (by omega) rfl rfl h6 (s_F_copyRow (by omega) rfl rfl h8 (s_F_copyRow (by omega) rfl rfl h10 (s_F_copyRow (by omega) rfl rfl h12 (s_F_copyRow (by omega) rfl rfl h14 (s_F_copyRow (by omega) rfl rfl h16 (s_F_copyRow (by omega) rfl rfl h18 (s_F_copyRow (by omega) rfl rfl h20 (hn))))))))))⟩
set_option maxRecDepth 20000 in
theorem s_S_copyFrom_38_1_153 {N d : Nat} {Q : jw_Q} {K136 : Int32 → jw_M → Option jw_M} (hd : 3 ≤ d) (hK136 : ∀ {x2 : Int32} {σ : jw_M} {z : jw_M}, K136 x2 σ = some z → Q none (jx_ShC, z) → ∃ n, jx_W jx_ShC d none jc_77 Q n 136 [some (.ref 38), some (.ref 1), some (.int x2)] [] σ) {x2 : Int32} {r_0 : Nat} {y2 : Int32} {σ : jw_M} {z : jw_M} (hr_0 : r_0 = 13 ∨ r_0 = 14 ∨ r_0 = 15 ∨ r_0 = 16 ∨ r_0 = 17 ∨ r_0 = 18) (h : f_S_copyFrom_38_1_153 N K136 x2 r_0 y2 σ = some z) (hQ : Q none (jx_ShC, z)) : ∃ n, jx_W jx_ShC d none jc_77 Q n 153 [some (.ref 38), some (.ref 1), some (.int x2)] [.int y2, .ref 49, .ref r_0] σ := by
  rcases hr_0 with rfl | rfl | rfl | rfl | rfl | rfl
  · unfold f_S_copyFrom_38_1_153 at h
    cases c27 : jx_in y2 6 with
    | false => rw [c27, cond_false] at h; cases h
    | true =>
      rw [c27, cond_true] at h
      rcases jx_ix6 (jx_in_ok c27) with rfl | rfl | rfl | rfl | rfl | rfl
      · try rw [show (50 + (0 : Int32).toNatClampNeg) = 50 from by decide] at h
        obtain ⟨z28, h29, h⟩ := Option.bind_eq_some_iff.mp h
        obtain ⟨n, hn⟩ := hK136 h hQ
        exact ⟨n + 4, And.intro (jx_in_ok c27) (s_F_copyRow (by omega) rfl rfl h29 (hn))⟩
      · try rw [show (50 + (1 : Int32).toNatClampNeg) = 51 from by decide] at h
        obtain ⟨z28, h29, h⟩ := Option.bind_eq_some_iff.mp h
        obtain ⟨n, hn⟩ := hK136 h hQ
        exact ⟨n + 4, And.intro (jx_in_ok c27) (s_F_copyRow (by omega) rfl rfl h29 (hn))⟩
      · try rw [show (50 + (2 : Int32).toNatClampNeg) = 52 from by decide] at h
        obtain ⟨z28, h29, h⟩ := Option.bind_eq_some_iff.mp h
        obtain ⟨n, hn⟩ := hK136 h hQ
        exact ⟨n + 4, And.intro (jx_in_ok c27) (s_F_copyRow (by omega) rfl rfl h29 (hn))⟩
      · try rw [show (50 + (3 : Int32).toNatClampNeg) = 53 from by decide] at h
        obtain ⟨z28, h29, h⟩ := Option.bind_eq_some_iff.mp h
        obtain ⟨n, hn⟩ := hK136 h hQ
        exact ⟨n + 4, And.intro (jx_in_ok c27) (s_F_copyRow (by omega) rfl rfl h29 (hn))⟩
      · try rw [show (50 + (4 : Int32).toNatClampNeg) = 54 from by decide] at h
        obtain ⟨z28, h29, h⟩ := Option.bind_eq_some_iff.mp h
        obtain ⟨n, hn⟩ := hK136 h hQ
        exact ⟨n + 4, And.intro (jx_in_ok c27) (s_F_copyRow (by omega) rfl rfl h29 (hn))⟩
      · try rw [show (50 + (5 : Int32).toNatClampNeg) = 55 from by decide] at h
        obtain ⟨z28, h29, h⟩ := Option.bind_eq_some_iff.mp h
        obtain ⟨n, hn⟩ := hK136 h hQ
        exact ⟨n + 4, And.intro (jx_in_ok c27) (s_F_copyRow (by omega) rfl rfl h29 (hn))⟩
  · unfold f_S_copyFrom_38_1_153 at h
    cases c27 : jx_in y2 6 with
    | false => rw [c27, cond_false] at h; cases h
    | true =>
      rw [c27, cond_true] at h
      rcases jx_ix6 (jx_in_ok c27) with rfl | rfl | rfl | rfl | rfl | rfl
      · try rw [show (50 + (0 : Int32).toNatClampNeg) = 50 from by decide] at h
        obtain ⟨z28, h29, h⟩ := Option.bind_eq_some_iff.mp h
        obtain ⟨n, hn⟩ := hK136 h hQ
        exact ⟨n + 4, And.intro (jx_in_ok c27) (s_F_copyRow (by omega) rfl rfl h29 (hn))⟩
      · try rw [show (50 + (1 : Int32).toNatClampNeg) = 51 from by decide] at h
        obtain ⟨z28, h29, h⟩ := Option.bind_eq_some_iff.mp h
        obtain ⟨n, hn⟩ := hK136 h hQ
        exact ⟨n + 4, And.intro (jx_in_ok c27) (s_F_copyRow (by omega) rfl rfl h29 (hn))⟩
      · try rw [show (50 + (2 : Int32).toNatClampNeg) = 52 from by decide] at h
        obtain ⟨z28, h29, h⟩ := Option.bind_eq_some_iff.mp h
        obtain ⟨n, hn⟩ := hK136 h hQ
        exact ⟨n + 4, And.intro (jx_in_ok c27) (s_F_copyRow (by omega) rfl rfl h29 (hn))⟩
      · try rw [show (50 + (3 : Int32).toNatClampNeg) = 53 from by decide] at h
        obtain ⟨z28, h29, h⟩ := Option.bind_eq_some_iff.mp h
        obtain ⟨n, hn⟩ := hK136 h hQ
        exact ⟨n + 4, And.intro (jx_in_ok c27) (s_F_copyRow (by omega) rfl rfl h29 (hn))⟩
      · try rw [show (50 + (4 : Int32).toNatClampNeg) = 54 from by decide] at h
        obtain ⟨z28, h29, h⟩ := Option.bind_eq_some_iff.mp h
        obtain ⟨n, hn⟩ := hK136 h hQ
        exact ⟨n + 4, And.intro (jx_in_ok c27) (s_F_copyRow (by omega) rfl rfl h29 (hn))⟩
      · try rw [show (50 + (5 : Int32).toNatClampNeg) = 55 from by decide] at h
        obtain ⟨z28, h29, h⟩ := Option.bind_eq_some_iff.mp h
        obtain ⟨n, hn⟩ := hK136 h hQ
        exact ⟨n + 4, And.intro (jx_in_ok c27) (s_F_copyRow (by omega) rfl rfl h29 (hn))⟩
  · unfold f_S_copyFrom_38_1_153 at h
    cases c27 : jx_in y2 6 with
    | false => rw [c27, cond_false] at h; cases h
    | true =>
      rw [c27, cond_true] at h
      rcases jx_ix6 (jx_in_ok c27) with rfl | rfl | rfl | rfl | rfl | rfl
      · try rw [show (50 + (0 : Int32).toNatClampNeg) = 50 from by decide] at h
        obtain ⟨z28, h29, h⟩ := Option.bind_eq_some_iff.mp h
        obtain ⟨n, hn⟩ := hK136 h hQ
        exact ⟨n + 4, And.intro (jx_in_ok c27) (s_F_copyRow (by omega) rfl rfl h29 (hn))⟩
      · try rw [show (50 + (1 : Int32).toNatClampNeg) = 51 from by decide] at h
        obtain ⟨z28, h29, h⟩ := Option.bind_eq_some_iff.mp h
        obtain ⟨n, hn⟩ := hK136 h hQ
        exact ⟨n + 4, And.intro (jx_in_ok c27) (s_F_copyRow (by omega) rfl rfl h29 (hn))⟩
      · try rw [show (50 + (2 : Int32).toNatClampNeg) = 52 from by decide] at h
        obtain ⟨z28, h29, h⟩ := Option.bind_eq_some_iff.mp h
        obtain ⟨n, hn⟩ := hK136 h hQ
        exact ⟨n + 4, And.intro (jx_in_ok c27) (s_F_copyRow (by omega) rfl rfl h29 (hn))⟩
      · try rw [show (50 + (3 : Int32).toNatClampNeg) = 53 from by decide] at h
        obtain ⟨z28, h29, h⟩ := Option.bind_eq_some_iff.mp h
        obtain ⟨n, hn⟩ := hK136 h hQ
        exact ⟨n + 4, And.intro (jx_in_ok c27) (s_F_copyRow (by omega) rfl rfl h29 (hn))⟩
      · try rw [show (50 + (4 : Int32).toNatClampNeg) = 54 from by decide] at h
        obtain ⟨z28, h29, h⟩ := Option.bind_eq_some_iff.mp h
        obtain ⟨n, hn⟩ := hK136 h hQ
        exact ⟨n + 4, And.intro (jx_in_ok c27) (s_F_copyRow (by omega) rfl rfl h29 (hn))⟩
      · try rw [show (50 + (5 : Int32).toNatClampNeg) = 55 from by decide] at h
        obtain ⟨z28, h29, h⟩ := Option.bind_eq_some_iff.mp h
        obtain ⟨n, hn⟩ := hK136 h hQ
        exact ⟨n + 4, And.intro (jx_in_ok c27) (s_F_copyRow (by omega) rfl rfl h29 (hn))⟩
  · unfold f_S_copyFrom_38_1_153 at h
    cases c27 : jx_in y2 6 with
    | false => rw [c27, cond_false] at h; cases h
    | true =>
      rw [c27, cond_true] at h
      rcases jx_ix6 (jx_in_ok c27) with rfl | rfl | rfl | rfl | rfl | rfl
      · try rw [show (50 + (0 : Int32).toNatClampNeg) = 50 from by decide] at h
        obtain ⟨z28, h29, h⟩ := Option.bind_eq_some_iff.mp h
        obtain ⟨n, hn⟩ := hK136 h hQ
        exact ⟨n + 4, And.intro (jx_in_ok c27) (s_F_copyRow (by omega) rfl rfl h29 (hn))⟩
      · try rw [show (50 + (1 : Int32).toNatClampNeg) = 51 from by decide] at h
        obtain ⟨z28, h29, h⟩ := Option.bind_eq_some_iff.mp h
        obtain ⟨n, hn⟩ := hK136 h hQ
        exact ⟨n + 4, And.intro (jx_in_ok c27) (s_F_copyRow (by omega) rfl rfl h29 (hn))⟩
      · try rw [show (50 + (2 : Int32).toNatClampNeg) = 52 from by decide] at h
        obtain ⟨z28, h29, h⟩ := Option.bind_eq_some_iff.mp h
        obtain ⟨n, hn⟩ := hK136 h hQ
        exact ⟨n + 4, And.intro (jx_in_ok c27) (s_F_copyRow (by omega) rfl rfl h29 (hn))⟩
      · try rw [show (50 + (3 : Int32).toNatClampNeg) = 53 from by decide] at h
        obtain ⟨z28, h29, h⟩ := Option.bind_eq_some_iff.mp h
        obtain ⟨n, hn⟩ := hK136 h hQ
        exact ⟨n + 4, And.intro (jx_in_ok c27) (s_F_copyRow (by omega) rfl rfl h29 (hn))⟩
      · try rw [show (50 + (4 : Int32).toNatClampNeg) = 54 from by decide] at h
        obtain ⟨z28, h29, h⟩ := Option.bind_eq_some_iff.mp h
        obtain ⟨n, hn⟩ := hK136 h hQ
        exact ⟨n + 4, And.intro (jx_in_ok c27) (s_F_copyRow (by omega) rfl rfl h29 (hn))⟩
      · try rw [show (50 + (5 : Int32).toNatClampNeg) = 55 from by decide] at h
        obtain ⟨z28, h29, h⟩ := Option.bind_eq_some_iff.mp h
        obtain ⟨n, hn⟩ := hK136 h hQ
        exact ⟨n + 4, And.intro (jx_in_ok c27) (s_F_copyRow (by omega) rfl rfl h29 (hn))⟩
  · unfold f_S_copyFrom_38_1_153 at h
    cases c27 : jx_in y2 6 with
    | false => rw [c27, cond_false] at h; cases h
    | true =>
      rw [c27, cond_true] at h
      rcases jx_ix6 (jx_in_ok c27) with rfl | rfl | rfl | rfl | rfl | rfl
      · try rw [show (50 + (0 : Int32).toNatClampNeg) = 50 from by decide] at h
        obtain ⟨z28, h29, h⟩ := Option.bind_eq_some_iff.mp h
        obtain ⟨n, hn⟩ := hK136 h hQ
        exact ⟨n + 4, And.intro (jx_in_ok c27) (s_F_copyRow (by omega) rfl rfl h29 (hn))⟩
      · try rw [show (50 + (1 : Int32).toNatClampNeg) = 51 from by decide] at h
        obtain ⟨z28, h29, h⟩ := Option.bind_eq_some_iff.mp h
        obtain ⟨n, hn⟩ := hK136 h hQ
        exact ⟨n + 4, And.intro (jx_in_ok c27) (s_F_copyRow (by omega) rfl rfl h29 (hn))⟩
      · try rw [show (50 + (2 : Int32).toNatClampNeg) = 52 from by decide] at h
        obtain ⟨z28, h29, h⟩ := Option.bind_eq_some_iff.mp h
        obtain ⟨n, hn⟩ := hK136 h hQ
        exact ⟨n + 4, And.intro (jx_in_ok c27) (s_F_copyRow (by omega) rfl rfl h29 (hn))⟩
      · try rw [show (50 + (3 : Int32).toNatClampNeg) = 53 from by decide] at h
        obtain ⟨z28, h29, h⟩ := Option.bind_eq_some_iff.mp h
        obtain ⟨n, hn⟩ := hK136 h hQ
        exact ⟨n + 4, And.intro (jx_in_ok c27) (s_F_copyRow (by omega) rfl rfl h29 (hn))⟩
      · try rw [show (50 + (4 : Int32).toNatClampNeg) = 54 from by decide] at h
        obtain ⟨z28, h29, h⟩ := Option.bind_eq_some_iff.mp h
        obtain ⟨n, hn⟩ := hK136 h hQ
        exact ⟨n + 4, And.intro (jx_in_ok c27) (s_F_copyRow (by omega) rfl rfl h29 (hn))⟩
      · try rw [show (50 + (5 : Int32).toNatClampNeg) = 55 from by decide] at h
        obtain ⟨z28, h29, h⟩ := Option.bind_eq_some_iff.mp h
        obtain ⟨n, hn⟩ := hK136 h hQ
        exact ⟨n + 4, And.intro (jx_in_ok c27) (s_F_copyRow (by omega) rfl rfl h29 (hn))⟩
  · unfold f_S_copyFrom_38_1_153 at h
    cases c27 : jx_in y2 6 with
    | false => rw [c27, cond_false] at h; cases h
    | true =>
      rw [c27, cond_true] at h
      rcases jx_ix6 (jx_in_ok c27) with rfl | rfl | rfl | rfl | rfl | rfl
      · try rw [show (50 + (0 : Int32).toNatClampNeg) = 50 from by decide] at h
        obtain ⟨z28, h29, h⟩ := Option.bind_eq_some_iff.mp h
        obtain ⟨n, hn⟩ := hK136 h hQ
        exact ⟨n + 4, And.intro (jx_in_ok c27) (s_F_copyRow (by omega) rfl rfl h29 (hn))⟩
      · try rw [show (50 + (1 : Int32).toNatClampNeg) = 51 from by decide] at h
        obtain ⟨z28, h29, h⟩ := Option.bind_eq_some_iff.mp h
        obtain ⟨n, hn⟩ := hK136 h hQ
        exact ⟨n + 4, And.intro (jx_in_ok c27) (s_F_copyRow (by omega) rfl rfl h29 (hn))⟩
      · try rw [show (50 + (2 : Int32).toNatClampNeg) = 52 from by decide] at h
        obtain ⟨z28, h29, h⟩ := Option.bind_eq_some_iff.mp h
        obtain ⟨n, hn⟩ := hK136 h hQ
        exact ⟨n + 4, And.intro (jx_in_ok c27) (s_F_copyRow (by omega) rfl rfl h29 (hn))⟩
      · try rw [show (50 + (3 : Int32).toNatClampNeg) = 53 from by decide] at h
        obtain ⟨z28, h29, h⟩ := Option.bind_eq_some_iff.mp h
        obtain ⟨n, hn⟩ := hK136 h hQ
        exact ⟨n + 4, And.intro (jx_in_ok c27) (s_F_copyRow (by omega) rfl rfl h29 (hn))⟩
      · try rw [show (50 + (4 : Int32).toNatClampNeg) = 54 from by decide] at h
        obtain ⟨z28, h29, h⟩ := Option.bind_eq_some_iff.mp h
        obtain ⟨n, hn⟩ := hK136 h hQ
        exact ⟨n + 4, And.intro (jx_in_ok c27) (s_F_copyRow (by omega) rfl rfl h29 (hn))⟩
      · try rw [show (50 + (5 : Int32).toNatClampNeg) = 55 from by decide] at h
        obtain ⟨z28, h29, h⟩ := Option.bind_eq_some_iff.mp h
        obtain ⟨n, hn⟩ := hK136 h hQ
        exact ⟨n + 4, And.intro (jx_in_ok c27) (s_F_copyRow (by omega) rfl rfl h29 (hn))⟩
set_option maxRecDepth 20000 in
theorem s_S_copyFrom_38_1_147 {N d : Nat} {Q : jw_Q} {K136 : Int32 → jw_M → Option jw_M} (hd : 3 ≤ d) (hK136 : ∀ {x2 : Int32} {σ : jw_M} {z : jw_M}, K136 x2 σ = some z → Q none (jx_ShC, z) → ∃ n, jx_W jx_ShC d none jc_77 Q n 136 [some (.ref 38), some (.ref 1), some (.int x2)] [] σ) {x2 : Int32} {y1 : Int32} {σ : jw_M} {z : jw_M} (h : f_S_copyFrom_38_1_147 N K136 x2 y1 σ = some z) (hQ : Q none (jx_ShC, z)) : ∃ n, jx_W jx_ShC d none jc_77 Q n 147 [some (.ref 38), some (.ref 1), some (.int x2)] [.int y1, .ref 12] σ := by
  unfold f_S_copyFrom_38_1_147 at h
  cases c26 : jx_in y1 6 with
  | false => rw [c26, cond_false] at h; cases h
  | true =>
    rw [c26, cond_true] at h
    rcases jx_ix6 (jx_in_ok c26) with rfl | rfl | rfl | rfl | rfl | rfl
    · try rw [show (13 + (0 : Int32).toNatClampNeg) = 13 from by decide] at h
      obtain ⟨n, hn⟩ := s_S_copyFrom_38_1_153 hd hK136 (by decide) h hQ
      exact ⟨n + 4, And.intro (jx_in_ok c26) (hn)⟩
    · try rw [show (13 + (1 : Int32).toNatClampNeg) = 14 from by decide] at h
      obtain ⟨n, hn⟩ := s_S_copyFrom_38_1_153 hd hK136 (by decide) h hQ
      exact ⟨n + 4, And.intro (jx_in_ok c26) (hn)⟩
    · try rw [show (13 + (2 : Int32).toNatClampNeg) = 15 from by decide] at h
      obtain ⟨n, hn⟩ := s_S_copyFrom_38_1_153 hd hK136 (by decide) h hQ
      exact ⟨n + 4, And.intro (jx_in_ok c26) (hn)⟩
    · try rw [show (13 + (3 : Int32).toNatClampNeg) = 16 from by decide] at h
      obtain ⟨n, hn⟩ := s_S_copyFrom_38_1_153 hd hK136 (by decide) h hQ
      exact ⟨n + 4, And.intro (jx_in_ok c26) (hn)⟩
    · try rw [show (13 + (4 : Int32).toNatClampNeg) = 17 from by decide] at h
      obtain ⟨n, hn⟩ := s_S_copyFrom_38_1_153 hd hK136 (by decide) h hQ
      exact ⟨n + 4, And.intro (jx_in_ok c26) (hn)⟩
    · try rw [show (13 + (5 : Int32).toNatClampNeg) = 18 from by decide] at h
      obtain ⟨n, hn⟩ := s_S_copyFrom_38_1_153 hd hK136 (by decide) h hQ
      exact ⟨n + 4, And.intro (jx_in_ok c26) (hn)⟩
set_option maxRecDepth 20000 in
theorem s_S_copyFrom_38_1_136 {N d : Nat} {Q : jw_Q} (hd : 3 ≤ d) : ∀ (k : Nat) {x2 : Int32} {σ : jw_M} {z : jw_M}, f_S_copyFrom_38_1_136 N k x2 σ = some z → Q none (jx_ShC, z) → ∃ n, jx_W jx_ShC d none jc_77 Q n 136 [some (.ref 38), some (.ref 1), some (.int x2)] [] σ
  | 0, _, _, _, h, _ => by cases h
  | k + 1, x2, σ, z, h, hQ => by
    rw [f_S_copyFrom_38_1_136] at h
    by_cases c21 : 6 ≤ x2
    · rw [if_pos c21] at h
      suffices hh : ∃ n, jx_W jx_ShC d none jc_77 Q n 163 [some (.ref 38), some (.ref 1), some (.int x2)] [] σ by
        obtain ⟨n, hn⟩ := hh
        exact ⟨n + 3, And.intro (fun _ => hn) (fun zz => absurd c21 zz)⟩
      obtain ⟨z22, h23, h⟩ := Option.bind_eq_some_iff.mp h
      obtain ⟨z24, h25, h⟩ := Option.bind_eq_some_iff.mp h
      cases h
      exact ⟨19, s_R_copyFrom (by omega) (by decide) h23 (s_P_copyFrom (by omega) (by decide) h25 (And.intro hQ (And.intro rfl rfl)))⟩
    · rw [if_neg c21] at h
      suffices hh : ∃ n, jx_W jx_ShC d none jc_77 Q n 142 [some (.ref 38), some (.ref 1), some (.int x2)] [] σ by
        obtain ⟨n, hn⟩ := hh
        exact ⟨n + 3, And.intro (fun zz => absurd zz c21) (fun _ => hn)⟩
      obtain ⟨n, hn⟩ := s_S_copyFrom_38_1_147 hd (s_S_copyFrom_38_1_136 hd k) h hQ
      exact ⟨n + 3, hn⟩
set_option maxRecDepth 20000 in
theorem s_S_copyFrom_38_1 {N d : Nat} (hd : 4 ≤ d) {σ : jw_M} {z : jw_M} {Q : jw_Q} (h : f_S_copyFrom_38_1 N  σ = some z) (hQ : Q none (jx_ShC, z)) : jw_C jp_kd jp_ys d 77 [.ref 38, .ref 1] (jx_ShC, σ) Q := by
  obtain ⟨d, rfl⟩ : ∃ e, d = e + 1 := ⟨d - 1, by omega⟩
  replace hd : 3 ≤ d := by omega
  refine jx_C rfl rfl ?_
  unfold f_S_copyFrom_38_1 at h
  obtain ⟨z1, h2, h⟩ := Option.bind_eq_some_iff.mp h
  obtain ⟨z3, h4, h⟩ := Option.bind_eq_some_iff.mp h
  obtain ⟨z5, h6, h⟩ := Option.bind_eq_some_iff.mp h
  obtain ⟨z7, h8, h⟩ := Option.bind_eq_some_iff.mp h
  obtain ⟨z9, h10, h⟩ := Option.bind_eq_some_iff.mp h
  obtain ⟨z11, h12, h⟩ := Option.bind_eq_some_iff.mp h
  obtain ⟨z13, h14, h⟩ := Option.bind_eq_some_iff.mp h
  obtain ⟨z15, h16, h⟩ := Option.bind_eq_some_iff.mp h
  obtain ⟨z17, h18, h⟩ := Option.bind_eq_some_iff.mp h
  obtain ⟨z19, h20, h⟩ := Option.bind_eq_some_iff.mp h
  obtain ⟨n, hn⟩ := s_S_copyFrom_38_1_136 hd N h hQ
  exact ⟨n + 64, s_F_copyRow (by omega) rfl rfl h2 (s_F_copyRow (by omega) rfl rfl h4 (s_F_copyRow (by omega) rfl rfl h6 (s_F_copyRow (by omega) rfl rfl h8 (s_F_copyRow (by omega) rfl rfl h10 (s_F_copyRow (by omega) rfl rfl h12 (s_F_copyRow (by omega) rfl rfl h14 (s_F_copyRow (by omega) rfl rfl h16 (s_F_copyRow (by omega) rfl rfl h18 (s_F_copyRow (by omega) rfl rfl h20 (hn))))))))))⟩
set_option maxRecDepth 20000 in
theorem s_S_isShadow {N d : Nat} {x1 : Int32} (hd : 1 ≤ d) {σ : jw_M} {z : (Int32 × jw_M)} {Q : jw_Q} (h : f_S_isShadow N x1 σ = some z) (hQ : Q (some (.int z.1)) (jx_ShC, z.2)) : jw_C jp_kd jp_ys d 78 [.ref 1, .int x1] (jx_ShC, σ) Q := by
  obtain ⟨d, rfl⟩ : ∃ e, d = e + 1 := ⟨d - 1, by omega⟩
  replace hd : 0 ≤ d := by omega
  refine jx_C rfl rfl ?_
  unfold f_S_isShadow at h
  by_cases c1 : x1 < 0
  · rw [if_pos c1] at h
    suffices hh : ∃ n, jx_W jx_ShC d (some .boolean) jc_78 Q n 16 [some (.ref 1), some (.int x1)] [] σ by
      obtain ⟨n, hn⟩ := hh
      exact ⟨n + 2, And.intro (fun _ => hn) (fun zz => absurd c1 zz)⟩
    cases h
    exact ⟨2, And.intro (Or.inl rfl) (And.intro hQ (And.intro rfl rfl))⟩
  · rw [if_neg c1] at h
    suffices hh : ∃ n, jx_W jx_ShC d (some .boolean) jc_78 Q n 4 [some (.ref 1), some (.int x1)] [] σ by
      obtain ⟨n, hn⟩ := hh
      exact ⟨n + 2, And.intro (fun zz => absurd zz c1) (fun _ => hn)⟩
    by_cases c2 : (σ.1 1 0) ≤ x1
    · rw [if_pos c2] at h
      suffices hh : ∃ n, jx_W jx_ShC d (some .boolean) jc_78 Q n 16 [some (.ref 1), some (.int x1)] [] σ by
        obtain ⟨n, hn⟩ := hh
        exact ⟨n + 4, And.intro (fun _ => hn) (fun zz => absurd c2 zz)⟩
      cases h
      exact ⟨2, And.intro (Or.inl rfl) (And.intro hQ (And.intro rfl rfl))⟩
    · rw [if_neg c2] at h
      suffices hh : ∃ n, jx_W jx_ShC d (some .boolean) jc_78 Q n 12 [some (.ref 1), some (.int x1)] [] σ by
        obtain ⟨n, hn⟩ := hh
        exact ⟨n + 4, And.intro (fun zz => absurd zz c2) (fun _ => hn)⟩
      cases h
      exact ⟨3, And.intro (Or.inr rfl) (And.intro hQ (And.intro rfl rfl))⟩
set_option maxRecDepth 20000 in
theorem s_S_isLesson {N d : Nat} {x1 : Int32} (hd : 1 ≤ d) {σ : jw_M} {z : (Int32 × jw_M)} {Q : jw_Q} (h : f_S_isLesson N x1 σ = some z) (hQ : Q (some (.int z.1)) (jx_ShC, z.2)) : jw_C jp_kd jp_ys d 79 [.ref 1, .int x1] (jx_ShC, σ) Q := by
  obtain ⟨d, rfl⟩ : ∃ e, d = e + 1 := ⟨d - 1, by omega⟩
  replace hd : 0 ≤ d := by omega
  refine jx_C rfl rfl ?_
  unfold f_S_isLesson at h
  by_cases c1 : x1 < 0
  · rw [if_pos c1] at h
    suffices hh : ∃ n, jx_W jx_ShC d (some .boolean) jc_79 Q n 16 [some (.ref 1), some (.int x1)] [] σ by
      obtain ⟨n, hn⟩ := hh
      exact ⟨n + 2, And.intro (fun _ => hn) (fun zz => absurd c1 zz)⟩
    cases h
    exact ⟨2, And.intro (Or.inl rfl) (And.intro hQ (And.intro rfl rfl))⟩
  · rw [if_neg c1] at h
    suffices hh : ∃ n, jx_W jx_ShC d (some .boolean) jc_79 Q n 4 [some (.ref 1), some (.int x1)] [] σ by
      obtain ⟨n, hn⟩ := hh
      exact ⟨n + 2, And.intro (fun zz => absurd zz c1) (fun _ => hn)⟩
    by_cases c2 : (σ.1 1 5) ≤ x1
    · rw [if_pos c2] at h
      suffices hh : ∃ n, jx_W jx_ShC d (some .boolean) jc_79 Q n 16 [some (.ref 1), some (.int x1)] [] σ by
        obtain ⟨n, hn⟩ := hh
        exact ⟨n + 4, And.intro (fun _ => hn) (fun zz => absurd c2 zz)⟩
      cases h
      exact ⟨2, And.intro (Or.inl rfl) (And.intro hQ (And.intro rfl rfl))⟩
    · rw [if_neg c2] at h
      suffices hh : ∃ n, jx_W jx_ShC d (some .boolean) jc_79 Q n 12 [some (.ref 1), some (.int x1)] [] σ by
        obtain ⟨n, hn⟩ := hh
        exact ⟨n + 4, And.intro (fun zz => absurd zz c2) (fun _ => hn)⟩
      cases h
      exact ⟨3, And.intro (Or.inr rfl) (And.intro hQ (And.intro rfl rfl))⟩
set_option maxRecDepth 20000 in
theorem s_S_allLessons {N d : Nat} (hd : 1 ≤ d) {σ : jw_M} {z : (Int32 × jw_M)} {Q : jw_Q} (h : f_S_allLessons N  σ = some z) (hQ : Q (some (.int z.1)) (jx_ShC, z.2)) : jw_C jp_kd jp_ys d 82 [.ref 1] (jx_ShC, σ) Q := by
  obtain ⟨d, rfl⟩ : ∃ e, d = e + 1 := ⟨d - 1, by omega⟩
  replace hd : 0 ≤ d := by omega
  refine jx_C rfl rfl ?_
  unfold f_S_allLessons at h
  cases h
  exact ⟨7, And.intro hQ (And.intro rfl rfl)⟩
set_option maxRecDepth 20000 in
theorem s_S_isSetOfLessons {N d : Nat} {x1 : Int32} (hd : 2 ≤ d) {σ : jw_M} {z : (Int32 × jw_M)} {Q : jw_Q} (h : f_S_isSetOfLessons N x1 σ = some z) (hQ : Q (some (.int z.1)) (jx_ShC, z.2)) : jw_C jp_kd jp_ys d 81 [.ref 1, .int x1] (jx_ShC, σ) Q := by
  obtain ⟨d, rfl⟩ : ∃ e, d = e + 1 := ⟨d - 1, by omega⟩
  replace hd : 1 ≤ d := by omega
  refine jx_C rfl rfl ?_
  unfold f_S_isSetOfLessons at h
  obtain ⟨z1, h2, h⟩ := Option.bind_eq_some_iff.mp h
  by_cases c3 : (x1 &&& (z1.1 ^^^ (-1))) = 0
  · rw [if_pos c3] at h
    suffices hh : ∃ n, jx_W jx_ShC d (some .boolean) jc_81 Q n 11 [some (.ref 1), some (.int x1)] [] z1.2 by
      obtain ⟨n, hn⟩ := hh
      exact ⟨n + 7, s_S_allLessons (by omega) h2 (And.intro (fun zz => absurd c3 zz) (fun _ => hn))⟩
    cases h
    exact ⟨3, And.intro (Or.inr rfl) (And.intro hQ (And.intro rfl rfl))⟩
  · rw [if_neg c3] at h
    suffices hh : ∃ n, jx_W jx_ShC d (some .boolean) jc_81 Q n 15 [some (.ref 1), some (.int x1)] [] z1.2 by
      obtain ⟨n, hn⟩ := hh
      exact ⟨n + 7, s_S_allLessons (by omega) h2 (And.intro (fun _ => hn) (fun zz => absurd zz c3))⟩
    cases h
    exact ⟨2, And.intro (Or.inl rfl) (And.intro hQ (And.intro rfl rfl))⟩
set_option maxRecDepth 20000 in
theorem s_S_addShadow {N d : Nat} {x1 : Int32} {x2 : Int32} {x3 : Int32} (hd : 1 ≤ d) {σ : jw_M} {z : (Int32 × jw_M)} {Q : jw_Q} (h : f_S_addShadow N x1 x2 x3 σ = some z) (hQ : Q (some (.int z.1)) (jx_ShC, z.2)) : jw_C jp_kd jp_ys d 84 [.ref 1, .int x1, .int x2, .int x3] (jx_ShC, σ) Q := by
  obtain ⟨d, rfl⟩ : ∃ e, d = e + 1 := ⟨d - 1, by omega⟩
  replace hd : 0 ≤ d := by omega
  refine jx_C rfl rfl ?_
  unfold f_S_addShadow at h
  cases c1 : jx_in (σ.1 1 0) 6 with
  | false => rw [c1, cond_false] at h; cases h
  | true =>
    rw [c1, cond_true] at h
    cases h
    exact ⟨25, And.intro (jx_in_ok c1) (And.intro (jx_in_ok c1) (And.intro (jx_in_ok c1) (And.intro hQ (And.intro rfl rfl))))⟩
set_option maxRecDepth 20000 in
theorem s_S_addLesson_58 {N d : Nat} {Q : jw_Q} (hd : 0 ≤ d) : ∀ (k : Nat) {x4 : Int32} {x6 : Int32} {x7 : Int32} {u1 : Option Value} {u2 : Option Value} {u3 : Option Value} {u5 : Option Value} {σ : jw_M} {z : (Int32 × jw_M)}, f_S_addLesson_58 N k x4 x6 x7 σ = some z → Q (some (.int z.1)) (jx_ShC, z.2) → ∃ n, jx_W jx_ShC d (some .int) jc_85 Q n 58 [some (.ref 1), u1, u2, u3, some (.int x4), u5, some (.int x6), some (.int x7)] [] σ
  | 0, _, _, _, _, _, _, _, _, _, h, _ => by cases h
  | k + 1, x4, x6, x7, u1, u2, u3, u5, σ, z, h, hQ => by
    rw [f_S_addLesson_58] at h
    by_cases c2 : x4 < x7
    · rw [if_pos c2] at h
      suffices hh : ∃ n, jx_W jx_ShC d (some .int) jc_85 Q n 85 [some (.ref 1), u1, u2, u3, some (.int x4), u5, some (.int x6), some (.int x7)] [] σ by
        obtain ⟨n, hn⟩ := hh
        exact ⟨n + 3, And.intro (fun _ => hn) (fun zz => absurd c2 zz)⟩
      cases h
      exact ⟨2, And.intro hQ (And.intro rfl rfl)⟩
    · rw [if_neg c2] at h
      suffices hh : ∃ n, jx_W jx_ShC d (some .int) jc_85 Q n 65 [some (.ref 1), u1, u2, u3, some (.int x4), u5, some (.int x6), some (.int x7)] [] σ by
        obtain ⟨n, hn⟩ := hh
        exact ⟨n + 3, And.intro (fun zz => absurd zz c2) (fun _ => hn)⟩
      cases c3 : jx_in x7 17 with
      | false => rw [c3, cond_false] at h; cases h
      | true =>
        rw [c3, cond_true] at h
        obtain ⟨n, hn⟩ := s_S_addLesson_58 hd k (u1 := u1) (u2 := u2) (u3 := u3) (u5 := u5) h hQ
        exact ⟨n + 12, And.intro (jx_in_ok c3) (And.intro (jx_in_ok c3) (hn))⟩
set_option maxRecDepth 20000 in
theorem s_S_addLesson {N d : Nat} {x1 : Int32} {x2 : Int32} {x3 : Int32} {x4 : Int32} {x5 : Int32} (hd : 1 ≤ d) {σ : jw_M} {z : (Int32 × jw_M)} {Q : jw_Q} (h : f_S_addLesson N x1 x2 x3 x4 x5 σ = some z) (hQ : Q (some (.int z.1)) (jx_ShC, z.2)) : jw_C jp_kd jp_ys d 85 [.ref 1, .int x1, .int x2, .int x3, .int x4, .int x5] (jx_ShC, σ) Q := by
  obtain ⟨d, rfl⟩ : ∃ e, d = e + 1 := ⟨d - 1, by omega⟩
  replace hd : 0 ≤ d := by omega
  refine jx_C rfl rfl ?_
  unfold f_S_addLesson at h
  cases c1 : jx_in (σ.1 1 5) 8 with
  | false => rw [c1, cond_false] at h; cases h
  | true =>
    rw [c1, cond_true] at h
    obtain ⟨n, hn⟩ := s_S_addLesson_58 hd N (u1 := some (.int x1)) (u2 := some (.int x2)) (u3 := some (.int x3)) (u5 := some (.int x5)) h hQ
    exact ⟨n + 35, And.intro (jx_in_ok c1) (And.intro (jx_in_ok c1) (And.intro (jx_in_ok c1) (And.intro (jx_in_ok c1) (And.intro (jx_in_ok c1) (hn)))))⟩
set_option maxRecDepth 20000 in
theorem s_S_addReport_49 {N d : Nat} {Q : jw_Q} (hd : 0 ≤ d) {x4 : Int32} {x5 : Int32} {y1 : Int32} {u0 : Option Value} {u1 : Option Value} {u2 : Option Value} {u3 : Option Value} {σ : jw_M} {z : (Int32 × jw_M)} (h : f_S_addReport_49 N x4 x5 y1 σ = some z) (hQ : Q (some (.int z.1)) (jx_ShC, z.2)) : ∃ n, jx_W jx_ShC d (some .int) jc_86 Q n 49 [u0, u1, u2, u3, some (.int x4), some (.int x5)] [.int y1, .ref 12] σ := by
  unfold f_S_addReport_49 at h
  cases c4 : jx_in y1 6 with
  | false => rw [c4, cond_false] at h; cases h
  | true =>
    rw [c4, cond_true] at h
    rcases jx_ix6 (jx_in_ok c4) with rfl | rfl | rfl | rfl | rfl | rfl
    · try rw [show (13 + (0 : Int32).toNatClampNeg) = 13 from by decide] at h
      cases h
      exact ⟨6, And.intro (jx_in_ok c4) (And.intro (jx_in_ok rfl) (And.intro hQ (And.intro rfl rfl)))⟩
    · try rw [show (13 + (1 : Int32).toNatClampNeg) = 14 from by decide] at h
      cases h
      exact ⟨6, And.intro (jx_in_ok c4) (And.intro (jx_in_ok rfl) (And.intro hQ (And.intro rfl rfl)))⟩
    · try rw [show (13 + (2 : Int32).toNatClampNeg) = 15 from by decide] at h
      cases h
      exact ⟨6, And.intro (jx_in_ok c4) (And.intro (jx_in_ok rfl) (And.intro hQ (And.intro rfl rfl)))⟩
    · try rw [show (13 + (3 : Int32).toNatClampNeg) = 16 from by decide] at h
      cases h
      exact ⟨6, And.intro (jx_in_ok c4) (And.intro (jx_in_ok rfl) (And.intro hQ (And.intro rfl rfl)))⟩
    · try rw [show (13 + (4 : Int32).toNatClampNeg) = 17 from by decide] at h
      cases h
      exact ⟨6, And.intro (jx_in_ok c4) (And.intro (jx_in_ok rfl) (And.intro hQ (And.intro rfl rfl)))⟩
    · try rw [show (13 + (5 : Int32).toNatClampNeg) = 18 from by decide] at h
      cases h
      exact ⟨6, And.intro (jx_in_ok c4) (And.intro (jx_in_ok rfl) (And.intro hQ (And.intro rfl rfl)))⟩
set_option maxRecDepth 20000 in
theorem s_S_addReport_39 {N d : Nat} {Q : jw_Q} (hd : 0 ≤ d) {x3 : Int32} {x4 : Int32} {x5 : Int32} {y1 : Int32} {u1 : Option Value} {u2 : Option Value} {σ : jw_M} {z : (Int32 × jw_M)} (h : f_S_addReport_39 N x3 x4 x5 y1 σ = some z) (hQ : Q (some (.int z.1)) (jx_ShC, z.2)) : ∃ n, jx_W jx_ShC d (some .int) jc_86 Q n 39 [some (.ref 1), u1, u2, some (.int x3), some (.int x4), some (.int x5)] [.int y1, .ref 12] σ := by
  unfold f_S_addReport_39 at h
  cases c3 : jx_in y1 6 with
  | false => rw [c3, cond_false] at h; cases h
  | true =>
    rw [c3, cond_true] at h
    rcases jx_ix6 (jx_in_ok c3) with rfl | rfl | rfl | rfl | rfl | rfl
    · try rw [show (13 + (0 : Int32).toNatClampNeg) = 13 from by decide] at h
      obtain ⟨n, hn⟩ := s_S_addReport_49 hd (u0 := some (.ref 1)) (u1 := u1) (u2 := u2) (u3 := some (.int x3)) h hQ
      exact ⟨n + 7, And.intro (jx_in_ok c3) (And.intro (jx_in_ok rfl) (hn))⟩
    · try rw [show (13 + (1 : Int32).toNatClampNeg) = 14 from by decide] at h
      obtain ⟨n, hn⟩ := s_S_addReport_49 hd (u0 := some (.ref 1)) (u1 := u1) (u2 := u2) (u3 := some (.int x3)) h hQ
      exact ⟨n + 7, And.intro (jx_in_ok c3) (And.intro (jx_in_ok rfl) (hn))⟩
    · try rw [show (13 + (2 : Int32).toNatClampNeg) = 15 from by decide] at h
      obtain ⟨n, hn⟩ := s_S_addReport_49 hd (u0 := some (.ref 1)) (u1 := u1) (u2 := u2) (u3 := some (.int x3)) h hQ
      exact ⟨n + 7, And.intro (jx_in_ok c3) (And.intro (jx_in_ok rfl) (hn))⟩
    · try rw [show (13 + (3 : Int32).toNatClampNeg) = 16 from by decide] at h
      obtain ⟨n, hn⟩ := s_S_addReport_49 hd (u0 := some (.ref 1)) (u1 := u1) (u2 := u2) (u3 := some (.int x3)) h hQ
      exact ⟨n + 7, And.intro (jx_in_ok c3) (And.intro (jx_in_ok rfl) (hn))⟩
    · try rw [show (13 + (4 : Int32).toNatClampNeg) = 17 from by decide] at h
      obtain ⟨n, hn⟩ := s_S_addReport_49 hd (u0 := some (.ref 1)) (u1 := u1) (u2 := u2) (u3 := some (.int x3)) h hQ
      exact ⟨n + 7, And.intro (jx_in_ok c3) (And.intro (jx_in_ok rfl) (hn))⟩
    · try rw [show (13 + (5 : Int32).toNatClampNeg) = 18 from by decide] at h
      obtain ⟨n, hn⟩ := s_S_addReport_49 hd (u0 := some (.ref 1)) (u1 := u1) (u2 := u2) (u3 := some (.int x3)) h hQ
      exact ⟨n + 7, And.intro (jx_in_ok c3) (And.intro (jx_in_ok rfl) (hn))⟩
set_option maxRecDepth 20000 in
theorem s_S_addReport_29 {N d : Nat} {Q : jw_Q} (hd : 0 ≤ d) {x2 : Int32} {x3 : Int32} {x4 : Int32} {x5 : Int32} {y1 : Int32} {u1 : Option Value} {σ : jw_M} {z : (Int32 × jw_M)} (h : f_S_addReport_29 N x2 x3 x4 x5 y1 σ = some z) (hQ : Q (some (.int z.1)) (jx_ShC, z.2)) : ∃ n, jx_W jx_ShC d (some .int) jc_86 Q n 29 [some (.ref 1), u1, some (.int x2), some (.int x3), some (.int x4), some (.int x5)] [.int y1, .ref 12] σ := by
  unfold f_S_addReport_29 at h
  cases c2 : jx_in y1 6 with
  | false => rw [c2, cond_false] at h; cases h
  | true =>
    rw [c2, cond_true] at h
    rcases jx_ix6 (jx_in_ok c2) with rfl | rfl | rfl | rfl | rfl | rfl
    · try rw [show (13 + (0 : Int32).toNatClampNeg) = 13 from by decide] at h
      obtain ⟨n, hn⟩ := s_S_addReport_39 hd (u1 := u1) (u2 := some (.int x2)) h hQ
      exact ⟨n + 7, And.intro (jx_in_ok c2) (And.intro (jx_in_ok rfl) (hn))⟩
    · try rw [show (13 + (1 : Int32).toNatClampNeg) = 14 from by decide] at h
      obtain ⟨n, hn⟩ := s_S_addReport_39 hd (u1 := u1) (u2 := some (.int x2)) h hQ
      exact ⟨n + 7, And.intro (jx_in_ok c2) (And.intro (jx_in_ok rfl) (hn))⟩
    · try rw [show (13 + (2 : Int32).toNatClampNeg) = 15 from by decide] at h
      obtain ⟨n, hn⟩ := s_S_addReport_39 hd (u1 := u1) (u2 := some (.int x2)) h hQ
      exact ⟨n + 7, And.intro (jx_in_ok c2) (And.intro (jx_in_ok rfl) (hn))⟩
    · try rw [show (13 + (3 : Int32).toNatClampNeg) = 16 from by decide] at h
      obtain ⟨n, hn⟩ := s_S_addReport_39 hd (u1 := u1) (u2 := some (.int x2)) h hQ
      exact ⟨n + 7, And.intro (jx_in_ok c2) (And.intro (jx_in_ok rfl) (hn))⟩
    · try rw [show (13 + (4 : Int32).toNatClampNeg) = 17 from by decide] at h
      obtain ⟨n, hn⟩ := s_S_addReport_39 hd (u1 := u1) (u2 := some (.int x2)) h hQ
      exact ⟨n + 7, And.intro (jx_in_ok c2) (And.intro (jx_in_ok rfl) (hn))⟩
    · try rw [show (13 + (5 : Int32).toNatClampNeg) = 18 from by decide] at h
      obtain ⟨n, hn⟩ := s_S_addReport_39 hd (u1 := u1) (u2 := some (.int x2)) h hQ
      exact ⟨n + 7, And.intro (jx_in_ok c2) (And.intro (jx_in_ok rfl) (hn))⟩
set_option maxRecDepth 20000 in
theorem s_S_addReport_19 {N d : Nat} {Q : jw_Q} (hd : 0 ≤ d) {x1 : Int32} {x2 : Int32} {x3 : Int32} {x4 : Int32} {x5 : Int32} {y1 : Int32} {σ : jw_M} {z : (Int32 × jw_M)} (h : f_S_addReport_19 N x1 x2 x3 x4 x5 y1 σ = some z) (hQ : Q (some (.int z.1)) (jx_ShC, z.2)) : ∃ n, jx_W jx_ShC d (some .int) jc_86 Q n 19 [some (.ref 1), some (.int x1), some (.int x2), some (.int x3), some (.int x4), some (.int x5)] [.int y1, .ref 12] σ := by
  unfold f_S_addReport_19 at h
  cases c1 : jx_in y1 6 with
  | false => rw [c1, cond_false] at h; cases h
  | true =>
    rw [c1, cond_true] at h
    rcases jx_ix6 (jx_in_ok c1) with rfl | rfl | rfl | rfl | rfl | rfl
    · try rw [show (13 + (0 : Int32).toNatClampNeg) = 13 from by decide] at h
      obtain ⟨n, hn⟩ := s_S_addReport_29 hd (u1 := some (.int x1)) h hQ
      exact ⟨n + 7, And.intro (jx_in_ok c1) (And.intro (jx_in_ok rfl) (hn))⟩
    · try rw [show (13 + (1 : Int32).toNatClampNeg) = 14 from by decide] at h
      obtain ⟨n, hn⟩ := s_S_addReport_29 hd (u1 := some (.int x1)) h hQ
      exact ⟨n + 7, And.intro (jx_in_ok c1) (And.intro (jx_in_ok rfl) (hn))⟩
    · try rw [show (13 + (2 : Int32).toNatClampNeg) = 15 from by decide] at h
      obtain ⟨n, hn⟩ := s_S_addReport_29 hd (u1 := some (.int x1)) h hQ
      exact ⟨n + 7, And.intro (jx_in_ok c1) (And.intro (jx_in_ok rfl) (hn))⟩
    · try rw [show (13 + (3 : Int32).toNatClampNeg) = 16 from by decide] at h
      obtain ⟨n, hn⟩ := s_S_addReport_29 hd (u1 := some (.int x1)) h hQ
      exact ⟨n + 7, And.intro (jx_in_ok c1) (And.intro (jx_in_ok rfl) (hn))⟩
    · try rw [show (13 + (4 : Int32).toNatClampNeg) = 17 from by decide] at h
      obtain ⟨n, hn⟩ := s_S_addReport_29 hd (u1 := some (.int x1)) h hQ
      exact ⟨n + 7, And.intro (jx_in_ok c1) (And.intro (jx_in_ok rfl) (hn))⟩
    · try rw [show (13 + (5 : Int32).toNatClampNeg) = 18 from by decide] at h
      obtain ⟨n, hn⟩ := s_S_addReport_29 hd (u1 := some (.int x1)) h hQ
      exact ⟨n + 7, And.intro (jx_in_ok c1) (And.intro (jx_in_ok rfl) (hn))⟩
set_option maxRecDepth 20000 in
theorem s_S_addReport {N d : Nat} {x1 : Int32} {x2 : Int32} {x3 : Int32} {x4 : Int32} (hd : 1 ≤ d) {σ : jw_M} {z : (Int32 × jw_M)} {Q : jw_Q} (h : f_S_addReport N x1 x2 x3 x4 σ = some z) (hQ : Q (some (.int z.1)) (jx_ShC, z.2)) : jw_C jp_kd jp_ys d 86 [.ref 1, .int x1, .int x2, .int x3, .int x4] (jx_ShC, σ) Q := by
  obtain ⟨d, rfl⟩ : ∃ e, d = e + 1 := ⟨d - 1, by omega⟩
  replace hd : 0 ≤ d := by omega
  refine jx_C rfl rfl ?_
  unfold f_S_addReport at h
  obtain ⟨n, hn⟩ := s_S_addReport_19 hd h hQ
  exact ⟨n + 11, hn⟩
set_option maxRecDepth 20000 in
theorem s_S_lengthOf_18 {N d : Nat} {Q : jw_Q} (hd : 3 ≤ d) {r_0 : Nat} {y1 : Int32} {y2 : Int32} {u0 : Option Value} {u1 : Option Value} {σ : jw_M} {z : (Int32 × jw_M)} (hr_0 : r_0 = 32 ∨ r_0 = 33 ∨ r_0 = 34 ∨ r_0 = 35 ∨ r_0 = 36 ∨ r_0 = 37) (h : f_S_lengthOf_18 N r_0 y1 y2 σ = some z) (hQ : Q (some (.int z.1)) (jx_ShC, z.2)) : ∃ n, jx_W jx_ShC d (some .int) jc_88 Q n 18 [u0, u1] [.int y2, .int y1, .ref r_0] σ := by
  rcases hr_0 with rfl | rfl | rfl | rfl | rfl | rfl
  · unfold f_S_lengthOf_18 at h
    obtain ⟨z4, h5, h⟩ := Option.bind_eq_some_iff.mp h
    rw [if_pos rfl] at h5
    cases h
    exact ⟨2, s_Z_Shade_lengthIn (by omega) (by decide) h5 (And.intro hQ (And.intro rfl rfl))⟩
  · unfold f_S_lengthOf_18 at h
    obtain ⟨z4, h5, h⟩ := Option.bind_eq_some_iff.mp h
    rw [if_neg (by decide), if_pos rfl] at h5
    cases h
    exact ⟨2, s_Z_Shade_lengthIn (by omega) (by decide) h5 (And.intro hQ (And.intro rfl rfl))⟩
  · unfold f_S_lengthOf_18 at h
    obtain ⟨z4, h5, h⟩ := Option.bind_eq_some_iff.mp h
    rw [if_neg (by decide), if_neg (by decide), if_pos rfl] at h5
    cases h
    exact ⟨2, s_Z_Shade_lengthIn (by omega) (by decide) h5 (And.intro hQ (And.intro rfl rfl))⟩
  · unfold f_S_lengthOf_18 at h
    obtain ⟨z4, h5, h⟩ := Option.bind_eq_some_iff.mp h
    rw [if_neg (by decide), if_neg (by decide), if_neg (by decide), if_pos rfl] at h5
    cases h
    exact ⟨2, s_Z_Coloured_lengthIn (by omega) h5 (And.intro hQ (And.intro rfl rfl))⟩
  · unfold f_S_lengthOf_18 at h
    obtain ⟨z4, h5, h⟩ := Option.bind_eq_some_iff.mp h
    rw [if_neg (by decide), if_neg (by decide), if_neg (by decide), if_neg (by decide), if_pos rfl] at h5
    cases h
    exact ⟨2, s_Z_Slow_lengthIn (by omega) (by decide) h5 (And.intro hQ (And.intro rfl rfl))⟩
  · unfold f_S_lengthOf_18 at h
    obtain ⟨z4, h5, h⟩ := Option.bind_eq_some_iff.mp h
    rw [if_neg (by decide), if_neg (by decide), if_neg (by decide), if_neg (by decide), if_neg (by decide), if_pos rfl] at h5
    cases h
    exact ⟨2, s_Z_Borrowed_lengthIn (by omega) h5 (And.intro hQ (And.intro rfl rfl))⟩
set_option maxRecDepth 20000 in
theorem s_S_lengthOf {N d : Nat} {x1 : Int32} (hd : 4 ≤ d) {σ : jw_M} {z : (Int32 × jw_M)} {Q : jw_Q} (h : f_S_lengthOf N x1 σ = some z) (hQ : Q (some (.int z.1)) (jx_ShC, z.2)) : jw_C jp_kd jp_ys d 88 [.ref 1, .int x1] (jx_ShC, σ) Q := by
  obtain ⟨d, rfl⟩ : ∃ e, d = e + 1 := ⟨d - 1, by omega⟩
  replace hd : 3 ≤ d := by omega
  refine jx_C rfl rfl ?_
  unfold f_S_lengthOf at h
  obtain ⟨z1, h2, h⟩ := Option.bind_eq_some_iff.mp h
  cases c3 : jx_in x1 6 with
  | false => rw [c3, cond_false] at h; cases h
  | true =>
    rw [c3, cond_true] at h
    obtain ⟨n, hn⟩ := s_S_lengthOf_18 hd (u0 := some (.ref 1)) (u1 := some (.int x1)) (r_S_thing h2) h hQ
    exact ⟨n + 10, s_S_thing (by omega) h2 (And.intro (jx_in_ok c3) (hn))⟩
set_option maxRecDepth 20000 in
theorem s_S_setQuarrel {N d : Nat} {x1 : Int32} {x2 : Int32} {x3 : Int32} (hd : 1 ≤ d) {σ : jw_M} {z : jw_M} {Q : jw_Q} (h : f_S_setQuarrel N x1 x2 x3 σ = some z) (hQ : Q none (jx_ShC, z)) : jw_C jp_kd jp_ys d 89 [.ref 1, .int x1, .int x2, .int x3] (jx_ShC, σ) Q := by
  obtain ⟨d, rfl⟩ : ∃ e, d = e + 1 := ⟨d - 1, by omega⟩
  replace hd : 0 ≤ d := by omega
  refine jx_C rfl rfl ?_
  unfold f_S_setQuarrel at h
  cases c1 : jx_in x1 6 with
  | false => rw [c1, cond_false] at h; cases h
  | true =>
    rw [c1, cond_true] at h
    cases c2 : jx_in x2 6 with
    | false => rw [c2, cond_false] at h; cases h
    | true =>
      rw [c2, cond_true] at h
      cases h
      exact ⟨37, And.intro (jx_in_ok c1) (And.intro (jx_in_ok c1) (And.intro (jx_in_ok c2) (And.intro (jx_in_ok c2) (And.intro hQ (And.intro rfl rfl)))))⟩
set_option maxRecDepth 20000 in
theorem s_S_howManyQuarrel_4 {N d : Nat} {Q : jw_Q} (hd : 1 ≤ d) : ∀ (k : Nat) {x1 : Int32} {x2 : Int32} {σ : jw_M} {z : (Int32 × jw_M)}, f_S_howManyQuarrel_4 N k x1 x2 σ = some z → Q (some (.int z.1)) (jx_ShC, z.2) → ∃ n, jx_W jx_ShC d (some .int) jc_90 Q n 4 [some (.ref 1), some (.int x1), some (.int x2)] [] σ
  | 0, _, _, _, _, h, _ => by cases h
  | k + 1, x1, x2, σ, z, h, hQ => by
    rw [f_S_howManyQuarrel_4] at h
    by_cases c1 : (σ.1 1 0) ≤ x2
    · rw [if_pos c1] at h
      suffices hh : ∃ n, jx_W jx_ShC d (some .int) jc_90 Q n 30 [some (.ref 1), some (.int x1), some (.int x2)] [] σ by
        obtain ⟨n, hn⟩ := hh
        exact ⟨n + 4, And.intro (fun _ => hn) (fun zz => absurd c1 zz)⟩
      cases h
      exact ⟨4, And.intro (by decide) (And.intro hQ (And.intro rfl rfl))⟩
    · rw [if_neg c1] at h
      suffices hh : ∃ n, jx_W jx_ShC d (some .int) jc_90 Q n 12 [some (.ref 1), some (.int x1), some (.int x2)] [] σ by
        obtain ⟨n, hn⟩ := hh
        exact ⟨n + 4, And.intro (fun zz => absurd zz c1) (fun _ => hn)⟩
      cases c2 : jx_in x2 6 with
      | false => rw [c2, cond_false] at h; cases h
      | true =>
        rw [c2, cond_true] at h
        obtain ⟨z3, h4, h⟩ := Option.bind_eq_some_iff.mp h
        obtain ⟨n, hn⟩ := s_S_howManyQuarrel_4 hd k h hQ
        exact ⟨n + 10, And.intro (jx_in_ok c2) (s_J_bitCount (by omega) h4 (hn))⟩
set_option maxRecDepth 20000 in
theorem s_S_howManyQuarrel {N d : Nat} (hd : 2 ≤ d) {σ : jw_M} {z : (Int32 × jw_M)} {Q : jw_Q} (h : f_S_howManyQuarrel N  σ = some z) (hQ : Q (some (.int z.1)) (jx_ShC, z.2)) : jw_C jp_kd jp_ys d 90 [.ref 1] (jx_ShC, σ) Q := by
  obtain ⟨d, rfl⟩ : ∃ e, d = e + 1 := ⟨d - 1, by omega⟩
  replace hd : 1 ≤ d := by omega
  refine jx_C rfl rfl ?_
  unfold f_S_howManyQuarrel at h
  obtain ⟨n, hn⟩ := s_S_howManyQuarrel_4 hd N h hQ
  exact ⟨n + 4, hn⟩
set_option maxRecDepth 20000 in
theorem s_S_goByLot {N d : Nat} {p1 : Nat} (hd : 7 ≤ d) (hp : p1 = 27 ∨ p1 = 75) {σ : jw_M} {z : (Int32 × jw_M)} {Q : jw_Q} (h : f_S_goByLot N p1 σ = some z) (hQ : Q (some (.int z.1)) (jx_ShC, z.2)) : jw_C jp_kd jp_ys d 92 [.ref 1, .ref p1] (jx_ShC, σ) Q := by
  obtain ⟨d, rfl⟩ : ∃ e, d = e + 1 := ⟨d - 1, by omega⟩
  replace hd : 6 ≤ d := by omega
  refine jx_C rfl rfl ?_
  rcases hp with rfl | rfl
  · unfold f_S_goByLot at h
    by_cases c1 : (((jx_w σ 1 15 (((σ.1 1 15) * 1103515245) + 12345)).1 1 0) + 1) = 0
    · rw [if_pos c1] at h
      cases h
    · rw [if_neg c1] at h
      obtain ⟨z2, h3, h⟩ := Option.bind_eq_some_iff.mp h
      cases h
      exact ⟨21, And.intro c1 (s_S_goBy (by omega) (by decide) h3 (And.intro hQ (And.intro rfl rfl)))⟩
  · unfold f_S_goByLot at h
    by_cases c1 : (((jx_w σ 1 15 (((σ.1 1 15) * 1103515245) + 12345)).1 1 0) + 1) = 0
    · rw [if_pos c1] at h
      cases h
    · rw [if_neg c1] at h
      obtain ⟨z2, h3, h⟩ := Option.bind_eq_some_iff.mp h
      cases h
      exact ⟨21, And.intro c1 (s_S_goBy (by omega) (by decide) h3 (And.intro hQ (And.intro rfl rfl)))⟩
set_option maxRecDepth 20000 in
theorem s_S_fits_70 {N d : Nat} {Q : jw_Q} {K2 : Int32 → Int32 → Int32 → jw_M → Option (Int32 × jw_M)} (hd : 3 ≤ d) (hK2 : ∀ {x1 : Int32} {x2 : Int32} {x3 : Int32} {σ : jw_M} {z : (Int32 × jw_M)} {u4 : Option Value} {u5 : Option Value}, K2 x1 x2 x3 σ = some z → Q (some (.int z.1)) (jx_ShC, z.2) → ∃ n, jx_W jx_ShC d (some .boolean) jc_99 Q n 2 [some (.ref 1), some (.int x1), some (.int x2), some (.int x3), u4, u5] [] σ) {x1 : Int32} {x2 : Int32} {x3 : Int32} {u4 : Option Value} {u5 : Option Value} {σ : jw_M} {z : (Int32 × jw_M)} (h : f_S_fits_70 N K2 x1 x2 x3 σ = some z) (hQ : Q (some (.int z.1)) (jx_ShC, z.2)) : ∃ n, jx_W jx_ShC d (some .boolean) jc_99 Q n 70 [some (.ref 1), some (.int x1), some (.int x2), some (.int x3), u4, u5] [] σ := by
  unfold f_S_fits_70 at h
  obtain ⟨n, hn⟩ := hK2 (u4 := u4) (u5 := u5) h hQ
  exact ⟨n + 2, hn⟩
set_option maxRecDepth 20000 in
theorem s_S_fits_34 {N d : Nat} {Q : jw_Q} {K2 : Int32 → Int32 → Int32 → jw_M → Option (Int32 × jw_M)} (hd : 3 ≤ d) (hK2 : ∀ {x1 : Int32} {x2 : Int32} {x3 : Int32} {σ : jw_M} {z : (Int32 × jw_M)} {u4 : Option Value} {u5 : Option Value}, K2 x1 x2 x3 σ = some z → Q (some (.int z.1)) (jx_ShC, z.2) → ∃ n, jx_W jx_ShC d (some .boolean) jc_99 Q n 2 [some (.ref 1), some (.int x1), some (.int x2), some (.int x3), u4, u5] [] σ) {x1 : Int32} {x2 : Int32} {x3 : Int32} {r4 : Nat} {r_0 : Nat} {y1 : Int32} {y2 : Int32} {u5 : Option Value} {σ : jw_M} {z : (Int32 × jw_M)} (hr4 : r4 = 13 ∨ r4 = 14 ∨ r4 = 15 ∨ r4 = 16 ∨ r4 = 17 ∨ r4 = 18) (hr_0 : r_0 = 32 ∨ r_0 = 33 ∨ r_0 = 34 ∨ r_0 = 35 ∨ r_0 = 36 ∨ r_0 = 37) (h : f_S_fits_34 N K2 x1 x2 x3 r4 r_0 y1 y2 σ = some z) (hQ : Q (some (.int z.1)) (jx_ShC, z.2)) : ∃ n, jx_W jx_ShC d (some .boolean) jc_99 Q n 34 [some (.ref 1), some (.int x1), some (.int x2), some (.int x3), some (.ref r4), u5] [.int y2, .int y1, .ref r_0] σ := by
  rcases hr4 with rfl | rfl | rfl | rfl | rfl | rfl
  · rcases hr_0 with rfl | rfl | rfl | rfl | rfl | rfl
    · unfold f_S_fits_34 at h
      obtain ⟨z4, h5, h⟩ := Option.bind_eq_some_iff.mp h
      rw [if_pos rfl] at h5
      by_cases c6 : x3 = x2
      · rw [if_pos c6] at h
        suffices hh : ∃ n, jx_W jx_ShC d (some .boolean) jc_99 Q n 70 [some (.ref 1), some (.int x1), some (.int x2), some (.int x3), some (.ref 13), some (.int (z4.1 * ((x1 - x1 / 5 * 5) + 1)))] [] z4.2 by
          obtain ⟨n, hn⟩ := hh
          exact ⟨n + 11, s_Z_Shade_lengthIn (by omega) (by decide) h5 (And.intro (by decide) (And.intro (fun _ => hn) (fun zz => absurd c6 zz)))⟩
        obtain ⟨n, hn⟩ := s_S_fits_70 hd hK2 (u4 := some (.ref 13)) (u5 := some (.int (z4.1 * ((x1 - x1 / 5 * 5) + 1)))) h hQ
        exact ⟨n + 0, hn⟩
      · rw [if_neg c6] at h
        suffices hh : ∃ n, jx_W jx_ShC d (some .boolean) jc_99 Q n 50 [some (.ref 1), some (.int x1), some (.int x2), some (.int x3), some (.ref 13), some (.int (z4.1 * ((x1 - x1 / 5 * 5) + 1)))] [] z4.2 by
          obtain ⟨n, hn⟩ := hh
          exact ⟨n + 11, s_Z_Shade_lengthIn (by omega) (by decide) h5 (And.intro (by decide) (And.intro (fun zz => absurd zz c6) (fun _ => hn)))⟩
        by_cases c7 : (z4.1 * ((x1 - x1 / 5 * 5) + 1)) < (z4.2.1 13 2)
        · rw [if_pos c7] at h
          suffices hh : ∃ n, jx_W jx_ShC d (some .boolean) jc_99 Q n 68 [some (.ref 1), some (.int x1), some (.int x2), some (.int x3), some (.ref 13), some (.int (z4.1 * ((x1 - x1 / 5 * 5) + 1)))] [] z4.2 by
            obtain ⟨n, hn⟩ := hh
            exact ⟨n + 5, And.intro (jx_in_ok rfl) (And.intro (fun _ => hn) (fun zz => absurd c7 zz))⟩
          cases h
          exact ⟨2, And.intro (Or.inl rfl) (And.intro hQ (And.intro rfl rfl))⟩
        · rw [if_neg c7] at h
          suffices hh : ∃ n, jx_W jx_ShC d (some .boolean) jc_99 Q n 59 [some (.ref 1), some (.int x1), some (.int x2), some (.int x3), some (.ref 13), some (.int (z4.1 * ((x1 - x1 / 5 * 5) + 1)))] [] z4.2 by
            obtain ⟨n, hn⟩ := hh
            exact ⟨n + 5, And.intro (jx_in_ok rfl) (And.intro (fun zz => absurd zz c7) (fun _ => hn))⟩
          by_cases c8 : (z4.1 * ((x1 - x1 / 5 * 5) + 1)) ≤ (z4.2.1 13 3)
          · rw [if_pos c8] at h
            suffices hh : ∃ n, jx_W jx_ShC d (some .boolean) jc_99 Q n 70 [some (.ref 1), some (.int x1), some (.int x2), some (.int x3), some (.ref 13), some (.int (z4.1 * ((x1 - x1 / 5 * 5) + 1)))] [] z4.2 by
              obtain ⟨n, hn⟩ := hh
              exact ⟨n + 5, And.intro (jx_in_ok rfl) (And.intro (fun _ => hn) (fun zz => absurd c8 zz))⟩
            obtain ⟨n, hn⟩ := s_S_fits_70 hd hK2 (u4 := some (.ref 13)) (u5 := some (.int (z4.1 * ((x1 - x1 / 5 * 5) + 1)))) h hQ
            exact ⟨n + 0, hn⟩
          · rw [if_neg c8] at h
            suffices hh : ∃ n, jx_W jx_ShC d (some .boolean) jc_99 Q n 68 [some (.ref 1), some (.int x1), some (.int x2), some (.int x3), some (.ref 13), some (.int (z4.1 * ((x1 - x1 / 5 * 5) + 1)))] [] z4.2 by
              obtain ⟨n, hn⟩ := hh
              exact ⟨n + 5, And.intro (jx_in_ok rfl) (And.intro (fun zz => absurd zz c8) (fun _ => hn))⟩
            cases h
            exact ⟨2, And.intro (Or.inl rfl) (And.intro hQ (And.intro rfl rfl))⟩
    · unfold f_S_fits_34 at h
      obtain ⟨z4, h5, h⟩ := Option.bind_eq_some_iff.mp h
      rw [if_neg (by decide), if_pos rfl] at h5
      by_cases c6 : x3 = x2
      · rw [if_pos c6] at h
        suffices hh : ∃ n, jx_W jx_ShC d (some .boolean) jc_99 Q n 70 [some (.ref 1), some (.int x1), some (.int x2), some (.int x3), some (.ref 13), some (.int (z4.1 * ((x1 - x1 / 5 * 5) + 1)))] [] z4.2 by
          obtain ⟨n, hn⟩ := hh
          exact ⟨n + 11, s_Z_Shade_lengthIn (by omega) (by decide) h5 (And.intro (by decide) (And.intro (fun _ => hn) (fun zz => absurd c6 zz)))⟩
        obtain ⟨n, hn⟩ := s_S_fits_70 hd hK2 (u4 := some (.ref 13)) (u5 := some (.int (z4.1 * ((x1 - x1 / 5 * 5) + 1)))) h hQ
        exact ⟨n + 0, hn⟩
      · rw [if_neg c6] at h
        suffices hh : ∃ n, jx_W jx_ShC d (some .boolean) jc_99 Q n 50 [some (.ref 1), some (.int x1), some (.int x2), some (.int x3), some (.ref 13), some (.int (z4.1 * ((x1 - x1 / 5 * 5) + 1)))] [] z4.2 by
          obtain ⟨n, hn⟩ := hh
          exact ⟨n + 11, s_Z_Shade_lengthIn (by omega) (by decide) h5 (And.intro (by decide) (And.intro (fun zz => absurd zz c6) (fun _ => hn)))⟩
        by_cases c7 : (z4.1 * ((x1 - x1 / 5 * 5) + 1)) < (z4.2.1 13 2)
        · rw [if_pos c7] at h
          suffices hh : ∃ n, jx_W jx_ShC d (some .boolean) jc_99 Q n 68 [some (.ref 1), some (.int x1), some (.int x2), some (.int x3), some (.ref 13), some (.int (z4.1 * ((x1 - x1 / 5 * 5) + 1)))] [] z4.2 by
            obtain ⟨n, hn⟩ := hh
            exact ⟨n + 5, And.intro (jx_in_ok rfl) (And.intro (fun _ => hn) (fun zz => absurd c7 zz))⟩
          cases h
          exact ⟨2, And.intro (Or.inl rfl) (And.intro hQ (And.intro rfl rfl))⟩
        · rw [if_neg c7] at h
          suffices hh : ∃ n, jx_W jx_ShC d (some .boolean) jc_99 Q n 59 [some (.ref 1), some (.int x1), some (.int x2), some (.int x3), some (.ref 13), some (.int (z4.1 * ((x1 - x1 / 5 * 5) + 1)))] [] z4.2 by
            obtain ⟨n, hn⟩ := hh
            exact ⟨n + 5, And.intro (jx_in_ok rfl) (And.intro (fun zz => absurd zz c7) (fun _ => hn))⟩
          by_cases c8 : (z4.1 * ((x1 - x1 / 5 * 5) + 1)) ≤ (z4.2.1 13 3)
          · rw [if_pos c8] at h
            suffices hh : ∃ n, jx_W jx_ShC d (some .boolean) jc_99 Q n 70 [some (.ref 1), some (.int x1), some (.int x2), some (.int x3), some (.ref 13), some (.int (z4.1 * ((x1 - x1 / 5 * 5) + 1)))] [] z4.2 by
              obtain ⟨n, hn⟩ := hh
              exact ⟨n + 5, And.intro (jx_in_ok rfl) (And.intro (fun _ => hn) (fun zz => absurd c8 zz))⟩
            obtain ⟨n, hn⟩ := s_S_fits_70 hd hK2 (u4 := some (.ref 13)) (u5 := some (.int (z4.1 * ((x1 - x1 / 5 * 5) + 1)))) h hQ
            exact ⟨n + 0, hn⟩
          · rw [if_neg c8] at h
            suffices hh : ∃ n, jx_W jx_ShC d (some .boolean) jc_99 Q n 68 [some (.ref 1), some (.int x1), some (.int x2), some (.int x3), some (.ref 13), some (.int (z4.1 * ((x1 - x1 / 5 * 5) + 1)))] [] z4.2 by
              obtain ⟨n, hn⟩ := hh
              exact ⟨n + 5, And.intro (jx_in_ok rfl) (And.intro (fun zz => absurd zz c8) (fun _ => hn))⟩
            cases h
            exact ⟨2, And.intro (Or.inl rfl) (And.intro hQ (And.intro rfl rfl))⟩
    · unfold f_S_fits_34 at h
      obtain ⟨z4, h5, h⟩ := Option.bind_eq_some_iff.mp h
      rw [if_neg (by decide), if_neg (by decide), if_pos rfl] at h5
      by_cases c6 : x3 = x2
      · rw [if_pos c6] at h
        suffices hh : ∃ n, jx_W jx_ShC d (some .boolean) jc_99 Q n 70 [some (.ref 1), some (.int x1), some (.int x2), some (.int x3), some (.ref 13), some (.int (z4.1 * ((x1 - x1 / 5 * 5) + 1)))] [] z4.2 by
          obtain ⟨n, hn⟩ := hh
          exact ⟨n + 11, s_Z_Shade_lengthIn (by omega) (by decide) h5 (And.intro (by decide) (And.intro (fun _ => hn) (fun zz => absurd c6 zz)))⟩
        obtain ⟨n, hn⟩ := s_S_fits_70 hd hK2 (u4 := some (.ref 13)) (u5 := some (.int (z4.1 * ((x1 - x1 / 5 * 5) + 1)))) h hQ
        exact ⟨n + 0, hn⟩
      · rw [if_neg c6] at h
        suffices hh : ∃ n, jx_W jx_ShC d (some .boolean) jc_99 Q n 50 [some (.ref 1), some (.int x1), some (.int x2), some (.int x3), some (.ref 13), some (.int (z4.1 * ((x1 - x1 / 5 * 5) + 1)))] [] z4.2 by
          obtain ⟨n, hn⟩ := hh
          exact ⟨n + 11, s_Z_Shade_lengthIn (by omega) (by decide) h5 (And.intro (by decide) (And.intro (fun zz => absurd zz c6) (fun _ => hn)))⟩
        by_cases c7 : (z4.1 * ((x1 - x1 / 5 * 5) + 1)) < (z4.2.1 13 2)
        · rw [if_pos c7] at h
          suffices hh : ∃ n, jx_W jx_ShC d (some .boolean) jc_99 Q n 68 [some (.ref 1), some (.int x1), some (.int x2), some (.int x3), some (.ref 13), some (.int (z4.1 * ((x1 - x1 / 5 * 5) + 1)))] [] z4.2 by
            obtain ⟨n, hn⟩ := hh
            exact ⟨n + 5, And.intro (jx_in_ok rfl) (And.intro (fun _ => hn) (fun zz => absurd c7 zz))⟩
          cases h
          exact ⟨2, And.intro (Or.inl rfl) (And.intro hQ (And.intro rfl rfl))⟩
        · rw [if_neg c7] at h
          suffices hh : ∃ n, jx_W jx_ShC d (some .boolean) jc_99 Q n 59 [some (.ref 1), some (.int x1), some (.int x2), some (.int x3), some (.ref 13), some (.int (z4.1 * ((x1 - x1 / 5 * 5) + 1)))] [] z4.2 by
            obtain ⟨n, hn⟩ := hh
            exact ⟨n + 5, And.intro (jx_in_ok rfl) (And.intro (fun zz => absurd zz c7) (fun _ => hn))⟩
          by_cases c8 : (z4.1 * ((x1 - x1 / 5 * 5) + 1)) ≤ (z4.2.1 13 3)
          · rw [if_pos c8] at h
            suffices hh : ∃ n, jx_W jx_ShC d (some .boolean) jc_99 Q n 70 [some (.ref 1), some (.int x1), some (.int x2), some (.int x3), some (.ref 13), some (.int (z4.1 * ((x1 - x1 / 5 * 5) + 1)))] [] z4.2 by
              obtain ⟨n, hn⟩ := hh
              exact ⟨n + 5, And.intro (jx_in_ok rfl) (And.intro (fun _ => hn) (fun zz => absurd c8 zz))⟩
            obtain ⟨n, hn⟩ := s_S_fits_70 hd hK2 (u4 := some (.ref 13)) (u5 := some (.int (z4.1 * ((x1 - x1 / 5 * 5) + 1)))) h hQ
            exact ⟨n + 0, hn⟩
          · rw [if_neg c8] at h
            suffices hh : ∃ n, jx_W jx_ShC d (some .boolean) jc_99 Q n 68 [some (.ref 1), some (.int x1), some (.int x2), some (.int x3), some (.ref 13), some (.int (z4.1 * ((x1 - x1 / 5 * 5) + 1)))] [] z4.2 by
              obtain ⟨n, hn⟩ := hh
              exact ⟨n + 5, And.intro (jx_in_ok rfl) (And.intro (fun zz => absurd zz c8) (fun _ => hn))⟩
            cases h
            exact ⟨2, And.intro (Or.inl rfl) (And.intro hQ (And.intro rfl rfl))⟩
    · unfold f_S_fits_34 at h
      obtain ⟨z4, h5, h⟩ := Option.bind_eq_some_iff.mp h
      rw [if_neg (by decide), if_neg (by decide), if_neg (by decide), if_pos rfl] at h5
      by_cases c6 : x3 = x2
      · rw [if_pos c6] at h
        suffices hh : ∃ n, jx_W jx_ShC d (some .boolean) jc_99 Q n 70 [some (.ref 1), some (.int x1), some (.int x2), some (.int x3), some (.ref 13), some (.int (z4.1 * ((x1 - x1 / 5 * 5) + 1)))] [] z4.2 by
          obtain ⟨n, hn⟩ := hh
          exact ⟨n + 11, s_Z_Coloured_lengthIn (by omega) h5 (And.intro (by decide) (And.intro (fun _ => hn) (fun zz => absurd c6 zz)))⟩
        obtain ⟨n, hn⟩ := s_S_fits_70 hd hK2 (u4 := some (.ref 13)) (u5 := some (.int (z4.1 * ((x1 - x1 / 5 * 5) + 1)))) h hQ
        exact ⟨n + 0, hn⟩
      · rw [if_neg c6] at h
        suffices hh : ∃ n, jx_W jx_ShC d (some .boolean) jc_99 Q n 50 [some (.ref 1), some (.int x1), some (.int x2), some (.int x3), some (.ref 13), some (.int (z4.1 * ((x1 - x1 / 5 * 5) + 1)))] [] z4.2 by
          obtain ⟨n, hn⟩ := hh
          exact ⟨n + 11, s_Z_Coloured_lengthIn (by omega) h5 (And.intro (by decide) (And.intro (fun zz => absurd zz c6) (fun _ => hn)))⟩
        by_cases c7 : (z4.1 * ((x1 - x1 / 5 * 5) + 1)) < (z4.2.1 13 2)
        · rw [if_pos c7] at h
          suffices hh : ∃ n, jx_W jx_ShC d (some .boolean) jc_99 Q n 68 [some (.ref 1), some (.int x1), some (.int x2), some (.int x3), some (.ref 13), some (.int (z4.1 * ((x1 - x1 / 5 * 5) + 1)))] [] z4.2 by
            obtain ⟨n, hn⟩ := hh
            exact ⟨n + 5, And.intro (jx_in_ok rfl) (And.intro (fun _ => hn) (fun zz => absurd c7 zz))⟩
          cases h
          exact ⟨2, And.intro (Or.inl rfl) (And.intro hQ (And.intro rfl rfl))⟩
        · rw [if_neg c7] at h
          suffices hh : ∃ n, jx_W jx_ShC d (some .boolean) jc_99 Q n 59 [some (.ref 1), some (.int x1), some (.int x2), some (.int x3), some (.ref 13), some (.int (z4.1 * ((x1 - x1 / 5 * 5) + 1)))] [] z4.2 by
            obtain ⟨n, hn⟩ := hh
            exact ⟨n + 5, And.intro (jx_in_ok rfl) (And.intro (fun zz => absurd zz c7) (fun _ => hn))⟩
          by_cases c8 : (z4.1 * ((x1 - x1 / 5 * 5) + 1)) ≤ (z4.2.1 13 3)
          · rw [if_pos c8] at h
            suffices hh : ∃ n, jx_W jx_ShC d (some .boolean) jc_99 Q n 70 [some (.ref 1), some (.int x1), some (.int x2), some (.int x3), some (.ref 13), some (.int (z4.1 * ((x1 - x1 / 5 * 5) + 1)))] [] z4.2 by
              obtain ⟨n, hn⟩ := hh
              exact ⟨n + 5, And.intro (jx_in_ok rfl) (And.intro (fun _ => hn) (fun zz => absurd c8 zz))⟩
            obtain ⟨n, hn⟩ := s_S_fits_70 hd hK2 (u4 := some (.ref 13)) (u5 := some (.int (z4.1 * ((x1 - x1 / 5 * 5) + 1)))) h hQ
            exact ⟨n + 0, hn⟩
          · rw [if_neg c8] at h
            suffices hh : ∃ n, jx_W jx_ShC d (some .boolean) jc_99 Q n 68 [some (.ref 1), some (.int x1), some (.int x2), some (.int x3), some (.ref 13), some (.int (z4.1 * ((x1 - x1 / 5 * 5) + 1)))] [] z4.2 by
              obtain ⟨n, hn⟩ := hh
              exact ⟨n + 5, And.intro (jx_in_ok rfl) (And.intro (fun zz => absurd zz c8) (fun _ => hn))⟩
            cases h
            exact ⟨2, And.intro (Or.inl rfl) (And.intro hQ (And.intro rfl rfl))⟩
    · unfold f_S_fits_34 at h
      obtain ⟨z4, h5, h⟩ := Option.bind_eq_some_iff.mp h
      rw [if_neg (by decide), if_neg (by decide), if_neg (by decide), if_neg (by decide), if_pos rfl] at h5
      by_cases c6 : x3 = x2
      · rw [if_pos c6] at h
        suffices hh : ∃ n, jx_W jx_ShC d (some .boolean) jc_99 Q n 70 [some (.ref 1), some (.int x1), some (.int x2), some (.int x3), some (.ref 13), some (.int (z4.1 * ((x1 - x1 / 5 * 5) + 1)))] [] z4.2 by
          obtain ⟨n, hn⟩ := hh
          exact ⟨n + 11, s_Z_Slow_lengthIn (by omega) (by decide) h5 (And.intro (by decide) (And.intro (fun _ => hn) (fun zz => absurd c6 zz)))⟩
        obtain ⟨n, hn⟩ := s_S_fits_70 hd hK2 (u4 := some (.ref 13)) (u5 := some (.int (z4.1 * ((x1 - x1 / 5 * 5) + 1)))) h hQ
        exact ⟨n + 0, hn⟩
      · rw [if_neg c6] at h
        suffices hh : ∃ n, jx_W jx_ShC d (some .boolean) jc_99 Q n 50 [some (.ref 1), some (.int x1), some (.int x2), some (.int x3), some (.ref 13), some (.int (z4.1 * ((x1 - x1 / 5 * 5) + 1)))] [] z4.2 by
          obtain ⟨n, hn⟩ := hh
          exact ⟨n + 11, s_Z_Slow_lengthIn (by omega) (by decide) h5 (And.intro (by decide) (And.intro (fun zz => absurd zz c6) (fun _ => hn)))⟩
        by_cases c7 : (z4.1 * ((x1 - x1 / 5 * 5) + 1)) < (z4.2.1 13 2)
        · rw [if_pos c7] at h
          suffices hh : ∃ n, jx_W jx_ShC d (some .boolean) jc_99 Q n 68 [some (.ref 1), some (.int x1), some (.int x2), some (.int x3), some (.ref 13), some (.int (z4.1 * ((x1 - x1 / 5 * 5) + 1)))] [] z4.2 by
            obtain ⟨n, hn⟩ := hh
            exact ⟨n + 5, And.intro (jx_in_ok rfl) (And.intro (fun _ => hn) (fun zz => absurd c7 zz))⟩
          cases h
          exact ⟨2, And.intro (Or.inl rfl) (And.intro hQ (And.intro rfl rfl))⟩
        · rw [if_neg c7] at h
          suffices hh : ∃ n, jx_W jx_ShC d (some .boolean) jc_99 Q n 59 [some (.ref 1), some (.int x1), some (.int x2), some (.int x3), some (.ref 13), some (.int (z4.1 * ((x1 - x1 / 5 * 5) + 1)))] [] z4.2 by
            obtain ⟨n, hn⟩ := hh
            exact ⟨n + 5, And.intro (jx_in_ok rfl) (And.intro (fun zz => absurd zz c7) (fun _ => hn))⟩
          by_cases c8 : (z4.1 * ((x1 - x1 / 5 * 5) + 1)) ≤ (z4.2.1 13 3)
          · rw [if_pos c8] at h
            suffices hh : ∃ n, jx_W jx_ShC d (some .boolean) jc_99 Q n 70 [some (.ref 1), some (.int x1), some (.int x2), some (.int x3), some (.ref 13), some (.int (z4.1 * ((x1 - x1 / 5 * 5) + 1)))] [] z4.2 by
              obtain ⟨n, hn⟩ := hh
              exact ⟨n + 5, And.intro (jx_in_ok rfl) (And.intro (fun _ => hn) (fun zz => absurd c8 zz))⟩
            obtain ⟨n, hn⟩ := s_S_fits_70 hd hK2 (u4 := some (.ref 13)) (u5 := some (.int (z4.1 * ((x1 - x1 / 5 * 5) + 1)))) h hQ
            exact ⟨n + 0, hn⟩
          · rw [if_neg c8] at h
            suffices hh : ∃ n, jx_W jx_ShC d (some .boolean) jc_99 Q n 68 [some (.ref 1), some (.int x1), some (.int x2), some (.int x3), some (.ref 13), some (.int (z4.1 * ((x1 - x1 / 5 * 5) + 1)))] [] z4.2 by
              obtain ⟨n, hn⟩ := hh
              exact ⟨n + 5, And.intro (jx_in_ok rfl) (And.intro (fun zz => absurd zz c8) (fun _ => hn))⟩
            cases h
            exact ⟨2, And.intro (Or.inl rfl) (And.intro hQ (And.intro rfl rfl))⟩
    · unfold f_S_fits_34 at h
      obtain ⟨z4, h5, h⟩ := Option.bind_eq_some_iff.mp h
      rw [if_neg (by decide), if_neg (by decide), if_neg (by decide), if_neg (by decide), if_neg (by decide), if_pos rfl] at h5
      by_cases c6 : x3 = x2
      · rw [if_pos c6] at h
        suffices hh : ∃ n, jx_W jx_ShC d (some .boolean) jc_99 Q n 70 [some (.ref 1), some (.int x1), some (.int x2), some (.int x3), some (.ref 13), some (.int (z4.1 * ((x1 - x1 / 5 * 5) + 1)))] [] z4.2 by
          obtain ⟨n, hn⟩ := hh
          exact ⟨n + 11, s_Z_Borrowed_lengthIn (by omega) h5 (And.intro (by decide) (And.intro (fun _ => hn) (fun zz => absurd c6 zz)))⟩
        obtain ⟨n, hn⟩ := s_S_fits_70 hd hK2 (u4 := some (.ref 13)) (u5 := some (.int (z4.1 * ((x1 - x1 / 5 * 5) + 1)))) h hQ
        exact ⟨n + 0, hn⟩
      · rw [if_neg c6] at h
        suffices hh : ∃ n, jx_W jx_ShC d (some .boolean) jc_99 Q n 50 [some (.ref 1), some (.int x1), some (.int x2), some (.int x3), some (.ref 13), some (.int (z4.1 * ((x1 - x1 / 5 * 5) + 1)))] [] z4.2 by
          obtain ⟨n, hn⟩ := hh
          exact ⟨n + 11, s_Z_Borrowed_lengthIn (by omega) h5 (And.intro (by decide) (And.intro (fun zz => absurd zz c6) (fun _ => hn)))⟩
        by_cases c7 : (z4.1 * ((x1 - x1 / 5 * 5) + 1)) < (z4.2.1 13 2)
        · rw [if_pos c7] at h
          suffices hh : ∃ n, jx_W jx_ShC d (some .boolean) jc_99 Q n 68 [some (.ref 1), some (.int x1), some (.int x2), some (.int x3), some (.ref 13), some (.int (z4.1 * ((x1 - x1 / 5 * 5) + 1)))] [] z4.2 by
            obtain ⟨n, hn⟩ := hh
            exact ⟨n + 5, And.intro (jx_in_ok rfl) (And.intro (fun _ => hn) (fun zz => absurd c7 zz))⟩
          cases h
          exact ⟨2, And.intro (Or.inl rfl) (And.intro hQ (And.intro rfl rfl))⟩
        · rw [if_neg c7] at h
          suffices hh : ∃ n, jx_W jx_ShC d (some .boolean) jc_99 Q n 59 [some (.ref 1), some (.int x1), some (.int x2), some (.int x3), some (.ref 13), some (.int (z4.1 * ((x1 - x1 / 5 * 5) + 1)))] [] z4.2 by
            obtain ⟨n, hn⟩ := hh
            exact ⟨n + 5, And.intro (jx_in_ok rfl) (And.intro (fun zz => absurd zz c7) (fun _ => hn))⟩
          by_cases c8 : (z4.1 * ((x1 - x1 / 5 * 5) + 1)) ≤ (z4.2.1 13 3)
          · rw [if_pos c8] at h
            suffices hh : ∃ n, jx_W jx_ShC d (some .boolean) jc_99 Q n 70 [some (.ref 1), some (.int x1), some (.int x2), some (.int x3), some (.ref 13), some (.int (z4.1 * ((x1 - x1 / 5 * 5) + 1)))] [] z4.2 by
              obtain ⟨n, hn⟩ := hh
              exact ⟨n + 5, And.intro (jx_in_ok rfl) (And.intro (fun _ => hn) (fun zz => absurd c8 zz))⟩
            obtain ⟨n, hn⟩ := s_S_fits_70 hd hK2 (u4 := some (.ref 13)) (u5 := some (.int (z4.1 * ((x1 - x1 / 5 * 5) + 1)))) h hQ
            exact ⟨n + 0, hn⟩
          · rw [if_neg c8] at h
            suffices hh : ∃ n, jx_W jx_ShC d (some .boolean) jc_99 Q n 68 [some (.ref 1), some (.int x1), some (.int x2), some (.int x3), some (.ref 13), some (.int (z4.1 * ((x1 - x1 / 5 * 5) + 1)))] [] z4.2 by
              obtain ⟨n, hn⟩ := hh
              exact ⟨n + 5, And.intro (jx_in_ok rfl) (And.intro (fun zz => absurd zz c8) (fun _ => hn))⟩
            cases h
            exact ⟨2, And.intro (Or.inl rfl) (And.intro hQ (And.intro rfl rfl))⟩
  · rcases hr_0 with rfl | rfl | rfl | rfl | rfl | rfl
    · unfold f_S_fits_34 at h
      obtain ⟨z4, h5, h⟩ := Option.bind_eq_some_iff.mp h
      rw [if_pos rfl] at h5
      by_cases c6 : x3 = x2
      · rw [if_pos c6] at h
        suffices hh : ∃ n, jx_W jx_ShC d (some .boolean) jc_99 Q n 70 [some (.ref 1), some (.int x1), some (.int x2), some (.int x3), some (.ref 14), some (.int (z4.1 * ((x1 - x1 / 5 * 5) + 1)))] [] z4.2 by
          obtain ⟨n, hn⟩ := hh
          exact ⟨n + 11, s_Z_Shade_lengthIn (by omega) (by decide) h5 (And.intro (by decide) (And.intro (fun _ => hn) (fun zz => absurd c6 zz)))⟩
        obtain ⟨n, hn⟩ := s_S_fits_70 hd hK2 (u4 := some (.ref 14)) (u5 := some (.int (z4.1 * ((x1 - x1 / 5 * 5) + 1)))) h hQ
        exact ⟨n + 0, hn⟩
      · rw [if_neg c6] at h
        suffices hh : ∃ n, jx_W jx_ShC d (some .boolean) jc_99 Q n 50 [some (.ref 1), some (.int x1), some (.int x2), some (.int x3), some (.ref 14), some (.int (z4.1 * ((x1 - x1 / 5 * 5) + 1)))] [] z4.2 by
          obtain ⟨n, hn⟩ := hh
          exact ⟨n + 11, s_Z_Shade_lengthIn (by omega) (by decide) h5 (And.intro (by decide) (And.intro (fun zz => absurd zz c6) (fun _ => hn)))⟩
        by_cases c7 : (z4.1 * ((x1 - x1 / 5 * 5) + 1)) < (z4.2.1 14 2)
        · rw [if_pos c7] at h
          suffices hh : ∃ n, jx_W jx_ShC d (some .boolean) jc_99 Q n 68 [some (.ref 1), some (.int x1), some (.int x2), some (.int x3), some (.ref 14), some (.int (z4.1 * ((x1 - x1 / 5 * 5) + 1)))] [] z4.2 by
            obtain ⟨n, hn⟩ := hh
            exact ⟨n + 5, And.intro (jx_in_ok rfl) (And.intro (fun _ => hn) (fun zz => absurd c7 zz))⟩
          cases h
          exact ⟨2, And.intro (Or.inl rfl) (And.intro hQ (And.intro rfl rfl))⟩
        · rw [if_neg c7] at h
          suffices hh : ∃ n, jx_W jx_ShC d (some .boolean) jc_99 Q n 59 [some (.ref 1), some (.int x1), some (.int x2), some (.int x3), some (.ref 14), some (.int (z4.1 * ((x1 - x1 / 5 * 5) + 1)))] [] z4.2 by
            obtain ⟨n, hn⟩ := hh
            exact ⟨n + 5, And.intro (jx_in_ok rfl) (And.intro (fun zz => absurd zz c7) (fun _ => hn))⟩
          by_cases c8 : (z4.1 * ((x1 - x1 / 5 * 5) + 1)) ≤ (z4.2.1 14 3)
          · rw [if_pos c8] at h
            suffices hh : ∃ n, jx_W jx_ShC d (some .boolean) jc_99 Q n 70 [some (.ref 1), some (.int x1), some (.int x2), some (.int x3), some (.ref 14), some (.int (z4.1 * ((x1 - x1 / 5 * 5) + 1)))] [] z4.2 by
              obtain ⟨n, hn⟩ := hh
              exact ⟨n + 5, And.intro (jx_in_ok rfl) (And.intro (fun _ => hn) (fun zz => absurd c8 zz))⟩
            obtain ⟨n, hn⟩ := s_S_fits_70 hd hK2 (u4 := some (.ref 14)) (u5 := some (.int (z4.1 * ((x1 - x1 / 5 * 5) + 1)))) h hQ
            exact ⟨n + 0, hn⟩
          · rw [if_neg c8] at h
            suffices hh : ∃ n, jx_W jx_ShC d (some .boolean) jc_99 Q n 68 [some (.ref 1), some (.int x1), some (.int x2), some (.int x3), some (.ref 14), some (.int (z4.1 * ((x1 - x1 / 5 * 5) + 1)))] [] z4.2 by
              obtain ⟨n, hn⟩ := hh
              exact ⟨n + 5, And.intro (jx_in_ok rfl) (And.intro (fun zz => absurd zz c8) (fun _ => hn))⟩
            cases h
            exact ⟨2, And.intro (Or.inl rfl) (And.intro hQ (And.intro rfl rfl))⟩
    · unfold f_S_fits_34 at h
      obtain ⟨z4, h5, h⟩ := Option.bind_eq_some_iff.mp h
      rw [if_neg (by decide), if_pos rfl] at h5
      by_cases c6 : x3 = x2
      · rw [if_pos c6] at h
        suffices hh : ∃ n, jx_W jx_ShC d (some .boolean) jc_99 Q n 70 [some (.ref 1), some (.int x1), some (.int x2), some (.int x3), some (.ref 14), some (.int (z4.1 * ((x1 - x1 / 5 * 5) + 1)))] [] z4.2 by
          obtain ⟨n, hn⟩ := hh
          exact ⟨n + 11, s_Z_Shade_lengthIn (by omega) (by decide) h5 (And.intro (by decide) (And.intro (fun _ => hn) (fun zz => absurd c6 zz)))⟩
        obtain ⟨n, hn⟩ := s_S_fits_70 hd hK2 (u4 := some (.ref 14)) (u5 := some (.int (z4.1 * ((x1 - x1 / 5 * 5) + 1)))) h hQ
        exact ⟨n + 0, hn⟩
      · rw [if_neg c6] at h
        suffices hh : ∃ n, jx_W jx_ShC d (some .boolean) jc_99 Q n 50 [some (.ref 1), some (.int x1), some (.int x2), some (.int x3), some (.ref 14), some (.int (z4.1 * ((x1 - x1 / 5 * 5) + 1)))] [] z4.2 by
          obtain ⟨n, hn⟩ := hh
          exact ⟨n + 11, s_Z_Shade_lengthIn (by omega) (by decide) h5 (And.intro (by decide) (And.intro (fun zz => absurd zz c6) (fun _ => hn)))⟩
        by_cases c7 : (z4.1 * ((x1 - x1 / 5 * 5) + 1)) < (z4.2.1 14 2)
        · rw [if_pos c7] at h
          suffices hh : ∃ n, jx_W jx_ShC d (some .boolean) jc_99 Q n 68 [some (.ref 1), some (.int x1), some (.int x2), some (.int x3), some (.ref 14), some (.int (z4.1 * ((x1 - x1 / 5 * 5) + 1)))] [] z4.2 by
            obtain ⟨n, hn⟩ := hh
            exact ⟨n + 5, And.intro (jx_in_ok rfl) (And.intro (fun _ => hn) (fun zz => absurd c7 zz))⟩
          cases h
          exact ⟨2, And.intro (Or.inl rfl) (And.intro hQ (And.intro rfl rfl))⟩
        · rw [if_neg c7] at h
          suffices hh : ∃ n, jx_W jx_ShC d (some .boolean) jc_99 Q n 59 [some (.ref 1), some (.int x1), some (.int x2), some (.int x3), some (.ref 14), some (.int (z4.1 * ((x1 - x1 / 5 * 5) + 1)))] [] z4.2 by
            obtain ⟨n, hn⟩ := hh
            exact ⟨n + 5, And.intro (jx_in_ok rfl) (And.intro (fun zz => absurd zz c7) (fun _ => hn))⟩
          by_cases c8 : (z4.1 * ((x1 - x1 / 5 * 5) + 1)) ≤ (z4.2.1 14 3)
          · rw [if_pos c8] at h
            suffices hh : ∃ n, jx_W jx_ShC d (some .boolean) jc_99 Q n 70 [some (.ref 1), some (.int x1), some (.int x2), some (.int x3), some (.ref 14), some (.int (z4.1 * ((x1 - x1 / 5 * 5) + 1)))] [] z4.2 by
              obtain ⟨n, hn⟩ := hh
              exact ⟨n + 5, And.intro (jx_in_ok rfl) (And.intro (fun _ => hn) (fun zz => absurd c8 zz))⟩
            obtain ⟨n, hn⟩ := s_S_fits_70 hd hK2 (u4 := some (.ref 14)) (u5 := some (.int (z4.1 * ((x1 - x1 / 5 * 5) + 1)))) h hQ
            exact ⟨n + 0, hn⟩
          · rw [if_neg c8] at h
            suffices hh : ∃ n, jx_W jx_ShC d (some .boolean) jc_99 Q n 68 [some (.ref 1), some (.int x1), some (.int x2), some (.int x3), some (.ref 14), some (.int (z4.1 * ((x1 - x1 / 5 * 5) + 1)))] [] z4.2 by
              obtain ⟨n, hn⟩ := hh
              exact ⟨n + 5, And.intro (jx_in_ok rfl) (And.intro (fun zz => absurd zz c8) (fun _ => hn))⟩
            cases h
            exact ⟨2, And.intro (Or.inl rfl) (And.intro hQ (And.intro rfl rfl))⟩
    · unfold f_S_fits_34 at h
      obtain ⟨z4, h5, h⟩ := Option.bind_eq_some_iff.mp h
      rw [if_neg (by decide), if_neg (by decide), if_pos rfl] at h5
      by_cases c6 : x3 = x2
      · rw [if_pos c6] at h
        suffices hh : ∃ n, jx_W jx_ShC d (some .boolean) jc_99 Q n 70 [some (.ref 1), some (.int x1), some (.int x2), some (.int x3), some (.ref 14), some (.int (z4.1 * ((x1 - x1 / 5 * 5) + 1)))] [] z4.2 by
          obtain ⟨n, hn⟩ := hh
          exact ⟨n + 11, s_Z_Shade_lengthIn (by omega) (by decide) h5 (And.intro (by decide) (And.intro (fun _ => hn) (fun zz => absurd c6 zz)))⟩
        obtain ⟨n, hn⟩ := s_S_fits_70 hd hK2 (u4 := some (.ref 14)) (u5 := some (.int (z4.1 * ((x1 - x1 / 5 * 5) + 1)))) h hQ
        exact ⟨n + 0, hn⟩
      · rw [if_neg c6] at h
        suffices hh : ∃ n, jx_W jx_ShC d (some .boolean) jc_99 Q n 50 [some (.ref 1), some (.int x1), some (.int x2), some (.int x3), some (.ref 14), some (.int (z4.1 * ((x1 - x1 / 5 * 5) + 1)))] [] z4.2 by
          obtain ⟨n, hn⟩ := hh
          exact ⟨n + 11, s_Z_Shade_lengthIn (by omega) (by decide) h5 (And.intro (by decide) (And.intro (fun zz => absurd zz c6) (fun _ => hn)))⟩
        by_cases c7 : (z4.1 * ((x1 - x1 / 5 * 5) + 1)) < (z4.2.1 14 2)
        · rw [if_pos c7] at h
          suffices hh : ∃ n, jx_W jx_ShC d (some .boolean) jc_99 Q n 68 [some (.ref 1), some (.int x1), some (.int x2), some (.int x3), some (.ref 14), some (.int (z4.1 * ((x1 - x1 / 5 * 5) + 1)))] [] z4.2 by
            obtain ⟨n, hn⟩ := hh
            exact ⟨n + 5, And.intro (jx_in_ok rfl) (And.intro (fun _ => hn) (fun zz => absurd c7 zz))⟩
          cases h
          exact ⟨2, And.intro (Or.inl rfl) (And.intro hQ (And.intro rfl rfl))⟩
        · rw [if_neg c7] at h
          suffices hh : ∃ n, jx_W jx_ShC d (some .boolean) jc_99 Q n 59 [some (.ref 1), some (.int x1), some (.int x2), some (.int x3), some (.ref 14), some (.int (z4.1 * ((x1 - x1 / 5 * 5) + 1)))] [] z4.2 by
            obtain ⟨n, hn⟩ := hh
            exact ⟨n + 5, And.intro (jx_in_ok rfl) (And.intro (fun zz => absurd zz c7) (fun _ => hn))⟩
          by_cases c8 : (z4.1 * ((x1 - x1 / 5 * 5) + 1)) ≤ (z4.2.1 14 3)
          · rw [if_pos c8] at h
            suffices hh : ∃ n, jx_W jx_ShC d (some .boolean) jc_99 Q n 70 [some (.ref 1), some (.int x1), some (.int x2), some (.int x3), some (.ref 14), some (.int (z4.1 * ((x1 - x1 / 5 * 5) + 1)))] [] z4.2 by
              obtain ⟨n, hn⟩ := hh
              exact ⟨n + 5, And.intro (jx_in_ok rfl) (And.intro (fun _ => hn) (fun zz => absurd c8 zz))⟩
            obtain ⟨n, hn⟩ := s_S_fits_70 hd hK2 (u4 := some (.ref 14)) (u5 := some (.int (z4.1 * ((x1 - x1 / 5 * 5) + 1)))) h hQ
            exact ⟨n + 0, hn⟩
          · rw [if_neg c8] at h
            suffices hh : ∃ n, jx_W jx_ShC d (some .boolean) jc_99 Q n 68 [some (.ref 1), some (.int x1), some (.int x2), some (.int x3), some (.ref 14), some (.int (z4.1 * ((x1 - x1 / 5 * 5) + 1)))] [] z4.2 by
              obtain ⟨n, hn⟩ := hh
              exact ⟨n + 5, And.intro (jx_in_ok rfl) (And.intro (fun zz => absurd zz c8) (fun _ => hn))⟩
            cases h
            exact ⟨2, And.intro (Or.inl rfl) (And.intro hQ (And.intro rfl rfl))⟩
    · unfold f_S_fits_34 at h
      obtain ⟨z4, h5, h⟩ := Option.bind_eq_some_iff.mp h
      rw [if_neg (by decide), if_neg (by decide), if_neg (by decide), if_pos rfl] at h5
      by_cases c6 : x3 = x2
      · rw [if_pos c6] at h
        suffices hh : ∃ n, jx_W jx_ShC d (some .boolean) jc_99 Q n 70 [some (.ref 1), some (.int x1), some (.int x2), some (.int x3), some (.ref 14), some (.int (z4.1 * ((x1 - x1 / 5 * 5) + 1)))] [] z4.2 by
          obtain ⟨n, hn⟩ := hh
          exact ⟨n + 11, s_Z_Coloured_lengthIn (by omega) h5 (And.intro (by decide) (And.intro (fun _ => hn) (fun zz => absurd c6 zz)))⟩
        obtain ⟨n, hn⟩ := s_S_fits_70 hd hK2 (u4 := some (.ref 14)) (u5 := some (.int (z4.1 * ((x1 - x1 / 5 * 5) + 1)))) h hQ
        exact ⟨n + 0, hn⟩
      · rw [if_neg c6] at h
        suffices hh : ∃ n, jx_W jx_ShC d (some .boolean) jc_99 Q n 50 [some (.ref 1), some (.int x1), some (.int x2), some (.int x3), some (.ref 14), some (.int (z4.1 * ((x1 - x1 / 5 * 5) + 1)))] [] z4.2 by
          obtain ⟨n, hn⟩ := hh
          exact ⟨n + 11, s_Z_Coloured_lengthIn (by omega) h5 (And.intro (by decide) (And.intro (fun zz => absurd zz c6) (fun _ => hn)))⟩
        by_cases c7 : (z4.1 * ((x1 - x1 / 5 * 5) + 1)) < (z4.2.1 14 2)
        · rw [if_pos c7] at h
          suffices hh : ∃ n, jx_W jx_ShC d (some .boolean) jc_99 Q n 68 [some (.ref 1), some (.int x1), some (.int x2), some (.int x3), some (.ref 14), some (.int (z4.1 * ((x1 - x1 / 5 * 5) + 1)))] [] z4.2 by
            obtain ⟨n, hn⟩ := hh
            exact ⟨n + 5, And.intro (jx_in_ok rfl) (And.intro (fun _ => hn) (fun zz => absurd c7 zz))⟩
          cases h
          exact ⟨2, And.intro (Or.inl rfl) (And.intro hQ (And.intro rfl rfl))⟩
        · rw [if_neg c7] at h
          suffices hh : ∃ n, jx_W jx_ShC d (some .boolean) jc_99 Q n 59 [some (.ref 1), some (.int x1), some (.int x2), some (.int x3), some (.ref 14), some (.int (z4.1 * ((x1 - x1 / 5 * 5) + 1)))] [] z4.2 by
            obtain ⟨n, hn⟩ := hh
            exact ⟨n + 5, And.intro (jx_in_ok rfl) (And.intro (fun zz => absurd zz c7) (fun _ => hn))⟩
          by_cases c8 : (z4.1 * ((x1 - x1 / 5 * 5) + 1)) ≤ (z4.2.1 14 3)
          · rw [if_pos c8] at h
            suffices hh : ∃ n, jx_W jx_ShC d (some .boolean) jc_99 Q n 70 [some (.ref 1), some (.int x1), some (.int x2), some (.int x3), some (.ref 14), some (.int (z4.1 * ((x1 - x1 / 5 * 5) + 1)))] [] z4.2 by
              obtain ⟨n, hn⟩ := hh
              exact ⟨n + 5, And.intro (jx_in_ok rfl) (And.intro (fun _ => hn) (fun zz => absurd c8 zz))⟩
            obtain ⟨n, hn⟩ := s_S_fits_70 hd hK2 (u4 := some (.ref 14)) (u5 := some (.int (z4.1 * ((x1 - x1 / 5 * 5) + 1)))) h hQ
            exact ⟨n + 0, hn⟩
          · rw [if_neg c8] at h
            suffices hh : ∃ n, jx_W jx_ShC d (some .boolean) jc_99 Q n 68 [some (.ref 1), some (.int x1), some (.int x2), some (.int x3), some (.ref 14), some (.int (z4.1 * ((x1 - x1 / 5 * 5) + 1)))] [] z4.2 by
              obtain ⟨n, hn⟩ := hh
              exact ⟨n + 5, And.intro (jx_in_ok rfl) (And.intro (fun zz => absurd zz c8) (fun _ => hn))⟩
            cases h
            exact ⟨2, And.intro (Or.inl rfl) (And.intro hQ (And.intro rfl rfl))⟩
    · unfold f_S_fits_34 at h
      obtain ⟨z4, h5, h⟩ := Option.bind_eq_some_iff.mp h
      rw [if_neg (by decide), if_neg (by decide), if_neg (by decide), if_neg (by decide), if_pos rfl] at h5
      by_cases c6 : x3 = x2
      · rw [if_pos c6] at h
        suffices hh : ∃ n, jx_W jx_ShC d (some .boolean) jc_99 Q n 70 [some (.ref 1), some (.int x1), some (.int x2), some (.int x3), some (.ref 14), some (.int (z4.1 * ((x1 - x1 / 5 * 5) + 1)))] [] z4.2 by
          obtain ⟨n, hn⟩ := hh
          exact ⟨n + 11, s_Z_Slow_lengthIn (by omega) (by decide) h5 (And.intro (by decide) (And.intro (fun _ => hn) (fun zz => absurd c6 zz)))⟩
        obtain ⟨n, hn⟩ := s_S_fits_70 hd hK2 (u4 := some (.ref 14)) (u5 := some (.int (z4.1 * ((x1 - x1 / 5 * 5) + 1)))) h hQ
        exact ⟨n + 0, hn⟩
      · rw [if_neg c6] at h
        suffices hh : ∃ n, jx_W jx_ShC d (some .boolean) jc_99 Q n 50 [some (.ref 1), some (.int x1), some (.int x2), some (.int x3), some (.ref 14), some (.int (z4.1 * ((x1 - x1 / 5 * 5) + 1)))] [] z4.2 by
          obtain ⟨n, hn⟩ := hh
          exact ⟨n + 11, s_Z_Slow_lengthIn (by omega) (by decide) h5 (And.intro (by decide) (And.intro (fun zz => absurd zz c6) (fun _ => hn)))⟩
        by_cases c7 : (z4.1 * ((x1 - x1 / 5 * 5) + 1)) < (z4.2.1 14 2)
        · rw [if_pos c7] at h
          suffices hh : ∃ n, jx_W jx_ShC d (some .boolean) jc_99 Q n 68 [some (.ref 1), some (.int x1), some (.int x2), some (.int x3), some (.ref 14), some (.int (z4.1 * ((x1 - x1 / 5 * 5) + 1)))] [] z4.2 by
            obtain ⟨n, hn⟩ := hh
            exact ⟨n + 5, And.intro (jx_in_ok rfl) (And.intro (fun _ => hn) (fun zz => absurd c7 zz))⟩
          cases h
          exact ⟨2, And.intro (Or.inl rfl) (And.intro hQ (And.intro rfl rfl))⟩
        · rw [if_neg c7] at h
          suffices hh : ∃ n, jx_W jx_ShC d (some .boolean) jc_99 Q n 59 [some (.ref 1), some (.int x1), some (.int x2), some (.int x3), some (.ref 14), some (.int (z4.1 * ((x1 - x1 / 5 * 5) + 1)))] [] z4.2 by
            obtain ⟨n, hn⟩ := hh
            exact ⟨n + 5, And.intro (jx_in_ok rfl) (And.intro (fun zz => absurd zz c7) (fun _ => hn))⟩
          by_cases c8 : (z4.1 * ((x1 - x1 / 5 * 5) + 1)) ≤ (z4.2.1 14 3)
          · rw [if_pos c8] at h
            suffices hh : ∃ n, jx_W jx_ShC d (some .boolean) jc_99 Q n 70 [some (.ref 1), some (.int x1), some (.int x2), some (.int x3), some (.ref 14), some (.int (z4.1 * ((x1 - x1 / 5 * 5) + 1)))] [] z4.2 by
              obtain ⟨n, hn⟩ := hh
              exact ⟨n + 5, And.intro (jx_in_ok rfl) (And.intro (fun _ => hn) (fun zz => absurd c8 zz))⟩
            obtain ⟨n, hn⟩ := s_S_fits_70 hd hK2 (u4 := some (.ref 14)) (u5 := some (.int (z4.1 * ((x1 - x1 / 5 * 5) + 1)))) h hQ
            exact ⟨n + 0, hn⟩
          · rw [if_neg c8] at h
            suffices hh : ∃ n, jx_W jx_ShC d (some .boolean) jc_99 Q n 68 [some (.ref 1), some (.int x1), some (.int x2), some (.int x3), some (.ref 14), some (.int (z4.1 * ((x1 - x1 / 5 * 5) + 1)))] [] z4.2 by
              obtain ⟨n, hn⟩ := hh
              exact ⟨n + 5, And.intro (jx_in_ok rfl) (And.intro (fun zz => absurd zz c8) (fun _ => hn))⟩
            cases h
            exact ⟨2, And.intro (Or.inl rfl) (And.intro hQ (And.intro rfl rfl))⟩
    · unfold f_S_fits_34 at h
      obtain ⟨z4, h5, h⟩ := Option.bind_eq_some_iff.mp h
      rw [if_neg (by decide), if_neg (by decide), if_neg (by decide), if_neg (by decide), if_neg (by decide), if_pos rfl] at h5
      by_cases c6 : x3 = x2
      · rw [if_pos c6] at h
        suffices hh : ∃ n, jx_W jx_ShC d (some .boolean) jc_99 Q n 70 [some (.ref 1), some (.int x1), some (.int x2), some (.int x3), some (.ref 14), some (.int (z4.1 * ((x1 - x1 / 5 * 5) + 1)))] [] z4.2 by
          obtain ⟨n, hn⟩ := hh
          exact ⟨n + 11, s_Z_Borrowed_lengthIn (by omega) h5 (And.intro (by decide) (And.intro (fun _ => hn) (fun zz => absurd c6 zz)))⟩
        obtain ⟨n, hn⟩ := s_S_fits_70 hd hK2 (u4 := some (.ref 14)) (u5 := some (.int (z4.1 * ((x1 - x1 / 5 * 5) + 1)))) h hQ
        exact ⟨n + 0, hn⟩
      · rw [if_neg c6] at h
        suffices hh : ∃ n, jx_W jx_ShC d (some .boolean) jc_99 Q n 50 [some (.ref 1), some (.int x1), some (.int x2), some (.int x3), some (.ref 14), some (.int (z4.1 * ((x1 - x1 / 5 * 5) + 1)))] [] z4.2 by
          obtain ⟨n, hn⟩ := hh
          exact ⟨n + 11, s_Z_Borrowed_lengthIn (by omega) h5 (And.intro (by decide) (And.intro (fun zz => absurd zz c6) (fun _ => hn)))⟩
        by_cases c7 : (z4.1 * ((x1 - x1 / 5 * 5) + 1)) < (z4.2.1 14 2)
        · rw [if_pos c7] at h
          suffices hh : ∃ n, jx_W jx_ShC d (some .boolean) jc_99 Q n 68 [some (.ref 1), some (.int x1), some (.int x2), some (.int x3), some (.ref 14), some (.int (z4.1 * ((x1 - x1 / 5 * 5) + 1)))] [] z4.2 by
            obtain ⟨n, hn⟩ := hh
            exact ⟨n + 5, And.intro (jx_in_ok rfl) (And.intro (fun _ => hn) (fun zz => absurd c7 zz))⟩
          cases h
          exact ⟨2, And.intro (Or.inl rfl) (And.intro hQ (And.intro rfl rfl))⟩
        · rw [if_neg c7] at h
          suffices hh : ∃ n, jx_W jx_ShC d (some .boolean) jc_99 Q n 59 [some (.ref 1), some (.int x1), some (.int x2), some (.int x3), some (.ref 14), some (.int (z4.1 * ((x1 - x1 / 5 * 5) + 1)))] [] z4.2 by
            obtain ⟨n, hn⟩ := hh
            exact ⟨n + 5, And.intro (jx_in_ok rfl) (And.intro (fun zz => absurd zz c7) (fun _ => hn))⟩
          by_cases c8 : (z4.1 * ((x1 - x1 / 5 * 5) + 1)) ≤ (z4.2.1 14 3)
          · rw [if_pos c8] at h
            suffices hh : ∃ n, jx_W jx_ShC d (some .boolean) jc_99 Q n 70 [some (.ref 1), some (.int x1), some (.int x2), some (.int x3), some (.ref 14), some (.int (z4.1 * ((x1 - x1 / 5 * 5) + 1)))] [] z4.2 by
              obtain ⟨n, hn⟩ := hh
              exact ⟨n + 5, And.intro (jx_in_ok rfl) (And.intro (fun _ => hn) (fun zz => absurd c8 zz))⟩
            obtain ⟨n, hn⟩ := s_S_fits_70 hd hK2 (u4 := some (.ref 14)) (u5 := some (.int (z4.1 * ((x1 - x1 / 5 * 5) + 1)))) h hQ
            exact ⟨n + 0, hn⟩
          · rw [if_neg c8] at h
            suffices hh : ∃ n, jx_W jx_ShC d (some .boolean) jc_99 Q n 68 [some (.ref 1), some (.int x1), some (.int x2), some (.int x3), some (.ref 14), some (.int (z4.1 * ((x1 - x1 / 5 * 5) + 1)))] [] z4.2 by
              obtain ⟨n, hn⟩ := hh
              exact ⟨n + 5, And.intro (jx_in_ok rfl) (And.intro (fun zz => absurd zz c8) (fun _ => hn))⟩
            cases h
            exact ⟨2, And.intro (Or.inl rfl) (And.intro hQ (And.intro rfl rfl))⟩
  · rcases hr_0 with rfl | rfl | rfl | rfl | rfl | rfl
    · unfold f_S_fits_34 at h
      obtain ⟨z4, h5, h⟩ := Option.bind_eq_some_iff.mp h
      rw [if_pos rfl] at h5
      by_cases c6 : x3 = x2
      · rw [if_pos c6] at h
        suffices hh : ∃ n, jx_W jx_ShC d (some .boolean) jc_99 Q n 70 [some (.ref 1), some (.int x1), some (.int x2), some (.int x3), some (.ref 15), some (.int (z4.1 * ((x1 - x1 / 5 * 5) + 1)))] [] z4.2 by
          obtain ⟨n, hn⟩ := hh
          exact ⟨n + 11, s_Z_Shade_lengthIn (by omega) (by decide) h5 (And.intro (by decide) (And.intro (fun _ => hn) (fun zz => absurd c6 zz)))⟩
        obtain ⟨n, hn⟩ := s_S_fits_70 hd hK2 (u4 := some (.ref 15)) (u5 := some (.int (z4.1 * ((x1 - x1 / 5 * 5) + 1)))) h hQ
        exact ⟨n + 0, hn⟩
      · rw [if_neg c6] at h
        suffices hh : ∃ n, jx_W jx_ShC d (some .boolean) jc_99 Q n 50 [some (.ref 1), some (.int x1), some (.int x2), some (.int x3), some (.ref 15), some (.int (z4.1 * ((x1 - x1 / 5 * 5) + 1)))] [] z4.2 by
          obtain ⟨n, hn⟩ := hh
          exact ⟨n + 11, s_Z_Shade_lengthIn (by omega) (by decide) h5 (And.intro (by decide) (And.intro (fun zz => absurd zz c6) (fun _ => hn)))⟩
        by_cases c7 : (z4.1 * ((x1 - x1 / 5 * 5) + 1)) < (z4.2.1 15 2)
        · rw [if_pos c7] at h
          suffices hh : ∃ n, jx_W jx_ShC d (some .boolean) jc_99 Q n 68 [some (.ref 1), some (.int x1), some (.int x2), some (.int x3), some (.ref 15), some (.int (z4.1 * ((x1 - x1 / 5 * 5) + 1)))] [] z4.2 by
            obtain ⟨n, hn⟩ := hh
            exact ⟨n + 5, And.intro (jx_in_ok rfl) (And.intro (fun _ => hn) (fun zz => absurd c7 zz))⟩
          cases h
          exact ⟨2, And.intro (Or.inl rfl) (And.intro hQ (And.intro rfl rfl))⟩
        · rw [if_neg c7] at h
          suffices hh : ∃ n, jx_W jx_ShC d (some .boolean) jc_99 Q n 59 [some (.ref 1), some (.int x1), some (.int x2), some (.int x3), some (.ref 15), some (.int (z4.1 * ((x1 - x1 / 5 * 5) + 1)))] [] z4.2 by
            obtain ⟨n, hn⟩ := hh
            exact ⟨n + 5, And.intro (jx_in_ok rfl) (And.intro (fun zz => absurd zz c7) (fun _ => hn))⟩
          by_cases c8 : (z4.1 * ((x1 - x1 / 5 * 5) + 1)) ≤ (z4.2.1 15 3)
          · rw [if_pos c8] at h
            suffices hh : ∃ n, jx_W jx_ShC d (some .boolean) jc_99 Q n 70 [some (.ref 1), some (.int x1), some (.int x2), some (.int x3), some (.ref 15), some (.int (z4.1 * ((x1 - x1 / 5 * 5) + 1)))] [] z4.2 by
              obtain ⟨n, hn⟩ := hh
              exact ⟨n + 5, And.intro (jx_in_ok rfl) (And.intro (fun _ => hn) (fun zz => absurd c8 zz))⟩
            obtain ⟨n, hn⟩ := s_S_fits_70 hd hK2 (u4 := some (.ref 15)) (u5 := some (.int (z4.1 * ((x1 - x1 / 5 * 5) + 1)))) h hQ
            exact ⟨n + 0, hn⟩
          · rw [if_neg c8] at h
            suffices hh : ∃ n, jx_W jx_ShC d (some .boolean) jc_99 Q n 68 [some (.ref 1), some (.int x1), some (.int x2), some (.int x3), some (.ref 15), some (.int (z4.1 * ((x1 - x1 / 5 * 5) + 1)))] [] z4.2 by
              obtain ⟨n, hn⟩ := hh
              exact ⟨n + 5, And.intro (jx_in_ok rfl) (And.intro (fun zz => absurd zz c8) (fun _ => hn))⟩
            cases h
            exact ⟨2, And.intro (Or.inl rfl) (And.intro hQ (And.intro rfl rfl))⟩
    · unfold f_S_fits_34 at h
      obtain ⟨z4, h5, h⟩ := Option.bind_eq_some_iff.mp h
      rw [if_neg (by decide), if_pos rfl] at h5
      by_cases c6 : x3 = x2
      · rw [if_pos c6] at h
        suffices hh : ∃ n, jx_W jx_ShC d (some .boolean) jc_99 Q n 70 [some (.ref 1), some (.int x1), some (.int x2), some (.int x3), some (.ref 15), some (.int (z4.1 * ((x1 - x1 / 5 * 5) + 1)))] [] z4.2 by
          obtain ⟨n, hn⟩ := hh
          exact ⟨n + 11, s_Z_Shade_lengthIn (by omega) (by decide) h5 (And.intro (by decide) (And.intro (fun _ => hn) (fun zz => absurd c6 zz)))⟩
        obtain ⟨n, hn⟩ := s_S_fits_70 hd hK2 (u4 := some (.ref 15)) (u5 := some (.int (z4.1 * ((x1 - x1 / 5 * 5) + 1)))) h hQ
        exact ⟨n + 0, hn⟩
      · rw [if_neg c6] at h
        suffices hh : ∃ n, jx_W jx_ShC d (some .boolean) jc_99 Q n 50 [some (.ref 1), some (.int x1), some (.int x2), some (.int x3), some (.ref 15), some (.int (z4.1 * ((x1 - x1 / 5 * 5) + 1)))] [] z4.2 by
          obtain ⟨n, hn⟩ := hh
          exact ⟨n + 11, s_Z_Shade_lengthIn (by omega) (by decide) h5 (And.intro (by decide) (And.intro (fun zz => absurd zz c6) (fun _ => hn)))⟩
        by_cases c7 : (z4.1 * ((x1 - x1 / 5 * 5) + 1)) < (z4.2.1 15 2)
        · rw [if_pos c7] at h
          suffices hh : ∃ n, jx_W jx_ShC d (some .boolean) jc_99 Q n 68 [some (.ref 1), some (.int x1), some (.int x2), some (.int x3), some (.ref 15), some (.int (z4.1 * ((x1 - x1 / 5 * 5) + 1)))] [] z4.2 by
            obtain ⟨n, hn⟩ := hh
            exact ⟨n + 5, And.intro (jx_in_ok rfl) (And.intro (fun _ => hn) (fun zz => absurd c7 zz))⟩
          cases h
          exact ⟨2, And.intro (Or.inl rfl) (And.intro hQ (And.intro rfl rfl))⟩
        · rw [if_neg c7] at h
          suffices hh : ∃ n, jx_W jx_ShC d (some .boolean) jc_99 Q n 59 [some (.ref 1), some (.int x1), some (.int x2), some (.int x3), some (.ref 15), some (.int (z4.1 * ((x1 - x1 / 5 * 5) + 1)))] [] z4.2 by
            obtain ⟨n, hn⟩ := hh
            exact ⟨n + 5, And.intro (jx_in_ok rfl) (And.intro (fun zz => absurd zz c7) (fun _ => hn))⟩
          by_cases c8 : (z4.1 * ((x1 - x1 / 5 * 5) + 1)) ≤ (z4.2.1 15 3)
          · rw [if_pos c8] at h
            suffices hh : ∃ n, jx_W jx_ShC d (some .boolean) jc_99 Q n 70 [some (.ref 1), some (.int x1), some (.int x2), some (.int x3), some (.ref 15), some (.int (z4.1 * ((x1 - x1 / 5 * 5) + 1)))] [] z4.2 by
              obtain ⟨n, hn⟩ := hh
              exact ⟨n + 5, And.intro (jx_in_ok rfl) (And.intro (fun _ => hn) (fun zz => absurd c8 zz))⟩
            obtain ⟨n, hn⟩ := s_S_fits_70 hd hK2 (u4 := some (.ref 15)) (u5 := some (.int (z4.1 * ((x1 - x1 / 5 * 5) + 1)))) h hQ
            exact ⟨n + 0, hn⟩
          · rw [if_neg c8] at h
            suffices hh : ∃ n, jx_W jx_ShC d (some .boolean) jc_99 Q n 68 [some (.ref 1), some (.int x1), some (.int x2), some (.int x3), some (.ref 15), some (.int (z4.1 * ((x1 - x1 / 5 * 5) + 1)))] [] z4.2 by
              obtain ⟨n, hn⟩ := hh
              exact ⟨n + 5, And.intro (jx_in_ok rfl) (And.intro (fun zz => absurd zz c8) (fun _ => hn))⟩
            cases h
            exact ⟨2, And.intro (Or.inl rfl) (And.intro hQ (And.intro rfl rfl))⟩
    · unfold f_S_fits_34 at h
      obtain ⟨z4, h5, h⟩ := Option.bind_eq_some_iff.mp h
      rw [if_neg (by decide), if_neg (by decide), if_pos rfl] at h5
      by_cases c6 : x3 = x2
      · rw [if_pos c6] at h
        suffices hh : ∃ n, jx_W jx_ShC d (some .boolean) jc_99 Q n 70 [some (.ref 1), some (.int x1), some (.int x2), some (.int x3), some (.ref 15), some (.int (z4.1 * ((x1 - x1 / 5 * 5) + 1)))] [] z4.2 by
          obtain ⟨n, hn⟩ := hh
          exact ⟨n + 11, s_Z_Shade_lengthIn (by omega) (by decide) h5 (And.intro (by decide) (And.intro (fun _ => hn) (fun zz => absurd c6 zz)))⟩
        obtain ⟨n, hn⟩ := s_S_fits_70 hd hK2 (u4 := some (.ref 15)) (u5 := some (.int (z4.1 * ((x1 - x1 / 5 * 5) + 1)))) h hQ
        exact ⟨n + 0, hn⟩
      · rw [if_neg c6] at h
        suffices hh : ∃ n, jx_W jx_ShC d (some .boolean) jc_99 Q n 50 [some (.ref 1), some (.int x1), some (.int x2), some (.int x3), some (.ref 15), some (.int (z4.1 * ((x1 - x1 / 5 * 5) + 1)))] [] z4.2 by
          obtain ⟨n, hn⟩ := hh
          exact ⟨n + 11, s_Z_Shade_lengthIn (by omega) (by decide) h5 (And.intro (by decide) (And.intro (fun zz => absurd zz c6) (fun _ => hn)))⟩
        by_cases c7 : (z4.1 * ((x1 - x1 / 5 * 5) + 1)) < (z4.2.1 15 2)
        · rw [if_pos c7] at h
          suffices hh : ∃ n, jx_W jx_ShC d (some .boolean) jc_99 Q n 68 [some (.ref 1), some (.int x1), some (.int x2), some (.int x3), some (.ref 15), some (.int (z4.1 * ((x1 - x1 / 5 * 5) + 1)))] [] z4.2 by
            obtain ⟨n, hn⟩ := hh
            exact ⟨n + 5, And.intro (jx_in_ok rfl) (And.intro (fun _ => hn) (fun zz => absurd c7 zz))⟩
          cases h
          exact ⟨2, And.intro (Or.inl rfl) (And.intro hQ (And.intro rfl rfl))⟩
        · rw [if_neg c7] at h
          suffices hh : ∃ n, jx_W jx_ShC d (some .boolean) jc_99 Q n 59 [some (.ref 1), some (.int x1), some (.int x2), some (.int x3), some (.ref 15), some (.int (z4.1 * ((x1 - x1 / 5 * 5) + 1)))] [] z4.2 by
            obtain ⟨n, hn⟩ := hh
            exact ⟨n + 5, And.intro (jx_in_ok rfl) (And.intro (fun zz => absurd zz c7) (fun _ => hn))⟩
          by_cases c8 : (z4.1 * ((x1 - x1 / 5 * 5) + 1)) ≤ (z4.2.1 15 3)
          · rw [if_pos c8] at h
            suffices hh : ∃ n, jx_W jx_ShC d (some .boolean) jc_99 Q n 70 [some (.ref 1), some (.int x1), some (.int x2), some (.int x3), some (.ref 15), some (.int (z4.1 * ((x1 - x1 / 5 * 5) + 1)))] [] z4.2 by
              obtain ⟨n, hn⟩ := hh
              exact ⟨n + 5, And.intro (jx_in_ok rfl) (And.intro (fun _ => hn) (fun zz => absurd c8 zz))⟩
            obtain ⟨n, hn⟩ := s_S_fits_70 hd hK2 (u4 := some (.ref 15)) (u5 := some (.int (z4.1 * ((x1 - x1 / 5 * 5) + 1)))) h hQ
            exact ⟨n + 0, hn⟩
          · rw [if_neg c8] at h
            suffices hh : ∃ n, jx_W jx_ShC d (some .boolean) jc_99 Q n 68 [some (.ref 1), some (.int x1), some (.int x2), some (.int x3), some (.ref 15), some (.int (z4.1 * ((x1 - x1 / 5 * 5) + 1)))] [] z4.2 by
              obtain ⟨n, hn⟩ := hh
              exact ⟨n + 5, And.intro (jx_in_ok rfl) (And.intro (fun zz => absurd zz c8) (fun _ => hn))⟩
            cases h
            exact ⟨2, And.intro (Or.inl rfl) (And.intro hQ (And.intro rfl rfl))⟩
    · unfold f_S_fits_34 at h
      obtain ⟨z4, h5, h⟩ := Option.bind_eq_some_iff.mp h
      rw [if_neg (by decide), if_neg (by decide), if_neg (by decide), if_pos rfl] at h5
      by_cases c6 : x3 = x2
      · rw [if_pos c6] at h
        suffices hh : ∃ n, jx_W jx_ShC d (some .boolean) jc_99 Q n 70 [some (.ref 1), some (.int x1), some (.int x2), some (.int x3), some (.ref 15), some (.int (z4.1 * ((x1 - x1 / 5 * 5) + 1)))] [] z4.2 by
          obtain ⟨n, hn⟩ := hh
          exact ⟨n + 11, s_Z_Coloured_lengthIn (by omega) h5 (And.intro (by decide) (And.intro (fun _ => hn) (fun zz => absurd c6 zz)))⟩
        obtain ⟨n, hn⟩ := s_S_fits_70 hd hK2 (u4 := some (.ref 15)) (u5 := some (.int (z4.1 * ((x1 - x1 / 5 * 5) + 1)))) h hQ
        exact ⟨n + 0, hn⟩
      · rw [if_neg c6] at h
        suffices hh : ∃ n, jx_W jx_ShC d (some .boolean) jc_99 Q n 50 [some (.ref 1), some (.int x1), some (.int x2), some (.int x3), some (.ref 15), some (.int (z4.1 * ((x1 - x1 / 5 * 5) + 1)))] [] z4.2 by
          obtain ⟨n, hn⟩ := hh
          exact ⟨n + 11, s_Z_Coloured_lengthIn (by omega) h5 (And.intro (by decide) (And.intro (fun zz => absurd zz c6) (fun _ => hn)))⟩
        by_cases c7 : (z4.1 * ((x1 - x1 / 5 * 5) + 1)) < (z4.2.1 15 2)
        · rw [if_pos c7] at h
          suffices hh : ∃ n, jx_W jx_ShC d (some .boolean) jc_99 Q n 68 [some (.ref 1), some (.int x1), some (.int x2), some (.int x3), some (.ref 15), some (.int (z4.1 * ((x1 - x1 / 5 * 5) + 1)))] [] z4.2 by
            obtain ⟨n, hn⟩ := hh
            exact ⟨n + 5, And.intro (jx_in_ok rfl) (And.intro (fun _ => hn) (fun zz => absurd c7 zz))⟩
          cases h
          exact ⟨2, And.intro (Or.inl rfl) (And.intro hQ (And.intro rfl rfl))⟩
        · rw [if_neg c7] at h
          suffices hh : ∃ n, jx_W jx_ShC d (some .boolean) jc_99 Q n 59 [some (.ref 1), some (.int x1), some (.int x2), some (.int x3), some (.ref 15), some (.int (z4.1 * ((x1 - x1 / 5 * 5) + 1)))] [] z4.2 by
            obtain ⟨n, hn⟩ := hh
            exact ⟨n + 5, And.intro (jx_in_ok rfl) (And.intro (fun zz => absurd zz c7) (fun _ => hn))⟩
          by_cases c8 : (z4.1 * ((x1 - x1 / 5 * 5) + 1)) ≤ (z4.2.1 15 3)
          · rw [if_pos c8] at h
            suffices hh : ∃ n, jx_W jx_ShC d (some .boolean) jc_99 Q n 70 [some (.ref 1), some (.int x1), some (.int x2), some (.int x3), some (.ref 15), some (.int (z4.1 * ((x1 - x1 / 5 * 5) + 1)))] [] z4.2 by
              obtain ⟨n, hn⟩ := hh
              exact ⟨n + 5, And.intro (jx_in_ok rfl) (And.intro (fun _ => hn) (fun zz => absurd c8 zz))⟩
            obtain ⟨n, hn⟩ := s_S_fits_70 hd hK2 (u4 := some (.ref 15)) (u5 := some (.int (z4.1 * ((x1 - x1 / 5 * 5) + 1)))) h hQ
            exact ⟨n + 0, hn⟩
          · rw [if_neg c8] at h
            suffices hh : ∃ n, jx_W jx_ShC d (some .boolean) jc_99 Q n 68 [some (.ref 1), some (.int x1), some (.int x2), some (.int x3), some (.ref 15), some (.int (z4.1 * ((x1 - x1 / 5 * 5) + 1)))] [] z4.2 by
              obtain ⟨n, hn⟩ := hh
              exact ⟨n + 5, And.intro (jx_in_ok rfl) (And.intro (fun zz => absurd zz c8) (fun _ => hn))⟩
            cases h
            exact ⟨2, And.intro (Or.inl rfl) (And.intro hQ (And.intro rfl rfl))⟩
    · unfold f_S_fits_34 at h
      obtain ⟨z4, h5, h⟩ := Option.bind_eq_some_iff.mp h
      rw [if_neg (by decide), if_neg (by decide), if_neg (by decide), if_neg (by decide), if_pos rfl] at h5
      by_cases c6 : x3 = x2
      · rw [if_pos c6] at h
        suffices hh : ∃ n, jx_W jx_ShC d (some .boolean) jc_99 Q n 70 [some (.ref 1), some (.int x1), some (.int x2), some (.int x3), some (.ref 15), some (.int (z4.1 * ((x1 - x1 / 5 * 5) + 1)))] [] z4.2 by
          obtain ⟨n, hn⟩ := hh
          exact ⟨n + 11, s_Z_Slow_lengthIn (by omega) (by decide) h5 (And.intro (by decide) (And.intro (fun _ => hn) (fun zz => absurd c6 zz)))⟩
        obtain ⟨n, hn⟩ := s_S_fits_70 hd hK2 (u4 := some (.ref 15)) (u5 := some (.int (z4.1 * ((x1 - x1 / 5 * 5) + 1)))) h hQ
        exact ⟨n + 0, hn⟩
      · rw [if_neg c6] at h
        suffices hh : ∃ n, jx_W jx_ShC d (some .boolean) jc_99 Q n 50 [some (.ref 1), some (.int x1), some (.int x2), some (.int x3), some (.ref 15), some (.int (z4.1 * ((x1 - x1 / 5 * 5) + 1)))] [] z4.2 by
          obtain ⟨n, hn⟩ := hh
          exact ⟨n + 11, s_Z_Slow_lengthIn (by omega) (by decide) h5 (And.intro (by decide) (And.intro (fun zz => absurd zz c6) (fun _ => hn)))⟩
        by_cases c7 : (z4.1 * ((x1 - x1 / 5 * 5) + 1)) < (z4.2.1 15 2)
        · rw [if_pos c7] at h
          suffices hh : ∃ n, jx_W jx_ShC d (some .boolean) jc_99 Q n 68 [some (.ref 1), some (.int x1), some (.int x2), some (.int x3), some (.ref 15), some (.int (z4.1 * ((x1 - x1 / 5 * 5) + 1)))] [] z4.2 by
            obtain ⟨n, hn⟩ := hh
            exact ⟨n + 5, And.intro (jx_in_ok rfl) (And.intro (fun _ => hn) (fun zz => absurd c7 zz))⟩
          cases h
          exact ⟨2, And.intro (Or.inl rfl) (And.intro hQ (And.intro rfl rfl))⟩
        · rw [if_neg c7] at h
          suffices hh : ∃ n, jx_W jx_ShC d (some .boolean) jc_99 Q n 59 [some (.ref 1), some (.int x1), some (.int x2), some (.int x3), some (.ref 15), some (.int (z4.1 * ((x1 - x1 / 5 * 5) + 1)))] [] z4.2 by
            obtain ⟨n, hn⟩ := hh
            exact ⟨n + 5, And.intro (jx_in_ok rfl) (And.intro (fun zz => absurd zz c7) (fun _ => hn))⟩
          by_cases c8 : (z4.1 * ((x1 - x1 / 5 * 5) + 1)) ≤ (z4.2.1 15 3)
          · rw [if_pos c8] at h
            suffices hh : ∃ n, jx_W jx_ShC d (some .boolean) jc_99 Q n 70 [some (.ref 1), some (.int x1), some (.int x2), some (.int x3), some (.ref 15), some (.int (z4.1 * ((x1 - x1 / 5 * 5) + 1)))] [] z4.2 by
              obtain ⟨n, hn⟩ := hh
              exact ⟨n + 5, And.intro (jx_in_ok rfl) (And.intro (fun _ => hn) (fun zz => absurd c8 zz))⟩
            obtain ⟨n, hn⟩ := s_S_fits_70 hd hK2 (u4 := some (.ref 15)) (u5 := some (.int (z4.1 * ((x1 - x1 / 5 * 5) + 1)))) h hQ
            exact ⟨n + 0, hn⟩
          · rw [if_neg c8] at h
            suffices hh : ∃ n, jx_W jx_ShC d (some .boolean) jc_99 Q n 68 [some (.ref 1), some (.int x1), some (.int x2), some (.int x3), some (.ref 15), some (.int (z4.1 * ((x1 - x1 / 5 * 5) + 1)))] [] z4.2 by
              obtain ⟨n, hn⟩ := hh
              exact ⟨n + 5, And.intro (jx_in_ok rfl) (And.intro (fun zz => absurd zz c8) (fun _ => hn))⟩
            cases h
            exact ⟨2, And.intro (Or.inl rfl) (And.intro hQ (And.intro rfl rfl))⟩
    · unfold f_S_fits_34 at h
      obtain ⟨z4, h5, h⟩ := Option.bind_eq_some_iff.mp h
      rw [if_neg (by decide), if_neg (by decide), if_neg (by decide), if_neg (by decide), if_neg (by decide), if_pos rfl] at h5
      by_cases c6 : x3 = x2
      · rw [if_pos c6] at h
        suffices hh : ∃ n, jx_W jx_ShC d (some .boolean) jc_99 Q n 70 [some (.ref 1), some (.int x1), some (.int x2), some (.int x3), some (.ref 15), some (.int (z4.1 * ((x1 - x1 / 5 * 5) + 1)))] [] z4.2 by
          obtain ⟨n, hn⟩ := hh
          exact ⟨n + 11, s_Z_Borrowed_lengthIn (by omega) h5 (And.intro (by decide) (And.intro (fun _ => hn) (fun zz => absurd c6 zz)))⟩
        obtain ⟨n, hn⟩ := s_S_fits_70 hd hK2 (u4 := some (.ref 15)) (u5 := some (.int (z4.1 * ((x1 - x1 / 5 * 5) + 1)))) h hQ
        exact ⟨n + 0, hn⟩
      · rw [if_neg c6] at h
        suffices hh : ∃ n, jx_W jx_ShC d (some .boolean) jc_99 Q n 50 [some (.ref 1), some (.int x1), some (.int x2), some (.int x3), some (.ref 15), some (.int (z4.1 * ((x1 - x1 / 5 * 5) + 1)))] [] z4.2 by
          obtain ⟨n, hn⟩ := hh
          exact ⟨n + 11, s_Z_Borrowed_lengthIn (by omega) h5 (And.intro (by decide) (And.intro (fun zz => absurd zz c6) (fun _ => hn)))⟩
        by_cases c7 : (z4.1 * ((x1 - x1 / 5 * 5) + 1)) < (z4.2.1 15 2)
        · rw [if_pos c7] at h
          suffices hh : ∃ n, jx_W jx_ShC d (some .boolean) jc_99 Q n 68 [some (.ref 1), some (.int x1), some (.int x2), some (.int x3), some (.ref 15), some (.int (z4.1 * ((x1 - x1 / 5 * 5) + 1)))] [] z4.2 by
            obtain ⟨n, hn⟩ := hh
            exact ⟨n + 5, And.intro (jx_in_ok rfl) (And.intro (fun _ => hn) (fun zz => absurd c7 zz))⟩
          cases h
          exact ⟨2, And.intro (Or.inl rfl) (And.intro hQ (And.intro rfl rfl))⟩
        · rw [if_neg c7] at h
          suffices hh : ∃ n, jx_W jx_ShC d (some .boolean) jc_99 Q n 59 [some (.ref 1), some (.int x1), some (.int x2), some (.int x3), some (.ref 15), some (.int (z4.1 * ((x1 - x1 / 5 * 5) + 1)))] [] z4.2 by
            obtain ⟨n, hn⟩ := hh
            exact ⟨n + 5, And.intro (jx_in_ok rfl) (And.intro (fun zz => absurd zz c7) (fun _ => hn))⟩
          by_cases c8 : (z4.1 * ((x1 - x1 / 5 * 5) + 1)) ≤ (z4.2.1 15 3)
          · rw [if_pos c8] at h
            suffices hh : ∃ n, jx_W jx_ShC d (some .boolean) jc_99 Q n 70 [some (.ref 1), some (.int x1), some (.int x2), some (.int x3), some (.ref 15), some (.int (z4.1 * ((x1 - x1 / 5 * 5) + 1)))] [] z4.2 by
              obtain ⟨n, hn⟩ := hh
              exact ⟨n + 5, And.intro (jx_in_ok rfl) (And.intro (fun _ => hn) (fun zz => absurd c8 zz))⟩
            obtain ⟨n, hn⟩ := s_S_fits_70 hd hK2 (u4 := some (.ref 15)) (u5 := some (.int (z4.1 * ((x1 - x1 / 5 * 5) + 1)))) h hQ
            exact ⟨n + 0, hn⟩
          · rw [if_neg c8] at h
            suffices hh : ∃ n, jx_W jx_ShC d (some .boolean) jc_99 Q n 68 [some (.ref 1), some (.int x1), some (.int x2), some (.int x3), some (.ref 15), some (.int (z4.1 * ((x1 - x1 / 5 * 5) + 1)))] [] z4.2 by
              obtain ⟨n, hn⟩ := hh
              exact ⟨n + 5, And.intro (jx_in_ok rfl) (And.intro (fun zz => absurd zz c8) (fun _ => hn))⟩
            cases h
            exact ⟨2, And.intro (Or.inl rfl) (And.intro hQ (And.intro rfl rfl))⟩
  · rcases hr_0 with rfl | rfl | rfl | rfl | rfl | rfl
    · unfold f_S_fits_34 at h
      obtain ⟨z4, h5, h⟩ := Option.bind_eq_some_iff.mp h
      rw [if_pos rfl] at h5
      by_cases c6 : x3 = x2
      · rw [if_pos c6] at h
        suffices hh : ∃ n, jx_W jx_ShC d (some .boolean) jc_99 Q n 70 [some (.ref 1), some (.int x1), some (.int x2), some (.int x3), some (.ref 16), some (.int (z4.1 * ((x1 - x1 / 5 * 5) + 1)))] [] z4.2 by
          obtain ⟨n, hn⟩ := hh
          exact ⟨n + 11, s_Z_Shade_lengthIn (by omega) (by decide) h5 (And.intro (by decide) (And.intro (fun _ => hn) (fun zz => absurd c6 zz)))⟩
        obtain ⟨n, hn⟩ := s_S_fits_70 hd hK2 (u4 := some (.ref 16)) (u5 := some (.int (z4.1 * ((x1 - x1 / 5 * 5) + 1)))) h hQ
        exact ⟨n + 0, hn⟩
      · rw [if_neg c6] at h
        suffices hh : ∃ n, jx_W jx_ShC d (some .boolean) jc_99 Q n 50 [some (.ref 1), some (.int x1), some (.int x2), some (.int x3), some (.ref 16), some (.int (z4.1 * ((x1 - x1 / 5 * 5) + 1)))] [] z4.2 by
          obtain ⟨n, hn⟩ := hh
          exact ⟨n + 11, s_Z_Shade_lengthIn (by omega) (by decide) h5 (And.intro (by decide) (And.intro (fun zz => absurd zz c6) (fun _ => hn)))⟩
        by_cases c7 : (z4.1 * ((x1 - x1 / 5 * 5) + 1)) < (z4.2.1 16 2)
        · rw [if_pos c7] at h
          suffices hh : ∃ n, jx_W jx_ShC d (some .boolean) jc_99 Q n 68 [some (.ref 1), some (.int x1), some (.int x2), some (.int x3), some (.ref 16), some (.int (z4.1 * ((x1 - x1 / 5 * 5) + 1)))] [] z4.2 by
            obtain ⟨n, hn⟩ := hh
            exact ⟨n + 5, And.intro (jx_in_ok rfl) (And.intro (fun _ => hn) (fun zz => absurd c7 zz))⟩
          cases h
          exact ⟨2, And.intro (Or.inl rfl) (And.intro hQ (And.intro rfl rfl))⟩
        · rw [if_neg c7] at h
          suffices hh : ∃ n, jx_W jx_ShC d (some .boolean) jc_99 Q n 59 [some (.ref 1), some (.int x1), some (.int x2), some (.int x3), some (.ref 16), some (.int (z4.1 * ((x1 - x1 / 5 * 5) + 1)))] [] z4.2 by
            obtain ⟨n, hn⟩ := hh
            exact ⟨n + 5, And.intro (jx_in_ok rfl) (And.intro (fun zz => absurd zz c7) (fun _ => hn))⟩
          by_cases c8 : (z4.1 * ((x1 - x1 / 5 * 5) + 1)) ≤ (z4.2.1 16 3)
          · rw [if_pos c8] at h
            suffices hh : ∃ n, jx_W jx_ShC d (some .boolean) jc_99 Q n 70 [some (.ref 1), some (.int x1), some (.int x2), some (.int x3), some (.ref 16), some (.int (z4.1 * ((x1 - x1 / 5 * 5) + 1)))] [] z4.2 by
              obtain ⟨n, hn⟩ := hh
              exact ⟨n + 5, And.intro (jx_in_ok rfl) (And.intro (fun _ => hn) (fun zz => absurd c8 zz))⟩
            obtain ⟨n, hn⟩ := s_S_fits_70 hd hK2 (u4 := some (.ref 16)) (u5 := some (.int (z4.1 * ((x1 - x1 / 5 * 5) + 1)))) h hQ
            exact ⟨n + 0, hn⟩
          · rw [if_neg c8] at h
            suffices hh : ∃ n, jx_W jx_ShC d (some .boolean) jc_99 Q n 68 [some (.ref 1), some (.int x1), some (.int x2), some (.int x3), some (.ref 16), some (.int (z4.1 * ((x1 - x1 / 5 * 5) + 1)))] [] z4.2 by
              obtain ⟨n, hn⟩ := hh
              exact ⟨n + 5, And.intro (jx_in_ok rfl) (And.intro (fun zz => absurd zz c8) (fun _ => hn))⟩
            cases h
            exact ⟨2, And.intro (Or.inl rfl) (And.intro hQ (And.intro rfl rfl))⟩
    · unfold f_S_fits_34 at h
      obtain ⟨z4, h5, h⟩ := Option.bind_eq_some_iff.mp h
      rw [if_neg (by decide), if_pos rfl] at h5
      by_cases c6 : x3 = x2
      · rw [if_pos c6] at h
        suffices hh : ∃ n, jx_W jx_ShC d (some .boolean) jc_99 Q n 70 [some (.ref 1), some (.int x1), some (.int x2), some (.int x3), some (.ref 16), some (.int (z4.1 * ((x1 - x1 / 5 * 5) + 1)))] [] z4.2 by
          obtain ⟨n, hn⟩ := hh
          exact ⟨n + 11, s_Z_Shade_lengthIn (by omega) (by decide) h5 (And.intro (by decide) (And.intro (fun _ => hn) (fun zz => absurd c6 zz)))⟩
        obtain ⟨n, hn⟩ := s_S_fits_70 hd hK2 (u4 := some (.ref 16)) (u5 := some (.int (z4.1 * ((x1 - x1 / 5 * 5) + 1)))) h hQ
        exact ⟨n + 0, hn⟩
      · rw [if_neg c6] at h
        suffices hh : ∃ n, jx_W jx_ShC d (some .boolean) jc_99 Q n 50 [some (.ref 1), some (.int x1), some (.int x2), some (.int x3), some (.ref 16), some (.int (z4.1 * ((x1 - x1 / 5 * 5) + 1)))] [] z4.2 by
          obtain ⟨n, hn⟩ := hh
          exact ⟨n + 11, s_Z_Shade_lengthIn (by omega) (by decide) h5 (And.intro (by decide) (And.intro (fun zz => absurd zz c6) (fun _ => hn)))⟩
        by_cases c7 : (z4.1 * ((x1 - x1 / 5 * 5) + 1)) < (z4.2.1 16 2)
        · rw [if_pos c7] at h
          suffices hh : ∃ n, jx_W jx_ShC d (some .boolean) jc_99 Q n 68 [some (.ref 1), some (.int x1), some (.int x2), some (.int x3), some (.ref 16), some (.int (z4.1 * ((x1 - x1 / 5 * 5) + 1)))] [] z4.2 by
            obtain ⟨n, hn⟩ := hh
            exact ⟨n + 5, And.intro (jx_in_ok rfl) (And.intro (fun _ => hn) (fun zz => absurd c7 zz))⟩
          cases h
          exact ⟨2, And.intro (Or.inl rfl) (And.intro hQ (And.intro rfl rfl))⟩
        · rw [if_neg c7] at h
          suffices hh : ∃ n, jx_W jx_ShC d (some .boolean) jc_99 Q n 59 [some (.ref 1), some (.int x1), some (.int x2), some (.int x3), some (.ref 16), some (.int (z4.1 * ((x1 - x1 / 5 * 5) + 1)))] [] z4.2 by
            obtain ⟨n, hn⟩ := hh
            exact ⟨n + 5, And.intro (jx_in_ok rfl) (And.intro (fun zz => absurd zz c7) (fun _ => hn))⟩
          by_cases c8 : (z4.1 * ((x1 - x1 / 5 * 5) + 1)) ≤ (z4.2.1 16 3)
          · rw [if_pos c8] at h
            suffices hh : ∃ n, jx_W jx_ShC d (some .boolean) jc_99 Q n 70 [some (.ref 1), some (.int x1), some (.int x2), some (.int x3), some (.ref 16), some (.int (z4.1 * ((x1 - x1 / 5 * 5) + 1)))] [] z4.2 by
              obtain ⟨n, hn⟩ := hh
              exact ⟨n + 5, And.intro (jx_in_ok rfl) (And.intro (fun _ => hn) (fun zz => absurd c8 zz))⟩
            obtain ⟨n, hn⟩ := s_S_fits_70 hd hK2 (u4 := some (.ref 16)) (u5 := some (.int (z4.1 * ((x1 - x1 / 5 * 5) + 1)))) h hQ
            exact ⟨n + 0, hn⟩
          · rw [if_neg c8] at h
            suffices hh : ∃ n, jx_W jx_ShC d (some .boolean) jc_99 Q n 68 [some (.ref 1), some (.int x1), some (.int x2), some (.int x3), some (.ref 16), some (.int (z4.1 * ((x1 - x1 / 5 * 5) + 1)))] [] z4.2 by
              obtain ⟨n, hn⟩ := hh
              exact ⟨n + 5, And.intro (jx_in_ok rfl) (And.intro (fun zz => absurd zz c8) (fun _ => hn))⟩
            cases h
            exact ⟨2, And.intro (Or.inl rfl) (And.intro hQ (And.intro rfl rfl))⟩
    · unfold f_S_fits_34 at h
      obtain ⟨z4, h5, h⟩ := Option.bind_eq_some_iff.mp h
      rw [if_neg (by decide), if_neg (by decide), if_pos rfl] at h5
      by_cases c6 : x3 = x2
      · rw [if_pos c6] at h
        suffices hh : ∃ n, jx_W jx_ShC d (some .boolean) jc_99 Q n 70 [some (.ref 1), some (.int x1), some (.int x2), some (.int x3), some (.ref 16), some (.int (z4.1 * ((x1 - x1 / 5 * 5) + 1)))] [] z4.2 by
          obtain ⟨n, hn⟩ := hh
          exact ⟨n + 11, s_Z_Shade_lengthIn (by omega) (by decide) h5 (And.intro (by decide) (And.intro (fun _ => hn) (fun zz => absurd c6 zz)))⟩
        obtain ⟨n, hn⟩ := s_S_fits_70 hd hK2 (u4 := some (.ref 16)) (u5 := some (.int (z4.1 * ((x1 - x1 / 5 * 5) + 1)))) h hQ
        exact ⟨n + 0, hn⟩
      · rw [if_neg c6] at h
        suffices hh : ∃ n, jx_W jx_ShC d (some .boolean) jc_99 Q n 50 [some (.ref 1), some (.int x1), some (.int x2), some (.int x3), some (.ref 16), some (.int (z4.1 * ((x1 - x1 / 5 * 5) + 1)))] [] z4.2 by
          obtain ⟨n, hn⟩ := hh
          exact ⟨n + 11, s_Z_Shade_lengthIn (by omega) (by decide) h5 (And.intro (by decide) (And.intro (fun zz => absurd zz c6) (fun _ => hn)))⟩
        by_cases c7 : (z4.1 * ((x1 - x1 / 5 * 5) + 1)) < (z4.2.1 16 2)
        · rw [if_pos c7] at h
          suffices hh : ∃ n, jx_W jx_ShC d (some .boolean) jc_99 Q n 68 [some (.ref 1), some (.int x1), some (.int x2), some (.int x3), some (.ref 16), some (.int (z4.1 * ((x1 - x1 / 5 * 5) + 1)))] [] z4.2 by
            obtain ⟨n, hn⟩ := hh
            exact ⟨n + 5, And.intro (jx_in_ok rfl) (And.intro (fun _ => hn) (fun zz => absurd c7 zz))⟩
          cases h
          exact ⟨2, And.intro (Or.inl rfl) (And.intro hQ (And.intro rfl rfl))⟩
        · rw [if_neg c7] at h
          suffices hh : ∃ n, jx_W jx_ShC d (some .boolean) jc_99 Q n 59 [some (.ref 1), some (.int x1), some (.int x2), some (.int x3), some (.ref 16), some (.int (z4.1 * ((x1 - x1 / 5 * 5) + 1)))] [] z4.2 by
            obtain ⟨n, hn⟩ := hh
            exact ⟨n + 5, And.intro (jx_in_ok rfl) (And.intro (fun zz => absurd zz c7) (fun _ => hn))⟩
          by_cases c8 : (z4.1 * ((x1 - x1 / 5 * 5) + 1)) ≤ (z4.2.1 16 3)
          · rw [if_pos c8] at h
            suffices hh : ∃ n, jx_W jx_ShC d (some .boolean) jc_99 Q n 70 [some (.ref 1), some (.int x1), some (.int x2), some (.int x3), some (.ref 16), some (.int (z4.1 * ((x1 - x1 / 5 * 5) + 1)))] [] z4.2 by
              obtain ⟨n, hn⟩ := hh
              exact ⟨n + 5, And.intro (jx_in_ok rfl) (And.intro (fun _ => hn) (fun zz => absurd c8 zz))⟩
            obtain ⟨n, hn⟩ := s_S_fits_70 hd hK2 (u4 := some (.ref 16)) (u5 := some (.int (z4.1 * ((x1 - x1 / 5 * 5) + 1)))) h hQ
            exact ⟨n + 0, hn⟩
          · rw [if_neg c8] at h
            suffices hh : ∃ n, jx_W jx_ShC d (some .boolean) jc_99 Q n 68 [some (.ref 1), some (.int x1), some (.int x2), some (.int x3), some (.ref 16), some (.int (z4.1 * ((x1 - x1 / 5 * 5) + 1)))] [] z4.2 by
              obtain ⟨n, hn⟩ := hh
              exact ⟨n + 5, And.intro (jx_in_ok rfl) (And.intro (fun zz => absurd zz c8) (fun _ => hn))⟩
            cases h
            exact ⟨2, And.intro (Or.inl rfl) (And.intro hQ (And.intro rfl rfl))⟩
    · unfold f_S_fits_34 at h
      obtain ⟨z4, h5, h⟩ := Option.bind_eq_some_iff.mp h
      rw [if_neg (by decide), if_neg (by decide), if_neg (by decide), if_pos rfl] at h5
      by_cases c6 : x3 = x2
      · rw [if_pos c6] at h
        suffices hh : ∃ n, jx_W jx_ShC d (some .boolean) jc_99 Q n 70 [some (.ref 1), some (.int x1), some (.int x2), some (.int x3), some (.ref 16), some (.int (z4.1 * ((x1 - x1 / 5 * 5) + 1)))] [] z4.2 by
          obtain ⟨n, hn⟩ := hh
          exact ⟨n + 11, s_Z_Coloured_lengthIn (by omega) h5 (And.intro (by decide) (And.intro (fun _ => hn) (fun zz => absurd c6 zz)))⟩
        obtain ⟨n, hn⟩ := s_S_fits_70 hd hK2 (u4 := some (.ref 16)) (u5 := some (.int (z4.1 * ((x1 - x1 / 5 * 5) + 1)))) h hQ
        exact ⟨n + 0, hn⟩
      · rw [if_neg c6] at h
        suffices hh : ∃ n, jx_W jx_ShC d (some .boolean) jc_99 Q n 50 [some (.ref 1), some (.int x1), some (.int x2), some (.int x3), some (.ref 16), some (.int (z4.1 * ((x1 - x1 / 5 * 5) + 1)))] [] z4.2 by
          obtain ⟨n, hn⟩ := hh
          exact ⟨n + 11, s_Z_Coloured_lengthIn (by omega) h5 (And.intro (by decide) (And.intro (fun zz => absurd zz c6) (fun _ => hn)))⟩
        by_cases c7 : (z4.1 * ((x1 - x1 / 5 * 5) + 1)) < (z4.2.1 16 2)
        · rw [if_pos c7] at h
          suffices hh : ∃ n, jx_W jx_ShC d (some .boolean) jc_99 Q n 68 [some (.ref 1), some (.int x1), some (.int x2), some (.int x3), some (.ref 16), some (.int (z4.1 * ((x1 - x1 / 5 * 5) + 1)))] [] z4.2 by
            obtain ⟨n, hn⟩ := hh
            exact ⟨n + 5, And.intro (jx_in_ok rfl) (And.intro (fun _ => hn) (fun zz => absurd c7 zz))⟩
          cases h
          exact ⟨2, And.intro (Or.inl rfl) (And.intro hQ (And.intro rfl rfl))⟩
        · rw [if_neg c7] at h
          suffices hh : ∃ n, jx_W jx_ShC d (some .boolean) jc_99 Q n 59 [some (.ref 1), some (.int x1), some (.int x2), some (.int x3), some (.ref 16), some (.int (z4.1 * ((x1 - x1 / 5 * 5) + 1)))] [] z4.2 by
            obtain ⟨n, hn⟩ := hh
            exact ⟨n + 5, And.intro (jx_in_ok rfl) (And.intro (fun zz => absurd zz c7) (fun _ => hn))⟩
          by_cases c8 : (z4.1 * ((x1 - x1 / 5 * 5) + 1)) ≤ (z4.2.1 16 3)
          · rw [if_pos c8] at h
            suffices hh : ∃ n, jx_W jx_ShC d (some .boolean) jc_99 Q n 70 [some (.ref 1), some (.int x1), some (.int x2), some (.int x3), some (.ref 16), some (.int (z4.1 * ((x1 - x1 / 5 * 5) + 1)))] [] z4.2 by
              obtain ⟨n, hn⟩ := hh
              exact ⟨n + 5, And.intro (jx_in_ok rfl) (And.intro (fun _ => hn) (fun zz => absurd c8 zz))⟩
            obtain ⟨n, hn⟩ := s_S_fits_70 hd hK2 (u4 := some (.ref 16)) (u5 := some (.int (z4.1 * ((x1 - x1 / 5 * 5) + 1)))) h hQ
            exact ⟨n + 0, hn⟩
          · rw [if_neg c8] at h
            suffices hh : ∃ n, jx_W jx_ShC d (some .boolean) jc_99 Q n 68 [some (.ref 1), some (.int x1), some (.int x2), some (.int x3), some (.ref 16), some (.int (z4.1 * ((x1 - x1 / 5 * 5) + 1)))] [] z4.2 by
              obtain ⟨n, hn⟩ := hh
              exact ⟨n + 5, And.intro (jx_in_ok rfl) (And.intro (fun zz => absurd zz c8) (fun _ => hn))⟩
            cases h
            exact ⟨2, And.intro (Or.inl rfl) (And.intro hQ (And.intro rfl rfl))⟩
    · unfold f_S_fits_34 at h
      obtain ⟨z4, h5, h⟩ := Option.bind_eq_some_iff.mp h
      rw [if_neg (by decide), if_neg (by decide), if_neg (by decide), if_neg (by decide), if_pos rfl] at h5
      by_cases c6 : x3 = x2
      · rw [if_pos c6] at h
        suffices hh : ∃ n, jx_W jx_ShC d (some .boolean) jc_99 Q n 70 [some (.ref 1), some (.int x1), some (.int x2), some (.int x3), some (.ref 16), some (.int (z4.1 * ((x1 - x1 / 5 * 5) + 1)))] [] z4.2 by
          obtain ⟨n, hn⟩ := hh
          exact ⟨n + 11, s_Z_Slow_lengthIn (by omega) (by decide) h5 (And.intro (by decide) (And.intro (fun _ => hn) (fun zz => absurd c6 zz)))⟩
        obtain ⟨n, hn⟩ := s_S_fits_70 hd hK2 (u4 := some (.ref 16)) (u5 := some (.int (z4.1 * ((x1 - x1 / 5 * 5) + 1)))) h hQ
        exact ⟨n + 0, hn⟩
      · rw [if_neg c6] at h
        suffices hh : ∃ n, jx_W jx_ShC d (some .boolean) jc_99 Q n 50 [some (.ref 1), some (.int x1), some (.int x2), some (.int x3), some (.ref 16), some (.int (z4.1 * ((x1 - x1 / 5 * 5) + 1)))] [] z4.2 by
          obtain ⟨n, hn⟩ := hh
          exact ⟨n + 11, s_Z_Slow_lengthIn (by omega) (by decide) h5 (And.intro (by decide) (And.intro (fun zz => absurd zz c6) (fun _ => hn)))⟩
        by_cases c7 : (z4.1 * ((x1 - x1 / 5 * 5) + 1)) < (z4.2.1 16 2)
        · rw [if_pos c7] at h
          suffices hh : ∃ n, jx_W jx_ShC d (some .boolean) jc_99 Q n 68 [some (.ref 1), some (.int x1), some (.int x2), some (.int x3), some (.ref 16), some (.int (z4.1 * ((x1 - x1 / 5 * 5) + 1)))] [] z4.2 by
            obtain ⟨n, hn⟩ := hh
            exact ⟨n + 5, And.intro (jx_in_ok rfl) (And.intro (fun _ => hn) (fun zz => absurd c7 zz))⟩
          cases h
          exact ⟨2, And.intro (Or.inl rfl) (And.intro hQ (And.intro rfl rfl))⟩
        · rw [if_neg c7] at h
          suffices hh : ∃ n, jx_W jx_ShC d (some .boolean) jc_99 Q n 59 [some (.ref 1), some (.int x1), some (.int x2), some (.int x3), some (.ref 16), some (.int (z4.1 * ((x1 - x1 / 5 * 5) + 1)))] [] z4.2 by
            obtain ⟨n, hn⟩ := hh
            exact ⟨n + 5, And.intro (jx_in_ok rfl) (And.intro (fun zz => absurd zz c7) (fun _ => hn))⟩
          by_cases c8 : (z4.1 * ((x1 - x1 / 5 * 5) + 1)) ≤ (z4.2.1 16 3)
          · rw [if_pos c8] at h
            suffices hh : ∃ n, jx_W jx_ShC d (some .boolean) jc_99 Q n 70 [some (.ref 1), some (.int x1), some (.int x2), some (.int x3), some (.ref 16), some (.int (z4.1 * ((x1 - x1 / 5 * 5) + 1)))] [] z4.2 by
              obtain ⟨n, hn⟩ := hh
              exact ⟨n + 5, And.intro (jx_in_ok rfl) (And.intro (fun _ => hn) (fun zz => absurd c8 zz))⟩
            obtain ⟨n, hn⟩ := s_S_fits_70 hd hK2 (u4 := some (.ref 16)) (u5 := some (.int (z4.1 * ((x1 - x1 / 5 * 5) + 1)))) h hQ
            exact ⟨n + 0, hn⟩
          · rw [if_neg c8] at h
            suffices hh : ∃ n, jx_W jx_ShC d (some .boolean) jc_99 Q n 68 [some (.ref 1), some (.int x1), some (.int x2), some (.int x3), some (.ref 16), some (.int (z4.1 * ((x1 - x1 / 5 * 5) + 1)))] [] z4.2 by
              obtain ⟨n, hn⟩ := hh
              exact ⟨n + 5, And.intro (jx_in_ok rfl) (And.intro (fun zz => absurd zz c8) (fun _ => hn))⟩
            cases h
            exact ⟨2, And.intro (Or.inl rfl) (And.intro hQ (And.intro rfl rfl))⟩
    · unfold f_S_fits_34 at h
      obtain ⟨z4, h5, h⟩ := Option.bind_eq_some_iff.mp h
      rw [if_neg (by decide), if_neg (by decide), if_neg (by decide), if_neg (by decide), if_neg (by decide), if_pos rfl] at h5
      by_cases c6 : x3 = x2
      · rw [if_pos c6] at h
        suffices hh : ∃ n, jx_W jx_ShC d (some .boolean) jc_99 Q n 70 [some (.ref 1), some (.int x1), some (.int x2), some (.int x3), some (.ref 16), some (.int (z4.1 * ((x1 - x1 / 5 * 5) + 1)))] [] z4.2 by
          obtain ⟨n, hn⟩ := hh
          exact ⟨n + 11, s_Z_Borrowed_lengthIn (by omega) h5 (And.intro (by decide) (And.intro (fun _ => hn) (fun zz => absurd c6 zz)))⟩
        obtain ⟨n, hn⟩ := s_S_fits_70 hd hK2 (u4 := some (.ref 16)) (u5 := some (.int (z4.1 * ((x1 - x1 / 5 * 5) + 1)))) h hQ
        exact ⟨n + 0, hn⟩
      · rw [if_neg c6] at h
        suffices hh : ∃ n, jx_W jx_ShC d (some .boolean) jc_99 Q n 50 [some (.ref 1), some (.int x1), some (.int x2), some (.int x3), some (.ref 16), some (.int (z4.1 * ((x1 - x1 / 5 * 5) + 1)))] [] z4.2 by
          obtain ⟨n, hn⟩ := hh
          exact ⟨n + 11, s_Z_Borrowed_lengthIn (by omega) h5 (And.intro (by decide) (And.intro (fun zz => absurd zz c6) (fun _ => hn)))⟩
        by_cases c7 : (z4.1 * ((x1 - x1 / 5 * 5) + 1)) < (z4.2.1 16 2)
        · rw [if_pos c7] at h
          suffices hh : ∃ n, jx_W jx_ShC d (some .boolean) jc_99 Q n 68 [some (.ref 1), some (.int x1), some (.int x2), some (.int x3), some (.ref 16), some (.int (z4.1 * ((x1 - x1 / 5 * 5) + 1)))] [] z4.2 by
            obtain ⟨n, hn⟩ := hh
            exact ⟨n + 5, And.intro (jx_in_ok rfl) (And.intro (fun _ => hn) (fun zz => absurd c7 zz))⟩
          cases h
          exact ⟨2, And.intro (Or.inl rfl) (And.intro hQ (And.intro rfl rfl))⟩
        · rw [if_neg c7] at h
          suffices hh : ∃ n, jx_W jx_ShC d (some .boolean) jc_99 Q n 59 [some (.ref 1), some (.int x1), some (.int x2), some (.int x3), some (.ref 16), some (.int (z4.1 * ((x1 - x1 / 5 * 5) + 1)))] [] z4.2 by
            obtain ⟨n, hn⟩ := hh
            exact ⟨n + 5, And.intro (jx_in_ok rfl) (And.intro (fun zz => absurd zz c7) (fun _ => hn))⟩
          by_cases c8 : (z4.1 * ((x1 - x1 / 5 * 5) + 1)) ≤ (z4.2.1 16 3)
          · rw [if_pos c8] at h
            suffices hh : ∃ n, jx_W jx_ShC d (some .boolean) jc_99 Q n 70 [some (.ref 1), some (.int x1), some (.int x2), some (.int x3), some (.ref 16), some (.int (z4.1 * ((x1 - x1 / 5 * 5) + 1)))] [] z4.2 by
              obtain ⟨n, hn⟩ := hh
              exact ⟨n + 5, And.intro (jx_in_ok rfl) (And.intro (fun _ => hn) (fun zz => absurd c8 zz))⟩
            obtain ⟨n, hn⟩ := s_S_fits_70 hd hK2 (u4 := some (.ref 16)) (u5 := some (.int (z4.1 * ((x1 - x1 / 5 * 5) + 1)))) h hQ
            exact ⟨n + 0, hn⟩
          · rw [if_neg c8] at h
            suffices hh : ∃ n, jx_W jx_ShC d (some .boolean) jc_99 Q n 68 [some (.ref 1), some (.int x1), some (.int x2), some (.int x3), some (.ref 16), some (.int (z4.1 * ((x1 - x1 / 5 * 5) + 1)))] [] z4.2 by
              obtain ⟨n, hn⟩ := hh
              exact ⟨n + 5, And.intro (jx_in_ok rfl) (And.intro (fun zz => absurd zz c8) (fun _ => hn))⟩
            cases h
            exact ⟨2, And.intro (Or.inl rfl) (And.intro hQ (And.intro rfl rfl))⟩
  · rcases hr_0 with rfl | rfl | rfl | rfl | rfl | rfl
    · unfold f_S_fits_34 at h
      obtain ⟨z4, h5, h⟩ := Option.bind_eq_some_iff.mp h
      rw [if_pos rfl] at h5
      by_cases c6 : x3 = x2
      · rw [if_pos c6] at h
        suffices hh : ∃ n, jx_W jx_ShC d (some .boolean) jc_99 Q n 70 [some (.ref 1), some (.int x1), some (.int x2), some (.int x3), some (.ref 17), some (.int (z4.1 * ((x1 - x1 / 5 * 5) + 1)))] [] z4.2 by
          obtain ⟨n, hn⟩ := hh
          exact ⟨n + 11, s_Z_Shade_lengthIn (by omega) (by decide) h5 (And.intro (by decide) (And.intro (fun _ => hn) (fun zz => absurd c6 zz)))⟩
        obtain ⟨n, hn⟩ := s_S_fits_70 hd hK2 (u4 := some (.ref 17)) (u5 := some (.int (z4.1 * ((x1 - x1 / 5 * 5) + 1)))) h hQ
        exact ⟨n + 0, hn⟩
      · rw [if_neg c6] at h
        suffices hh : ∃ n, jx_W jx_ShC d (some .boolean) jc_99 Q n 50 [some (.ref 1), some (.int x1), some (.int x2), some (.int x3), some (.ref 17), some (.int (z4.1 * ((x1 - x1 / 5 * 5) + 1)))] [] z4.2 by
          obtain ⟨n, hn⟩ := hh
          exact ⟨n + 11, s_Z_Shade_lengthIn (by omega) (by decide) h5 (And.intro (by decide) (And.intro (fun zz => absurd zz c6) (fun _ => hn)))⟩
        by_cases c7 : (z4.1 * ((x1 - x1 / 5 * 5) + 1)) < (z4.2.1 17 2)
        · rw [if_pos c7] at h
          suffices hh : ∃ n, jx_W jx_ShC d (some .boolean) jc_99 Q n 68 [some (.ref 1), some (.int x1), some (.int x2), some (.int x3), some (.ref 17), some (.int (z4.1 * ((x1 - x1 / 5 * 5) + 1)))] [] z4.2 by
            obtain ⟨n, hn⟩ := hh
            exact ⟨n + 5, And.intro (jx_in_ok rfl) (And.intro (fun _ => hn) (fun zz => absurd c7 zz))⟩
          cases h
          exact ⟨2, And.intro (Or.inl rfl) (And.intro hQ (And.intro rfl rfl))⟩
        · rw [if_neg c7] at h
          suffices hh : ∃ n, jx_W jx_ShC d (some .boolean) jc_99 Q n 59 [some (.ref 1), some (.int x1), some (.int x2), some (.int x3), some (.ref 17), some (.int (z4.1 * ((x1 - x1 / 5 * 5) + 1)))] [] z4.2 by
            obtain ⟨n, hn⟩ := hh
            exact ⟨n + 5, And.intro (jx_in_ok rfl) (And.intro (fun zz => absurd zz c7) (fun _ => hn))⟩
          by_cases c8 : (z4.1 * ((x1 - x1 / 5 * 5) + 1)) ≤ (z4.2.1 17 3)
          · rw [if_pos c8] at h
            suffices hh : ∃ n, jx_W jx_ShC d (some .boolean) jc_99 Q n 70 [some (.ref 1), some (.int x1), some (.int x2), some (.int x3), some (.ref 17), some (.int (z4.1 * ((x1 - x1 / 5 * 5) + 1)))] [] z4.2 by
              obtain ⟨n, hn⟩ := hh
              exact ⟨n + 5, And.intro (jx_in_ok rfl) (And.intro (fun _ => hn) (fun zz => absurd c8 zz))⟩
            obtain ⟨n, hn⟩ := s_S_fits_70 hd hK2 (u4 := some (.ref 17)) (u5 := some (.int (z4.1 * ((x1 - x1 / 5 * 5) + 1)))) h hQ
            exact ⟨n + 0, hn⟩
          · rw [if_neg c8] at h
            suffices hh : ∃ n, jx_W jx_ShC d (some .boolean) jc_99 Q n 68 [some (.ref 1), some (.int x1), some (.int x2), some (.int x3), some (.ref 17), some (.int (z4.1 * ((x1 - x1 / 5 * 5) + 1)))] [] z4.2 by
              obtain ⟨n, hn⟩ := hh
              exact ⟨n + 5, And.intro (jx_in_ok rfl) (And.intro (fun zz => absurd zz c8) (fun _ => hn))⟩
            cases h
            exact ⟨2, And.intro (Or.inl rfl) (And.intro hQ (And.intro rfl rfl))⟩
    · unfold f_S_fits_34 at h
      obtain ⟨z4, h5, h⟩ := Option.bind_eq_some_iff.mp h
      rw [if_neg (by decide), if_pos rfl] at h5
      by_cases c6 : x3 = x2
      · rw [if_pos c6] at h
        suffices hh : ∃ n, jx_W jx_ShC d (some .boolean) jc_99 Q n 70 [some (.ref 1), some (.int x1), some (.int x2), some (.int x3), some (.ref 17), some (.int (z4.1 * ((x1 - x1 / 5 * 5) + 1)))] [] z4.2 by
          obtain ⟨n, hn⟩ := hh
          exact ⟨n + 11, s_Z_Shade_lengthIn (by omega) (by decide) h5 (And.intro (by decide) (And.intro (fun _ => hn) (fun zz => absurd c6 zz)))⟩
        obtain ⟨n, hn⟩ := s_S_fits_70 hd hK2 (u4 := some (.ref 17)) (u5 := some (.int (z4.1 * ((x1 - x1 / 5 * 5) + 1)))) h hQ
        exact ⟨n + 0, hn⟩
      · rw [if_neg c6] at h
        suffices hh : ∃ n, jx_W jx_ShC d (some .boolean) jc_99 Q n 50 [some (.ref 1), some (.int x1), some (.int x2), some (.int x3), some (.ref 17), some (.int (z4.1 * ((x1 - x1 / 5 * 5) + 1)))] [] z4.2 by
          obtain ⟨n, hn⟩ := hh
          exact ⟨n + 11, s_Z_Shade_lengthIn (by omega) (by decide) h5 (And.intro (by decide) (And.intro (fun zz => absurd zz c6) (fun _ => hn)))⟩
        by_cases c7 : (z4.1 * ((x1 - x1 / 5 * 5) + 1)) < (z4.2.1 17 2)
        · rw [if_pos c7] at h
          suffices hh : ∃ n, jx_W jx_ShC d (some .boolean) jc_99 Q n 68 [some (.ref 1), some (.int x1), some (.int x2), some (.int x3), some (.ref 17), some (.int (z4.1 * ((x1 - x1 / 5 * 5) + 1)))] [] z4.2 by
            obtain ⟨n, hn⟩ := hh
            exact ⟨n + 5, And.intro (jx_in_ok rfl) (And.intro (fun _ => hn) (fun zz => absurd c7 zz))⟩
          cases h
          exact ⟨2, And.intro (Or.inl rfl) (And.intro hQ (And.intro rfl rfl))⟩
        · rw [if_neg c7] at h
          suffices hh : ∃ n, jx_W jx_ShC d (some .boolean) jc_99 Q n 59 [some (.ref 1), some (.int x1), some (.int x2), some (.int x3), some (.ref 17), some (.int (z4.1 * ((x1 - x1 / 5 * 5) + 1)))] [] z4.2 by
            obtain ⟨n, hn⟩ := hh
            exact ⟨n + 5, And.intro (jx_in_ok rfl) (And.intro (fun zz => absurd zz c7) (fun _ => hn))⟩
          by_cases c8 : (z4.1 * ((x1 - x1 / 5 * 5) + 1)) ≤ (z4.2.1 17 3)
          · rw [if_pos c8] at h
            suffices hh : ∃ n, jx_W jx_ShC d (some .boolean) jc_99 Q n 70 [some (.ref 1), some (.int x1), some (.int x2), some (.int x3), some (.ref 17), some (.int (z4.1 * ((x1 - x1 / 5 * 5) + 1)))] [] z4.2 by
              obtain ⟨n, hn⟩ := hh
              exact ⟨n + 5, And.intro (jx_in_ok rfl) (And.intro (fun _ => hn) (fun zz => absurd c8 zz))⟩
            obtain ⟨n, hn⟩ := s_S_fits_70 hd hK2 (u4 := some (.ref 17)) (u5 := some (.int (z4.1 * ((x1 - x1 / 5 * 5) + 1)))) h hQ
            exact ⟨n + 0, hn⟩
          · rw [if_neg c8] at h
            suffices hh : ∃ n, jx_W jx_ShC d (some .boolean) jc_99 Q n 68 [some (.ref 1), some (.int x1), some (.int x2), some (.int x3), some (.ref 17), some (.int (z4.1 * ((x1 - x1 / 5 * 5) + 1)))] [] z4.2 by
              obtain ⟨n, hn⟩ := hh
              exact ⟨n + 5, And.intro (jx_in_ok rfl) (And.intro (fun zz => absurd zz c8) (fun _ => hn))⟩
            cases h
            exact ⟨2, And.intro (Or.inl rfl) (And.intro hQ (And.intro rfl rfl))⟩
    · unfold f_S_fits_34 at h
      obtain ⟨z4, h5, h⟩ := Option.bind_eq_some_iff.mp h
      rw [if_neg (by decide), if_neg (by decide), if_pos rfl] at h5
      by_cases c6 : x3 = x2
      · rw [if_pos c6] at h
        suffices hh : ∃ n, jx_W jx_ShC d (some .boolean) jc_99 Q n 70 [some (.ref 1), some (.int x1), some (.int x2), some (.int x3), some (.ref 17), some (.int (z4.1 * ((x1 - x1 / 5 * 5) + 1)))] [] z4.2 by
          obtain ⟨n, hn⟩ := hh
          exact ⟨n + 11, s_Z_Shade_lengthIn (by omega) (by decide) h5 (And.intro (by decide) (And.intro (fun _ => hn) (fun zz => absurd c6 zz)))⟩
        obtain ⟨n, hn⟩ := s_S_fits_70 hd hK2 (u4 := some (.ref 17)) (u5 := some (.int (z4.1 * ((x1 - x1 / 5 * 5) + 1)))) h hQ
        exact ⟨n + 0, hn⟩
      · rw [if_neg c6] at h
        suffices hh : ∃ n, jx_W jx_ShC d (some .boolean) jc_99 Q n 50 [some (.ref 1), some (.int x1), some (.int x2), some (.int x3), some (.ref 17), some (.int (z4.1 * ((x1 - x1 / 5 * 5) + 1)))] [] z4.2 by
          obtain ⟨n, hn⟩ := hh
          exact ⟨n + 11, s_Z_Shade_lengthIn (by omega) (by decide) h5 (And.intro (by decide) (And.intro (fun zz => absurd zz c6) (fun _ => hn)))⟩
        by_cases c7 : (z4.1 * ((x1 - x1 / 5 * 5) + 1)) < (z4.2.1 17 2)
        · rw [if_pos c7] at h
          suffices hh : ∃ n, jx_W jx_ShC d (some .boolean) jc_99 Q n 68 [some (.ref 1), some (.int x1), some (.int x2), some (.int x3), some (.ref 17), some (.int (z4.1 * ((x1 - x1 / 5 * 5) + 1)))] [] z4.2 by
            obtain ⟨n, hn⟩ := hh
            exact ⟨n + 5, And.intro (jx_in_ok rfl) (And.intro (fun _ => hn) (fun zz => absurd c7 zz))⟩
          cases h
          exact ⟨2, And.intro (Or.inl rfl) (And.intro hQ (And.intro rfl rfl))⟩
        · rw [if_neg c7] at h
          suffices hh : ∃ n, jx_W jx_ShC d (some .boolean) jc_99 Q n 59 [some (.ref 1), some (.int x1), some (.int x2), some (.int x3), some (.ref 17), some (.int (z4.1 * ((x1 - x1 / 5 * 5) + 1)))] [] z4.2 by
            obtain ⟨n, hn⟩ := hh
            exact ⟨n + 5, And.intro (jx_in_ok rfl) (And.intro (fun zz => absurd zz c7) (fun _ => hn))⟩
          by_cases c8 : (z4.1 * ((x1 - x1 / 5 * 5) + 1)) ≤ (z4.2.1 17 3)
          · rw [if_pos c8] at h
            suffices hh : ∃ n, jx_W jx_ShC d (some .boolean) jc_99 Q n 70 [some (.ref 1), some (.int x1), some (.int x2), some (.int x3), some (.ref 17), some (.int (z4.1 * ((x1 - x1 / 5 * 5) + 1)))] [] z4.2 by
              obtain ⟨n, hn⟩ := hh
              exact ⟨n + 5, And.intro (jx_in_ok rfl) (And.intro (fun _ => hn) (fun zz => absurd c8 zz))⟩
            obtain ⟨n, hn⟩ := s_S_fits_70 hd hK2 (u4 := some (.ref 17)) (u5 := some (.int (z4.1 * ((x1 - x1 / 5 * 5) + 1)))) h hQ
            exact ⟨n + 0, hn⟩
          · rw [if_neg c8] at h
            suffices hh : ∃ n, jx_W jx_ShC d (some .boolean) jc_99 Q n 68 [some (.ref 1), some (.int x1), some (.int x2), some (.int x3), some (.ref 17), some (.int (z4.1 * ((x1 - x1 / 5 * 5) + 1)))] [] z4.2 by
              obtain ⟨n, hn⟩ := hh
              exact ⟨n + 5, And.intro (jx_in_ok rfl) (And.intro (fun zz => absurd zz c8) (fun _ => hn))⟩
            cases h
            exact ⟨2, And.intro (Or.inl rfl) (And.intro hQ (And.intro rfl rfl))⟩
    · unfold f_S_fits_34 at h
      obtain ⟨z4, h5, h⟩ := Option.bind_eq_some_iff.mp h
      rw [if_neg (by decide), if_neg (by decide), if_neg (by decide), if_pos rfl] at h5
      by_cases c6 : x3 = x2
      · rw [if_pos c6] at h
        suffices hh : ∃ n, jx_W jx_ShC d (some .boolean) jc_99 Q n 70 [some (.ref 1), some (.int x1), some (.int x2), some (.int x3), some (.ref 17), some (.int (z4.1 * ((x1 - x1 / 5 * 5) + 1)))] [] z4.2 by
          obtain ⟨n, hn⟩ := hh
          exact ⟨n + 11, s_Z_Coloured_lengthIn (by omega) h5 (And.intro (by decide) (And.intro (fun _ => hn) (fun zz => absurd c6 zz)))⟩
        obtain ⟨n, hn⟩ := s_S_fits_70 hd hK2 (u4 := some (.ref 17)) (u5 := some (.int (z4.1 * ((x1 - x1 / 5 * 5) + 1)))) h hQ
        exact ⟨n + 0, hn⟩
      · rw [if_neg c6] at h
        suffices hh : ∃ n, jx_W jx_ShC d (some .boolean) jc_99 Q n 50 [some (.ref 1), some (.int x1), some (.int x2), some (.int x3), some (.ref 17), some (.int (z4.1 * ((x1 - x1 / 5 * 5) + 1)))] [] z4.2 by
          obtain ⟨n, hn⟩ := hh
          exact ⟨n + 11, s_Z_Coloured_lengthIn (by omega) h5 (And.intro (by decide) (And.intro (fun zz => absurd zz c6) (fun _ => hn)))⟩
        by_cases c7 : (z4.1 * ((x1 - x1 / 5 * 5) + 1)) < (z4.2.1 17 2)
        · rw [if_pos c7] at h
          suffices hh : ∃ n, jx_W jx_ShC d (some .boolean) jc_99 Q n 68 [some (.ref 1), some (.int x1), some (.int x2), some (.int x3), some (.ref 17), some (.int (z4.1 * ((x1 - x1 / 5 * 5) + 1)))] [] z4.2 by
            obtain ⟨n, hn⟩ := hh
            exact ⟨n + 5, And.intro (jx_in_ok rfl) (And.intro (fun _ => hn) (fun zz => absurd c7 zz))⟩
          cases h
          exact ⟨2, And.intro (Or.inl rfl) (And.intro hQ (And.intro rfl rfl))⟩
        · rw [if_neg c7] at h
          suffices hh : ∃ n, jx_W jx_ShC d (some .boolean) jc_99 Q n 59 [some (.ref 1), some (.int x1), some (.int x2), some (.int x3), some (.ref 17), some (.int (z4.1 * ((x1 - x1 / 5 * 5) + 1)))] [] z4.2 by
            obtain ⟨n, hn⟩ := hh
            exact ⟨n + 5, And.intro (jx_in_ok rfl) (And.intro (fun zz => absurd zz c7) (fun _ => hn))⟩
          by_cases c8 : (z4.1 * ((x1 - x1 / 5 * 5) + 1)) ≤ (z4.2.1 17 3)
          · rw [if_pos c8] at h
            suffices hh : ∃ n, jx_W jx_ShC d (some .boolean) jc_99 Q n 70 [some (.ref 1), some (.int x1), some (.int x2), some (.int x3), some (.ref 17), some (.int (z4.1 * ((x1 - x1 / 5 * 5) + 1)))] [] z4.2 by
              obtain ⟨n, hn⟩ := hh
              exact ⟨n + 5, And.intro (jx_in_ok rfl) (And.intro (fun _ => hn) (fun zz => absurd c8 zz))⟩
            obtain ⟨n, hn⟩ := s_S_fits_70 hd hK2 (u4 := some (.ref 17)) (u5 := some (.int (z4.1 * ((x1 - x1 / 5 * 5) + 1)))) h hQ
            exact ⟨n + 0, hn⟩
          · rw [if_neg c8] at h
            suffices hh : ∃ n, jx_W jx_ShC d (some .boolean) jc_99 Q n 68 [some (.ref 1), some (.int x1), some (.int x2), some (.int x3), some (.ref 17), some (.int (z4.1 * ((x1 - x1 / 5 * 5) + 1)))] [] z4.2 by
              obtain ⟨n, hn⟩ := hh
              exact ⟨n + 5, And.intro (jx_in_ok rfl) (And.intro (fun zz => absurd zz c8) (fun _ => hn))⟩
            cases h
            exact ⟨2, And.intro (Or.inl rfl) (And.intro hQ (And.intro rfl rfl))⟩
    · unfold f_S_fits_34 at h
      obtain ⟨z4, h5, h⟩ := Option.bind_eq_some_iff.mp h
      rw [if_neg (by decide), if_neg (by decide), if_neg (by decide), if_neg (by decide), if_pos rfl] at h5
      by_cases c6 : x3 = x2
      · rw [if_pos c6] at h
        suffices hh : ∃ n, jx_W jx_ShC d (some .boolean) jc_99 Q n 70 [some (.ref 1), some (.int x1), some (.int x2), some (.int x3), some (.ref 17), some (.int (z4.1 * ((x1 - x1 / 5 * 5) + 1)))] [] z4.2 by
          obtain ⟨n, hn⟩ := hh
          exact ⟨n + 11, s_Z_Slow_lengthIn (by omega) (by decide) h5 (And.intro (by decide) (And.intro (fun _ => hn) (fun zz => absurd c6 zz)))⟩
        obtain ⟨n, hn⟩ := s_S_fits_70 hd hK2 (u4 := some (.ref 17)) (u5 := some (.int (z4.1 * ((x1 - x1 / 5 * 5) + 1)))) h hQ
        exact ⟨n + 0, hn⟩
      · rw [if_neg c6] at h
        suffices hh : ∃ n, jx_W jx_ShC d (some .boolean) jc_99 Q n 50 [some (.ref 1), some (.int x1), some (.int x2), some (.int x3), some (.ref 17), some (.int (z4.1 * ((x1 - x1 / 5 * 5) + 1)))] [] z4.2 by
          obtain ⟨n, hn⟩ := hh
          exact ⟨n + 11, s_Z_Slow_lengthIn (by omega) (by decide) h5 (And.intro (by decide) (And.intro (fun zz => absurd zz c6) (fun _ => hn)))⟩
        by_cases c7 : (z4.1 * ((x1 - x1 / 5 * 5) + 1)) < (z4.2.1 17 2)
        · rw [if_pos c7] at h
          suffices hh : ∃ n, jx_W jx_ShC d (some .boolean) jc_99 Q n 68 [some (.ref 1), some (.int x1), some (.int x2), some (.int x3), some (.ref 17), some (.int (z4.1 * ((x1 - x1 / 5 * 5) + 1)))] [] z4.2 by
            obtain ⟨n, hn⟩ := hh
            exact ⟨n + 5, And.intro (jx_in_ok rfl) (And.intro (fun _ => hn) (fun zz => absurd c7 zz))⟩
          cases h
          exact ⟨2, And.intro (Or.inl rfl) (And.intro hQ (And.intro rfl rfl))⟩
        · rw [if_neg c7] at h
          suffices hh : ∃ n, jx_W jx_ShC d (some .boolean) jc_99 Q n 59 [some (.ref 1), some (.int x1), some (.int x2), some (.int x3), some (.ref 17), some (.int (z4.1 * ((x1 - x1 / 5 * 5) + 1)))] [] z4.2 by
            obtain ⟨n, hn⟩ := hh
            exact ⟨n + 5, And.intro (jx_in_ok rfl) (And.intro (fun zz => absurd zz c7) (fun _ => hn))⟩
          by_cases c8 : (z4.1 * ((x1 - x1 / 5 * 5) + 1)) ≤ (z4.2.1 17 3)
          · rw [if_pos c8] at h
            suffices hh : ∃ n, jx_W jx_ShC d (some .boolean) jc_99 Q n 70 [some (.ref 1), some (.int x1), some (.int x2), some (.int x3), some (.ref 17), some (.int (z4.1 * ((x1 - x1 / 5 * 5) + 1)))] [] z4.2 by
              obtain ⟨n, hn⟩ := hh
              exact ⟨n + 5, And.intro (jx_in_ok rfl) (And.intro (fun _ => hn) (fun zz => absurd c8 zz))⟩
            obtain ⟨n, hn⟩ := s_S_fits_70 hd hK2 (u4 := some (.ref 17)) (u5 := some (.int (z4.1 * ((x1 - x1 / 5 * 5) + 1)))) h hQ
            exact ⟨n + 0, hn⟩
          · rw [if_neg c8] at h
            suffices hh : ∃ n, jx_W jx_ShC d (some .boolean) jc_99 Q n 68 [some (.ref 1), some (.int x1), some (.int x2), some (.int x3), some (.ref 17), some (.int (z4.1 * ((x1 - x1 / 5 * 5) + 1)))] [] z4.2 by
              obtain ⟨n, hn⟩ := hh
              exact ⟨n + 5, And.intro (jx_in_ok rfl) (And.intro (fun zz => absurd zz c8) (fun _ => hn))⟩
            cases h
            exact ⟨2, And.intro (Or.inl rfl) (And.intro hQ (And.intro rfl rfl))⟩
    · unfold f_S_fits_34 at h
      obtain ⟨z4, h5, h⟩ := Option.bind_eq_some_iff.mp h
      rw [if_neg (by decide), if_neg (by decide), if_neg (by decide), if_neg (by decide), if_neg (by decide), if_pos rfl] at h5
      by_cases c6 : x3 = x2
      · rw [if_pos c6] at h
        suffices hh : ∃ n, jx_W jx_ShC d (some .boolean) jc_99 Q n 70 [some (.ref 1), some (.int x1), some (.int x2), some (.int x3), some (.ref 17), some (.int (z4.1 * ((x1 - x1 / 5 * 5) + 1)))] [] z4.2 by
          obtain ⟨n, hn⟩ := hh
          exact ⟨n + 11, s_Z_Borrowed_lengthIn (by omega) h5 (And.intro (by decide) (And.intro (fun _ => hn) (fun zz => absurd c6 zz)))⟩
        obtain ⟨n, hn⟩ := s_S_fits_70 hd hK2 (u4 := some (.ref 17)) (u5 := some (.int (z4.1 * ((x1 - x1 / 5 * 5) + 1)))) h hQ
        exact ⟨n + 0, hn⟩
      · rw [if_neg c6] at h
        suffices hh : ∃ n, jx_W jx_ShC d (some .boolean) jc_99 Q n 50 [some (.ref 1), some (.int x1), some (.int x2), some (.int x3), some (.ref 17), some (.int (z4.1 * ((x1 - x1 / 5 * 5) + 1)))] [] z4.2 by
          obtain ⟨n, hn⟩ := hh
          exact ⟨n + 11, s_Z_Borrowed_lengthIn (by omega) h5 (And.intro (by decide) (And.intro (fun zz => absurd zz c6) (fun _ => hn)))⟩
        by_cases c7 : (z4.1 * ((x1 - x1 / 5 * 5) + 1)) < (z4.2.1 17 2)
        · rw [if_pos c7] at h
          suffices hh : ∃ n, jx_W jx_ShC d (some .boolean) jc_99 Q n 68 [some (.ref 1), some (.int x1), some (.int x2), some (.int x3), some (.ref 17), some (.int (z4.1 * ((x1 - x1 / 5 * 5) + 1)))] [] z4.2 by
            obtain ⟨n, hn⟩ := hh
            exact ⟨n + 5, And.intro (jx_in_ok rfl) (And.intro (fun _ => hn) (fun zz => absurd c7 zz))⟩
          cases h
          exact ⟨2, And.intro (Or.inl rfl) (And.intro hQ (And.intro rfl rfl))⟩
        · rw [if_neg c7] at h
          suffices hh : ∃ n, jx_W jx_ShC d (some .boolean) jc_99 Q n 59 [some (.ref 1), some (.int x1), some (.int x2), some (.int x3), some (.ref 17), some (.int (z4.1 * ((x1 - x1 / 5 * 5) + 1)))] [] z4.2 by
            obtain ⟨n, hn⟩ := hh
            exact ⟨n + 5, And.intro (jx_in_ok rfl) (And.intro (fun zz => absurd zz c7) (fun _ => hn))⟩
          by_cases c8 : (z4.1 * ((x1 - x1 / 5 * 5) + 1)) ≤ (z4.2.1 17 3)
          · rw [if_pos c8] at h
            suffices hh : ∃ n, jx_W jx_ShC d (some .boolean) jc_99 Q n 70 [some (.ref 1), some (.int x1), some (.int x2), some (.int x3), some (.ref 17), some (.int (z4.1 * ((x1 - x1 / 5 * 5) + 1)))] [] z4.2 by
              obtain ⟨n, hn⟩ := hh
              exact ⟨n + 5, And.intro (jx_in_ok rfl) (And.intro (fun _ => hn) (fun zz => absurd c8 zz))⟩
            obtain ⟨n, hn⟩ := s_S_fits_70 hd hK2 (u4 := some (.ref 17)) (u5 := some (.int (z4.1 * ((x1 - x1 / 5 * 5) + 1)))) h hQ
            exact ⟨n + 0, hn⟩
          · rw [if_neg c8] at h
            suffices hh : ∃ n, jx_W jx_ShC d (some .boolean) jc_99 Q n 68 [some (.ref 1), some (.int x1), some (.int x2), some (.int x3), some (.ref 17), some (.int (z4.1 * ((x1 - x1 / 5 * 5) + 1)))] [] z4.2 by
              obtain ⟨n, hn⟩ := hh
              exact ⟨n + 5, And.intro (jx_in_ok rfl) (And.intro (fun zz => absurd zz c8) (fun _ => hn))⟩
            cases h
            exact ⟨2, And.intro (Or.inl rfl) (And.intro hQ (And.intro rfl rfl))⟩
  · rcases hr_0 with rfl | rfl | rfl | rfl | rfl | rfl
    · unfold f_S_fits_34 at h
      obtain ⟨z4, h5, h⟩ := Option.bind_eq_some_iff.mp h
      rw [if_pos rfl] at h5
      by_cases c6 : x3 = x2
      · rw [if_pos c6] at h
        suffices hh : ∃ n, jx_W jx_ShC d (some .boolean) jc_99 Q n 70 [some (.ref 1), some (.int x1), some (.int x2), some (.int x3), some (.ref 18), some (.int (z4.1 * ((x1 - x1 / 5 * 5) + 1)))] [] z4.2 by
          obtain ⟨n, hn⟩ := hh
          exact ⟨n + 11, s_Z_Shade_lengthIn (by omega) (by decide) h5 (And.intro (by decide) (And.intro (fun _ => hn) (fun zz => absurd c6 zz)))⟩
        obtain ⟨n, hn⟩ := s_S_fits_70 hd hK2 (u4 := some (.ref 18)) (u5 := some (.int (z4.1 * ((x1 - x1 / 5 * 5) + 1)))) h hQ
        exact ⟨n + 0, hn⟩
      · rw [if_neg c6] at h
        suffices hh : ∃ n, jx_W jx_ShC d (some .boolean) jc_99 Q n 50 [some (.ref 1), some (.int x1), some (.int x2), some (.int x3), some (.ref 18), some (.int (z4.1 * ((x1 - x1 / 5 * 5) + 1)))] [] z4.2 by
          obtain ⟨n, hn⟩ := hh
          exact ⟨n + 11, s_Z_Shade_lengthIn (by omega) (by decide) h5 (And.intro (by decide) (And.intro (fun zz => absurd zz c6) (fun _ => hn)))⟩
        by_cases c7 : (z4.1 * ((x1 - x1 / 5 * 5) + 1)) < (z4.2.1 18 2)
        · rw [if_pos c7] at h
          suffices hh : ∃ n, jx_W jx_ShC d (some .boolean) jc_99 Q n 68 [some (.ref 1), some (.int x1), some (.int x2), some (.int x3), some (.ref 18), some (.int (z4.1 * ((x1 - x1 / 5 * 5) + 1)))] [] z4.2 by
            obtain ⟨n, hn⟩ := hh
            exact ⟨n + 5, And.intro (jx_in_ok rfl) (And.intro (fun _ => hn) (fun zz => absurd c7 zz))⟩
          cases h
          exact ⟨2, And.intro (Or.inl rfl) (And.intro hQ (And.intro rfl rfl))⟩
        · rw [if_neg c7] at h
          suffices hh : ∃ n, jx_W jx_ShC d (some .boolean) jc_99 Q n 59 [some (.ref 1), some (.int x1), some (.int x2), some (.int x3), some (.ref 18), some (.int (z4.1 * ((x1 - x1 / 5 * 5) + 1)))] [] z4.2 by
            obtain ⟨n, hn⟩ := hh
            exact ⟨n + 5, And.intro (jx_in_ok rfl) (And.intro (fun zz => absurd zz c7) (fun _ => hn))⟩
          by_cases c8 : (z4.1 * ((x1 - x1 / 5 * 5) + 1)) ≤ (z4.2.1 18 3)
          · rw [if_pos c8] at h
            suffices hh : ∃ n, jx_W jx_ShC d (some .boolean) jc_99 Q n 70 [some (.ref 1), some (.int x1), some (.int x2), some (.int x3), some (.ref 18), some (.int (z4.1 * ((x1 - x1 / 5 * 5) + 1)))] [] z4.2 by
              obtain ⟨n, hn⟩ := hh
              exact ⟨n + 5, And.intro (jx_in_ok rfl) (And.intro (fun _ => hn) (fun zz => absurd c8 zz))⟩
            obtain ⟨n, hn⟩ := s_S_fits_70 hd hK2 (u4 := some (.ref 18)) (u5 := some (.int (z4.1 * ((x1 - x1 / 5 * 5) + 1)))) h hQ
            exact ⟨n + 0, hn⟩
          · rw [if_neg c8] at h
            suffices hh : ∃ n, jx_W jx_ShC d (some .boolean) jc_99 Q n 68 [some (.ref 1), some (.int x1), some (.int x2), some (.int x3), some (.ref 18), some (.int (z4.1 * ((x1 - x1 / 5 * 5) + 1)))] [] z4.2 by
              obtain ⟨n, hn⟩ := hh
              exact ⟨n + 5, And.intro (jx_in_ok rfl) (And.intro (fun zz => absurd zz c8) (fun _ => hn))⟩
            cases h
            exact ⟨2, And.intro (Or.inl rfl) (And.intro hQ (And.intro rfl rfl))⟩
    · unfold f_S_fits_34 at h
      obtain ⟨z4, h5, h⟩ := Option.bind_eq_some_iff.mp h
      rw [if_neg (by decide), if_pos rfl] at h5
      by_cases c6 : x3 = x2
      · rw [if_pos c6] at h
        suffices hh : ∃ n, jx_W jx_ShC d (some .boolean) jc_99 Q n 70 [some (.ref 1), some (.int x1), some (.int x2), some (.int x3), some (.ref 18), some (.int (z4.1 * ((x1 - x1 / 5 * 5) + 1)))] [] z4.2 by
          obtain ⟨n, hn⟩ := hh
          exact ⟨n + 11, s_Z_Shade_lengthIn (by omega) (by decide) h5 (And.intro (by decide) (And.intro (fun _ => hn) (fun zz => absurd c6 zz)))⟩
        obtain ⟨n, hn⟩ := s_S_fits_70 hd hK2 (u4 := some (.ref 18)) (u5 := some (.int (z4.1 * ((x1 - x1 / 5 * 5) + 1)))) h hQ
        exact ⟨n + 0, hn⟩
      · rw [if_neg c6] at h
        suffices hh : ∃ n, jx_W jx_ShC d (some .boolean) jc_99 Q n 50 [some (.ref 1), some (.int x1), some (.int x2), some (.int x3), some (.ref 18), some (.int (z4.1 * ((x1 - x1 / 5 * 5) + 1)))] [] z4.2 by
          obtain ⟨n, hn⟩ := hh
          exact ⟨n + 11, s_Z_Shade_lengthIn (by omega) (by decide) h5 (And.intro (by decide) (And.intro (fun zz => absurd zz c6) (fun _ => hn)))⟩
        by_cases c7 : (z4.1 * ((x1 - x1 / 5 * 5) + 1)) < (z4.2.1 18 2)
        · rw [if_pos c7] at h
          suffices hh : ∃ n, jx_W jx_ShC d (some .boolean) jc_99 Q n 68 [some (.ref 1), some (.int x1), some (.int x2), some (.int x3), some (.ref 18), some (.int (z4.1 * ((x1 - x1 / 5 * 5) + 1)))] [] z4.2 by
            obtain ⟨n, hn⟩ := hh
            exact ⟨n + 5, And.intro (jx_in_ok rfl) (And.intro (fun _ => hn) (fun zz => absurd c7 zz))⟩
          cases h
          exact ⟨2, And.intro (Or.inl rfl) (And.intro hQ (And.intro rfl rfl))⟩
        · rw [if_neg c7] at h
          suffices hh : ∃ n, jx_W jx_ShC d (some .boolean) jc_99 Q n 59 [some (.ref 1), some (.int x1), some (.int x2), some (.int x3), some (.ref 18), some (.int (z4.1 * ((x1 - x1 / 5 * 5) + 1)))] [] z4.2 by
            obtain ⟨n, hn⟩ := hh
            exact ⟨n + 5, And.intro (jx_in_ok rfl) (And.intro (fun zz => absurd zz c7) (fun _ => hn))⟩
          by_cases c8 : (z4.1 * ((x1 - x1 / 5 * 5) + 1)) ≤ (z4.2.1 18 3)
          · rw [if_pos c8] at h
            suffices hh : ∃ n, jx_W jx_ShC d (some .boolean) jc_99 Q n 70 [some (.ref 1), some (.int x1), some (.int x2), some (.int x3), some (.ref 18), some (.int (z4.1 * ((x1 - x1 / 5 * 5) + 1)))] [] z4.2 by
              obtain ⟨n, hn⟩ := hh
              exact ⟨n + 5, And.intro (jx_in_ok rfl) (And.intro (fun _ => hn) (fun zz => absurd c8 zz))⟩
            obtain ⟨n, hn⟩ := s_S_fits_70 hd hK2 (u4 := some (.ref 18)) (u5 := some (.int (z4.1 * ((x1 - x1 / 5 * 5) + 1)))) h hQ
            exact ⟨n + 0, hn⟩
          · rw [if_neg c8] at h
            suffices hh : ∃ n, jx_W jx_ShC d (some .boolean) jc_99 Q n 68 [some (.ref 1), some (.int x1), some (.int x2), some (.int x3), some (.ref 18), some (.int (z4.1 * ((x1 - x1 / 5 * 5) + 1)))] [] z4.2 by
              obtain ⟨n, hn⟩ := hh
              exact ⟨n + 5, And.intro (jx_in_ok rfl) (And.intro (fun zz => absurd zz c8) (fun _ => hn))⟩
            cases h
            exact ⟨2, And.intro (Or.inl rfl) (And.intro hQ (And.intro rfl rfl))⟩
    · unfold f_S_fits_34 at h
      obtain ⟨z4, h5, h⟩ := Option.bind_eq_some_iff.mp h
      rw [if_neg (by decide), if_neg (by decide), if_pos rfl] at h5
      by_cases c6 : x3 = x2
      · rw [if_pos c6] at h
        suffices hh : ∃ n, jx_W jx_ShC d (some .boolean) jc_99 Q n 70 [some (.ref 1), some (.int x1), some (.int x2), some (.int x3), some (.ref 18), some (.int (z4.1 * ((x1 - x1 / 5 * 5) + 1)))] [] z4.2 by
          obtain ⟨n, hn⟩ := hh
          exact ⟨n + 11, s_Z_Shade_lengthIn (by omega) (by decide) h5 (And.intro (by decide) (And.intro (fun _ => hn) (fun zz => absurd c6 zz)))⟩
        obtain ⟨n, hn⟩ := s_S_fits_70 hd hK2 (u4 := some (.ref 18)) (u5 := some (.int (z4.1 * ((x1 - x1 / 5 * 5) + 1)))) h hQ
        exact ⟨n + 0, hn⟩
      · rw [if_neg c6] at h
        suffices hh : ∃ n, jx_W jx_ShC d (some .boolean) jc_99 Q n 50 [some (.ref 1), some (.int x1), some (.int x2), some (.int x3), some (.ref 18), some (.int (z4.1 * ((x1 - x1 / 5 * 5) + 1)))] [] z4.2 by
          obtain ⟨n, hn⟩ := hh
          exact ⟨n + 11, s_Z_Shade_lengthIn (by omega) (by decide) h5 (And.intro (by decide) (And.intro (fun zz => absurd zz c6) (fun _ => hn)))⟩
        by_cases c7 : (z4.1 * ((x1 - x1 / 5 * 5) + 1)) < (z4.2.1 18 2)
        · rw [if_pos c7] at h
          suffices hh : ∃ n, jx_W jx_ShC d (some .boolean) jc_99 Q n 68 [some (.ref 1), some (.int x1), some (.int x2), some (.int x3), some (.ref 18), some (.int (z4.1 * ((x1 - x1 / 5 * 5) + 1)))] [] z4.2 by
            obtain ⟨n, hn⟩ := hh
            exact ⟨n + 5, And.intro (jx_in_ok rfl) (And.intro (fun _ => hn) (fun zz => absurd c7 zz))⟩
          cases h
          exact ⟨2, And.intro (Or.inl rfl) (And.intro hQ (And.intro rfl rfl))⟩
        · rw [if_neg c7] at h
          suffices hh : ∃ n, jx_W jx_ShC d (some .boolean) jc_99 Q n 59 [some (.ref 1), some (.int x1), some (.int x2), some (.int x3), some (.ref 18), some (.int (z4.1 * ((x1 - x1 / 5 * 5) + 1)))] [] z4.2 by
            obtain ⟨n, hn⟩ := hh
            exact ⟨n + 5, And.intro (jx_in_ok rfl) (And.intro (fun zz => absurd zz c7) (fun _ => hn))⟩
          by_cases c8 : (z4.1 * ((x1 - x1 / 5 * 5) + 1)) ≤ (z4.2.1 18 3)
          · rw [if_pos c8] at h
            suffices hh : ∃ n, jx_W jx_ShC d (some .boolean) jc_99 Q n 70 [some (.ref 1), some (.int x1), some (.int x2), some (.int x3), some (.ref 18), some (.int (z4.1 * ((x1 - x1 / 5 * 5) + 1)))] [] z4.2 by
              obtain ⟨n, hn⟩ := hh
              exact ⟨n + 5, And.intro (jx_in_ok rfl) (And.intro (fun _ => hn) (fun zz => absurd c8 zz))⟩
            obtain ⟨n, hn⟩ := s_S_fits_70 hd hK2 (u4 := some (.ref 18)) (u5 := some (.int (z4.1 * ((x1 - x1 / 5 * 5) + 1)))) h hQ
            exact ⟨n + 0, hn⟩
          · rw [if_neg c8] at h
            suffices hh : ∃ n, jx_W jx_ShC d (some .boolean) jc_99 Q n 68 [some (.ref 1), some (.int x1), some (.int x2), some (.int x3), some (.ref 18), some (.int (z4.1 * ((x1 - x1 / 5 * 5) + 1)))] [] z4.2 by
              obtain ⟨n, hn⟩ := hh
              exact ⟨n + 5, And.intro (jx_in_ok rfl) (And.intro (fun zz => absurd zz c8) (fun _ => hn))⟩
            cases h
            exact ⟨2, And.intro (Or.inl rfl) (And.intro hQ (And.intro rfl rfl))⟩
    · unfold f_S_fits_34 at h
      obtain ⟨z4, h5, h⟩ := Option.bind_eq_some_iff.mp h
      rw [if_neg (by decide), if_neg (by decide), if_neg (by decide), if_pos rfl] at h5
      by_cases c6 : x3 = x2
      · rw [if_pos c6] at h
        suffices hh : ∃ n, jx_W jx_ShC d (some .boolean) jc_99 Q n 70 [some (.ref 1), some (.int x1), some (.int x2), some (.int x3), some (.ref 18), some (.int (z4.1 * ((x1 - x1 / 5 * 5) + 1)))] [] z4.2 by
          obtain ⟨n, hn⟩ := hh
          exact ⟨n + 11, s_Z_Coloured_lengthIn (by omega) h5 (And.intro (by decide) (And.intro (fun _ => hn) (fun zz => absurd c6 zz)))⟩
        obtain ⟨n, hn⟩ := s_S_fits_70 hd hK2 (u4 := some (.ref 18)) (u5 := some (.int (z4.1 * ((x1 - x1 / 5 * 5) + 1)))) h hQ
        exact ⟨n + 0, hn⟩
      · rw [if_neg c6] at h
        suffices hh : ∃ n, jx_W jx_ShC d (some .boolean) jc_99 Q n 50 [some (.ref 1), some (.int x1), some (.int x2), some (.int x3), some (.ref 18), some (.int (z4.1 * ((x1 - x1 / 5 * 5) + 1)))] [] z4.2 by
          obtain ⟨n, hn⟩ := hh
          exact ⟨n + 11, s_Z_Coloured_lengthIn (by omega) h5 (And.intro (by decide) (And.intro (fun zz => absurd zz c6) (fun _ => hn)))⟩
        by_cases c7 : (z4.1 * ((x1 - x1 / 5 * 5) + 1)) < (z4.2.1 18 2)
        · rw [if_pos c7] at h
          suffices hh : ∃ n, jx_W jx_ShC d (some .boolean) jc_99 Q n 68 [some (.ref 1), some (.int x1), some (.int x2), some (.int x3), some (.ref 18), some (.int (z4.1 * ((x1 - x1 / 5 * 5) + 1)))] [] z4.2 by
            obtain ⟨n, hn⟩ := hh
            exact ⟨n + 5, And.intro (jx_in_ok rfl) (And.intro (fun _ => hn) (fun zz => absurd c7 zz))⟩
          cases h
          exact ⟨2, And.intro (Or.inl rfl) (And.intro hQ (And.intro rfl rfl))⟩
        · rw [if_neg c7] at h
          suffices hh : ∃ n, jx_W jx_ShC d (some .boolean) jc_99 Q n 59 [some (.ref 1), some (.int x1), some (.int x2), some (.int x3), some (.ref 18), some (.int (z4.1 * ((x1 - x1 / 5 * 5) + 1)))] [] z4.2 by
            obtain ⟨n, hn⟩ := hh
            exact ⟨n + 5, And.intro (jx_in_ok rfl) (And.intro (fun zz => absurd zz c7) (fun _ => hn))⟩
          by_cases c8 : (z4.1 * ((x1 - x1 / 5 * 5) + 1)) ≤ (z4.2.1 18 3)
          · rw [if_pos c8] at h
            suffices hh : ∃ n, jx_W jx_ShC d (some .boolean) jc_99 Q n 70 [some (.ref 1), some (.int x1), some (.int x2), some (.int x3), some (.ref 18), some (.int (z4.1 * ((x1 - x1 / 5 * 5) + 1)))] [] z4.2 by
              obtain ⟨n, hn⟩ := hh
              exact ⟨n + 5, And.intro (jx_in_ok rfl) (And.intro (fun _ => hn) (fun zz => absurd c8 zz))⟩
            obtain ⟨n, hn⟩ := s_S_fits_70 hd hK2 (u4 := some (.ref 18)) (u5 := some (.int (z4.1 * ((x1 - x1 / 5 * 5) + 1)))) h hQ
            exact ⟨n + 0, hn⟩
          · rw [if_neg c8] at h
            suffices hh : ∃ n, jx_W jx_ShC d (some .boolean) jc_99 Q n 68 [some (.ref 1), some (.int x1), some (.int x2), some (.int x3), some (.ref 18), some (.int (z4.1 * ((x1 - x1 / 5 * 5) + 1)))] [] z4.2 by
              obtain ⟨n, hn⟩ := hh
              exact ⟨n + 5, And.intro (jx_in_ok rfl) (And.intro (fun zz => absurd zz c8) (fun _ => hn))⟩
            cases h
            exact ⟨2, And.intro (Or.inl rfl) (And.intro hQ (And.intro rfl rfl))⟩
    · unfold f_S_fits_34 at h
      obtain ⟨z4, h5, h⟩ := Option.bind_eq_some_iff.mp h
      rw [if_neg (by decide), if_neg (by decide), if_neg (by decide), if_neg (by decide), if_pos rfl] at h5
      by_cases c6 : x3 = x2
      · rw [if_pos c6] at h
        suffices hh : ∃ n, jx_W jx_ShC d (some .boolean) jc_99 Q n 70 [some (.ref 1), some (.int x1), some (.int x2), some (.int x3), some (.ref 18), some (.int (z4.1 * ((x1 - x1 / 5 * 5) + 1)))] [] z4.2 by
          obtain ⟨n, hn⟩ := hh
          exact ⟨n + 11, s_Z_Slow_lengthIn (by omega) (by decide) h5 (And.intro (by decide) (And.intro (fun _ => hn) (fun zz => absurd c6 zz)))⟩
        obtain ⟨n, hn⟩ := s_S_fits_70 hd hK2 (u4 := some (.ref 18)) (u5 := some (.int (z4.1 * ((x1 - x1 / 5 * 5) + 1)))) h hQ
        exact ⟨n + 0, hn⟩
      · rw [if_neg c6] at h
        suffices hh : ∃ n, jx_W jx_ShC d (some .boolean) jc_99 Q n 50 [some (.ref 1), some (.int x1), some (.int x2), some (.int x3), some (.ref 18), some (.int (z4.1 * ((x1 - x1 / 5 * 5) + 1)))] [] z4.2 by
          obtain ⟨n, hn⟩ := hh
          exact ⟨n + 11, s_Z_Slow_lengthIn (by omega) (by decide) h5 (And.intro (by decide) (And.intro (fun zz => absurd zz c6) (fun _ => hn)))⟩
        by_cases c7 : (z4.1 * ((x1 - x1 / 5 * 5) + 1)) < (z4.2.1 18 2)
        · rw [if_pos c7] at h
          suffices hh : ∃ n, jx_W jx_ShC d (some .boolean) jc_99 Q n 68 [some (.ref 1), some (.int x1), some (.int x2), some (.int x3), some (.ref 18), some (.int (z4.1 * ((x1 - x1 / 5 * 5) + 1)))] [] z4.2 by
            obtain ⟨n, hn⟩ := hh
            exact ⟨n + 5, And.intro (jx_in_ok rfl) (And.intro (fun _ => hn) (fun zz => absurd c7 zz))⟩
          cases h
          exact ⟨2, And.intro (Or.inl rfl) (And.intro hQ (And.intro rfl rfl))⟩
        · rw [if_neg c7] at h
          suffices hh : ∃ n, jx_W jx_ShC d (some .boolean) jc_99 Q n 59 [some (.ref 1), some (.int x1), some (.int x2), some (.int x3), some (.ref 18), some (.int (z4.1 * ((x1 - x1 / 5 * 5) + 1)))] [] z4.2 by
            obtain ⟨n, hn⟩ := hh
            exact ⟨n + 5, And.intro (jx_in_ok rfl) (And.intro (fun zz => absurd zz c7) (fun _ => hn))⟩
          by_cases c8 : (z4.1 * ((x1 - x1 / 5 * 5) + 1)) ≤ (z4.2.1 18 3)
          · rw [if_pos c8] at h
            suffices hh : ∃ n, jx_W jx_ShC d (some .boolean) jc_99 Q n 70 [some (.ref 1), some (.int x1), some (.int x2), some (.int x3), some (.ref 18), some (.int (z4.1 * ((x1 - x1 / 5 * 5) + 1)))] [] z4.2 by
              obtain ⟨n, hn⟩ := hh
              exact ⟨n + 5, And.intro (jx_in_ok rfl) (And.intro (fun _ => hn) (fun zz => absurd c8 zz))⟩
            obtain ⟨n, hn⟩ := s_S_fits_70 hd hK2 (u4 := some (.ref 18)) (u5 := some (.int (z4.1 * ((x1 - x1 / 5 * 5) + 1)))) h hQ
            exact ⟨n + 0, hn⟩
          · rw [if_neg c8] at h
            suffices hh : ∃ n, jx_W jx_ShC d (some .boolean) jc_99 Q n 68 [some (.ref 1), some (.int x1), some (.int x2), some (.int x3), some (.ref 18), some (.int (z4.1 * ((x1 - x1 / 5 * 5) + 1)))] [] z4.2 by
              obtain ⟨n, hn⟩ := hh
              exact ⟨n + 5, And.intro (jx_in_ok rfl) (And.intro (fun zz => absurd zz c8) (fun _ => hn))⟩
            cases h
            exact ⟨2, And.intro (Or.inl rfl) (And.intro hQ (And.intro rfl rfl))⟩
    · unfold f_S_fits_34 at h
      obtain ⟨z4, h5, h⟩ := Option.bind_eq_some_iff.mp h
      rw [if_neg (by decide), if_neg (by decide), if_neg (by decide), if_neg (by decide), if_neg (by decide), if_pos rfl] at h5
      by_cases c6 : x3 = x2
      · rw [if_pos c6] at h
        suffices hh : ∃ n, jx_W jx_ShC d (some .boolean) jc_99 Q n 70 [some (.ref 1), some (.int x1), some (.int x2), some (.int x3), some (.ref 18), some (.int (z4.1 * ((x1 - x1 / 5 * 5) + 1)))] [] z4.2 by
          obtain ⟨n, hn⟩ := hh
          exact ⟨n + 11, s_Z_Borrowed_lengthIn (by omega) h5 (And.intro (by decide) (And.intro (fun _ => hn) (fun zz => absurd c6 zz)))⟩
        obtain ⟨n, hn⟩ := s_S_fits_70 hd hK2 (u4 := some (.ref 18)) (u5 := some (.int (z4.1 * ((x1 - x1 / 5 * 5) + 1)))) h hQ
        exact ⟨n + 0, hn⟩
      · rw [if_neg c6] at h
        suffices hh : ∃ n, jx_W jx_ShC d (some .boolean) jc_99 Q n 50 [some (.ref 1), some (.int x1), some (.int x2), some (.int x3), some (.ref 18), some (.int (z4.1 * ((x1 - x1 / 5 * 5) + 1)))] [] z4.2 by
          obtain ⟨n, hn⟩ := hh
          exact ⟨n + 11, s_Z_Borrowed_lengthIn (by omega) h5 (And.intro (by decide) (And.intro (fun zz => absurd zz c6) (fun _ => hn)))⟩
        by_cases c7 : (z4.1 * ((x1 - x1 / 5 * 5) + 1)) < (z4.2.1 18 2)
        · rw [if_pos c7] at h
          suffices hh : ∃ n, jx_W jx_ShC d (some .boolean) jc_99 Q n 68 [some (.ref 1), some (.int x1), some (.int x2), some (.int x3), some (.ref 18), some (.int (z4.1 * ((x1 - x1 / 5 * 5) + 1)))] [] z4.2 by
            obtain ⟨n, hn⟩ := hh
            exact ⟨n + 5, And.intro (jx_in_ok rfl) (And.intro (fun _ => hn) (fun zz => absurd c7 zz))⟩
          cases h
          exact ⟨2, And.intro (Or.inl rfl) (And.intro hQ (And.intro rfl rfl))⟩
        · rw [if_neg c7] at h
          suffices hh : ∃ n, jx_W jx_ShC d (some .boolean) jc_99 Q n 59 [some (.ref 1), some (.int x1), some (.int x2), some (.int x3), some (.ref 18), some (.int (z4.1 * ((x1 - x1 / 5 * 5) + 1)))] [] z4.2 by
            obtain ⟨n, hn⟩ := hh
            exact ⟨n + 5, And.intro (jx_in_ok rfl) (And.intro (fun zz => absurd zz c7) (fun _ => hn))⟩
          by_cases c8 : (z4.1 * ((x1 - x1 / 5 * 5) + 1)) ≤ (z4.2.1 18 3)
          · rw [if_pos c8] at h
            suffices hh : ∃ n, jx_W jx_ShC d (some .boolean) jc_99 Q n 70 [some (.ref 1), some (.int x1), some (.int x2), some (.int x3), some (.ref 18), some (.int (z4.1 * ((x1 - x1 / 5 * 5) + 1)))] [] z4.2 by
              obtain ⟨n, hn⟩ := hh
              exact ⟨n + 5, And.intro (jx_in_ok rfl) (And.intro (fun _ => hn) (fun zz => absurd c8 zz))⟩
            obtain ⟨n, hn⟩ := s_S_fits_70 hd hK2 (u4 := some (.ref 18)) (u5 := some (.int (z4.1 * ((x1 - x1 / 5 * 5) + 1)))) h hQ
            exact ⟨n + 0, hn⟩
          · rw [if_neg c8] at h
            suffices hh : ∃ n, jx_W jx_ShC d (some .boolean) jc_99 Q n 68 [some (.ref 1), some (.int x1), some (.int x2), some (.int x3), some (.ref 18), some (.int (z4.1 * ((x1 - x1 / 5 * 5) + 1)))] [] z4.2 by
              obtain ⟨n, hn⟩ := hh
              exact ⟨n + 5, And.intro (jx_in_ok rfl) (And.intro (fun zz => absurd zz c8) (fun _ => hn))⟩
            cases h
            exact ⟨2, And.intro (Or.inl rfl) (And.intro hQ (And.intro rfl rfl))⟩
set_option maxRecDepth 20000 in
theorem s_S_fits_26 {N d : Nat} {Q : jw_Q} {K2 : Int32 → Int32 → Int32 → jw_M → Option (Int32 × jw_M)} (hd : 3 ≤ d) (hK2 : ∀ {x1 : Int32} {x2 : Int32} {x3 : Int32} {σ : jw_M} {z : (Int32 × jw_M)} {u4 : Option Value} {u5 : Option Value}, K2 x1 x2 x3 σ = some z → Q (some (.int z.1)) (jx_ShC, z.2) → ∃ n, jx_W jx_ShC d (some .boolean) jc_99 Q n 2 [some (.ref 1), some (.int x1), some (.int x2), some (.int x3), u4, u5] [] σ) {x1 : Int32} {x2 : Int32} {x3 : Int32} {r4 : Nat} {y1 : Int32} {u5 : Option Value} {σ : jw_M} {z : (Int32 × jw_M)} (hr4 : r4 = 13 ∨ r4 = 14 ∨ r4 = 15 ∨ r4 = 16 ∨ r4 = 17 ∨ r4 = 18) (h : f_S_fits_26 N K2 x1 x2 x3 r4 y1 σ = some z) (hQ : Q (some (.int z.1)) (jx_ShC, z.2)) : ∃ n, jx_W jx_ShC d (some .boolean) jc_99 Q n 26 [some (.ref 1), some (.int x1), some (.int x2), some (.int x3), some (.ref r4), u5] [.int y1, .ref 31] σ := by
  rcases hr4 with rfl | rfl | rfl | rfl | rfl | rfl
  · unfold f_S_fits_26 at h
    cases c3 : jx_in y1 6 with
    | false => rw [c3, cond_false] at h; cases h
    | true =>
      rw [c3, cond_true] at h
      rcases jx_ix6 (jx_in_ok c3) with rfl | rfl | rfl | rfl | rfl | rfl
      · try rw [show (32 + (0 : Int32).toNatClampNeg) = 32 from by decide] at h
        obtain ⟨n, hn⟩ := s_S_fits_34 hd hK2 (u5 := u5) (by decide) (by decide) h hQ
        exact ⟨n + 7, And.intro (jx_in_ok c3) (And.intro (by decide) (And.intro (jx_in_ok rfl) (hn)))⟩
      · try rw [show (32 + (1 : Int32).toNatClampNeg) = 33 from by decide] at h
        obtain ⟨n, hn⟩ := s_S_fits_34 hd hK2 (u5 := u5) (by decide) (by decide) h hQ
        exact ⟨n + 7, And.intro (jx_in_ok c3) (And.intro (by decide) (And.intro (jx_in_ok rfl) (hn)))⟩
      · try rw [show (32 + (2 : Int32).toNatClampNeg) = 34 from by decide] at h
        obtain ⟨n, hn⟩ := s_S_fits_34 hd hK2 (u5 := u5) (by decide) (by decide) h hQ
        exact ⟨n + 7, And.intro (jx_in_ok c3) (And.intro (by decide) (And.intro (jx_in_ok rfl) (hn)))⟩
      · try rw [show (32 + (3 : Int32).toNatClampNeg) = 35 from by decide] at h
        obtain ⟨n, hn⟩ := s_S_fits_34 hd hK2 (u5 := u5) (by decide) (by decide) h hQ
        exact ⟨n + 7, And.intro (jx_in_ok c3) (And.intro (by decide) (And.intro (jx_in_ok rfl) (hn)))⟩
      · try rw [show (32 + (4 : Int32).toNatClampNeg) = 36 from by decide] at h
        obtain ⟨n, hn⟩ := s_S_fits_34 hd hK2 (u5 := u5) (by decide) (by decide) h hQ
        exact ⟨n + 7, And.intro (jx_in_ok c3) (And.intro (by decide) (And.intro (jx_in_ok rfl) (hn)))⟩
      · try rw [show (32 + (5 : Int32).toNatClampNeg) = 37 from by decide] at h
        obtain ⟨n, hn⟩ := s_S_fits_34 hd hK2 (u5 := u5) (by decide) (by decide) h hQ
        exact ⟨n + 7, And.intro (jx_in_ok c3) (And.intro (by decide) (And.intro (jx_in_ok rfl) (hn)))⟩
  · unfold f_S_fits_26 at h
    cases c3 : jx_in y1 6 with
    | false => rw [c3, cond_false] at h; cases h
    | true =>
      rw [c3, cond_true] at h
      rcases jx_ix6 (jx_in_ok c3) with rfl | rfl | rfl | rfl | rfl | rfl
      · try rw [show (32 + (0 : Int32).toNatClampNeg) = 32 from by decide] at h
        obtain ⟨n, hn⟩ := s_S_fits_34 hd hK2 (u5 := u5) (by decide) (by decide) h hQ
        exact ⟨n + 7, And.intro (jx_in_ok c3) (And.intro (by decide) (And.intro (jx_in_ok rfl) (hn)))⟩
      · try rw [show (32 + (1 : Int32).toNatClampNeg) = 33 from by decide] at h
        obtain ⟨n, hn⟩ := s_S_fits_34 hd hK2 (u5 := u5) (by decide) (by decide) h hQ
        exact ⟨n + 7, And.intro (jx_in_ok c3) (And.intro (by decide) (And.intro (jx_in_ok rfl) (hn)))⟩
      · try rw [show (32 + (2 : Int32).toNatClampNeg) = 34 from by decide] at h
        obtain ⟨n, hn⟩ := s_S_fits_34 hd hK2 (u5 := u5) (by decide) (by decide) h hQ
        exact ⟨n + 7, And.intro (jx_in_ok c3) (And.intro (by decide) (And.intro (jx_in_ok rfl) (hn)))⟩
      · try rw [show (32 + (3 : Int32).toNatClampNeg) = 35 from by decide] at h
        obtain ⟨n, hn⟩ := s_S_fits_34 hd hK2 (u5 := u5) (by decide) (by decide) h hQ
        exact ⟨n + 7, And.intro (jx_in_ok c3) (And.intro (by decide) (And.intro (jx_in_ok rfl) (hn)))⟩
      · try rw [show (32 + (4 : Int32).toNatClampNeg) = 36 from by decide] at h
        obtain ⟨n, hn⟩ := s_S_fits_34 hd hK2 (u5 := u5) (by decide) (by decide) h hQ
        exact ⟨n + 7, And.intro (jx_in_ok c3) (And.intro (by decide) (And.intro (jx_in_ok rfl) (hn)))⟩
      · try rw [show (32 + (5 : Int32).toNatClampNeg) = 37 from by decide] at h
        obtain ⟨n, hn⟩ := s_S_fits_34 hd hK2 (u5 := u5) (by decide) (by decide) h hQ
        exact ⟨n + 7, And.intro (jx_in_ok c3) (And.intro (by decide) (And.intro (jx_in_ok rfl) (hn)))⟩
  · unfold f_S_fits_26 at h
    cases c3 : jx_in y1 6 with
    | false => rw [c3, cond_false] at h; cases h
    | true =>
      rw [c3, cond_true] at h
      rcases jx_ix6 (jx_in_ok c3) with rfl | rfl | rfl | rfl | rfl | rfl
      · try rw [show (32 + (0 : Int32).toNatClampNeg) = 32 from by decide] at h
        obtain ⟨n, hn⟩ := s_S_fits_34 hd hK2 (u5 := u5) (by decide) (by decide) h hQ
        exact ⟨n + 7, And.intro (jx_in_ok c3) (And.intro (by decide) (And.intro (jx_in_ok rfl) (hn)))⟩
      · try rw [show (32 + (1 : Int32).toNatClampNeg) = 33 from by decide] at h
        obtain ⟨n, hn⟩ := s_S_fits_34 hd hK2 (u5 := u5) (by decide) (by decide) h hQ
        exact ⟨n + 7, And.intro (jx_in_ok c3) (And.intro (by decide) (And.intro (jx_in_ok rfl) (hn)))⟩
      · try rw [show (32 + (2 : Int32).toNatClampNeg) = 34 from by decide] at h
        obtain ⟨n, hn⟩ := s_S_fits_34 hd hK2 (u5 := u5) (by decide) (by decide) h hQ
        exact ⟨n + 7, And.intro (jx_in_ok c3) (And.intro (by decide) (And.intro (jx_in_ok rfl) (hn)))⟩
      · try rw [show (32 + (3 : Int32).toNatClampNeg) = 35 from by decide] at h
        obtain ⟨n, hn⟩ := s_S_fits_34 hd hK2 (u5 := u5) (by decide) (by decide) h hQ
        exact ⟨n + 7, And.intro (jx_in_ok c3) (And.intro (by decide) (And.intro (jx_in_ok rfl) (hn)))⟩
      · try rw [show (32 + (4 : Int32).toNatClampNeg) = 36 from by decide] at h
        obtain ⟨n, hn⟩ := s_S_fits_34 hd hK2 (u5 := u5) (by decide) (by decide) h hQ
        exact ⟨n + 7, And.intro (jx_in_ok c3) (And.intro (by decide) (And.intro (jx_in_ok rfl) (hn)))⟩
      · try rw [show (32 + (5 : Int32).toNatClampNeg) = 37 from by decide] at h
        obtain ⟨n, hn⟩ := s_S_fits_34 hd hK2 (u5 := u5) (by decide) (by decide) h hQ
        exact ⟨n + 7, And.intro (jx_in_ok c3) (And.intro (by decide) (And.intro (jx_in_ok rfl) (hn)))⟩
  · unfold f_S_fits_26 at h
    cases c3 : jx_in y1 6 with
    | false => rw [c3, cond_false] at h; cases h
    | true =>
      rw [c3, cond_true] at h
      rcases jx_ix6 (jx_in_ok c3) with rfl | rfl | rfl | rfl | rfl | rfl
      · try rw [show (32 + (0 : Int32).toNatClampNeg) = 32 from by decide] at h
        obtain ⟨n, hn⟩ := s_S_fits_34 hd hK2 (u5 := u5) (by decide) (by decide) h hQ
        exact ⟨n + 7, And.intro (jx_in_ok c3) (And.intro (by decide) (And.intro (jx_in_ok rfl) (hn)))⟩
      · try rw [show (32 + (1 : Int32).toNatClampNeg) = 33 from by decide] at h
        obtain ⟨n, hn⟩ := s_S_fits_34 hd hK2 (u5 := u5) (by decide) (by decide) h hQ
        exact ⟨n + 7, And.intro (jx_in_ok c3) (And.intro (by decide) (And.intro (jx_in_ok rfl) (hn)))⟩
      · try rw [show (32 + (2 : Int32).toNatClampNeg) = 34 from by decide] at h
        obtain ⟨n, hn⟩ := s_S_fits_34 hd hK2 (u5 := u5) (by decide) (by decide) h hQ
        exact ⟨n + 7, And.intro (jx_in_ok c3) (And.intro (by decide) (And.intro (jx_in_ok rfl) (hn)))⟩
      · try rw [show (32 + (3 : Int32).toNatClampNeg) = 35 from by decide] at h
        obtain ⟨n, hn⟩ := s_S_fits_34 hd hK2 (u5 := u5) (by decide) (by decide) h hQ
        exact ⟨n + 7, And.intro (jx_in_ok c3) (And.intro (by decide) (And.intro (jx_in_ok rfl) (hn)))⟩
      · try rw [show (32 + (4 : Int32).toNatClampNeg) = 36 from by decide] at h
        obtain ⟨n, hn⟩ := s_S_fits_34 hd hK2 (u5 := u5) (by decide) (by decide) h hQ
        exact ⟨n + 7, And.intro (jx_in_ok c3) (And.intro (by decide) (And.intro (jx_in_ok rfl) (hn)))⟩
      · try rw [show (32 + (5 : Int32).toNatClampNeg) = 37 from by decide] at h
        obtain ⟨n, hn⟩ := s_S_fits_34 hd hK2 (u5 := u5) (by decide) (by decide) h hQ
        exact ⟨n + 7, And.intro (jx_in_ok c3) (And.intro (by decide) (And.intro (jx_in_ok rfl) (hn)))⟩
  · unfold f_S_fits_26 at h
    cases c3 : jx_in y1 6 with
    | false => rw [c3, cond_false] at h; cases h
    | true =>
      rw [c3, cond_true] at h
      rcases jx_ix6 (jx_in_ok c3) with rfl | rfl | rfl | rfl | rfl | rfl
      · try rw [show (32 + (0 : Int32).toNatClampNeg) = 32 from by decide] at h
        obtain ⟨n, hn⟩ := s_S_fits_34 hd hK2 (u5 := u5) (by decide) (by decide) h hQ
        exact ⟨n + 7, And.intro (jx_in_ok c3) (And.intro (by decide) (And.intro (jx_in_ok rfl) (hn)))⟩
      · try rw [show (32 + (1 : Int32).toNatClampNeg) = 33 from by decide] at h
        obtain ⟨n, hn⟩ := s_S_fits_34 hd hK2 (u5 := u5) (by decide) (by decide) h hQ
        exact ⟨n + 7, And.intro (jx_in_ok c3) (And.intro (by decide) (And.intro (jx_in_ok rfl) (hn)))⟩
      · try rw [show (32 + (2 : Int32).toNatClampNeg) = 34 from by decide] at h
        obtain ⟨n, hn⟩ := s_S_fits_34 hd hK2 (u5 := u5) (by decide) (by decide) h hQ
        exact ⟨n + 7, And.intro (jx_in_ok c3) (And.intro (by decide) (And.intro (jx_in_ok rfl) (hn)))⟩
      · try rw [show (32 + (3 : Int32).toNatClampNeg) = 35 from by decide] at h
        obtain ⟨n, hn⟩ := s_S_fits_34 hd hK2 (u5 := u5) (by decide) (by decide) h hQ
        exact ⟨n + 7, And.intro (jx_in_ok c3) (And.intro (by decide) (And.intro (jx_in_ok rfl) (hn)))⟩
      · try rw [show (32 + (4 : Int32).toNatClampNeg) = 36 from by decide] at h
        obtain ⟨n, hn⟩ := s_S_fits_34 hd hK2 (u5 := u5) (by decide) (by decide) h hQ
        exact ⟨n + 7, And.intro (jx_in_ok c3) (And.intro (by decide) (And.intro (jx_in_ok rfl) (hn)))⟩
      · try rw [show (32 + (5 : Int32).toNatClampNeg) = 37 from by decide] at h
        obtain ⟨n, hn⟩ := s_S_fits_34 hd hK2 (u5 := u5) (by decide) (by decide) h hQ
        exact ⟨n + 7, And.intro (jx_in_ok c3) (And.intro (by decide) (And.intro (jx_in_ok rfl) (hn)))⟩
  · unfold f_S_fits_26 at h
    cases c3 : jx_in y1 6 with
    | false => rw [c3, cond_false] at h; cases h
    | true =>
      rw [c3, cond_true] at h
      rcases jx_ix6 (jx_in_ok c3) with rfl | rfl | rfl | rfl | rfl | rfl
      · try rw [show (32 + (0 : Int32).toNatClampNeg) = 32 from by decide] at h
        obtain ⟨n, hn⟩ := s_S_fits_34 hd hK2 (u5 := u5) (by decide) (by decide) h hQ
        exact ⟨n + 7, And.intro (jx_in_ok c3) (And.intro (by decide) (And.intro (jx_in_ok rfl) (hn)))⟩
      · try rw [show (32 + (1 : Int32).toNatClampNeg) = 33 from by decide] at h
        obtain ⟨n, hn⟩ := s_S_fits_34 hd hK2 (u5 := u5) (by decide) (by decide) h hQ
        exact ⟨n + 7, And.intro (jx_in_ok c3) (And.intro (by decide) (And.intro (jx_in_ok rfl) (hn)))⟩
      · try rw [show (32 + (2 : Int32).toNatClampNeg) = 34 from by decide] at h
        obtain ⟨n, hn⟩ := s_S_fits_34 hd hK2 (u5 := u5) (by decide) (by decide) h hQ
        exact ⟨n + 7, And.intro (jx_in_ok c3) (And.intro (by decide) (And.intro (jx_in_ok rfl) (hn)))⟩
      · try rw [show (32 + (3 : Int32).toNatClampNeg) = 35 from by decide] at h
        obtain ⟨n, hn⟩ := s_S_fits_34 hd hK2 (u5 := u5) (by decide) (by decide) h hQ
        exact ⟨n + 7, And.intro (jx_in_ok c3) (And.intro (by decide) (And.intro (jx_in_ok rfl) (hn)))⟩
      · try rw [show (32 + (4 : Int32).toNatClampNeg) = 36 from by decide] at h
        obtain ⟨n, hn⟩ := s_S_fits_34 hd hK2 (u5 := u5) (by decide) (by decide) h hQ
        exact ⟨n + 7, And.intro (jx_in_ok c3) (And.intro (by decide) (And.intro (jx_in_ok rfl) (hn)))⟩
      · try rw [show (32 + (5 : Int32).toNatClampNeg) = 37 from by decide] at h
        obtain ⟨n, hn⟩ := s_S_fits_34 hd hK2 (u5 := u5) (by decide) (by decide) h hQ
        exact ⟨n + 7, And.intro (jx_in_ok c3) (And.intro (by decide) (And.intro (jx_in_ok rfl) (hn)))⟩
set_option maxRecDepth 20000 in
theorem s_S_fits_15 {N d : Nat} {Q : jw_Q} {K2 : Int32 → Int32 → Int32 → jw_M → Option (Int32 × jw_M)} (hd : 3 ≤ d) (hK2 : ∀ {x1 : Int32} {x2 : Int32} {x3 : Int32} {σ : jw_M} {z : (Int32 × jw_M)} {u4 : Option Value} {u5 : Option Value}, K2 x1 x2 x3 σ = some z → Q (some (.int z.1)) (jx_ShC, z.2) → ∃ n, jx_W jx_ShC d (some .boolean) jc_99 Q n 2 [some (.ref 1), some (.int x1), some (.int x2), some (.int x3), u4, u5] [] σ) {x1 : Int32} {x2 : Int32} {x3 : Int32} {y1 : Int32} {u4 : Option Value} {u5 : Option Value} {σ : jw_M} {z : (Int32 × jw_M)} (h : f_S_fits_15 N K2 x1 x2 x3 y1 σ = some z) (hQ : Q (some (.int z.1)) (jx_ShC, z.2)) : ∃ n, jx_W jx_ShC d (some .boolean) jc_99 Q n 15 [some (.ref 1), some (.int x1), some (.int x2), some (.int x3), u4, u5] [.int y1, .ref 12] σ := by
  unfold f_S_fits_15 at h
  cases c2 : jx_in y1 6 with
  | false => rw [c2, cond_false] at h; cases h
  | true =>
    rw [c2, cond_true] at h
    rcases jx_ix6 (jx_in_ok c2) with rfl | rfl | rfl | rfl | rfl | rfl
    · try rw [show (13 + (0 : Int32).toNatClampNeg) = 13 from by decide] at h
      obtain ⟨n, hn⟩ := s_S_fits_26 hd hK2 (u5 := u5) (by decide) h hQ
      exact ⟨n + 7, And.intro (jx_in_ok c2) (And.intro (jx_in_ok rfl) (hn))⟩
    · try rw [show (13 + (1 : Int32).toNatClampNeg) = 14 from by decide] at h
      obtain ⟨n, hn⟩ := s_S_fits_26 hd hK2 (u5 := u5) (by decide) h hQ
      exact ⟨n + 7, And.intro (jx_in_ok c2) (And.intro (jx_in_ok rfl) (hn))⟩
    · try rw [show (13 + (2 : Int32).toNatClampNeg) = 15 from by decide] at h
      obtain ⟨n, hn⟩ := s_S_fits_26 hd hK2 (u5 := u5) (by decide) h hQ
      exact ⟨n + 7, And.intro (jx_in_ok c2) (And.intro (jx_in_ok rfl) (hn))⟩
    · try rw [show (13 + (3 : Int32).toNatClampNeg) = 16 from by decide] at h
      obtain ⟨n, hn⟩ := s_S_fits_26 hd hK2 (u5 := u5) (by decide) h hQ
      exact ⟨n + 7, And.intro (jx_in_ok c2) (And.intro (jx_in_ok rfl) (hn))⟩
    · try rw [show (13 + (4 : Int32).toNatClampNeg) = 17 from by decide] at h
      obtain ⟨n, hn⟩ := s_S_fits_26 hd hK2 (u5 := u5) (by decide) h hQ
      exact ⟨n + 7, And.intro (jx_in_ok c2) (And.intro (jx_in_ok rfl) (hn))⟩
    · try rw [show (13 + (5 : Int32).toNatClampNeg) = 18 from by decide] at h
      obtain ⟨n, hn⟩ := s_S_fits_26 hd hK2 (u5 := u5) (by decide) h hQ
      exact ⟨n + 7, And.intro (jx_in_ok c2) (And.intro (jx_in_ok rfl) (hn))⟩
set_option maxRecDepth 20000 in
theorem s_S_fits_2 {N d : Nat} {Q : jw_Q} (hd : 3 ≤ d) : ∀ (k : Nat) {x1 : Int32} {x2 : Int32} {x3 : Int32} {u4 : Option Value} {u5 : Option Value} {σ : jw_M} {z : (Int32 × jw_M)}, f_S_fits_2 N k x1 x2 x3 σ = some z → Q (some (.int z.1)) (jx_ShC, z.2) → ∃ n, jx_W jx_ShC d (some .boolean) jc_99 Q n 2 [some (.ref 1), some (.int x1), some (.int x2), some (.int x3), u4, u5] [] σ
  | 0, _, _, _, _, _, _, _, h, _ => by cases h
  | k + 1, x1, x2, x3, u4, u5, σ, z, h, hQ => by
    rw [f_S_fits_2] at h
    by_cases c1 : (σ.1 1 12) ≤ x3
    · rw [if_pos c1] at h
      suffices hh : ∃ n, jx_W jx_ShC d (some .boolean) jc_99 Q n 76 [some (.ref 1), some (.int x1), some (.int x2), some (.int x3), u4, u5] [] σ by
        obtain ⟨n, hn⟩ := hh
        exact ⟨n + 4, And.intro (fun _ => hn) (fun zz => absurd c1 zz)⟩
      cases h
      exact ⟨2, And.intro (Or.inr rfl) (And.intro hQ (And.intro rfl rfl))⟩
    · rw [if_neg c1] at h
      suffices hh : ∃ n, jx_W jx_ShC d (some .boolean) jc_99 Q n 10 [some (.ref 1), some (.int x1), some (.int x2), some (.int x3), u4, u5] [] σ by
        obtain ⟨n, hn⟩ := hh
        exact ⟨n + 4, And.intro (fun zz => absurd zz c1) (fun _ => hn)⟩
      obtain ⟨n, hn⟩ := s_S_fits_15 hd (s_S_fits_2 hd k) (u4 := u4) (u5 := u5) h hQ
      exact ⟨n + 3, hn⟩
set_option maxRecDepth 20000 in
theorem s_S_fits {N d : Nat} {x1 : Int32} {x2 : Int32} (hd : 4 ≤ d) {σ : jw_M} {z : (Int32 × jw_M)} {Q : jw_Q} (h : f_S_fits N x1 x2 σ = some z) (hQ : Q (some (.int z.1)) (jx_ShC, z.2)) : jw_C jp_kd jp_ys d 99 [.ref 1, .int x1, .int x2] (jx_ShC, σ) Q := by
  obtain ⟨d, rfl⟩ : ∃ e, d = e + 1 := ⟨d - 1, by omega⟩
  replace hd : 3 ≤ d := by omega
  refine jx_C rfl rfl ?_
  unfold f_S_fits at h
  obtain ⟨n, hn⟩ := s_S_fits_2 hd N (u4 := none) (u5 := none) h hQ
  exact ⟨n + 2, hn⟩
