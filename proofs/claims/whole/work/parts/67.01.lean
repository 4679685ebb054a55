set_option maxRecDepth 20000 in
theorem s_H_shadowOn {N d : Nat} {x1 : Int32} (hd : 1 ≤ d) {σ : jw_M} {z : (Int32 × jw_M)} {Q : jw_Q} (h : f_H_shadowOn N x1 σ = some z) (hQ : Q (some (.int z.1)) (jx_ShC, z.2)) : jw_C jp_kd jp_ys d 23 [.ref 121, .int x1] (jx_ShC, σ) Q := by
  obtain ⟨d, rfl⟩ : ∃ e, d = e + 1 := ⟨d - 1, by omega⟩
  replace hd : 0 ≤ d := by omega
  refine jx_C rfl rfl ?_
  unfold f_H_shadowOn at h
  cases c1 : jx_in x1 4 with
  | false => rw [c1, cond_false] at h; cases h
  | true =>
    rw [c1, cond_true] at h
    by_cases c2 : (σ.1 129 (x1).toNatClampNeg) = 0
    · rw [if_pos c2] at h
      suffices hh : ∃ n, jx_W jx_ShC d (some .int) jc_23 Q n 9 [some (.ref 121), some (.int x1)] [] σ by
        obtain ⟨n, hn⟩ := hh
        exact ⟨n + 5, And.intro (jx_in_ok c1) (And.intro (fun zz => absurd c2 zz) (fun _ => hn))⟩
      cases h
      exact ⟨6, And.intro (jx_in_ok c1) (And.intro hQ (And.intro rfl rfl))⟩
    · rw [if_neg c2] at h
      suffices hh : ∃ n, jx_W jx_ShC d (some .int) jc_23 Q n 18 [some (.ref 121), some (.int x1)] [] σ by
        obtain ⟨n, hn⟩ := hh
        exact ⟨n + 5, And.intro (jx_in_ok c1) (And.intro (fun _ => hn) (fun zz => absurd zz c2))⟩
      cases h
      exact ⟨2, And.intro hQ (And.intro rfl rfl)⟩
set_option maxRecDepth 20000 in
theorem s_H_clearTrace {N d : Nat} (hd : 1 ≤ d) {σ : jw_M} {z : jw_M} {Q : jw_Q} (h : f_H_clearTrace N  σ = some z) (hQ : Q none (jx_ShC, z)) : jw_C jp_kd jp_ys d 24 [.ref 121] (jx_ShC, σ) Q := by
  obtain ⟨d, rfl⟩ : ∃ e, d = e + 1 := ⟨d - 1, by omega⟩
  replace hd : 0 ≤ d := by omega
  refine jx_C rfl rfl ?_
  unfold f_H_clearTrace at h
  cases h
  exact ⟨7, And.intro (Or.inl rfl) (And.intro hQ (And.intro rfl rfl))⟩
set_option maxRecDepth 20000 in
theorem s_Z_Joined_paceIn {N d : Nat} {x1 : Int32} {x2 : Int32} (hd : 2 ≤ d) {σ : jw_M} {z : (Int32 × jw_M)} {Q : jw_Q} (h : f_Z_Joined_paceIn N x1 x2 σ = some z) (hQ : Q (some (.int z.1)) (jx_ShC, z.2)) : jw_C jp_kd jp_ys d 28 [.ref 33, .int x1, .int x2] (jx_ShC, σ) Q := by
  obtain ⟨d, rfl⟩ : ∃ e, d = e + 1 := ⟨d - 1, by omega⟩
  replace hd : 1 ≤ d := by omega
  refine jx_C rfl rfl ?_
  unfold f_Z_Joined_paceIn at h
  by_cases c1 : (x1 - x1 / 4 * 4) = 3
  · rw [if_pos c1] at h
    suffices hh : ∃ n, jx_W jx_ShC d (some .int) jc_28 Q n 7 [some (.ref 33), some (.int x1), some (.int x2)] [] σ by
      obtain ⟨n, hn⟩ := hh
      exact ⟨n + 5, And.intro (by decide) (And.intro (fun zz => absurd c1 zz) (fun _ => hn))⟩
    cases h
    exact ⟨3, And.intro hQ (And.intro rfl rfl)⟩
  · rw [if_neg c1] at h
    suffices hh : ∃ n, jx_W jx_ShC d (some .int) jc_28 Q n 11 [some (.ref 33), some (.int x1), some (.int x2)] [] σ by
      obtain ⟨n, hn⟩ := hh
      exact ⟨n + 5, And.intro (by decide) (And.intro (fun _ => hn) (fun zz => absurd zz c1))⟩
    obtain ⟨z2, h3, h⟩ := Option.bind_eq_some_iff.mp h
    cases h
    exact ⟨5, s_Z_Shade_paceIn (by omega) (by decide) h3 (And.intro hQ (And.intro rfl rfl))⟩
set_option maxRecDepth 20000 in
theorem s_L_weigh_70 {N d : Nat} {Q : jw_Q} (hd : 2 ≤ d) {x3 : Int32} {u1 : Option Value} {u2 : Option Value} {σ : jw_M} {z : jw_M} (h : f_L_weigh_70 N x3 σ = some z) (hQ : Q none (jx_ShC, z)) : ∃ n, jx_W jx_ShC d none jc_33 Q n 70 [some (.ref 92), u1, u2, some (.int x3)] [] σ := by
  unfold f_L_weigh_70 at h
  cases h
  exact ⟨7, And.intro hQ (And.intro rfl rfl)⟩
set_option maxRecDepth 20000 in
theorem s_L_weigh_47 {N d : Nat} {Q : jw_Q} (hd : 2 ≤ d) {x2 : Int32} {x3 : Int32} {u1 : Option Value} {σ : jw_M} {z : jw_M} (h : f_L_weigh_47 N x2 x3 σ = some z) (hQ : Q none (jx_ShC, z)) : ∃ n, jx_W jx_ShC d none jc_33 Q n 47 [some (.ref 92), u1, some (.int x2), some (.int x3)] [] σ := by
  unfold f_L_weigh_47 at h
  by_cases c3 : ((σ.1 92 6) &&& (x3 ^^^ (-1))) = 0
  · rw [if_pos c3] at h
    suffices hh : ∃ n, jx_W jx_ShC d none jc_33 Q n 58 [some (.ref 92), u1, some (.int x2), some (.int x3)] [] σ by
      obtain ⟨n, hn⟩ := hh
      exact ⟨n + 7, And.intro (fun zz => absurd c3 zz) (fun _ => hn)⟩
    obtain ⟨z4, h5, h⟩ := Option.bind_eq_some_iff.mp h
    obtain ⟨n, hn⟩ := s_L_weigh_70 hd (u1 := u1) (u2 := some (.int x2)) h hQ
    exact ⟨n + 6, s_J_min (by omega) h5 (hn)⟩
  · rw [if_neg c3] at h
    suffices hh : ∃ n, jx_W jx_ShC d none jc_33 Q n 70 [some (.ref 92), u1, some (.int x2), some (.int x3)] [] σ by
      obtain ⟨n, hn⟩ := hh
      exact ⟨n + 7, And.intro (fun _ => hn) (fun zz => absurd zz c3)⟩
    obtain ⟨n, hn⟩ := s_L_weigh_70 hd (u1 := u1) (u2 := some (.int x2)) h hQ
    exact ⟨n + 0, hn⟩
set_option maxRecDepth 20000 in
theorem s_L_weigh_29 {N d : Nat} {Q : jw_Q} (hd : 2 ≤ d) {x1 : Int32} {x2 : Int32} {x3 : Int32} {σ : jw_M} {z : jw_M} (h : f_L_weigh_29 N x1 x2 x3 σ = some z) (hQ : Q none (jx_ShC, z)) : ∃ n, jx_W jx_ShC d none jc_33 Q n 29 [some (.ref 92), some (.int x1), some (.int x2), some (.int x3)] [] σ := by
  unfold f_L_weigh_29 at h
  by_cases c2 : x1 = (σ.1 92 3)
  · rw [if_pos c2] at h
    suffices hh : ∃ n, jx_W jx_ShC d none jc_33 Q n 37 [some (.ref 92), some (.int x1), some (.int x2), some (.int x3)] [] σ by
      obtain ⟨n, hn⟩ := hh
      exact ⟨n + 4, And.intro (fun zz => absurd c2 zz) (fun _ => hn)⟩
    obtain ⟨n, hn⟩ := s_L_weigh_47 hd (u1 := some (.int x1)) h hQ
    exact ⟨n + 6, hn⟩
  · rw [if_neg c2] at h
    suffices hh : ∃ n, jx_W jx_ShC d none jc_33 Q n 47 [some (.ref 92), some (.int x1), some (.int x2), some (.int x3)] [] σ by
      obtain ⟨n, hn⟩ := hh
      exact ⟨n + 4, And.intro (fun _ => hn) (fun zz => absurd zz c2)⟩
    obtain ⟨n, hn⟩ := s_L_weigh_47 hd (u1 := some (.int x1)) h hQ
    exact ⟨n + 0, hn⟩
set_option maxRecDepth 20000 in
theorem s_L_weigh {N d : Nat} {x1 : Int32} {x2 : Int32} {x3 : Int32} (hd : 3 ≤ d) {σ : jw_M} {z : jw_M} {Q : jw_Q} (h : f_L_weigh N x1 x2 x3 σ = some z) (hQ : Q none (jx_ShC, z)) : jw_C jp_kd jp_ys d 33 [.ref 92, .int x1, .int x2, .int x3] (jx_ShC, σ) Q := by
  obtain ⟨d, rfl⟩ : ∃ e, d = e + 1 := ⟨d - 1, by omega⟩
  replace hd : 2 ≤ d := by omega
  refine jx_C rfl rfl ?_
  unfold f_L_weigh at h
  by_cases c1 : x1 ≤ (σ.1 92 3)
  · rw [if_pos c1] at h
    suffices hh : ∃ n, jx_W jx_ShC d none jc_33 Q n 29 [some (.ref 92), some (.int x1), some (.int x2), some (.int x3)] [] σ by
      obtain ⟨n, hn⟩ := hh
      exact ⟨n + 4, And.intro (fun _ => hn) (fun zz => absurd c1 zz)⟩
    obtain ⟨n, hn⟩ := s_L_weigh_29 hd h hQ
    exact ⟨n + 0, hn⟩
  · rw [if_neg c1] at h
    suffices hh : ∃ n, jx_W jx_ShC d none jc_33 Q n 8 [some (.ref 92), some (.int x1), some (.int x2), some (.int x3)] [] σ by
      obtain ⟨n, hn⟩ := hh
      exact ⟨n + 4, And.intro (fun zz => absurd zz c1) (fun _ => hn)⟩
    obtain ⟨z6, h7, h⟩ := Option.bind_eq_some_iff.mp h
    obtain ⟨n, hn⟩ := s_L_weigh_29 hd h hQ
    exact ⟨n + 11, s_F_copyRow (by omega) rfl rfl h7 (hn)⟩
set_option maxRecDepth 20000 in
theorem s_P_copyFrom_27 {N d : Nat} {p0 : Nat} {p1 : Nat} {Q : jw_Q} (hd : 2 ≤ d) (hp : (p0, p1) ∈ [(102, 102), (102, 106), (102, 110), (102, 27), (102, 94), (102, 98), (106, 102), (106, 106), (106, 110), (106, 27), (106, 94), (106, 98), (110, 102), (110, 106), (110, 110), (110, 27), (110, 94), (110, 98), (27, 64), (64, 27), (75, 27), (94, 102), (94, 106), (94, 110), (94, 27), (94, 94), (94, 98), (98, 102), (98, 106), (98, 110), (98, 27), (98, 94), (98, 98)]) {σ : jw_M} {z : jw_M} (h : f_P_copyFrom_27 N p0 p1  σ = some z) (hQ : Q none (jx_ShC, z)) : ∃ n, jx_W jx_ShC d none jc_40 Q n 27 [some (.ref p0), some (.ref p1)] [] σ := by
  simp only [List.mem_cons, List.not_mem_nil, or_false, Prod.mk.injEq] at hp
  rcases hp with ⟨rfl, rfl⟩ | ⟨rfl, rfl⟩ | ⟨rfl, rfl⟩ | ⟨rfl, rfl⟩ | ⟨rfl, rfl⟩ | ⟨rfl, rfl⟩ | ⟨rfl, rfl⟩ | ⟨rfl, rfl⟩ | ⟨rfl, rfl⟩ | ⟨rfl, rfl⟩ | ⟨rfl, rfl⟩ | ⟨rfl, rfl⟩ | ⟨rfl, rfl⟩ | ⟨rfl, rfl⟩ | ⟨rfl, rfl⟩ | ⟨rfl, rfl⟩ | ⟨rfl, rfl⟩ | ⟨rfl, rfl⟩ | ⟨rfl, rfl⟩ | ⟨rfl, rfl⟩ | ⟨rfl, rfl⟩ | ⟨rfl, rfl⟩ | ⟨rfl, rfl⟩ | ⟨rfl, rfl⟩ | ⟨rfl, rfl⟩ | ⟨rfl, rfl⟩ | ⟨rfl, rfl⟩ | ⟨rfl, rfl⟩ | ⟨rfl, rfl⟩ | ⟨rfl, rfl⟩ | ⟨rfl, rfl⟩ | ⟨rfl, rfl⟩ | ⟨rfl, rfl⟩
  · unfold f_P_copyFrom_27 at h
    obtain ⟨z3, h4, h⟩ := Option.bind_eq_some_iff.mp h
    cases h
    exact ⟨6, s_F_copyRow (by omega) rfl rfl h4 (And.intro hQ (And.intro rfl rfl))⟩
  · unfold f_P_copyFrom_27 at h
    obtain ⟨z3, h4, h⟩ := Option.bind_eq_some_iff.mp h
    cases h
    exact ⟨6, s_F_copyRow (by omega) rfl rfl h4 (And.intro hQ (And.intro rfl rfl))⟩
  · unfold f_P_copyFrom_27 at h
    obtain ⟨z3, h4, h⟩ := Option.bind_eq_some_iff.mp h
    cases h
    exact ⟨6, s_F_copyRow (by omega) rfl rfl h4 (And.intro hQ (And.intro rfl rfl))⟩
  · unfold f_P_copyFrom_27 at h
    obtain ⟨z3, h4, h⟩ := Option.bind_eq_some_iff.mp h
    cases h
    exact ⟨6, s_F_copyRow (by omega) rfl rfl h4 (And.intro hQ (And.intro rfl rfl))⟩
  · unfold f_P_copyFrom_27 at h
    obtain ⟨z3, h4, h⟩ := Option.bind_eq_some_iff.mp h
    cases h
    exact ⟨6, s_F_copyRow (by omega) rfl rfl h4 (And.intro hQ (And.intro rfl rfl))⟩
  · unfold f_P_copyFrom_27 at h
    obtain ⟨z3, h4, h⟩ := Option.bind_eq_some_iff.mp h
    cases h
    exact ⟨6, s_F_copyRow (by omega) rfl rfl h4 (And.intro hQ (And.intro rfl rfl))⟩
  · unfold f_P_copyFrom_27 at h
    obtain ⟨z3, h4, h⟩ := Option.bind_eq_some_iff.mp h
    cases h
    exact ⟨6, s_F_copyRow (by omega) rfl rfl h4 (And.intro hQ (And.intro rfl rfl))⟩
  · unfold f_P_copyFrom_27 at h
    obtain ⟨z3, h4, h⟩ := Option.bind_eq_some_iff.mp h
    cases h
    exact ⟨6, s_F_copyRow (by omega) rfl rfl h4 (And.intro hQ (And.intro rfl rfl))⟩
  · unfold f_P_copyFrom_27 at h
    obtain ⟨z3, h4, h⟩ := Option.bind_eq_some_iff.mp h
    cases h
    exact ⟨6, s_F_copyRow (by omega) rfl rfl h4 (And.intro hQ (And.intro rfl rfl))⟩
  · unfold f_P_copyFrom_27 at h
    obtain ⟨z3, h4, h⟩ := Option.bind_eq_some_iff.mp h
    cases h
    exact ⟨6, s_F_copyRow (by omega) rfl rfl h4 (And.intro hQ (And.intro rfl rfl))⟩
  · unfold f_P_copyFrom_27 at h
    obtain ⟨z3, h4, h⟩ := Option.bind_eq_some_iff.mp h
    cases h
    exact ⟨6, s_F_copyRow (by omega) rfl rfl h4 (And.intro hQ (And.intro rfl rfl))⟩
  · unfold f_P_copyFrom_27 at h
    obtain ⟨z3, h4, h⟩ := Option.bind_eq_some_iff.mp h
    cases h
    exact ⟨6, s_F_copyRow (by omega) rfl rfl h4 (And.intro hQ (And.intro rfl rfl))⟩
  · unfold f_P_copyFrom_27 at h
    obtain ⟨z3, h4, h⟩ := Option.bind_eq_some_iff.mp h
    cases h
    exact ⟨6, s_F_copyRow (by omega) rfl rfl h4 (And.intro hQ (And.intro rfl rfl))⟩
  · unfold f_P_copyFrom_27 at h
    obtain ⟨z3, h4, h⟩ := Option.bind_eq_some_iff.mp h
    cases h
    exact ⟨6, s_F_copyRow (by omega) rfl rfl h4 (And.intro hQ (And.intro rfl rfl))⟩
  · unfold f_P_copyFrom_27 at h
    obtain ⟨z3, h4, h⟩ := Option.bind_eq_some_iff.mp h
    cases h
    exact ⟨6, s_F_copyRow (by omega) rfl rfl h4 (And.intro hQ (And.intro rfl rfl))⟩
  · unfold f_P_copyFrom_27 at h
    obtain ⟨z3, h4, h⟩ := Option.bind_eq_some_iff.mp h
    cases h
    exact ⟨6, s_F_copyRow (by omega) rfl rfl h4 (And.intro hQ (And.intro rfl rfl))⟩
  · unfold f_P_copyFrom_27 at h
    obtain ⟨z3, h4, h⟩ := Option.bind_eq_some_iff.mp h
    cases h
    exact ⟨6, s_F_copyRow (by omega) rfl rfl h4 (And.intro hQ (And.intro rfl rfl))⟩
  · unfold f_P_copyFrom_27 at h
    obtain ⟨z3, h4, h⟩ := Option.bind_eq_some_iff.mp h
    cases h
    exact ⟨6, s_F_copyRow (by omega) rfl rfl h4 (And.intro hQ (And.intro rfl rfl))⟩
  · unfold f_P_copyFrom_27 at h
    obtain ⟨z3, h4, h⟩ := Option.bind_eq_some_iff.mp h
    cases h
    exact ⟨6, s_F_copyRow (by omega) rfl rfl h4 (And.intro hQ (And.intro rfl rfl))⟩
  · unfold f_P_copyFrom_27 at h
    obtain ⟨z3, h4, h⟩ := Option.bind_eq_some_iff.mp h
    cases h
    exact ⟨6, s_F_copyRow (by omega) rfl rfl h4 (And.intro hQ (And.intro rfl rfl))⟩
  · unfold f_P_copyFrom_27 at h
    obtain ⟨z3, h4, h⟩ := Option.bind_eq_some_iff.mp h
    cases h
    exact ⟨6, s_F_copyRow (by omega) rfl rfl h4 (And.intro hQ (And.intro rfl rfl))⟩
  · unfold f_P_copyFrom_27 at h
    obtain ⟨z3, h4, h⟩ := Option.bind_eq_some_iff.mp h
    cases h
    exact ⟨6, s_F_copyRow (by omega) rfl rfl h4 (And.intro hQ (And.intro rfl rfl))⟩
  · unfold f_P_copyFrom_27 at h
    obtain ⟨z3, h4, h⟩ := Option.bind_eq_some_iff.mp h
    cases h
    exact ⟨6, s_F_copyRow (by omega) rfl rfl h4 (And.intro hQ (And.intro rfl rfl))⟩
  · unfold f_P_copyFrom_27 at h
    obtain ⟨z3, h4, h⟩ := Option.bind_eq_some_iff.mp h
    cases h
    exact ⟨6, s_F_copyRow (by omega) rfl rfl h4 (And.intro hQ (And.intro rfl rfl))⟩
  · unfold f_P_copyFrom_27 at h
    obtain ⟨z3, h4, h⟩ := Option.bind_eq_some_iff.mp h
    cases h
    exact ⟨6, s_F_copyRow (by omega) rfl rfl h4 (And.intro hQ (And.intro rfl rfl))⟩
  · unfold f_P_copyFrom_27 at h
    obtain ⟨z3, h4, h⟩ := Option.bind_eq_some_iff.mp h
    cases h
    exact ⟨6, s_F_copyRow (by omega) rfl rfl h4 (And.intro hQ (And.intro rfl rfl))⟩
  · unfold f_P_copyFrom_27 at h
    obtain ⟨z3, h4, h⟩ := Option.bind_eq_some_iff.mp h
    cases h
    exact ⟨6, s_F_copyRow (by omega) rfl rfl h4 (And.intro hQ (And.intro rfl rfl))⟩
  · unfold f_P_copyFrom_27 at h
    obtain ⟨z3, h4, h⟩ := Option.bind_eq_some_iff.mp h
    cases h
    exact ⟨6, s_F_copyRow (by omega) rfl rfl h4 (And.intro hQ (And.intro rfl rfl))⟩
  · unfold f_P_copyFrom_27 at h
    obtain ⟨z3, h4, h⟩ := Option.bind_eq_some_iff.mp h
    cases h
    exact ⟨6, s_F_copyRow (by omega) rfl rfl h4 (And.intro hQ (And.intro rfl rfl))⟩
  · unfold f_P_copyFrom_27 at h
    obtain ⟨z3, h4, h⟩ := Option.bind_eq_some_iff.mp h
    cases h
    exact ⟨6, s_F_copyRow (by omega) rfl rfl h4 (And.intro hQ (And.intro rfl rfl))⟩
  · unfold f_P_copyFrom_27 at h
    obtain ⟨z3, h4, h⟩ := Option.bind_eq_some_iff.mp h
    cases h
    exact ⟨6, s_F_copyRow (by omega) rfl rfl h4 (And.intro hQ (And.intro rfl rfl))⟩
  · unfold f_P_copyFrom_27 at h
    obtain ⟨z3, h4, h⟩ := Option.bind_eq_some_iff.mp h
    cases h
    exact ⟨6, s_F_copyRow (by omega) rfl rfl h4 (And.intro hQ (And.intro rfl rfl))⟩
  · unfold f_P_copyFrom_27 at h
    obtain ⟨z3, h4, h⟩ := Option.bind_eq_some_iff.mp h
    cases h
    exact ⟨6, s_F_copyRow (by omega) rfl rfl h4 (And.intro hQ (And.intro rfl rfl))⟩
set_option maxRecDepth 20000 in
theorem s_P_copyFrom {N d : Nat} {p0 : Nat} {p1 : Nat} (hd : 3 ≤ d) (hp : (p0, p1) ∈ [(102, 102), (102, 106), (102, 110), (102, 27), (102, 94), (102, 98), (106, 102), (106, 106), (106, 110), (106, 27), (106, 94), (106, 98), (110, 102), (110, 106), (110, 110), (110, 27), (110, 94), (110, 98), (27, 64), (64, 27), (75, 27), (94, 102), (94, 106), (94, 110), (94, 27), (94, 94), (94, 98), (98, 102), (98, 106), (98, 110), (98, 27), (98, 94), (98, 98)]) {σ : jw_M} {z : jw_M} {Q : jw_Q} (h : f_P_copyFrom N p0 p1 σ = some z) (hQ : Q none (jx_ShC, z)) : jw_C jp_kd jp_ys d 40 [.ref p0, .ref p1] (jx_ShC, σ) Q := by
  obtain ⟨d, rfl⟩ : ∃ e, d = e + 1 := ⟨d - 1, by omega⟩
  replace hd : 2 ≤ d := by omega
  refine jx_C rfl rfl ?_
  simp only [List.mem_cons, List.not_mem_nil, or_false, Prod.mk.injEq] at hp
  rcases hp with ⟨rfl, rfl⟩ | ⟨rfl, rfl⟩ | ⟨rfl, rfl⟩ | ⟨rfl, rfl⟩ | ⟨rfl, rfl⟩ | ⟨rfl, rfl⟩ | ⟨rfl, rfl⟩ | ⟨rfl, rfl⟩ | ⟨rfl, rfl⟩ | ⟨rfl, rfl⟩ | ⟨rfl, rfl⟩ | ⟨rfl, rfl⟩ | ⟨rfl, rfl⟩ | ⟨rfl, rfl⟩ | ⟨rfl, rfl⟩ | ⟨rfl, rfl⟩ | ⟨rfl, rfl⟩ | ⟨rfl, rfl⟩ | ⟨rfl, rfl⟩ | ⟨rfl, rfl⟩ | ⟨rfl, rfl⟩ | ⟨rfl, rfl⟩ | ⟨rfl, rfl⟩ | ⟨rfl, rfl⟩ | ⟨rfl, rfl⟩ | ⟨rfl, rfl⟩ | ⟨rfl, rfl⟩ | ⟨rfl, rfl⟩ | ⟨rfl, rfl⟩ | ⟨rfl, rfl⟩ | ⟨rfl, rfl⟩ | ⟨rfl, rfl⟩ | ⟨rfl, rfl⟩
  · unfold f_P_copyFrom at h
    obtain ⟨z1, h2, h⟩ := Option.bind_eq_some_iff.mp h
    obtain ⟨n, hn⟩ := s_P_copyFrom_27 hd (by decide) h hQ
    exact ⟨n + 13, s_F_copyRow (by omega) rfl rfl h2 (hn)⟩
  · unfold f_P_copyFrom at h
    obtain ⟨z1, h2, h⟩ := Option.bind_eq_some_iff.mp h
    obtain ⟨n, hn⟩ := s_P_copyFrom_27 hd (by decide) h hQ
    exact ⟨n + 13, s_F_copyRow (by omega) rfl rfl h2 (hn)⟩
  · unfold f_P_copyFrom at h
    obtain ⟨z1, h2, h⟩ := Option.bind_eq_some_iff.mp h
    obtain ⟨n, hn⟩ := s_P_copyFrom_27 hd (by decide) h hQ
    exact ⟨n + 13, s_F_copyRow (by omega) rfl rfl h2 (hn)⟩
  · unfold f_P_copyFrom at h
    obtain ⟨z1, h2, h⟩ := Option.bind_eq_some_iff.mp h
    obtain ⟨n, hn⟩ := s_P_copyFrom_27 hd (by decide) h hQ
    exact ⟨n + 13, s_F_copyRow (by omega) rfl rfl h2 (hn)⟩
  · unfold f_P_copyFrom at h
    obtain ⟨z1, h2, h⟩ := Option.bind_eq_some_iff.mp h
    obtain ⟨n, hn⟩ := s_P_copyFrom_27 hd (by decide) h hQ
    exact ⟨n + 13, s_F_copyRow (by omega) rfl rfl h2 (hn)⟩
  · unfold f_P_copyFrom at h
    obtain ⟨z1, h2, h⟩ := Option.bind_eq_some_iff.mp h
    obtain ⟨n, hn⟩ := s_P_copyFrom_27 hd (by decide) h hQ
    exact ⟨n + 13, s_F_copyRow (by omega) rfl rfl h2 (hn)⟩
  · unfold f_P_copyFrom at h
    obtain ⟨z1, h2, h⟩ := Option.bind_eq_some_iff.mp h
    obtain ⟨n, hn⟩ := s_P_copyFrom_27 hd (by decide) h hQ
    exact ⟨n + 13, s_F_copyRow (by omega) rfl rfl h2 (hn)⟩
  · unfold f_P_copyFrom at h
    obtain ⟨z1, h2, h⟩ := Option.bind_eq_some_iff.mp h
    obtain ⟨n, hn⟩ := s_P_copyFrom_27 hd (by decide) h hQ
    exact ⟨n + 13, s_F_copyRow (by omega) rfl rfl h2 (hn)⟩
  · unfold f_P_copyFrom at h
    obtain ⟨z1, h2, h⟩ := Option.bind_eq_some_iff.mp h
    obtain ⟨n, hn⟩ := s_P_copyFrom_27 hd (by decide) h hQ
    exact ⟨n + 13, s_F_copyRow (by omega) rfl rfl h2 (hn)⟩
  · unfold f_P_copyFrom at h
    obtain ⟨z1, h2, h⟩ := Option.bind_eq_some_iff.mp h
    obtain ⟨n, hn⟩ := s_P_copyFrom_27 hd (by decide) h hQ
    exact ⟨n + 13, s_F_copyRow (by omega) rfl rfl h2 (hn)⟩
  · unfold f_P_copyFrom at h
    obtain ⟨z1, h2, h⟩ := Option.bind_eq_some_iff.mp h
    obtain ⟨n, hn⟩ := s_P_copyFrom_27 hd (by decide) h hQ
    exact ⟨n + 13, s_F_copyRow (by omega) rfl rfl h2 (hn)⟩
  · unfold f_P_copyFrom at h
    obtain ⟨z1, h2, h⟩ := Option.bind_eq_some_iff.mp h
    obtain ⟨n, hn⟩ := s_P_copyFrom_27 hd (by decide) h hQ
    exact ⟨n + 13, s_F_copyRow (by omega) rfl rfl h2 (hn)⟩
  · unfold f_P_copyFrom at h
    obtain ⟨z1, h2, h⟩ := Option.bind_eq_some_iff.mp h
    obtain ⟨n, hn⟩ := s_P_copyFrom_27 hd (by decide) h hQ
    exact ⟨n + 13, s_F_copyRow (by omega) rfl rfl h2 (hn)⟩
  · unfold f_P_copyFrom at h
    obtain ⟨z1, h2, h⟩ := Option.bind_eq_some_iff.mp h
    obtain ⟨n, hn⟩ := s_P_copyFrom_27 hd (by decide) h hQ
    exact ⟨n + 13, s_F_copyRow (by omega) rfl rfl h2 (hn)⟩
  · unfold f_P_copyFrom at h
    obtain ⟨z1, h2, h⟩ := Option.bind_eq_some_iff.mp h
    obtain ⟨n, hn⟩ := s_P_copyFrom_27 hd (by decide) h hQ
    exact ⟨n + 13, s_F_copyRow (by omega) rfl rfl h2 (hn)⟩
  · unfold f_P_copyFrom at h
    obtain ⟨z1, h2, h⟩ := Option.bind_eq_some_iff.mp h
    obtain ⟨n, hn⟩ := s_P_copyFrom_27 hd (by decide) h hQ
    exact ⟨n + 13, s_F_copyRow (by omega) rfl rfl h2 (hn)⟩
  · unfold f_P_copyFrom at h
    obtain ⟨z1, h2, h⟩ := Option.bind_eq_some_iff.mp h
    obtain ⟨n, hn⟩ := s_P_copyFrom_27 hd (by decide) h hQ
    exact ⟨n + 13, s_F_copyRow (by omega) rfl rfl h2 (hn)⟩
  · unfold f_P_copyFrom at h
    obtain ⟨z1, h2, h⟩ := Option.bind_eq_some_iff.mp h
    obtain ⟨n, hn⟩ := s_P_copyFrom_27 hd (by decide) h hQ
    exact ⟨n + 13, s_F_copyRow (by omega) rfl rfl h2 (hn)⟩
  · unfold f_P_copyFrom at h
    obtain ⟨z1, h2, h⟩ := Option.bind_eq_some_iff.mp h
    obtain ⟨n, hn⟩ := s_P_copyFrom_27 hd (by decide) h hQ
    exact ⟨n + 13, s_F_copyRow (by omega) rfl rfl h2 (hn)⟩
  · unfold f_P_copyFrom at h
    obtain ⟨z1, h2, h⟩ := Option.bind_eq_some_iff.mp h
    obtain ⟨n, hn⟩ := s_P_copyFrom_27 hd (by decide) h hQ
    exact ⟨n + 13, s_F_copyRow (by omega) rfl rfl h2 (hn)⟩
  · unfold f_P_copyFrom at h
    obtain ⟨z1, h2, h⟩ := Option.bind_eq_some_iff.mp h
    obtain ⟨n, hn⟩ := s_P_copyFrom_27 hd (by decide) h hQ
    exact ⟨n + 13, s_F_copyRow (by omega) rfl rfl h2 (hn)⟩
  · unfold f_P_copyFrom at h
    obtain ⟨z1, h2, h⟩ := Option.bind_eq_some_iff.mp h
    obtain ⟨n, hn⟩ := s_P_copyFrom_27 hd (by decide) h hQ
    exact ⟨n + 13, s_F_copyRow (by omega) rfl rfl h2 (hn)⟩
  · unfold f_P_copyFrom at h
    obtain ⟨z1, h2, h⟩ := Option.bind_eq_some_iff.mp h
    obtain ⟨n, hn⟩ := s_P_copyFrom_27 hd (by decide) h hQ
    exact ⟨n + 13, s_F_copyRow (by omega) rfl rfl h2 (hn)⟩
  · unfold f_P_copyFrom at h
    obtain ⟨z1, h2, h⟩ := Option.bind_eq_some_iff.mp h
    obtain ⟨n, hn⟩ := s_P_copyFrom_27 hd (by decide) h hQ
    exact ⟨n + 13, s_F_copyRow (by omega) rfl rfl h2 (hn)⟩
  · unfold f_P_copyFrom at h
    obtain ⟨z1, h2, h⟩ := Option.bind_eq_some_iff.mp h
    obtain ⟨n, hn⟩ := s_P_copyFrom_27 hd (by decide) h hQ
    exact ⟨n + 13, s_F_copyRow (by omega) rfl rfl h2 (hn)⟩
  · unfold f_P_copyFrom at h
    obtain ⟨z1, h2, h⟩ := Option.bind_eq_some_iff.mp h
    obtain ⟨n, hn⟩ := s_P_copyFrom_27 hd (by decide) h hQ
    exact ⟨n + 13, s_F_copyRow (by omega) rfl rfl h2 (hn)⟩
  · unfold f_P_copyFrom at h
    obtain ⟨z1, h2, h⟩ := Option.bind_eq_some_iff.mp h
    obtain ⟨n, hn⟩ := s_P_copyFrom_27 hd (by decide) h hQ
    exact ⟨n + 13, s_F_copyRow (by omega) rfl rfl h2 (hn)⟩
  · unfold f_P_copyFrom at h
    obtain ⟨z1, h2, h⟩ := Option.bind_eq_some_iff.mp h
    obtain ⟨n, hn⟩ := s_P_copyFrom_27 hd (by decide) h hQ
    exact ⟨n + 13, s_F_copyRow (by omega) rfl rfl h2 (hn)⟩
  · unfold f_P_copyFrom at h
    obtain ⟨z1, h2, h⟩ := Option.bind_eq_some_iff.mp h
    obtain ⟨n, hn⟩ := s_P_copyFrom_27 hd (by decide) h hQ
    exact ⟨n + 13, s_F_copyRow (by omega) rfl rfl h2 (hn)⟩
  · unfold f_P_copyFrom at h
    obtain ⟨z1, h2, h⟩ := Option.bind_eq_some_iff.mp h
    obtain ⟨n, hn⟩ := s_P_copyFrom_27 hd (by decide) h hQ
    exact ⟨n + 13, s_F_copyRow (by omega) rfl rfl h2 (hn)⟩
  · unfold f_P_copyFrom at h
    obtain ⟨z1, h2, h⟩ := Option.bind_eq_some_iff.mp h
    obtain ⟨n, hn⟩ := s_P_copyFrom_27 hd (by decide) h hQ
    exact ⟨n + 13, s_F_copyRow (by omega) rfl rfl h2 (hn)⟩
  · unfold f_P_copyFrom at h
    obtain ⟨z1, h2, h⟩ := Option.bind_eq_some_iff.mp h
    obtain ⟨n, hn⟩ := s_P_copyFrom_27 hd (by decide) h hQ
    exact ⟨n + 13, s_F_copyRow (by omega) rfl rfl h2 (hn)⟩
  · unfold f_P_copyFrom at h
    obtain ⟨z1, h2, h⟩ := Option.bind_eq_some_iff.mp h
    obtain ⟨n, hn⟩ := s_P_copyFrom_27 hd (by decide) h hQ
    exact ⟨n + 13, s_F_copyRow (by omega) rfl rfl h2 (hn)⟩
set_option maxRecDepth 20000 in
theorem s_P_learntBySome_4 {N d : Nat} {p0 : Nat} {Q : jw_Q} (hd : 0 ≤ d) (hp : p0 = 102 ∨ p0 = 106 ∨ p0 = 110 ∨ p0 = 94 ∨ p0 = 98) : ∀ (k : Nat) {x1 : Int32} {x2 : Int32} {σ : jw_M} {z : (Int32 × jw_M)}, f_P_learntBySome_4 N p0 k x1 x2 σ = some z → Q (some (.int z.1)) (jx_ShC, z.2) → ∃ n, jx_W jx_ShC d (some .int) jc_44 Q n 4 [some (.ref p0), some (.int x1), some (.int x2)] [] σ
  | 0, _, _, _, _, h, _ => by cases h
  | k + 1, x1, x2, σ, z, h, hQ => by
    rcases hp with rfl | rfl | rfl | rfl | rfl
    · rw [f_P_learntBySome_4] at h
      by_cases c1 : 6 ≤ x2
      · rw [if_pos c1] at h
        suffices hh : ∃ n, jx_W jx_ShC d (some .int) jc_44 Q n 25 [some (.ref 102), some (.int x1), some (.int x2)] [] σ by
          obtain ⟨n, hn⟩ := hh
          exact ⟨n + 3, And.intro (fun _ => hn) (fun zz => absurd c1 zz)⟩
        cases h
        exact ⟨2, And.intro hQ (And.intro rfl rfl)⟩
      · rw [if_neg c1] at h
        suffices hh : ∃ n, jx_W jx_ShC d (some .int) jc_44 Q n 10 [some (.ref 102), some (.int x1), some (.int x2)] [] σ by
          obtain ⟨n, hn⟩ := hh
          exact ⟨n + 3, And.intro (fun zz => absurd zz c1) (fun _ => hn)⟩
        cases c2 : jx_in x2 6 with
        | false => rw [c2, cond_false] at h; cases h
        | true =>
          rw [c2, cond_true] at h
          obtain ⟨n, hn⟩ := s_P_learntBySome_4 hd (by decide) k h hQ
          exact ⟨n + 9, And.intro (jx_in_ok c2) (hn)⟩
    · rw [f_P_learntBySome_4] at h
      by_cases c1 : 6 ≤ x2
      · rw [if_pos c1] at h
        suffices hh : ∃ n, jx_W jx_ShC d (some .int) jc_44 Q n 25 [some (.ref 106), some (.int x1), some (.int x2)] [] σ by
          obtain ⟨n, hn⟩ := hh
          exact ⟨n + 3, And.intro (fun _ => hn) (fun zz => absurd c1 zz)⟩
        cases h
        exact ⟨2, And.intro hQ (And.intro rfl rfl)⟩
      · rw [if_neg c1] at h
        suffices hh : ∃ n, jx_W jx_ShC d (some .int) jc_44 Q n 10 [some (.ref 106), some (.int x1), some (.int x2)] [] σ by
          obtain ⟨n, hn⟩ := hh
          exact ⟨n + 3, And.intro (fun zz => absurd zz c1) (fun _ => hn)⟩
        cases c2 : jx_in x2 6 with
        | false => rw [c2, cond_false] at h; cases h
        | true =>
          rw [c2, cond_true] at h
          obtain ⟨n, hn⟩ := s_P_learntBySome_4 hd (by decide) k h hQ
          exact ⟨n + 9, And.intro (jx_in_ok c2) (hn)⟩
    · rw [f_P_learntBySome_4] at h
      by_cases c1 : 6 ≤ x2
      · rw [if_pos c1] at h
        suffices hh : ∃ n, jx_W jx_ShC d (some .int) jc_44 Q n 25 [some (.ref 110), some (.int x1), some (.int x2)] [] σ by
          obtain ⟨n, hn⟩ := hh
          exact ⟨n + 3, And.intro (fun _ => hn) (fun zz => absurd c1 zz)⟩
        cases h
        exact ⟨2, And.intro hQ (And.intro rfl rfl)⟩
      · rw [if_neg c1] at h
        suffices hh : ∃ n, jx_W jx_ShC d (some .int) jc_44 Q n 10 [some (.ref 110), some (.int x1), some (.int x2)] [] σ by
          obtain ⟨n, hn⟩ := hh
          exact ⟨n + 3, And.intro (fun zz => absurd zz c1) (fun _ => hn)⟩
        cases c2 : jx_in x2 6 with
        | false => rw [c2, cond_false] at h; cases h
        | true =>
          rw [c2, cond_true] at h
          obtain ⟨n, hn⟩ := s_P_learntBySome_4 hd (by decide) k h hQ
          exact ⟨n + 9, And.intro (jx_in_ok c2) (hn)⟩
    · rw [f_P_learntBySome_4] at h
      by_cases c1 : 6 ≤ x2
      · rw [if_pos c1] at h
        suffices hh : ∃ n, jx_W jx_ShC d (some .int) jc_44 Q n 25 [some (.ref 94), some (.int x1), some (.int x2)] [] σ by
          obtain ⟨n, hn⟩ := hh
          exact ⟨n + 3, And.intro (fun _ => hn) (fun zz => absurd c1 zz)⟩
        cases h
        exact ⟨2, And.intro hQ (And.intro rfl rfl)⟩
      · rw [if_neg c1] at h
        suffices hh : ∃ n, jx_W jx_ShC d (some .int) jc_44 Q n 10 [some (.ref 94), some (.int x1), some (.int x2)] [] σ by
          obtain ⟨n, hn⟩ := hh
          exact ⟨n + 3, And.intro (fun zz => absurd zz c1) (fun _ => hn)⟩
        cases c2 : jx_in x2 6 with
        | false => rw [c2, cond_false] at h; cases h
        | true =>
          rw [c2, cond_true] at h
          obtain ⟨n, hn⟩ := s_P_learntBySome_4 hd (by decide) k h hQ
          exact ⟨n + 9, And.intro (jx_in_ok c2) (hn)⟩
    · rw [f_P_learntBySome_4] at h
      by_cases c1 : 6 ≤ x2
      · rw [if_pos c1] at h
        suffices hh : ∃ n, jx_W jx_ShC d (some .int) jc_44 Q n 25 [some (.ref 98), some (.int x1), some (.int x2)] [] σ by
          obtain ⟨n, hn⟩ := hh
          exact ⟨n + 3, And.intro (fun _ => hn) (fun zz => absurd c1 zz)⟩
        cases h
        exact ⟨2, And.intro hQ (And.intro rfl rfl)⟩
      · rw [if_neg c1] at h
        suffices hh : ∃ n, jx_W jx_ShC d (some .int) jc_44 Q n 10 [some (.ref 98), some (.int x1), some (.int x2)] [] σ by
          obtain ⟨n, hn⟩ := hh
          exact ⟨n + 3, And.intro (fun zz => absurd zz c1) (fun _ => hn)⟩
        cases c2 : jx_in x2 6 with
        | false => rw [c2, cond_false] at h; cases h
        | true =>
          rw [c2, cond_true] at h
          obtain ⟨n, hn⟩ := s_P_learntBySome_4 hd (by decide) k h hQ
          exact ⟨n + 9, And.intro (jx_in_ok c2) (hn)⟩
set_option maxRecDepth 20000 in
theorem s_P_learntBySome {N d : Nat} {p0 : Nat} (hd : 1 ≤ d) (hp : p0 = 102 ∨ p0 = 106 ∨ p0 = 110 ∨ p0 = 94 ∨ p0 = 98) {σ : jw_M} {z : (Int32 × jw_M)} {Q : jw_Q} (h : f_P_learntBySome N p0 σ = some z) (hQ : Q (some (.int z.1)) (jx_ShC, z.2)) : jw_C jp_kd jp_ys d 44 [.ref p0] (jx_ShC, σ) Q := by
  obtain ⟨d, rfl⟩ : ∃ e, d = e + 1 := ⟨d - 1, by omega⟩
  replace hd : 0 ≤ d := by omega
  refine jx_C rfl rfl ?_
  unfold f_P_learntBySome at h
  obtain ⟨n, hn⟩ := s_P_learntBySome_4 hd hp N h hQ
  exact ⟨n + 4, hn⟩
set_option maxRecDepth 20000 in
theorem s_P_gain {N d : Nat} {p0 : Nat} {x1 : Int32} {x2 : Int32} {x3 : Int32} {x4 : Int32} (hd : 1 ≤ d) (hp : p0 = 102 ∨ p0 = 106 ∨ p0 = 110 ∨ p0 = 27 ∨ p0 = 75 ∨ p0 = 94 ∨ p0 = 98) {σ : jw_M} {z : (Int32 × jw_M)} {Q : jw_Q} (h : f_P_gain N p0 x1 x2 x3 x4 σ = some z) (hQ : Q (some (.int z.1)) (jx_ShC, z.2)) : jw_C jp_kd jp_ys d 45 [.ref p0, .int x1, .int x2, .int x3, .int x4] (jx_ShC, σ) Q := by
  obtain ⟨d, rfl⟩ : ∃ e, d = e + 1 := ⟨d - 1, by omega⟩
  replace hd : 0 ≤ d := by omega
  refine jx_C rfl rfl ?_
  rcases hp with rfl | rfl | rfl | rfl | rfl | rfl | rfl
  · unfold f_P_gain at h
    cases c1 : jx_in ((x1 * 8) + x2) 48 with
    | false => rw [c1, cond_false] at h; cases h
    | true =>
      rw [c1, cond_true] at h
      by_cases c2 : x4 ≤ ((jx_w σ (102 + 1) (((x1 * 8) + x2)).toNatClampNeg ((σ.1 (102 + 1) (((x1 * 8) + x2)).toNatClampNeg) + x3)).1 (102 + 1) (((x1 * 8) + x2)).toNatClampNeg)
      · rw [if_pos c2] at h
        suffices hh : ∃ n, jx_W jx_ShC d (some .boolean) jc_45 Q n 33 [some (.ref 102), some (.int x1), some (.int x2), some (.int x3), some (.int x4), some (.int ((x1 * 8) + x2))] [] (jx_w σ (102 + 1) (((x1 * 8) + x2)).toNatClampNeg ((σ.1 (102 + 1) (((x1 * 8) + x2)).toNatClampNeg) + x3)) by
          obtain ⟨n, hn⟩ := hh
          exact ⟨n + 20, And.intro (jx_in_ok c1) (And.intro (jx_in_ok c1) (And.intro (jx_in_ok c1) (And.intro (fun _ => hn) (fun zz => absurd c2 zz))))⟩
        cases c3 : jx_in x1 6 with
        | false => rw [c3, cond_false] at h; cases h
        | true =>
          rw [c3, cond_true] at h
          cases h
          exact ⟨12, And.intro (jx_in_ok c3) (And.intro (jx_in_ok c3) (And.intro (Or.inr rfl) (And.intro hQ (And.intro rfl rfl))))⟩
      · rw [if_neg c2] at h
        suffices hh : ∃ n, jx_W jx_ShC d (some .boolean) jc_45 Q n 31 [some (.ref 102), some (.int x1), some (.int x2), some (.int x3), some (.int x4), some (.int ((x1 * 8) + x2))] [] (jx_w σ (102 + 1) (((x1 * 8) + x2)).toNatClampNeg ((σ.1 (102 + 1) (((x1 * 8) + x2)).toNatClampNeg) + x3)) by
          obtain ⟨n, hn⟩ := hh
          exact ⟨n + 20, And.intro (jx_in_ok c1) (And.intro (jx_in_ok c1) (And.intro (jx_in_ok c1) (And.intro (fun zz => absurd zz c2) (fun _ => hn))))⟩
        cases h
        exact ⟨2, And.intro (Or.inl rfl) (And.intro hQ (And.intro rfl rfl))⟩
  · unfold f_P_gain at h
    cases c1 : jx_in ((x1 * 8) + x2) 48 with
    | false => rw [c1, cond_false] at h; cases h
    | true =>
      rw [c1, cond_true] at h
      by_cases c2 : x4 ≤ ((jx_w σ (106 + 1) (((x1 * 8) + x2)).toNatClampNeg ((σ.1 (106 + 1) (((x1 * 8) + x2)).toNatClampNeg) + x3)).1 (106 + 1) (((x1 * 8) + x2)).toNatClampNeg)
      · rw [if_pos c2] at h
        suffices hh : ∃ n, jx_W jx_ShC d (some .boolean) jc_45 Q n 33 [some (.ref 106), some (.int x1), some (.int x2), some (.int x3), some (.int x4), some (.int ((x1 * 8) + x2))] [] (jx_w σ (106 + 1) (((x1 * 8) + x2)).toNatClampNeg ((σ.1 (106 + 1) (((x1 * 8) + x2)).toNatClampNeg) + x3)) by
          obtain ⟨n, hn⟩ := hh
          exact ⟨n + 20, And.intro (jx_in_ok c1) (And.intro (jx_in_ok c1) (And.intro (jx_in_ok c1) (And.intro (fun _ => hn) (fun zz => absurd c2 zz))))⟩
        cases c3 : jx_in x1 6 with
        | false => rw [c3, cond_false] at h; cases h
        | true =>
          rw [c3, cond_true] at h
          cases h
          exact ⟨12, And.intro (jx_in_ok c3) (And.intro (jx_in_ok c3) (And.intro (Or.inr rfl) (And.intro hQ (And.intro rfl rfl))))⟩
      · rw [if_neg c2] at h
        suffices hh : ∃ n, jx_W jx_ShC d (some .boolean) jc_45 Q n 31 [some (.ref 106), some (.int x1), some (.int x2), some (.int x3), some (.int x4), some (.int ((x1 * 8) + x2))] [] (jx_w σ (106 + 1) (((x1 * 8) + x2)).toNatClampNeg ((σ.1 (106 + 1) (((x1 * 8) + x2)).toNatClampNeg) + x3)) by
          obtain ⟨n, hn⟩ := hh
          exact ⟨n + 20, And.intro (jx_in_ok c1) (And.intro (jx_in_ok c1) (And.intro (jx_in_ok c1) (And.intro (fun zz => absurd zz c2) (fun _ => hn))))⟩
        cases h
        exact ⟨2, And.intro (Or.inl rfl) (And.intro hQ (And.intro rfl rfl))⟩
  · unfold f_P_gain at h
    cases c1 : jx_in ((x1 * 8) + x2) 48 with
    | false => rw [c1, cond_false] at h; cases h
    | true =>
      rw [c1, cond_true] at h
      by_cases c2 : x4 ≤ ((jx_w σ (110 + 1) (((x1 * 8) + x2)).toNatClampNeg ((σ.1 (110 + 1) (((x1 * 8) + x2)).toNatClampNeg) + x3)).1 (110 + 1) (((x1 * 8) + x2)).toNatClampNeg)
      · rw [if_pos c2] at h
        suffices hh : ∃ n, jx_W jx_ShC d (some .boolean) jc_45 Q n 33 [some (.ref 110), some (.int x1), some (.int x2), some (.int x3), some (.int x4), some (.int ((x1 * 8) + x2))] [] (jx_w σ (110 + 1) (((x1 * 8) + x2)).toNatClampNeg ((σ.1 (110 + 1) (((x1 * 8) + x2)).toNatClampNeg) + x3)) by
          obtain ⟨n, hn⟩ := hh
          exact ⟨n + 20, And.intro (jx_in_ok c1) (And.intro (jx_in_ok c1) (And.intro (jx_in_ok c1) (And.intro (fun _ => hn) (fun zz => absurd c2 zz))))⟩
        cases c3 : jx_in x1 6 with
        | false => rw [c3, cond_false] at h; cases h
        | true =>
          rw [c3, cond_true] at h
          cases h
          exact ⟨12, And.intro (jx_in_ok c3) (And.intro (jx_in_ok c3) (And.intro (Or.inr rfl) (And.intro hQ (And.intro rfl rfl))))⟩
      · rw [if_neg c2] at h
        suffices hh : ∃ n, jx_W jx_ShC d (some .boolean) jc_45 Q n 31 [some (.ref 110), some (.int x1), some (.int x2), some (.int x3), some (.int x4), some (.int ((x1 * 8) + x2))] [] (jx_w σ (110 + 1) (((x1 * 8) + x2)).toNatClampNeg ((σ.1 (110 + 1) (((x1 * 8) + x2)).toNatClampNeg) + x3)) by
          obtain ⟨n, hn⟩ := hh
          exact ⟨n + 20, And.intro (jx_in_ok c1) (And.intro (jx_in_ok c1) (And.intro (jx_in_ok c1) (And.intro (fun zz => absurd zz c2) (fun _ => hn))))⟩
        cases h
        exact ⟨2, And.intro (Or.inl rfl) (And.intro hQ (And.intro rfl rfl))⟩
  · unfold f_P_gain at h
    cases c1 : jx_in ((x1 * 8) + x2) 48 with
    | false => rw [c1, cond_false] at h; cases h
    | true =>
      rw [c1, cond_true] at h
      by_cases c2 : x4 ≤ ((jx_w σ (27 + 1) (((x1 * 8) + x2)).toNatClampNeg ((σ.1 (27 + 1) (((x1 * 8) + x2)).toNatClampNeg) + x3)).1 (27 + 1) (((x1 * 8) + x2)).toNatClampNeg)
      · rw [if_pos c2] at h
        suffices hh : ∃ n, jx_W jx_ShC d (some .boolean) jc_45 Q n 33 [some (.ref 27), some (.int x1), some (.int x2), some (.int x3), some (.int x4), some (.int ((x1 * 8) + x2))] [] (jx_w σ (27 + 1) (((x1 * 8) + x2)).toNatClampNeg ((σ.1 (27 + 1) (((x1 * 8) + x2)).toNatClampNeg) + x3)) by
          obtain ⟨n, hn⟩ := hh
          exact ⟨n + 20, And.intro (jx_in_ok c1) (And.intro (jx_in_ok c1) (And.intro (jx_in_ok c1) (And.intro (fun _ => hn) (fun zz => absurd c2 zz))))⟩
        cases c3 : jx_in x1 6 with
        | false => rw [c3, cond_false] at h; cases h
        | true =>
          rw [c3, cond_true] at h
          cases h
          exact ⟨12, And.intro (jx_in_ok c3) (And.intro (jx_in_ok c3) (And.intro (Or.inr rfl) (And.intro hQ (And.intro rfl rfl))))⟩
      · rw [if_neg c2] at h
        suffices hh : ∃ n, jx_W jx_ShC d (some .boolean) jc_45 Q n 31 [some (.ref 27), some (.int x1), some (.int x2), some (.int x3), some (.int x4), some (.int ((x1 * 8) + x2))] [] (jx_w σ (27 + 1) (((x1 * 8) + x2)).toNatClampNeg ((σ.1 (27 + 1) (((x1 * 8) + x2)).toNatClampNeg) + x3)) by
          obtain ⟨n, hn⟩ := hh
          exact ⟨n + 20, And.intro (jx_in_ok c1) (And.intro (jx_in_ok c1) (And.intro (jx_in_ok c1) (And.intro (fun zz => absurd zz c2) (fun _ => hn))))⟩
        cases h
        exact ⟨2, And.intro (Or.inl rfl) (And.intro hQ (And.intro rfl rfl))⟩
  · unfold f_P_gain at h
    cases c1 : jx_in ((x1 * 8) + x2) 48 with
    | false => rw [c1, cond_false] at h; cases h
    | true =>
      rw [c1, cond_true] at h
      by_cases c2 : x4 ≤ ((jx_w σ (75 + 1) (((x1 * 8) + x2)).toNatClampNeg ((σ.1 (75 + 1) (((x1 * 8) + x2)).toNatClampNeg) + x3)).1 (75 + 1) (((x1 * 8) + x2)).toNatClampNeg)
      · rw [if_pos c2] at h
        suffices hh : ∃ n, jx_W jx_ShC d (some .boolean) jc_45 Q n 33 [some (.ref 75), some (.int x1), some (.int x2), some (.int x3), some (.int x4), some (.int ((x1 * 8) + x2))] [] (jx_w σ (75 + 1) (((x1 * 8) + x2)).toNatClampNeg ((σ.1 (75 + 1) (((x1 * 8) + x2)).toNatClampNeg) + x3)) by
          obtain ⟨n, hn⟩ := hh
          exact ⟨n + 20, And.intro (jx_in_ok c1) (And.intro (jx_in_ok c1) (And.intro (jx_in_ok c1) (And.intro (fun _ => hn) (fun zz => absurd c2 zz))))⟩
        cases c3 : jx_in x1 6 with
        | false => rw [c3, cond_false] at h; cases h
        | true =>
          rw [c3, cond_true] at h
          cases h
          exact ⟨12, And.intro (jx_in_ok c3) (And.intro (jx_in_ok c3) (And.intro (Or.inr rfl) (And.intro hQ (And.intro rfl rfl))))⟩
      · rw [if_neg c2] at h
        suffices hh : ∃ n, jx_W jx_ShC d (some .boolean) jc_45 Q n 31 [some (.ref 75), some (.int x1), some (.int x2), some (.int x3), some (.int x4), some (.int ((x1 * 8) + x2))] [] (jx_w σ (75 + 1) (((x1 * 8) + x2)).toNatClampNeg ((σ.1 (75 + 1) (((x1 * 8) + x2)).toNatClampNeg) + x3)) by
          obtain ⟨n, hn⟩ := hh
          exact ⟨n + 20, And.intro (jx_in_ok c1) (And.intro (jx_in_ok c1) (And.intro (jx_in_ok c1) (And.intro (fun zz => absurd zz c2) (fun _ => hn))))⟩
        cases h
        exact ⟨2, And.intro (Or.inl rfl) (And.intro hQ (And.intro rfl rfl))⟩
  · unfold f_P_gain at h
    cases c1 : jx_in ((x1 * 8) + x2) 48 with
    | false => rw [c1, cond_false] at h; cases h
    | true =>
      rw [c1, cond_true] at h
      by_cases c2 : x4 ≤ ((jx_w σ (94 + 1) (((x1 * 8) + x2)).toNatClampNeg ((σ.1 (94 + 1) (((x1 * 8) + x2)).toNatClampNeg) + x3)).1 (94 + 1) (((x1 * 8) + x2)).toNatClampNeg)
      · rw [if_pos c2] at h
        suffices hh : ∃ n, jx_W jx_ShC d (some .boolean) jc_45 Q n 33 [some (.ref 94), some (.int x1), some (.int x2), some (.int x3), some (.int x4), some (.int ((x1 * 8) + x2))] [] (jx_w σ (94 + 1) (((x1 * 8) + x2)).toNatClampNeg ((σ.1 (94 + 1) (((x1 * 8) + x2)).toNatClampNeg) + x3)) by
          obtain ⟨n, hn⟩ := hh
          exact ⟨n + 20, And.intro (jx_in_ok c1) (And.intro (jx_in_ok c1) (And.intro (jx_in_ok c1) (And.intro (fun _ => hn) (fun zz => absurd c2 zz))))⟩
        cases c3 : jx_in x1 6 with
        | false => rw [c3, cond_false] at h; cases h
        | true =>
          rw [c3, cond_true] at h
          cases h
          exact ⟨12, And.intro (jx_in_ok c3) (And.intro (jx_in_ok c3) (And.intro (Or.inr rfl) (And.intro hQ (And.intro rfl rfl))))⟩
      · rw [if_neg c2] at h
        suffices hh : ∃ n, jx_W jx_ShC d (some .boolean) jc_45 Q n 31 [some (.ref 94), some (.int x1), some (.int x2), some (.int x3), some (.int x4), some (.int ((x1 * 8) + x2))] [] (jx_w σ (94 + 1) (((x1 * 8) + x2)).toNatClampNeg ((σ.1 (94 + 1) (((x1 * 8) + x2)).toNatClampNeg) + x3)) by
          obtain ⟨n, hn⟩ := hh
          exact ⟨n + 20, And.intro (jx_in_ok c1) (And.intro (jx_in_ok c1) (And.intro (jx_in_ok c1) (And.intro (fun zz => absurd zz c2) (fun _ => hn))))⟩
        cases h
        exact ⟨2, And.intro (Or.inl rfl) (And.intro hQ (And.intro rfl rfl))⟩
  · unfold f_P_gain at h
    cases c1 : jx_in ((x1 * 8) + x2) 48 with
    | false => rw [c1, cond_false] at h; cases h
    | true =>
      rw [c1, cond_true] at h
      by_cases c2 : x4 ≤ ((jx_w σ (98 + 1) (((x1 * 8) + x2)).toNatClampNeg ((σ.1 (98 + 1) (((x1 * 8) + x2)).toNatClampNeg) + x3)).1 (98 + 1) (((x1 * 8) + x2)).toNatClampNeg)
      · rw [if_pos c2] at h
        suffices hh : ∃ n, jx_W jx_ShC d (some .boolean) jc_45 Q n 33 [some (.ref 98), some (.int x1), some (.int x2), some (.int x3), some (.int x4), some (.int ((x1 * 8) + x2))] [] (jx_w σ (98 + 1) (((x1 * 8) + x2)).toNatClampNeg ((σ.1 (98 + 1) (((x1 * 8) + x2)).toNatClampNeg) + x3)) by
          obtain ⟨n, hn⟩ := hh
          exact ⟨n + 20, And.intro (jx_in_ok c1) (And.intro (jx_in_ok c1) (And.intro (jx_in_ok c1) (And.intro (fun _ => hn) (fun zz => absurd c2 zz))))⟩
        cases c3 : jx_in x1 6 with
        | false => rw [c3, cond_false] at h; cases h
        | true =>
          rw [c3, cond_true] at h
          cases h
          exact ⟨12, And.intro (jx_in_ok c3) (And.intro (jx_in_ok c3) (And.intro (Or.inr rfl) (And.intro hQ (And.intro rfl rfl))))⟩
      · rw [if_neg c2] at h
        suffices hh : ∃ n, jx_W jx_ShC d (some .boolean) jc_45 Q n 31 [some (.ref 98), some (.int x1), some (.int x2), some (.int x3), some (.int x4), some (.int ((x1 * 8) + x2))] [] (jx_w σ (98 + 1) (((x1 * 8) + x2)).toNatClampNeg ((σ.1 (98 + 1) (((x1 * 8) + x2)).toNatClampNeg) + x3)) by
          obtain ⟨n, hn⟩ := hh
          exact ⟨n + 20, And.intro (jx_in_ok c1) (And.intro (jx_in_ok c1) (And.intro (jx_in_ok c1) (And.intro (fun zz => absurd zz c2) (fun _ => hn))))⟩
        cases h
        exact ⟨2, And.intro (Or.inl rfl) (And.intro hQ (And.intro rfl rfl))⟩
set_option maxRecDepth 20000 in
theorem s_S_thing_10 {N d : Nat} {Q : jw_Q} (hd : 0 ≤ d) {y1 : Int32} {u0 : Option Value} {u1 : Option Value} {σ : jw_M} {z : (Nat × jw_M)} (h : f_S_thing_10 N y1 σ = some z) (hQ : Q (some (.ref z.1)) (jx_ShC, z.2)) : ∃ n, jx_W jx_ShC d (some (.object "ShadowSchool$Shade")) jc_85 Q n 10 [u0, u1] [.int y1, .ref 31] σ := by
  unfold f_S_thing_10 at h
  cases c2 : jx_in y1 6 with
  | false => rw [c2, cond_false] at h; cases h
  | true =>
    rw [c2, cond_true] at h
    rcases jx_ix6 (jx_in_ok c2) with rfl | rfl | rfl | rfl | rfl | rfl
    · try rw [show (32 + (0 : Int32).toNatClampNeg) = 32 from by decide] at h
      cases h
      exact ⟨2, And.intro (jx_in_ok c2) (And.intro hQ (And.intro rfl rfl))⟩
    · try rw [show (32 + (1 : Int32).toNatClampNeg) = 33 from by decide] at h
      cases h
      exact ⟨2, And.intro (jx_in_ok c2) (And.intro hQ (And.intro rfl rfl))⟩
    · try rw [show (32 + (2 : Int32).toNatClampNeg) = 34 from by decide] at h
      cases h
      exact ⟨2, And.intro (jx_in_ok c2) (And.intro hQ (And.intro rfl rfl))⟩
    · try rw [show (32 + (3 : Int32).toNatClampNeg) = 35 from by decide] at h
      cases h
      exact ⟨2, And.intro (jx_in_ok c2) (And.intro hQ (And.intro rfl rfl))⟩
    · try rw [show (32 + (4 : Int32).toNatClampNeg) = 36 from by decide] at h
      cases h
      exact ⟨2, And.intro (jx_in_ok c2) (And.intro hQ (And.intro rfl rfl))⟩
    · try rw [show (32 + (5 : Int32).toNatClampNeg) = 37 from by decide] at h
      cases h
      exact ⟨2, And.intro (jx_in_ok c2) (And.intro hQ (And.intro rfl rfl))⟩
set_option maxRecDepth 20000 in
theorem s_S_thing {N d : Nat} {x1 : Int32} (hd : 1 ≤ d) {σ : jw_M} {z : (Nat × jw_M)} {Q : jw_Q} (h : f_S_thing N x1 σ = some z) (hQ : Q (some (.ref z.1)) (jx_ShC, z.2)) : jw_C jp_kd jp_ys d 85 [.ref 1, .int x1] (jx_ShC, σ) Q := by
  obtain ⟨d, rfl⟩ : ∃ e, d = e + 1 := ⟨d - 1, by omega⟩
  replace hd : 0 ≤ d := by omega
  refine jx_C rfl rfl ?_
  unfold f_S_thing at h
  cases c1 : jx_in x1 6 with
  | false => rw [c1, cond_false] at h; cases h
  | true =>
    rw [c1, cond_true] at h
    obtain ⟨n, hn⟩ := s_S_thing_10 hd (u0 := some (.ref 1)) (u1 := some (.int x1)) h hQ
    exact ⟨n + 6, And.intro (jx_in_ok c1) (hn)⟩
theorem r_S_thing {N : Nat} {x1 : Int32} {σ : jw_M} {z : Nat × jw_M} (h : f_S_thing N x1 σ = some z) : z.1 = 32 ∨ z.1 = 33 ∨ z.1 = 34 ∨ z.1 = 35 ∨ z.1 = 36 ∨ z.1 = 37 := by
  unfold f_S_thing f_S_thing_10 at h
  cases c0 : jx_in x1 6 with
  | false => rw [c0, cond_false] at h; cases h
  | true =>
    rw [c0, cond_true] at h
    cases c1 : jx_in (σ.1 2 (x1).toNatClampNeg) 6 with
    | false => rw [c1, cond_false] at h; cases h
    | true =>
      rw [c1, cond_true] at h
      cases h
      have g : ∀ y : Int32, vp_in y 6 → 32 + y.toNatClampNeg = 32 ∨ 32 + y.toNatClampNeg = 33 ∨ 32 + y.toNatClampNeg = 34 ∨ 32 + y.toNatClampNeg = 35 ∨ 32 + y.toNatClampNeg = 36 ∨ 32 + y.toNatClampNeg = 37 := by
        intro y hy
        rcases jx_ix6 hy with e | e | e | e | e | e <;> subst e <;> decide
      exact g _ (jx_in_ok c1)

set_option maxRecDepth 20000 in
theorem s_S_openTo_98 {N d : Nat} {p1 : Nat} {Q : jw_Q} {K45 : Int32 → Int32 → Int32 → jw_M → Option (Int32 × jw_M)} (hd : 0 ≤ d) (hp : p1 = 102 ∨ p1 = 106 ∨ p1 = 110 ∨ p1 = 27 ∨ p1 = 75 ∨ p1 = 94 ∨ p1 = 98) (hK45 : ∀ {x4 : Int32} {x5 : Int32} {x6 : Int32} {σ : jw_M} {z : (Int32 × jw_M)} {u1 : Option Value} {u2 : Option Value} {u3 : Option Value}, K45 x4 x5 x6 σ = some z → Q (some (.int z.1)) (jx_ShC, z.2) → ∃ n, jx_W jx_ShC d (some .int) jc_92 Q n 45 [some (.ref 1), u1, u2, u3, some (.int x4), some (.int x5), some (.int x6)] [] σ) {x4 : Int32} {x5 : Int32} {x6 : Int32} {u1 : Option Value} {u2 : Option Value} {u3 : Option Value} {σ : jw_M} {z : (Int32 × jw_M)} (h : f_S_openTo_98 N p1 K45 x4 x5 x6 σ = some z) (hQ : Q (some (.int z.1)) (jx_ShC, z.2)) : ∃ n, jx_W jx_ShC d (some .int) jc_92 Q n 98 [some (.ref 1), u1, u2, u3, some (.int x4), some (.int x5), some (.int x6)] [] σ := by
  unfold f_S_openTo_98 at h
  obtain ⟨n, hn⟩ := hK45 (u1 := u1) (u2 := u2) (u3 := u3) h hQ
  exact ⟨n + 2, hn⟩
set_option maxRecDepth 20000 in
theorem s_S_openTo_45 {N d : Nat} {p1 : Nat} {Q : jw_Q} (hd : 0 ≤ d) (hp : p1 = 102 ∨ p1 = 106 ∨ p1 = 110 ∨ p1 = 27 ∨ p1 = 75 ∨ p1 = 94 ∨ p1 = 98) : ∀ (k : Nat) {x4 : Int32} {x5 : Int32} {x6 : Int32} {u1 : Option Value} {u2 : Option Value} {u3 : Option Value} {σ : jw_M} {z : (Int32 × jw_M)}, f_S_openTo_45 N p1 k x4 x5 x6 σ = some z → Q (some (.int z.1)) (jx_ShC, z.2) → ∃ n, jx_W jx_ShC d (some .int) jc_92 Q n 45 [some (.ref 1), u1, u2, u3, some (.int x4), some (.int x5), some (.int x6)] [] σ
  | 0, _, _, _, _, _, _, _, _, h, _ => by cases h
  | k + 1, x4, x5, x6, u1, u2, u3, σ, z, h, hQ => by
    rw [f_S_openTo_45] at h
    by_cases c4 : (σ.1 1 5) ≤ x6
    · rw [if_pos c4] at h
      suffices hh : ∃ n, jx_W jx_ShC d (some .int) jc_92 Q n 104 [some (.ref 1), u1, u2, u3, some (.int x4), some (.int x5), some (.int x6)] [] σ by
        obtain ⟨n, hn⟩ := hh
        exact ⟨n + 4, And.intro (fun _ => hn) (fun zz => absurd c4 zz)⟩
      cases h
      exact ⟨2, And.intro hQ (And.intro rfl rfl)⟩
    · rw [if_neg c4] at h
      suffices hh : ∃ n, jx_W jx_ShC d (some .int) jc_92 Q n 54 [some (.ref 1), u1, u2, u3, some (.int x4), some (.int x5), some (.int x6)] [] σ by
        obtain ⟨n, hn⟩ := hh
        exact ⟨n + 4, And.intro (fun zz => absurd zz c4) (fun _ => hn)⟩
      by_cases c5 : (x5 >>> (x6 &&& 31)) = 0
      · rw [if_pos c5] at h
        suffices hh : ∃ n, jx_W jx_ShC d (some .int) jc_92 Q n 104 [some (.ref 1), u1, u2, u3, some (.int x4), some (.int x5), some (.int x6)] [] σ by
          obtain ⟨n, hn⟩ := hh
          exact ⟨n + 4, And.intro (fun _ => hn) (fun zz => absurd c5 zz)⟩
        cases h
        exact ⟨2, And.intro hQ (And.intro rfl rfl)⟩
      · rw [if_neg c5] at h
        suffices hh : ∃ n, jx_W jx_ShC d (some .int) jc_92 Q n 62 [some (.ref 1), u1, u2, u3, some (.int x4), some (.int x5), some (.int x6)] [] σ by
          obtain ⟨n, hn⟩ := hh
          exact ⟨n + 4, And.intro (fun zz => absurd zz c5) (fun _ => hn)⟩
        cases c6 : jx_in x6 8 with
        | false => rw [c6, cond_false] at h; cases h
        | true =>
          rw [c6, cond_true] at h
          by_cases c7 : (σ.1 7 (x6).toNatClampNeg) < 0
          · rw [if_pos c7] at h
            suffices hh : ∃ n, jx_W jx_ShC d (some .int) jc_92 Q n 98 [some (.ref 1), u1, u2, u3, some (.int x4), some (.int x5), some (.int x6)] [] σ by
              obtain ⟨n, hn⟩ := hh
              exact ⟨n + 5, And.intro (jx_in_ok c6) (And.intro (fun _ => hn) (fun zz => absurd c7 zz))⟩
            obtain ⟨n, hn⟩ := s_S_openTo_98 hd hp (s_S_openTo_45 hd hp k) (u1 := u1) (u2 := u2) (u3 := u3) h hQ
            exact ⟨n + 0, hn⟩
          · rw [if_neg c7] at h
            suffices hh : ∃ n, jx_W jx_ShC d (some .int) jc_92 Q n 72 [some (.ref 1), u1, u2, u3, some (.int x4), some (.int x5), some (.int x6)] [] σ by
              obtain ⟨n, hn⟩ := hh
              exact ⟨n + 5, And.intro (jx_in_ok c6) (And.intro (fun zz => absurd zz c7) (fun _ => hn))⟩
            by_cases c8 : ((x4 >>> ((σ.1 7 (x6).toNatClampNeg) &&& 31)) &&& 1) = 0
            · rw [if_pos c8] at h
              suffices hh : ∃ n, jx_W jx_ShC d (some .int) jc_92 Q n 87 [some (.ref 1), u1, u2, u3, some (.int x4), some (.int x5), some (.int x6)] [] σ by
                obtain ⟨n, hn⟩ := hh
                exact ⟨n + 9, And.intro (jx_in_ok c6) (And.intro (fun zz => absurd c8 zz) (fun _ => hn))⟩
              obtain ⟨n, hn⟩ := s_S_openTo_98 hd hp (s_S_openTo_45 hd hp k) (u1 := u1) (u2 := u2) (u3 := u3) h hQ
              exact ⟨n + 8, hn⟩
            · rw [if_neg c8] at h
              suffices hh : ∃ n, jx_W jx_ShC d (some .int) jc_92 Q n 98 [some (.ref 1), u1, u2, u3, some (.int x4), some (.int x5), some (.int x6)] [] σ by
                obtain ⟨n, hn⟩ := hh
                exact ⟨n + 9, And.intro (jx_in_ok c6) (And.intro (fun _ => hn) (fun zz => absurd zz c8))⟩
              obtain ⟨n, hn⟩ := s_S_openTo_98 hd hp (s_S_openTo_45 hd hp k) (u1 := u1) (u2 := u2) (u3 := u3) h hQ
              exact ⟨n + 0, hn⟩
set_option maxRecDepth 20000 in
theorem s_S_openTo {N d : Nat} {p1 : Nat} {x2 : Int32} {x3 : Int32} (hd : 1 ≤ d) (hp : p1 = 102 ∨ p1 = 106 ∨ p1 = 110 ∨ p1 = 27 ∨ p1 = 75 ∨ p1 = 94 ∨ p1 = 98) {σ : jw_M} {z : (Int32 × jw_M)} {Q : jw_Q} (h : f_S_openTo N p1 x2 x3 σ = some z) (hQ : Q (some (.int z.1)) (jx_ShC, z.2)) : jw_C jp_kd jp_ys d 92 [.ref 1, .ref p1, .int x2, .int x3] (jx_ShC, σ) Q := by
  obtain ⟨d, rfl⟩ : ∃ e, d = e + 1 := ⟨d - 1, by omega⟩
  replace hd : 0 ≤ d := by omega
  refine jx_C rfl rfl ?_
  rcases hp with rfl | rfl | rfl | rfl | rfl | rfl | rfl
  · unfold f_S_openTo at h
    by_cases c1 : (σ.1 102 0) < 17
    · rw [if_pos c1] at h
      suffices hh : ∃ n, jx_W jx_ShC d (some .int) jc_92 Q n 14 [some (.ref 1), some (.ref 102), some (.int x2), some (.int x3), none, none, none] [] σ by
        obtain ⟨n, hn⟩ := hh
        exact ⟨n + 6, And.intro (fun _ => hn) (fun zz => absurd c1 zz)⟩
      cases c2 : jx_in x2 6 with
      | false => rw [c2, cond_false] at h; cases h
      | true =>
        rw [c2, cond_true] at h
        cases c3 : jx_in (σ.1 102 0) 17 with
        | false => rw [c3, cond_false] at h; cases h
        | true =>
          rw [c3, cond_true] at h
          obtain ⟨n, hn⟩ := s_S_openTo_45 hd (by decide) N (u1 := some (.ref 102)) (u2 := some (.int x2)) (u3 := some (.int x3)) h hQ
          exact ⟨n + 21, And.intro (jx_in_ok c2) (And.intro (jx_in_ok c3) (hn))⟩
    · rw [if_neg c1] at h
      suffices hh : ∃ n, jx_W jx_ShC d (some .int) jc_92 Q n 12 [some (.ref 1), some (.ref 102), some (.int x2), some (.int x3), none, none, none] [] σ by
        obtain ⟨n, hn⟩ := hh
        exact ⟨n + 6, And.intro (fun zz => absurd zz c1) (fun _ => hn)⟩
      cases h
      exact ⟨2, And.intro hQ (And.intro rfl rfl)⟩
  · unfold f_S_openTo at h
    by_cases c1 : (σ.1 106 0) < 17
    · rw [if_pos c1] at h
      suffices hh : ∃ n, jx_W jx_ShC d (some .int) jc_92 Q n 14 [some (.ref 1), some (.ref 106), some (.int x2), some (.int x3), none, none, none] [] σ by
        obtain ⟨n, hn⟩ := hh
        exact ⟨n + 6, And.intro (fun _ => hn) (fun zz => absurd c1 zz)⟩
      cases c2 : jx_in x2 6 with
      | false => rw [c2, cond_false] at h; cases h
      | true =>
        rw [c2, cond_true] at h
        cases c3 : jx_in (σ.1 106 0) 17 with
        | false => rw [c3, cond_false] at h; cases h
        | true =>
          rw [c3, cond_true] at h
          obtain ⟨n, hn⟩ := s_S_openTo_45 hd (by decide) N (u1 := some (.ref 106)) (u2 := some (.int x2)) (u3 := some (.int x3)) h hQ
          exact ⟨n + 21, And.intro (jx_in_ok c2) (And.intro (jx_in_ok c3) (hn))⟩
    · rw [if_neg c1] at h
      suffices hh : ∃ n, jx_W jx_ShC d (some .int) jc_92 Q n 12 [some (.ref 1), some (.ref 106), some (.int x2), some (.int x3), none, none, none] [] σ by
        obtain ⟨n, hn⟩ := hh
        exact ⟨n + 6, And.intro (fun zz => absurd zz c1) (fun _ => hn)⟩
      cases h
      exact ⟨2, And.intro hQ (And.intro rfl rfl)⟩
  · unfold f_S_openTo at h
    by_cases c1 : (σ.1 110 0) < 17
    · rw [if_pos c1] at h
      suffices hh : ∃ n, jx_W jx_ShC d (some .int) jc_92 Q n 14 [some (.ref 1), some (.ref 110), some (.int x2), some (.int x3), none, none, none] [] σ by
        obtain ⟨n, hn⟩ := hh
        exact ⟨n + 6, And.intro (fun _ => hn) (fun zz => absurd c1 zz)⟩
      cases c2 : jx_in x2 6 with
      | false => rw [c2, cond_false] at h; cases h
      | true =>
        rw [c2, cond_true] at h
        cases c3 : jx_in (σ.1 110 0) 17 with
        | false => rw [c3, cond_false] at h; cases h
        | true =>
          rw [c3, cond_true] at h
          obtain ⟨n, hn⟩ := s_S_openTo_45 hd (by decide) N (u1 := some (.ref 110)) (u2 := some (.int x2)) (u3 := some (.int x3)) h hQ
          exact ⟨n + 21, And.intro (jx_in_ok c2) (And.intro (jx_in_ok c3) (hn))⟩
    · rw [if_neg c1] at h
      suffices hh : ∃ n, jx_W jx_ShC d (some .int) jc_92 Q n 12 [some (.ref 1), some (.ref 110), some (.int x2), some (.int x3), none, none, none] [] σ by
        obtain ⟨n, hn⟩ := hh
        exact ⟨n + 6, And.intro (fun zz => absurd zz c1) (fun _ => hn)⟩
      cases h
      exact ⟨2, And.intro hQ (And.intro rfl rfl)⟩
  · unfold f_S_openTo at h
    by_cases c1 : (σ.1 27 0) < 17
    · rw [if_pos c1] at h
      suffices hh : ∃ n, jx_W jx_ShC d (some .int) jc_92 Q n 14 [some (.ref 1), some (.ref 27), some (.int x2), some (.int x3), none, none, none] [] σ by
        obtain ⟨n, hn⟩ := hh
        exact ⟨n + 6, And.intro (fun _ => hn) (fun zz => absurd c1 zz)⟩
      cases c2 : jx_in x2 6 with
      | false => rw [c2, cond_false] at h; cases h
      | true =>
        rw [c2, cond_true] at h
        cases c3 : jx_in (σ.1 27 0) 17 with
        | false => rw [c3, cond_false] at h; cases h
        | true =>
          rw [c3, cond_true] at h
          obtain ⟨n, hn⟩ := s_S_openTo_45 hd (by decide) N (u1 := some (.ref 27)) (u2 := some (.int x2)) (u3 := some (.int x3)) h hQ
          exact ⟨n + 21, And.intro (jx_in_ok c2) (And.intro (jx_in_ok c3) (hn))⟩
    · rw [if_neg c1] at h
      suffices hh : ∃ n, jx_W jx_ShC d (some .int) jc_92 Q n 12 [some (.ref 1), some (.ref 27), some (.int x2), some (.int x3), none, none, none] [] σ by
        obtain ⟨n, hn⟩ := hh
        exact ⟨n + 6, And.intro (fun zz => absurd zz c1) (fun _ => hn)⟩
      cases h
      exact ⟨2, And.intro hQ (And.intro rfl rfl)⟩
  · unfold f_S_openTo at h
    by_cases c1 : (σ.1 75 0) < 17
    · rw [if_pos c1] at h
      suffices hh : ∃ n, jx_W jx_ShC d (some .int) jc_92 Q n 14 [some (.ref 1), some (.ref 75), some (.int x2), some (.int x3), none, none, none] [] σ by
        obtain ⟨n, hn⟩ := hh
        exact ⟨n + 6, And.intro (fun _ => hn) (fun zz => absurd c1 zz)⟩
      cases c2 : jx_in x2 6 with
      | false => rw [c2, cond_false] at h; cases h
      | true =>
        rw [c2, cond_true] at h
        cases c3 : jx_in (σ.1 75 0) 17 with
        | false => rw [c3, cond_false] at h; cases h
        | true =>
          rw [c3, cond_true] at h
          obtain ⟨n, hn⟩ := s_S_openTo_45 hd (by decide) N (u1 := some (.ref 75)) (u2 := some (.int x2)) (u3 := some (.int x3)) h hQ
          exact ⟨n + 21, And.intro (jx_in_ok c2) (And.intro (jx_in_ok c3) (hn))⟩
    · rw [if_neg c1] at h
      suffices hh : ∃ n, jx_W jx_ShC d (some .int) jc_92 Q n 12 [some (.ref 1), some (.ref 75), some (.int x2), some (.int x3), none, none, none] [] σ by
        obtain ⟨n, hn⟩ := hh
        exact ⟨n + 6, And.intro (fun zz => absurd zz c1) (fun _ => hn)⟩
      cases h
      exact ⟨2, And.intro hQ (And.intro rfl rfl)⟩
  · unfold f_S_openTo at h
    by_cases c1 : (σ.1 94 0) < 17
    · rw [if_pos c1] at h
      suffices hh : ∃ n, jx_W jx_ShC d (some .int) jc_92 Q n 14 [some (.ref 1), some (.ref 94), some (.int x2), some (.int x3), none, none, none] [] σ by
        obtain ⟨n, hn⟩ := hh
        exact ⟨n + 6, And.intro (fun _ => hn) (fun zz => absurd c1 zz)⟩
      cases c2 : jx_in x2 6 with
      | false => rw [c2, cond_false] at h; cases h
      | true =>
        rw [c2, cond_true] at h
        cases c3 : jx_in (σ.1 94 0) 17 with
        | false => rw [c3, cond_false] at h; cases h
        | true =>
          rw [c3, cond_true] at h
          obtain ⟨n, hn⟩ := s_S_openTo_45 hd (by decide) N (u1 := some (.ref 94)) (u2 := some (.int x2)) (u3 := some (.int x3)) h hQ
          exact ⟨n + 21, And.intro (jx_in_ok c2) (And.intro (jx_in_ok c3) (hn))⟩
    · rw [if_neg c1] at h
      suffices hh : ∃ n, jx_W jx_ShC d (some .int) jc_92 Q n 12 [some (.ref 1), some (.ref 94), some (.int x2), some (.int x3), none, none, none] [] σ by
        obtain ⟨n, hn⟩ := hh
        exact ⟨n + 6, And.intro (fun zz => absurd zz c1) (fun _ => hn)⟩
      cases h
      exact ⟨2, And.intro hQ (And.intro rfl rfl)⟩
  · unfold f_S_openTo at h
    by_cases c1 : (σ.1 98 0) < 17
    · rw [if_pos c1] at h
      suffices hh : ∃ n, jx_W jx_ShC d (some .int) jc_92 Q n 14 [some (.ref 1), some (.ref 98), some (.int x2), some (.int x3), none, none, none] [] σ by
        obtain ⟨n, hn⟩ := hh
        exact ⟨n + 6, And.intro (fun _ => hn) (fun zz => absurd c1 zz)⟩
      cases c2 : jx_in x2 6 with
      | false => rw [c2, cond_false] at h; cases h
      | true =>
        rw [c2, cond_true] at h
        cases c3 : jx_in (σ.1 98 0) 17 with
        | false => rw [c3, cond_false] at h; cases h
        | true =>
          rw [c3, cond_true] at h
          obtain ⟨n, hn⟩ := s_S_openTo_45 hd (by decide) N (u1 := some (.ref 98)) (u2 := some (.int x2)) (u3 := some (.int x3)) h hQ
          exact ⟨n + 21, And.intro (jx_in_ok c2) (And.intro (jx_in_ok c3) (hn))⟩
    · rw [if_neg c1] at h
      suffices hh : ∃ n, jx_W jx_ShC d (some .int) jc_92 Q n 12 [some (.ref 1), some (.ref 98), some (.int x2), some (.int x3), none, none, none] [] σ by
        obtain ⟨n, hn⟩ := hh
        exact ⟨n + 6, And.intro (fun zz => absurd zz c1) (fun _ => hn)⟩
      cases h
      exact ⟨2, And.intro hQ (And.intro rfl rfl)⟩
set_option maxRecDepth 20000 in
theorem s_R_tell {N d : Nat} {x1 : Int32} {x2 : Int32} {x3 : Int32} {x4 : Int32} {x5 : Int32} (hd : 1 ≤ d) {σ : jw_M} {z : jw_M} {Q : jw_Q} (h : f_R_tell N x1 x2 x3 x4 x5 σ = some z) (hQ : Q none (jx_ShC, z)) : jw_C jp_kd jp_ys d 71 [.ref 19, .int x1, .int x2, .int x3, .int x4, .int x5] (jx_ShC, σ) Q := by
  obtain ⟨d, rfl⟩ : ∃ e, d = e + 1 := ⟨d - 1, by omega⟩
  replace hd : 0 ≤ d := by omega
  refine jx_C rfl rfl ?_
  unfold f_R_tell at h
  cases h
  exact ⟨26, And.intro (jx_in_ok rfl) (And.intro (jx_in_ok rfl) (And.intro (jx_in_ok rfl) (And.intro (jx_in_ok rfl) (And.intro (jx_in_ok rfl) (And.intro hQ (And.intro rfl rfl))))))⟩
set_option maxRecDepth 20000 in
theorem s_R_holds_168 {N d : Nat} {Q : jw_Q} {K5 : Int32 → Int32 → Int32 → jw_M → Option (Int32 × jw_M)} (hd : 0 ≤ d) (hK5 : ∀ {x2 : Int32} {x3 : Int32} {x4 : Int32} {σ : jw_M} {z : (Int32 × jw_M)} {u1 : Option Value} {u5 : Option Value} {u6 : Option Value} {u7 : Option Value} {u8 : Option Value} {u9 : Option Value}, K5 x2 x3 x4 σ = some z → Q (some (.int z.1)) (jx_ShC, z.2) → ∃ n, jx_W jx_ShC d (some .boolean) jc_73 Q n 5 [some (.ref 19), u1, some (.int x2), some (.int x3), some (.int x4), u5, u6, u7, u8, u9] [] σ) {x2 : Int32} {x3 : Int32} {x4 : Int32} {u1 : Option Value} {u5 : Option Value} {u6 : Option Value} {u7 : Option Value} {u8 : Option Value} {u9 : Option Value} {σ : jw_M} {z : (Int32 × jw_M)} (h : f_R_holds_168 N K5 x2 x3 x4 σ = some z) (hQ : Q (some (.int z.1)) (jx_ShC, z.2)) : ∃ n, jx_W jx_ShC d (some .boolean) jc_73 Q n 168 [some (.ref 19), u1, some (.int x2), some (.int x3), some (.int x4), u5, u6, u7, u8, u9] [] σ := by
  unfold f_R_holds_168 at h
  obtain ⟨n, hn⟩ := hK5 (u1 := u1) (u5 := u5) (u6 := u6) (u7 := u7) (u8 := u8) (u9 := u9) h hQ
  exact ⟨n + 2, hn⟩
set_option maxRecDepth 20000 in
theorem s_R_holds_166 {N d : Nat} {Q : jw_Q} {K5 : Int32 → Int32 → Int32 → jw_M → Option (Int32 × jw_M)} (hd : 0 ≤ d) (hK5 : ∀ {x2 : Int32} {x3 : Int32} {x4 : Int32} {σ : jw_M} {z : (Int32 × jw_M)} {u1 : Option Value} {u5 : Option Value} {u6 : Option Value} {u7 : Option Value} {u8 : Option Value} {u9 : Option Value}, K5 x2 x3 x4 σ = some z → Q (some (.int z.1)) (jx_ShC, z.2) → ∃ n, jx_W jx_ShC d (some .boolean) jc_73 Q n 5 [some (.ref 19), u1, some (.int x2), some (.int x3), some (.int x4), u5, u6, u7, u8, u9] [] σ) {x2 : Int32} {x4 : Int32} {y0 : Int32} {y1 : Int32} {u1 : Option Value} {u3 : Option Value} {u5 : Option Value} {u6 : Option Value} {u7 : Option Value} {u8 : Option Value} {u9 : Option Value} {σ : jw_M} {z : (Int32 × jw_M)} (h : f_R_holds_166 N K5 x2 x4 y0 y1 σ = some z) (hQ : Q (some (.int z.1)) (jx_ShC, z.2)) : ∃ n, jx_W jx_ShC d (some .boolean) jc_73 Q n 166 [some (.ref 19), u1, some (.int x2), u3, some (.int x4), u5, u6, u7, u8, u9] [.int y1, .int y0] σ := by
  unfold f_R_holds_166 at h
  obtain ⟨n, hn⟩ := s_R_holds_168 hd hK5 (u1 := u1) (u5 := u5) (u6 := u6) (u7 := u7) (u8 := u8) (u9 := u9) h hQ
  exact ⟨n + 2, hn⟩
set_option maxRecDepth 20000 in
theorem s_R_holds_144 {N d : Nat} {Q : jw_Q} {K5 : Int32 → Int32 → Int32 → jw_M → Option (Int32 × jw_M)} (hd : 0 ≤ d) (hK5 : ∀ {x2 : Int32} {x3 : Int32} {x4 : Int32} {σ : jw_M} {z : (Int32 × jw_M)} {u1 : Option Value} {u5 : Option Value} {u6 : Option Value} {u7 : Option Value} {u8 : Option Value} {u9 : Option Value}, K5 x2 x3 x4 σ = some z → Q (some (.int z.1)) (jx_ShC, z.2) → ∃ n, jx_W jx_ShC d (some .boolean) jc_73 Q n 5 [some (.ref 19), u1, some (.int x2), some (.int x3), some (.int x4), u5, u6, u7, u8, u9] [] σ) {x2 : Int32} {x3 : Int32} {x4 : Int32} {y0 : Int32} {u1 : Option Value} {u5 : Option Value} {u6 : Option Value} {u7 : Option Value} {u8 : Option Value} {u9 : Option Value} {σ : jw_M} {z : (Int32 × jw_M)} (h : f_R_holds_144 N K5 x2 x3 x4 y0 σ = some z) (hQ : Q (some (.int z.1)) (jx_ShC, z.2)) : ∃ n, jx_W jx_ShC d (some .boolean) jc_73 Q n 144 [some (.ref 19), u1, some (.int x2), some (.int x3), some (.int x4), u5, u6, u7, u8, u9] [.int y0] σ := by
  unfold f_R_holds_144 at h
  cases c8 : jx_in x4 100 with
  | false => rw [c8, cond_false] at h; cases h
  | true =>
    rw [c8, cond_true] at h
    by_cases c9 : y0 = (σ.1 23 (x4).toNatClampNeg)
    · rw [if_pos c9] at h
      suffices hh : ∃ n, jx_W jx_ShC d (some .boolean) jc_73 Q n 161 [some (.ref 19), u1, some (.int x2), some (.int x3), some (.int x4), u5, u6, u7, (jw_clr u8), some (.int y0)] [.int (x3 <<< (1 &&& 31))] σ by
        obtain ⟨n, hn⟩ := hh
        exact ⟨n + 10, And.intro (jx_in_ok c8) (And.intro (fun zz => absurd c9 zz) (fun _ => hn))⟩
      obtain ⟨n, hn⟩ := s_R_holds_166 hd hK5 (u1 := u1) (u3 := some (.int x3)) (u5 := u5) (u6 := u6) (u7 := u7) (u8 := (jw_clr u8)) (u9 := some (.int y0)) h hQ
      exact ⟨n + 2, hn⟩
    · rw [if_neg c9] at h
      suffices hh : ∃ n, jx_W jx_ShC d (some .boolean) jc_73 Q n 165 [some (.ref 19), u1, some (.int x2), some (.int x3), some (.int x4), u5, u6, u7, (jw_clr u8), some (.int y0)] [.int (x3 <<< (1 &&& 31))] σ by
        obtain ⟨n, hn⟩ := hh
        exact ⟨n + 10, And.intro (jx_in_ok c8) (And.intro (fun _ => hn) (fun zz => absurd zz c9))⟩
      obtain ⟨n, hn⟩ := s_R_holds_166 hd hK5 (u1 := u1) (u3 := some (.int x3)) (u5 := u5) (u6 := u6) (u7 := u7) (u8 := (jw_clr u8)) (u9 := some (.int y0)) h hQ
      exact ⟨n + 1, hn⟩
set_option maxRecDepth 20000 in
theorem s_R_holds_5 {N d : Nat} {Q : jw_Q} (hd : 0 ≤ d) : ∀ (k : Nat) {x2 : Int32} {x3 : Int32} {x4 : Int32} {u1 : Option Value} {u5 : Option Value} {u6 : Option Value} {u7 : Option Value} {u8 : Option Value} {u9 : Option Value} {σ : jw_M} {z : (Int32 × jw_M)}, f_R_holds_5 N k x2 x3 x4 σ = some z → Q (some (.int z.1)) (jx_ShC, z.2) → ∃ n, jx_W jx_ShC d (some .boolean) jc_73 Q n 5 [some (.ref 19), u1, some (.int x2), some (.int x3), some (.int x4), u5, u6, u7, u8, u9] [] σ
  | 0, _, _, _, _, _, _, _, _, _, _, _, h, _ => by cases h
  | k + 1, x2, x3, x4, u1, u5, u6, u7, u8, u9, σ, z, h, hQ => by
    rw [f_R_holds_5] at h
    by_cases c1 : x2 ≤ x4
    · rw [if_pos c1] at h
      suffices hh : ∃ n, jx_W jx_ShC d (some .boolean) jc_73 Q n 174 [some (.ref 19), u1, some (.int x2), some (.int x3), some (.int x4), u5, u6, u7, u8, u9] [] σ by
        obtain ⟨n, hn⟩ := hh
        exact ⟨n + 3, And.intro (fun _ => hn) (fun zz => absurd c1 zz)⟩
      by_cases c2 : (x3 &&& 1) = 1
      · rw [if_pos c2] at h
        suffices hh : ∃ n, jx_W jx_ShC d (some .boolean) jc_73 Q n 181 [some (.ref 19), u1, some (.int x2), some (.int x3), some (.int x4), u5, u6, u7, u8, u9] [] σ by
          obtain ⟨n, hn⟩ := hh
          exact ⟨n + 5, And.intro (fun zz => absurd c2 zz) (fun _ => hn)⟩
        cases h
        exact ⟨3, And.intro (Or.inr rfl) (And.intro hQ (And.intro rfl rfl))⟩
      · rw [if_neg c2] at h
        suffices hh : ∃ n, jx_W jx_ShC d (some .boolean) jc_73 Q n 185 [some (.ref 19), u1, some (.int x2), some (.int x3), some (.int x4), u5, u6, u7, u8, u9] [] σ by
          obtain ⟨n, hn⟩ := hh
          exact ⟨n + 5, And.intro (fun _ => hn) (fun zz => absurd zz c2)⟩
        cases h
        exact ⟨2, And.intro (Or.inl rfl) (And.intro hQ (And.intro rfl rfl))⟩
    · rw [if_neg c1] at h
      suffices hh : ∃ n, jx_W jx_ShC d (some .boolean) jc_73 Q n 11 [some (.ref 19), u1, some (.int x2), some (.int x3), some (.int x4), u5, u6, u7, u8, u9] [] σ by
        obtain ⟨n, hn⟩ := hh
        exact ⟨n + 3, And.intro (fun zz => absurd zz c1) (fun _ => hn)⟩
      cases c3 : jx_in x4 100 with
      | false => rw [c3, cond_false] at h; cases h
      | true =>
        rw [c3, cond_true] at h
        by_cases c12 : (σ.1 23 (x4).toNatClampNeg) = 3
        · rw [if_pos c12] at h
          suffices hh : ∃ n, jx_W jx_ShC d (some .boolean) jc_73 Q n 56 [some (.ref 19), u1, some (.int x2), some (.int x3), some (.int x4), some (.int (x3 &&& 1)), some (.int ((x3 >>> (1 &&& 31)) &&& 1)), u7, u8, u9] [] σ by
            obtain ⟨n, hn⟩ := hh
            exact ⟨n + 15, And.intro (jx_in_ok c3) (And.intro (fun _ => hn) (fun zz => absurd c12 zz))⟩
          obtain ⟨n, hn⟩ := s_R_holds_168 hd (s_R_holds_5 hd k) (u1 := u1) (u5 := some (.int (x3 &&& 1))) (u6 := some (.int ((x3 >>> (1 &&& 31)) &&& 1))) (u7 := u7) (u8 := u8) (u9 := u9) h hQ
          exact ⟨n + 11, hn⟩
        · rw [if_neg c12] at h
          by_cases c11 : (σ.1 23 (x4).toNatClampNeg) = 4
          · rw [if_pos c11] at h
            suffices hh : ∃ n, jx_W jx_ShC d (some .boolean) jc_73 Q n 71 [some (.ref 19), u1, some (.int x2), some (.int x3), some (.int x4), some (.int (x3 &&& 1)), some (.int ((x3 >>> (1 &&& 31)) &&& 1)), u7, u8, u9] [] σ by
              obtain ⟨n, hn⟩ := hh
              exact ⟨n + 15, And.intro (jx_in_ok c3) (And.intro (fun zz => absurd zz c12) (fun _ => And.intro (fun _ => hn) (fun zz => absurd c11 zz)))⟩
            obtain ⟨n, hn⟩ := s_R_holds_168 hd (s_R_holds_5 hd k) (u1 := u1) (u5 := some (.int (x3 &&& 1))) (u6 := some (.int ((x3 >>> (1 &&& 31)) &&& 1))) (u7 := u7) (u8 := u8) (u9 := u9) h hQ
            exact ⟨n + 11, hn⟩
          · rw [if_neg c11] at h
            by_cases c10 : (σ.1 23 (x4).toNatClampNeg) = 5
            · rw [if_pos c10] at h
              suffices hh : ∃ n, jx_W jx_ShC d (some .boolean) jc_73 Q n 86 [some (.ref 19), u1, some (.int x2), some (.int x3), some (.int x4), some (.int (x3 &&& 1)), some (.int ((x3 >>> (1 &&& 31)) &&& 1)), u7, u8, u9] [] σ by
                obtain ⟨n, hn⟩ := hh
                exact ⟨n + 15, And.intro (jx_in_ok c3) (And.intro (fun zz => absurd zz c12) (fun _ => And.intro (fun zz => absurd zz c11) (fun _ => And.intro (fun _ => hn) (fun zz => absurd c10 zz))))⟩
              obtain ⟨n, hn⟩ := s_R_holds_168 hd (s_R_holds_5 hd k) (u1 := u1) (u5 := some (.int (x3 &&& 1))) (u6 := some (.int ((x3 >>> (1 &&& 31)) &&& 1))) (u7 := u7) (u8 := u8) (u9 := u9) h hQ
              exact ⟨n + 5, hn⟩
            · rw [if_neg c10] at h
              cases c4 : jx_in (σ.1 24 (x4).toNatClampNeg) 105 with
              | false => rw [c4, cond_false] at h; cases h
              | true =>
                rw [c4, cond_true] at h
                cases c5 : jx_in (σ.1 25 (x4).toNatClampNeg) 105 with
                | false => rw [c5, cond_false] at h; cases h
                | true =>
                  rw [c5, cond_true] at h
                  by_cases c6 : (σ.1 26 ((σ.1 25 (x4).toNatClampNeg)).toNatClampNeg) ≤ (σ.1 26 ((σ.1 24 (x4).toNatClampNeg)).toNatClampNeg)
                  · rw [if_pos c6] at h
                    suffices hh : ∃ n, jx_W jx_ShC d (some .boolean) jc_73 Q n 132 [some (.ref 19), u1, some (.int x2), some (.int x3), some (.int x4), some (.int (x3 &&& 1)), some (.int ((x3 >>> (1 &&& 31)) &&& 1)), some (.int (σ.1 26 ((σ.1 24 (x4).toNatClampNeg)).toNatClampNeg)), some (.int (σ.1 26 ((σ.1 25 (x4).toNatClampNeg)).toNatClampNeg)), u9] [] σ by
                      obtain ⟨n, hn⟩ := hh
                      exact ⟨n + 34, And.intro (jx_in_ok c3) (And.intro (fun zz => absurd zz c12) (fun _ => And.intro (fun zz => absurd zz c11) (fun _ => And.intro (fun zz => absurd zz c10) (fun _ => And.intro (jx_in_ok c3) (And.intro (jx_in_ok c4) (And.intro (jx_in_ok c3) (And.intro (jx_in_ok c5) (And.intro (fun _ => hn) (fun zz => absurd c6 zz)))))))))⟩
                    by_cases c7 : (σ.1 26 ((σ.1 24 (x4).toNatClampNeg)).toNatClampNeg) ≤ (σ.1 26 ((σ.1 25 (x4).toNatClampNeg)).toNatClampNeg)
                    · rw [if_pos c7] at h
                      suffices hh : ∃ n, jx_W jx_ShC d (some .boolean) jc_73 Q n 143 [some (.ref 19), u1, some (.int x2), some (.int x3), some (.int x4), some (.int (x3 &&& 1)), some (.int ((x3 >>> (1 &&& 31)) &&& 1)), some (.int (σ.1 26 ((σ.1 24 (x4).toNatClampNeg)).toNatClampNeg)), some (.int (σ.1 26 ((σ.1 25 (x4).toNatClampNeg)).toNatClampNeg)), u9] [] σ by
                        obtain ⟨n, hn⟩ := hh
                        exact ⟨n + 3, And.intro (fun _ => hn) (fun zz => absurd c7 zz)⟩
                      obtain ⟨n, hn⟩ := s_R_holds_144 hd (s_R_holds_5 hd k) (u1 := u1) (u5 := some (.int (x3 &&& 1))) (u6 := some (.int ((x3 >>> (1 &&& 31)) &&& 1))) (u7 := some (.int (σ.1 26 ((σ.1 24 (x4).toNatClampNeg)).toNatClampNeg))) (u8 := some (.int (σ.1 26 ((σ.1 25 (x4).toNatClampNeg)).toNatClampNeg))) (u9 := u9) h hQ
                      exact ⟨n + 1, hn⟩
                    · rw [if_neg c7] at h
                      suffices hh : ∃ n, jx_W jx_ShC d (some .boolean) jc_73 Q n 139 [some (.ref 19), u1, some (.int x2), some (.int x3), some (.int x4), some (.int (x3 &&& 1)), some (.int ((x3 >>> (1 &&& 31)) &&& 1)), some (.int (σ.1 26 ((σ.1 24 (x4).toNatClampNeg)).toNatClampNeg)), some (.int (σ.1 26 ((σ.1 25 (x4).toNatClampNeg)).toNatClampNeg)), u9] [] σ by
                        obtain ⟨n, hn⟩ := hh
                        exact ⟨n + 3, And.intro (fun zz => absurd zz c7) (fun _ => hn)⟩
                      obtain ⟨n, hn⟩ := s_R_holds_144 hd (s_R_holds_5 hd k) (u1 := u1) (u5 := some (.int (x3 &&& 1))) (u6 := some (.int ((x3 >>> (1 &&& 31)) &&& 1))) (u7 := some (.int (σ.1 26 ((σ.1 24 (x4).toNatClampNeg)).toNatClampNeg))) (u8 := some (.int (σ.1 26 ((σ.1 25 (x4).toNatClampNeg)).toNatClampNeg))) (u9 := u9) h hQ
                      exact ⟨n + 2, hn⟩
                  · rw [if_neg c6] at h
                    suffices hh : ∃ n, jx_W jx_ShC d (some .boolean) jc_73 Q n 128 [some (.ref 19), u1, some (.int x2), some (.int x3), some (.int x4), some (.int (x3 &&& 1)), some (.int ((x3 >>> (1 &&& 31)) &&& 1)), some (.int (σ.1 26 ((σ.1 24 (x4).toNatClampNeg)).toNatClampNeg)), some (.int (σ.1 26 ((σ.1 25 (x4).toNatClampNeg)).toNatClampNeg)), u9] [] σ by
                      obtain ⟨n, hn⟩ := hh
                      exact ⟨n + 34, And.intro (jx_in_ok c3) (And.intro (fun zz => absurd zz c12) (fun _ => And.intro (fun zz => absurd zz c11) (fun _ => And.intro (fun zz => absurd zz c10) (fun _ => And.intro (jx_in_ok c3) (And.intro (jx_in_ok c4) (And.intro (jx_in_ok c3) (And.intro (jx_in_ok c5) (And.intro (fun zz => absurd zz c6) (fun _ => hn)))))))))⟩
                    obtain ⟨n, hn⟩ := s_R_holds_144 hd (s_R_holds_5 hd k) (u1 := u1) (u5 := some (.int (x3 &&& 1))) (u6 := some (.int ((x3 >>> (1 &&& 31)) &&& 1))) (u7 := some (.int (σ.1 26 ((σ.1 24 (x4).toNatClampNeg)).toNatClampNeg))) (u8 := some (.int (σ.1 26 ((σ.1 25 (x4).toNatClampNeg)).toNatClampNeg))) (u9 := u9) h hQ
                    exact ⟨n + 2, hn⟩
set_option maxRecDepth 20000 in
theorem s_R_holds {N d : Nat} {x1 : Int32} {x2 : Int32} (hd : 1 ≤ d) {σ : jw_M} {z : (Int32 × jw_M)} {Q : jw_Q} (h : f_R_holds N x1 x2 σ = some z) (hQ : Q (some (.int z.1)) (jx_ShC, z.2)) : jw_C jp_kd jp_ys d 73 [.ref 19, .int x1, .int x2] (jx_ShC, σ) Q := by
  obtain ⟨d, rfl⟩ : ∃ e, d = e + 1 := ⟨d - 1, by omega⟩
  replace hd : 0 ≤ d := by omega
  refine jx_C rfl rfl ?_
  unfold f_R_holds at h
  obtain ⟨n, hn⟩ := s_R_holds_5 hd N (u1 := some (.int x1)) (u5 := none) (u6 := none) (u7 := none) (u8 := none) (u9 := none) h hQ
  exact ⟨n + 4, hn⟩
