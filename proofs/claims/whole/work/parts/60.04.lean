set_option maxRecDepth 20000 in
theorem s_L_walk_22 {N d : Nat} {Dr : Nat} {Rec : Int32 → Int32 → Int32 → jw_M → Option jw_M} {Q : jw_Q} (hRec : ∀ {d : Nat} {a2 : Int32} {a3 : Int32} {a4 : Int32} {σ : jw_M} {z : jw_M} {Q : jw_Q}, Dr ≤ d → Rec a2 a3 a4 σ = some z → Q none (jx_ShC, z) → jw_C jp_kd jp_ys d 34 [.ref 92, .ref 1, .int a2, .int a3, .int a4] (jx_ShC, σ) Q) (hd0 : 0 + Dr ≤ d) (hd : 6 ≤ d) {y1 : Int32} {y2 : Int32} {y4 : Int32} {u0 : Option Value} {u1 : Option Value} {u2 : Option Value} {u3 : Option Value} {u4 : Option Value} {u5 : Option Value} {u6 : Option Value} {u7 : Option Value} {σ : jw_M} {z : jw_M} (h : f_L_walk_22 N Rec y1 y2 y4 σ = some z) (hQ : Q none (jx_ShC, z)) : ∃ n, jx_W jx_ShC d none jc_34 Q n 22 [u0, u1, u2, u3, u4, u5, u6, u7] [.int y4, .ref 93, .int y2, .int y1, .ref 92] σ := by
  unfold f_L_walk_22 at h
  cases c2 : jx_in y4 5 with
  | false => rw [c2, cond_false] at h; cases h
  | true =>
    rw [c2, cond_true] at h
    rcases jx_ix5 (jx_in_ok c2) with rfl | rfl | rfl | rfl | rfl
    · try rw [show (94 + 4 * (0 : Int32).toNatClampNeg) = 94 from by decide] at h
      obtain ⟨z3, h4, h⟩ := Option.bind_eq_some_iff.mp h
      obtain ⟨z5, h6, h⟩ := Option.bind_eq_some_iff.mp h
      cases h
      exact ⟨4, And.intro (jx_in_ok c2) (s_P_learntBySome (by omega) (by decide) h4 (s_L_weigh (by omega) h6 (And.intro hQ (And.intro rfl rfl))))⟩
    · try rw [show (94 + 4 * (1 : Int32).toNatClampNeg) = 98 from by decide] at h
      obtain ⟨z3, h4, h⟩ := Option.bind_eq_some_iff.mp h
      obtain ⟨z5, h6, h⟩ := Option.bind_eq_some_iff.mp h
      cases h
      exact ⟨4, And.intro (jx_in_ok c2) (s_P_learntBySome (by omega) (by decide) h4 (s_L_weigh (by omega) h6 (And.intro hQ (And.intro rfl rfl))))⟩
    · try rw [show (94 + 4 * (2 : Int32).toNatClampNeg) = 102 from by decide] at h
      obtain ⟨z3, h4, h⟩ := Option.bind_eq_some_iff.mp h
      obtain ⟨z5, h6, h⟩ := Option.bind_eq_some_iff.mp h
      cases h
      exact ⟨4, And.intro (jx_in_ok c2) (s_P_learntBySome (by omega) (by decide) h4 (s_L_weigh (by omega) h6 (And.intro hQ (And.intro rfl rfl))))⟩
    · try rw [show (94 + 4 * (3 : Int32).toNatClampNeg) = 106 from by decide] at h
      obtain ⟨z3, h4, h⟩ := Option.bind_eq_some_iff.mp h
      obtain ⟨z5, h6, h⟩ := Option.bind_eq_some_iff.mp h
      cases h
      exact ⟨4, And.intro (jx_in_ok c2) (s_P_learntBySome (by omega) (by decide) h4 (s_L_weigh (by omega) h6 (And.intro hQ (And.intro rfl rfl))))⟩
    · try rw [show (94 + 4 * (4 : Int32).toNatClampNeg) = 110 from by decide] at h
      obtain ⟨z3, h4, h⟩ := Option.bind_eq_some_iff.mp h
      obtain ⟨z5, h6, h⟩ := Option.bind_eq_some_iff.mp h
      cases h
      exact ⟨4, And.intro (jx_in_ok c2) (s_P_learntBySome (by omega) (by decide) h4 (s_L_weigh (by omega) h6 (And.intro hQ (And.intro rfl rfl))))⟩
set_option maxRecDepth 20000 in
theorem s_L_walk_13 {N d : Nat} {Dr : Nat} {Rec : Int32 → Int32 → Int32 → jw_M → Option jw_M} {Q : jw_Q} (hRec : ∀ {d : Nat} {a2 : Int32} {a3 : Int32} {a4 : Int32} {σ : jw_M} {z : jw_M} {Q : jw_Q}, Dr ≤ d → Rec a2 a3 a4 σ = some z → Q none (jx_ShC, z) → jw_C jp_kd jp_ys d 34 [.ref 92, .ref 1, .int a2, .int a3, .int a4] (jx_ShC, σ) Q) (hd0 : 0 + Dr ≤ d) (hd : 6 ≤ d) {x2 : Int32} {x3 : Int32} {x4 : Int32} {u1 : Option Value} {u5 : Option Value} {u6 : Option Value} {u7 : Option Value} {σ : jw_M} {z : jw_M} (h : f_L_walk_13 N Rec x2 x3 x4 σ = some z) (hQ : Q none (jx_ShC, z)) : ∃ n, jx_W jx_ShC d none jc_34 Q n 13 [some (.ref 92), u1, some (.int x2), some (.int x3), some (.int x4), u5, u6, u7] [] σ := by
  unfold f_L_walk_13 at h
  obtain ⟨n, hn⟩ := s_L_walk_22 hRec hd0 hd (u0 := some (.ref 92)) (u1 := u1) (u2 := some (.int x2)) (u3 := some (.int x3)) (u4 := some (.int x4)) (u5 := u5) (u6 := u6) (u7 := u7) h hQ
  exact ⟨n + 6, hn⟩
set_option maxRecDepth 20000 in
theorem s_L_walk_104 {N d : Nat} {Dr : Nat} {Rec : Int32 → Int32 → Int32 → jw_M → Option jw_M} {Q : jw_Q} {K43 : Int32 → Int32 → Int32 → Nat → Int32 → jw_M → Option jw_M} (hRec : ∀ {d : Nat} {a2 : Int32} {a3 : Int32} {a4 : Int32} {σ : jw_M} {z : jw_M} {Q : jw_Q}, Dr ≤ d → Rec a2 a3 a4 σ = some z → Q none (jx_ShC, z) → jw_C jp_kd jp_ys d 34 [.ref 92, .ref 1, .int a2, .int a3, .int a4] (jx_ShC, σ) Q) (hd0 : 0 + Dr ≤ d) (hd : 6 ≤ d) (hK43 : ∀ {x2 : Int32} {x3 : Int32} {x4 : Int32} {r5 : Nat} {x6 : Int32} {σ : jw_M} {z : jw_M} {u7 : Option Value}, (r5 = 94 ∨ r5 = 98 ∨ r5 = 102 ∨ r5 = 106 ∨ r5 = 110) → K43 x2 x3 x4 r5 x6 σ = some z → Q none (jx_ShC, z) → ∃ n, jx_W jx_ShC d none jc_34 Q n 43 [some (.ref 92), some (.ref 1), some (.int x2), some (.int x3), some (.int x4), some (.ref r5), some (.int x6), u7] [] σ) {x2 : Int32} {x3 : Int32} {x4 : Int32} {r5 : Nat} {x6 : Int32} {y2 : Int32} {y3 : Int32} {y4 : Int32} {u7 : Option Value} {σ : jw_M} {z : jw_M} (hr5 : r5 = 94 ∨ r5 = 98 ∨ r5 = 102 ∨ r5 = 106 ∨ r5 = 110) (h : f_L_walk_104 N Rec K43 x2 x3 x4 r5 x6 y2 y3 y4 σ = some z) (hQ : Q none (jx_ShC, z)) : ∃ n, jx_W jx_ShC d none jc_34 Q n 104 [some (.ref 92), some (.ref 1), some (.int x2), some (.int x3), some (.int x4), some (.ref r5), some (.int x6), u7] [.int y4, .int y3, .int y2, .ref 1, .ref 92] σ := by
  rcases hr5 with rfl | rfl | rfl | rfl | rfl
  · unfold f_L_walk_104 at h
    obtain ⟨z17, h18, h⟩ := Option.bind_eq_some_iff.mp h
    obtain ⟨n, hn⟩ := hK43 (u7 := u7) (by decide) h hQ
    exact ⟨n + 3, hRec (by omega) h18 (hn)⟩
  · unfold f_L_walk_104 at h
    obtain ⟨z17, h18, h⟩ := Option.bind_eq_some_iff.mp h
    obtain ⟨n, hn⟩ := hK43 (u7 := u7) (by decide) h hQ
    exact ⟨n + 3, hRec (by omega) h18 (hn)⟩
  · unfold f_L_walk_104 at h
    obtain ⟨z17, h18, h⟩ := Option.bind_eq_some_iff.mp h
    obtain ⟨n, hn⟩ := hK43 (u7 := u7) (by decide) h hQ
    exact ⟨n + 3, hRec (by omega) h18 (hn)⟩
  · unfold f_L_walk_104 at h
    obtain ⟨z17, h18, h⟩ := Option.bind_eq_some_iff.mp h
    obtain ⟨n, hn⟩ := hK43 (u7 := u7) (by decide) h hQ
    exact ⟨n + 3, hRec (by omega) h18 (hn)⟩
  · unfold f_L_walk_104 at h
    obtain ⟨z17, h18, h⟩ := Option.bind_eq_some_iff.mp h
    obtain ⟨n, hn⟩ := hK43 (u7 := u7) (by decide) h hQ
    exact ⟨n + 3, hRec (by omega) h18 (hn)⟩
set_option maxRecDepth 20000 in
theorem s_L_walk_67 {N d : Nat} {Dr : Nat} {Rec : Int32 → Int32 → Int32 → jw_M → Option jw_M} {Q : jw_Q} {K43 : Int32 → Int32 → Int32 → Nat → Int32 → jw_M → Option jw_M} (hRec : ∀ {d : Nat} {a2 : Int32} {a3 : Int32} {a4 : Int32} {σ : jw_M} {z : jw_M} {Q : jw_Q}, Dr ≤ d → Rec a2 a3 a4 σ = some z → Q none (jx_ShC, z) → jw_C jp_kd jp_ys d 34 [.ref 92, .ref 1, .int a2, .int a3, .int a4] (jx_ShC, σ) Q) (hd0 : 0 + Dr ≤ d) (hd : 6 ≤ d) (hK43 : ∀ {x2 : Int32} {x3 : Int32} {x4 : Int32} {r5 : Nat} {x6 : Int32} {σ : jw_M} {z : jw_M} {u7 : Option Value}, (r5 = 94 ∨ r5 = 98 ∨ r5 = 102 ∨ r5 = 106 ∨ r5 = 110) → K43 x2 x3 x4 r5 x6 σ = some z → Q none (jx_ShC, z) → ∃ n, jx_W jx_ShC d none jc_34 Q n 43 [some (.ref 92), some (.ref 1), some (.int x2), some (.int x3), some (.int x4), some (.ref r5), some (.int x6), u7] [] σ) {x2 : Int32} {x3 : Int32} {x4 : Int32} {r5 : Nat} {x6 : Int32} {r_0 : Nat} {y2 : Int32} {u7 : Option Value} {σ : jw_M} {z : jw_M} (hr5 : r5 = 94 ∨ r5 = 98 ∨ r5 = 102 ∨ r5 = 106 ∨ r5 = 110) (hr_0 : r_0 = 94 ∨ r_0 = 98 ∨ r_0 = 102 ∨ r_0 = 106 ∨ r_0 = 110) (h : f_L_walk_67 N Rec K43 x2 x3 x4 r5 x6 r_0 y2 σ = some z) (hQ : Q none (jx_ShC, z)) : ∃ n, jx_W jx_ShC d none jc_34 Q n 67 [some (.ref 92), some (.ref 1), some (.int x2), some (.int x3), some (.int x4), some (.ref r5), some (.int x6), u7] [.int y2, .ref 93, .ref r_0] σ := by
  rcases hr5 with rfl | rfl | rfl | rfl | rfl
  · rcases hr_0 with rfl | rfl | rfl | rfl | rfl
    · unfold f_L_walk_67 at h
      cases c11 : jx_in y2 5 with
      | false => rw [c11, cond_false] at h; cases h
      | true =>
        rw [c11, cond_true] at h
        rcases jx_ix5 (jx_in_ok c11) with rfl | rfl | rfl | rfl | rfl
        · try rw [show (94 + 4 * (0 : Int32).toNatClampNeg) = 94 from by decide] at h
          obtain ⟨z12, h13, h⟩ := Option.bind_eq_some_iff.mp h
          obtain ⟨z14, h15, h⟩ := Option.bind_eq_some_iff.mp h
          by_cases c16 : x6 = 0
          · rw [if_pos c16] at h
            suffices hh : ∃ n, jx_W jx_ShC d none jc_34 Q n 95 [some (.ref 92), some (.ref 1), some (.int x2), some (.int x3), some (.int x4), some (.ref 94), some (.int x6), some (.int z14.1)] [.int (x3 + z14.1), .int (x2 + 1), .ref 1, .ref 92] z14.2 by
              obtain ⟨n, hn⟩ := hh
              exact ⟨n + 17, And.intro (jx_in_ok c11) (s_P_copyFrom (by omega) (by decide) h13 (s_S_goBy (by omega) (by decide) h15 (And.intro (fun zz => absurd c16 zz) (fun _ => hn))))⟩
            obtain ⟨n, hn⟩ := s_L_walk_104 hRec hd0 hd hK43 (u7 := some (.int z14.1)) (by decide) h hQ
            exact ⟨n + 2, hn⟩
          · rw [if_neg c16] at h
            suffices hh : ∃ n, jx_W jx_ShC d none jc_34 Q n 100 [some (.ref 92), some (.ref 1), some (.int x2), some (.int x3), some (.int x4), some (.ref 94), some (.int x6), some (.int z14.1)] [.int (x3 + z14.1), .int (x2 + 1), .ref 1, .ref 92] z14.2 by
              obtain ⟨n, hn⟩ := hh
              exact ⟨n + 17, And.intro (jx_in_ok c11) (s_P_copyFrom (by omega) (by decide) h13 (s_S_goBy (by omega) (by decide) h15 (And.intro (fun _ => hn) (fun zz => absurd zz c16))))⟩
            obtain ⟨n, hn⟩ := s_L_walk_104 hRec hd0 hd hK43 (u7 := some (.int z14.1)) (by decide) h hQ
            exact ⟨n + 3, hn⟩
        · try rw [show (94 + 4 * (1 : Int32).toNatClampNeg) = 98 from by decide] at h
          obtain ⟨z12, h13, h⟩ := Option.bind_eq_some_iff.mp h
          obtain ⟨z14, h15, h⟩ := Option.bind_eq_some_iff.mp h
          by_cases c16 : x6 = 0
          · rw [if_pos c16] at h
            suffices hh : ∃ n, jx_W jx_ShC d none jc_34 Q n 95 [some (.ref 92), some (.ref 1), some (.int x2), some (.int x3), some (.int x4), some (.ref 94), some (.int x6), some (.int z14.1)] [.int (x3 + z14.1), .int (x2 + 1), .ref 1, .ref 92] z14.2 by
              obtain ⟨n, hn⟩ := hh
              exact ⟨n + 17, And.intro (jx_in_ok c11) (s_P_copyFrom (by omega) (by decide) h13 (s_S_goBy (by omega) (by decide) h15 (And.intro (fun zz => absurd c16 zz) (fun _ => hn))))⟩
            obtain ⟨n, hn⟩ := s_L_walk_104 hRec hd0 hd hK43 (u7 := some (.int z14.1)) (by decide) h hQ
            exact ⟨n + 2, hn⟩
          · rw [if_neg c16] at h
            suffices hh : ∃ n, jx_W jx_ShC d none jc_34 Q n 100 [some (.ref 92), some (.ref 1), some (.int x2), some (.int x3), some (.int x4), some (.ref 94), some (.int x6), some (.int z14.1)] [.int (x3 + z14.1), .int (x2 + 1), .ref 1, .ref 92] z14.2 by
              obtain ⟨n, hn⟩ := hh
              exact ⟨n + 17, And.intro (jx_in_ok c11) (s_P_copyFrom (by omega) (by decide) h13 (s_S_goBy (by omega) (by decide) h15 (And.intro (fun _ => hn) (fun zz => absurd zz c16))))⟩
            obtain ⟨n, hn⟩ := s_L_walk_104 hRec hd0 hd hK43 (u7 := some (.int z14.1)) (by decide) h hQ
            exact ⟨n + 3, hn⟩
        · try rw [show (94 + 4 * (2 : Int32).toNatClampNeg) = 102 from by decide] at h
          obtain ⟨z12, h13, h⟩ := Option.bind_eq_some_iff.mp h
          obtain ⟨z14, h15, h⟩ := Option.bind_eq_some_iff.mp h
          by_cases c16 : x6 = 0
          · rw [if_pos c16] at h
            suffices hh : ∃ n, jx_W jx_ShC d none jc_34 Q n 95 [some (.ref 92), some (.ref 1), some (.int x2), some (.int x3), some (.int x4), some (.ref 94), some (.int x6), some (.int z14.1)] [.int (x3 + z14.1), .int (x2 + 1), .ref 1, .ref 92] z14.2 by
              obtain ⟨n, hn⟩ := hh
              exact ⟨n + 17, And.intro (jx_in_ok c11) (s_P_copyFrom (by omega) (by decide) h13 (s_S_goBy (by omega) (by decide) h15 (And.intro (fun zz => absurd c16 zz) (fun _ => hn))))⟩
            obtain ⟨n, hn⟩ := s_L_walk_104 hRec hd0 hd hK43 (u7 := some (.int z14.1)) (by decide) h hQ
            exact ⟨n + 2, hn⟩
          · rw [if_neg c16] at h
            suffices hh : ∃ n, jx_W jx_ShC d none jc_34 Q n 100 [some (.ref 92), some (.ref 1), some (.int x2), some (.int x3), some (.int x4), some (.ref 94), some (.int x6), some (.int z14.1)] [.int (x3 + z14.1), .int (x2 + 1), .ref 1, .ref 92] z14.2 by
              obtain ⟨n, hn⟩ := hh
              exact ⟨n + 17, And.intro (jx_in_ok c11) (s_P_copyFrom (by omega) (by decide) h13 (s_S_goBy (by omega) (by decide) h15 (And.intro (fun _ => hn) (fun zz => absurd zz c16))))⟩
            obtain ⟨n, hn⟩ := s_L_walk_104 hRec hd0 hd hK43 (u7 := some (.int z14.1)) (by decide) h hQ
            exact ⟨n + 3, hn⟩
        · try rw [show (94 + 4 * (3 : Int32).toNatClampNeg) = 106 from by decide] at h
          obtain ⟨z12, h13, h⟩ := Option.bind_eq_some_iff.mp h
          obtain ⟨z14, h15, h⟩ := Option.bind_eq_some_iff.mp h
          by_cases c16 : x6 = 0
          · rw [if_pos c16] at h
            suffices hh : ∃ n, jx_W jx_ShC d none jc_34 Q n 95 [some (.ref 92), some (.ref 1), some (.int x2), some (.int x3), some (.int x4), some (.ref 94), some (.int x6), some (.int z14.1)] [.int (x3 + z14.1), .int (x2 + 1), .ref 1, .ref 92] z14.2 by
              obtain ⟨n, hn⟩ := hh
              exact ⟨n + 17, And.intro (jx_in_ok c11) (s_P_copyFrom (by omega) (by decide) h13 (s_S_goBy (by omega) (by decide) h15 (And.intro (fun zz => absurd c16 zz) (fun _ => hn))))⟩
            obtain ⟨n, hn⟩ := s_L_walk_104 hRec hd0 hd hK43 (u7 := some (.int z14.1)) (by decide) h hQ
            exact ⟨n + 2, hn⟩
          · rw [if_neg c16] at h
            suffices hh : ∃ n, jx_W jx_ShC d none jc_34 Q n 100 [some (.ref 92), some (.ref 1), some (.int x2), some (.int x3), some (.int x4), some (.ref 94), some (.int x6), some (.int z14.1)] [.int (x3 + z14.1), .int (x2 + 1), .ref 1, .ref 92] z14.2 by
              obtain ⟨n, hn⟩ := hh
              exact ⟨n + 17, And.intro (jx_in_ok c11) (s_P_copyFrom (by omega) (by decide) h13 (s_S_goBy (by omega) (by decide) h15 (And.intro (fun _ => hn) (fun zz => absurd zz c16))))⟩
            obtain ⟨n, hn⟩ := s_L_walk_104 hRec hd0 hd hK43 (u7 := some (.int z14.1)) (by decide) h hQ
            exact ⟨n + 3, hn⟩
        · try rw [show (94 + 4 * (4 : Int32).toNatClampNeg) = 110 from by decide] at h
          obtain ⟨z12, h13, h⟩ := Option.bind_eq_some_iff.mp h
          obtain ⟨z14, h15, h⟩ := Option.bind_eq_some_iff.mp h
          by_cases c16 : x6 = 0
          · rw [if_pos c16] at h
            suffices hh : ∃ n, jx_W jx_ShC d none jc_34 Q n 95 [some (.ref 92), some (.ref 1), some (.int x2), some (.int x3), some (.int x4), some (.ref 94), some (.int x6), some (.int z14.1)] [.int (x3 + z14.1), .int (x2 + 1), .ref 1, .ref 92] z14.2 by
              obtain ⟨n, hn⟩ := hh
              exact ⟨n + 17, And.intro (jx_in_ok c11) (s_P_copyFrom (by omega) (by decide) h13 (s_S_goBy (by omega) (by decide) h15 (And.intro (fun zz => absurd c16 zz) (fun _ => hn))))⟩
            obtain ⟨n, hn⟩ := s_L_walk_104 hRec hd0 hd hK43 (u7 := some (.int z14.1)) (by decide) h hQ
            exact ⟨n + 2, hn⟩
          · rw [if_neg c16] at h
            suffices hh : ∃ n, jx_W jx_ShC d none jc_34 Q n 100 [some (.ref 92), some (.ref 1), some (.int x2), some (.int x3), some (.int x4), some (.ref 94), some (.int x6), some (.int z14.1)] [.int (x3 + z14.1), .int (x2 + 1), .ref 1, .ref 92] z14.2 by
              obtain ⟨n, hn⟩ := hh
              exact ⟨n + 17, And.intro (jx_in_ok c11) (s_P_copyFrom (by omega) (by decide) h13 (s_S_goBy (by omega) (by decide) h15 (And.intro (fun _ => hn) (fun zz => absurd zz c16))))⟩
            obtain ⟨n, hn⟩ := s_L_walk_104 hRec hd0 hd hK43 (u7 := some (.int z14.1)) (by decide) h hQ
            exact ⟨n + 3, hn⟩
    · unfold f_L_walk_67 at h
      cases c11 : jx_in y2 5 with
      | false => rw [c11, cond_false] at h; cases h
      | true =>
        rw [c11, cond_true] at h
        rcases jx_ix5 (jx_in_ok c11) with rfl | rfl | rfl | rfl | rfl
        · try rw [show (94 + 4 * (0 : Int32).toNatClampNeg) = 94 from by decide] at h
          obtain ⟨z12, h13, h⟩ := Option.bind_eq_some_iff.mp h
          obtain ⟨z14, h15, h⟩ := Option.bind_eq_some_iff.mp h
          by_cases c16 : x6 = 0
          · rw [if_pos c16] at h
            suffices hh : ∃ n, jx_W jx_ShC d none jc_34 Q n 95 [some (.ref 92), some (.ref 1), some (.int x2), some (.int x3), some (.int x4), some (.ref 94), some (.int x6), some (.int z14.1)] [.int (x3 + z14.1), .int (x2 + 1), .ref 1, .ref 92] z14.2 by
              obtain ⟨n, hn⟩ := hh
              exact ⟨n + 17, And.intro (jx_in_ok c11) (s_P_copyFrom (by omega) (by decide) h13 (s_S_goBy (by omega) (by decide) h15 (And.intro (fun zz => absurd c16 zz) (fun _ => hn))))⟩
            obtain ⟨n, hn⟩ := s_L_walk_104 hRec hd0 hd hK43 (u7 := some (.int z14.1)) (by decide) h hQ
            exact ⟨n + 2, hn⟩
          · rw [if_neg c16] at h
            suffices hh : ∃ n, jx_W jx_ShC d none jc_34 Q n 100 [some (.ref 92), some (.ref 1), some (.int x2), some (.int x3), some (.int x4), some (.ref 94), some (.int x6), some (.int z14.1)] [.int (x3 + z14.1), .int (x2 + 1), .ref 1, .ref 92] z14.2 by
              obtain ⟨n, hn⟩ := hh
              exact ⟨n + 17, And.intro (jx_in_ok c11) (s_P_copyFrom (by omega) (by decide) h13 (s_S_goBy (by omega) (by decide) h15 (And.intro (fun _ => hn) (fun zz => absurd zz c16))))⟩
            obtain ⟨n, hn⟩ := s_L_walk_104 hRec hd0 hd hK43 (u7 := some (.int z14.1)) (by decide) h hQ
            exact ⟨n + 3, hn⟩
        · try rw [show (94 + 4 * (1 : Int32).toNatClampNeg) = 98 from by decide] at h
          obtain ⟨z12, h13, h⟩ := Option.bind_eq_some_iff.mp h
          obtain ⟨z14, h15, h⟩ := Option.bind_eq_some_iff.mp h
          by_cases c16 : x6 = 0
          · rw [if_pos c16] at h
            suffices hh : ∃ n, jx_W jx_ShC d none jc_34 Q n 95 [some (.ref 92), some (.ref 1), some (.int x2), some (.int x3), some (.int x4), some (.ref 94), some (.int x6), some (.int z14.1)] [.int (x3 + z14.1), .int (x2 + 1), .ref 1, .ref 92] z14.2 by
              obtain ⟨n, hn⟩ := hh
              exact ⟨n + 17, And.intro (jx_in_ok c11) (s_P_copyFrom (by omega) (by decide) h13 (s_S_goBy (by omega) (by decide) h15 (And.intro (fun zz => absurd c16 zz) (fun _ => hn))))⟩
            obtain ⟨n, hn⟩ := s_L_walk_104 hRec hd0 hd hK43 (u7 := some (.int z14.1)) (by decide) h hQ
            exact ⟨n + 2, hn⟩
          · rw [if_neg c16] at h
            suffices hh : ∃ n, jx_W jx_ShC d none jc_34 Q n 100 [some (.ref 92), some (.ref 1), some (.int x2), some (.int x3), some (.int x4), some (.ref 94), some (.int x6), some (.int z14.1)] [.int (x3 + z14.1), .int (x2 + 1), .ref 1, .ref 92] z14.2 by
              obtain ⟨n, hn⟩ := hh
              exact ⟨n + 17, And.intro (jx_in_ok c11) (s_P_copyFrom (by omega) (by decide) h13 (s_S_goBy (by omega) (by decide) h15 (And.intro (fun _ => hn) (fun zz => absurd zz c16))))⟩
            obtain ⟨n, hn⟩ := s_L_walk_104 hRec hd0 hd hK43 (u7 := some (.int z14.1)) (by decide) h hQ
            exact ⟨n + 3, hn⟩
        · try rw [show (94 + 4 * (2 : Int32).toNatClampNeg) = 102 from by decide] at h
          obtain ⟨z12, h13, h⟩ := Option.bind_eq_some_iff.mp h
          obtain ⟨z14, h15, h⟩ := Option.bind_eq_some_iff.mp h
          by_cases c16 : x6 = 0
          · rw [if_pos c16] at h
            suffices hh : ∃ n, jx_W jx_ShC d none jc_34 Q n 95 [some (.ref 92), some (.ref 1), some (.int x2), some (.int x3), some (.int x4), some (.ref 94), some (.int x6), some (.int z14.1)] [.int (x3 + z14.1), .int (x2 + 1), .ref 1, .ref 92] z14.2 by
              obtain ⟨n, hn⟩ := hh
              exact ⟨n + 17, And.intro (jx_in_ok c11) (s_P_copyFrom (by omega) (by decide) h13 (s_S_goBy (by omega) (by decide) h15 (And.intro (fun zz => absurd c16 zz) (fun _ => hn))))⟩
            obtain ⟨n, hn⟩ := s_L_walk_104 hRec hd0 hd hK43 (u7 := some (.int z14.1)) (by decide) h hQ
            exact ⟨n + 2, hn⟩
          · rw [if_neg c16] at h
            suffices hh : ∃ n, jx_W jx_ShC d none jc_34 Q n 100 [some (.ref 92), some (.ref 1), some (.int x2), some (.int x3), some (.int x4), some (.ref 94), some (.int x6), some (.int z14.1)] [.int (x3 + z14.1), .int (x2 + 1), .ref 1, .ref 92] z14.2 by
              obtain ⟨n, hn⟩ := hh
              exact ⟨n + 17, And.intro (jx_in_ok c11) (s_P_copyFrom (by omega) (by decide) h13 (s_S_goBy (by omega) (by decide) h15 (And.intro (fun _ => hn) (fun zz => absurd zz c16))))⟩
            obtain ⟨n, hn⟩ := s_L_walk_104 hRec hd0 hd hK43 (u7 := some (.int z14.1)) (by decide) h hQ
            exact ⟨n + 3, hn⟩
        · try rw [show (94 + 4 * (3 : Int32).toNatClampNeg) = 106 from by decide] at h
          obtain ⟨z12, h13, h⟩ := Option.bind_eq_some_iff.mp h
          obtain ⟨z14, h15, h⟩ := Option.bind_eq_some_iff.mp h
          by_cases c16 : x6 = 0
          · rw [if_pos c16] at h
            suffices hh : ∃ n, jx_W jx_ShC d none jc_34 Q n 95 [some (.ref 92), some (.ref 1), some (.int x2), some (.int x3), some (.int x4), some (.ref 94), some (.int x6), some (.int z14.1)] [.int (x3 + z14.1), .int (x2 + 1), .ref 1, .ref 92] z14.2 by
              obtain ⟨n, hn⟩ := hh
              exact ⟨n + 17, And.intro (jx_in_ok c11) (s_P_copyFrom (by omega) (by decide) h13 (s_S_goBy (by omega) (by decide) h15 (And.intro (fun zz => absurd c16 zz) (fun _ => hn))))⟩
            obtain ⟨n, hn⟩ := s_L_walk_104 hRec hd0 hd hK43 (u7 := some (.int z14.1)) (by decide) h hQ
            exact ⟨n + 2, hn⟩
          · rw [if_neg c16] at h
            suffices hh : ∃ n, jx_W jx_ShC d none jc_34 Q n 100 [some (.ref 92), some (.ref 1), some (.int x2), some (.int x3), some (.int x4), some (.ref 94), some (.int x6), some (.int z14.1)] [.int (x3 + z14.1), .int (x2 + 1), .ref 1, .ref 92] z14.2 by
              obtain ⟨n, hn⟩ := hh
              exact ⟨n + 17, And.intro (jx_in_ok c11) (s_P_copyFrom (by omega) (by decide) h13 (s_S_goBy (by omega) (by decide) h15 (And.intro (fun _ => hn) (fun zz => absurd zz c16))))⟩
            obtain ⟨n, hn⟩ := s_L_walk_104 hRec hd0 hd hK43 (u7 := some (.int z14.1)) (by decide) h hQ
            exact ⟨n + 3, hn⟩
        · try rw [show (94 + 4 * (4 : Int32).toNatClampNeg) = 110 from by decide] at h
          obtain ⟨z12, h13, h⟩ := Option.bind_eq_some_iff.mp h
          obtain ⟨z14, h15, h⟩ := Option.bind_eq_some_iff.mp h
          by_cases c16 : x6 = 0
          · rw [if_pos c16] at h
            suffices hh : ∃ n, jx_W jx_ShC d none jc_34 Q n 95 [some (.ref 92), some (.ref 1), some (.int x2), some (.int x3), some (.int x4), some (.ref 94), some (.int x6), some (.int z14.1)] [.int (x3 + z14.1), .int (x2 + 1), .ref 1, .ref 92] z14.2 by
              obtain ⟨n, hn⟩ := hh
              exact ⟨n + 17, And.intro (jx_in_ok c11) (s_P_copyFrom (by omega) (by decide) h13 (s_S_goBy (by omega) (by decide) h15 (And.intro (fun zz => absurd c16 zz) (fun _ => hn))))⟩
            obtain ⟨n, hn⟩ := s_L_walk_104 hRec hd0 hd hK43 (u7 := some (.int z14.1)) (by decide) h hQ
            exact ⟨n + 2, hn⟩
          · rw [if_neg c16] at h
            suffices hh : ∃ n, jx_W jx_ShC d none jc_34 Q n 100 [some (.ref 92), some (.ref 1), some (.int x2), some (.int x3), some (.int x4), some (.ref 94), some (.int x6), some (.int z14.1)] [.int (x3 + z14.1), .int (x2 + 1), .ref 1, .ref 92] z14.2 by
              obtain ⟨n, hn⟩ := hh
              exact ⟨n + 17, And.intro (jx_in_ok c11) (s_P_copyFrom (by omega) (by decide) h13 (s_S_goBy (by omega) (by decide) h15 (And.intro (fun _ => hn) (fun zz => absurd zz c16))))⟩
            obtain ⟨n, hn⟩ := s_L_walk_104 hRec hd0 hd hK43 (u7 := some (.int z14.1)) (by decide) h hQ
            exact ⟨n + 3, hn⟩
    · unfold f_L_walk_67 at h
      cases c11 : jx_in y2 5 with
      | false => rw [c11, cond_false] at h; cases h
      | true =>
        rw [c11, cond_true] at h
        rcases jx_ix5 (jx_in_ok c11) with rfl | rfl | rfl | rfl | rfl
        · try rw [show (94 + 4 * (0 : Int32).toNatClampNeg) = 94 from by decide] at h
          obtain ⟨z12, h13, h⟩ := Option.bind_eq_some_iff.mp h
          obtain ⟨z14, h15, h⟩ := Option.bind_eq_some_iff.mp h
          by_cases c16 : x6 = 0
          · rw [if_pos c16] at h
            suffices hh : ∃ n, jx_W jx_ShC d none jc_34 Q n 95 [some (.ref 92), some (.ref 1), some (.int x2), some (.int x3), some (.int x4), some (.ref 94), some (.int x6), some (.int z14.1)] [.int (x3 + z14.1), .int (x2 + 1), .ref 1, .ref 92] z14.2 by
              obtain ⟨n, hn⟩ := hh
              exact ⟨n + 17, And.intro (jx_in_ok c11) (s_P_copyFrom (by omega) (by decide) h13 (s_S_goBy (by omega) (by decide) h15 (And.intro (fun zz => absurd c16 zz) (fun _ => hn))))⟩
            obtain ⟨n, hn⟩ := s_L_walk_104 hRec hd0 hd hK43 (u7 := some (.int z14.1)) (by decide) h hQ
            exact ⟨n + 2, hn⟩
          · rw [if_neg c16] at h
            suffices hh : ∃ n, jx_W jx_ShC d none jc_34 Q n 100 [some (.ref 92), some (.ref 1), some (.int x2), some (.int x3), some (.int x4), some (.ref 94), some (.int x6), some (.int z14.1)] [.int (x3 + z14.1), .int (x2 + 1), .ref 1, .ref 92] z14.2 by
              obtain ⟨n, hn⟩ := hh
              exact ⟨n + 17, And.intro (jx_in_ok c11) (s_P_copyFrom (by omega) (by decide) h13 (s_S_goBy (by omega) (by decide) h15 (And.intro (fun _ => hn) (fun zz => absurd zz c16))))⟩
            obtain ⟨n, hn⟩ := s_L_walk_104 hRec hd0 hd hK43 (u7 := some (.int z14.1)) (by decide) h hQ
            exact ⟨n + 3, hn⟩
        · try rw [show (94 + 4 * (1 : Int32).toNatClampNeg) = 98 from by decide] at h
          obtain ⟨z12, h13, h⟩ := Option.bind_eq_some_iff.mp h
          obtain ⟨z14, h15, h⟩ := Option.bind_eq_some_iff.mp h
          by_cases c16 : x6 = 0
          · rw [if_pos c16] at h
            suffices hh : ∃ n, jx_W jx_ShC d none jc_34 Q n 95 [some (.ref 92), some (.ref 1), some (.int x2), some (.int x3), some (.int x4), some (.ref 94), some (.int x6), some (.int z14.1)] [.int (x3 + z14.1), .int (x2 + 1), .ref 1, .ref 92] z14.2 by
              obtain ⟨n, hn⟩ := hh
              exact ⟨n + 17, And.intro (jx_in_ok c11) (s_P_copyFrom (by omega) (by decide) h13 (s_S_goBy (by omega) (by decide) h15 (And.intro (fun zz => absurd c16 zz) (fun _ => hn))))⟩
            obtain ⟨n, hn⟩ := s_L_walk_104 hRec hd0 hd hK43 (u7 := some (.int z14.1)) (by decide) h hQ
            exact ⟨n + 2, hn⟩
          · rw [if_neg c16] at h
            suffices hh : ∃ n, jx_W jx_ShC d none jc_34 Q n 100 [some (.ref 92), some (.ref 1), some (.int x2), some (.int x3), some (.int x4), some (.ref 94), some (.int x6), some (.int z14.1)] [.int (x3 + z14.1), .int (x2 + 1), .ref 1, .ref 92] z14.2 by
              obtain ⟨n, hn⟩ := hh
              exact ⟨n + 17, And.intro (jx_in_ok c11) (s_P_copyFrom (by omega) (by decide) h13 (s_S_goBy (by omega) (by decide) h15 (And.intro (fun _ => hn) (fun zz => absurd zz c16))))⟩
            obtain ⟨n, hn⟩ := s_L_walk_104 hRec hd0 hd hK43 (u7 := some (.int z14.1)) (by decide) h hQ
            exact ⟨n + 3, hn⟩
        · try rw [show (94 + 4 * (2 : Int32).toNatClampNeg) = 102 from by decide] at h
          obtain ⟨z12, h13, h⟩ := Option.bind_eq_some_iff.mp h
          obtain ⟨z14, h15, h⟩ := Option.bind_eq_some_iff.mp h
          by_cases c16 : x6 = 0
          · rw [if_pos c16] at h
            suffices hh : ∃ n, jx_W jx_ShC d none jc_34 Q n 95 [some (.ref 92), some (.ref 1), some (.int x2), some (.int x3), some (.int x4), some (.ref 94), some (.int x6), some (.int z14.1)] [.int (x3 + z14.1), .int (x2 + 1), .ref 1, .ref 92] z14.2 by
              obtain ⟨n, hn⟩ := hh
              exact ⟨n + 17, And.intro (jx_in_ok c11) (s_P_copyFrom (by omega) (by decide) h13 (s_S_goBy (by omega) (by decide) h15 (And.intro (fun zz => absurd c16 zz) (fun _ => hn))))⟩
            obtain ⟨n, hn⟩ := s_L_walk_104 hRec hd0 hd hK43 (u7 := some (.int z14.1)) (by decide) h hQ
            exact ⟨n + 2, hn⟩
          · rw [if_neg c16] at h
            suffices hh : ∃ n, jx_W jx_ShC d none jc_34 Q n 100 [some (.ref 92), some (.ref 1), some (.int x2), some (.int x3), some (.int x4), some (.ref 94), some (.int x6), some (.int z14.1)] [.int (x3 + z14.1), .int (x2 + 1), .ref 1, .ref 92] z14.2 by
              obtain ⟨n, hn⟩ := hh
              exact ⟨n + 17, And.intro (jx_in_ok c11) (s_P_copyFrom (by omega) (by decide) h13 (s_S_goBy (by omega) (by decide) h15 (And.intro (fun _ => hn) (fun zz => absurd zz c16))))⟩
            obtain ⟨n, hn⟩ := s_L_walk_104 hRec hd0 hd hK43 (u7 := some (.int z14.1)) (by decide) h hQ
            exact ⟨n + 3, hn⟩
        · try rw [show (94 + 4 * (3 : Int32).toNatClampNeg) = 106 from by decide] at h
          obtain ⟨z12, h13, h⟩ := Option.bind_eq_some_iff.mp h
          obtain ⟨z14, h15, h⟩ := Option.bind_eq_some_iff.mp h
          by_cases c16 : x6 = 0
          · rw [if_pos c16] at h
            suffices hh : ∃ n, jx_W jx_ShC d none jc_34 Q n 95 [some (.ref 92), some (.ref 1), some (.int x2), some (.int x3), some (.int x4), some (.ref 94), some (.int x6), some (.int z14.1)] [.int (x3 + z14.1), .int (x2 + 1), .ref 1, .ref 92] z14.2 by
              obtain ⟨n, hn⟩ := hh
              exact ⟨n + 17, And.intro (jx_in_ok c11) (s_P_copyFrom (by omega) (by decide) h13 (s_S_goBy (by omega) (by decide) h15 (And.intro (fun zz => absurd c16 zz) (fun _ => hn))))⟩
            obtain ⟨n, hn⟩ := s_L_walk_104 hRec hd0 hd hK43 (u7 := some (.int z14.1)) (by decide) h hQ
            exact ⟨n + 2, hn⟩
          · rw [if_neg c16] at h
            suffices hh : ∃ n, jx_W jx_ShC d none jc_34 Q n 100 [some (.ref 92), some (.ref 1), some (.int x2), some (.int x3), some (.int x4), some (.ref 94), some (.int x6), some (.int z14.1)] [.int (x3 + z14.1), .int (x2 + 1), .ref 1, .ref 92] z14.2 by
              obtain ⟨n, hn⟩ := hh
              exact ⟨n + 17, And.intro (jx_in_ok c11) (s_P_copyFrom (by omega) (by decide) h13 (s_S_goBy (by omega) (by decide) h15 (And.intro (fun _ => hn) (fun zz => absurd zz c16))))⟩
            obtain ⟨n, hn⟩ := s_L_walk_104 hRec hd0 hd hK43 (u7 := some (.int z14.1)) (by decide) h hQ
            exact ⟨n + 3, hn⟩
        · try rw [show (94 + 4 * (4 : Int32).toNatClampNeg) = 110 from by decide] at h
          obtain ⟨z12, h13, h⟩ := Option.bind_eq_some_iff.mp h
          obtain ⟨z14, h15, h⟩ := Option.bind_eq_some_iff.mp h
          by_cases c16 : x6 = 0
          · rw [if_pos c16] at h
            suffices hh : ∃ n, jx_W jx_ShC d none jc_34 Q n 95 [some (.ref 92), some (.ref 1), some (.int x2), some (.int x3), some (.int x4), some (.ref 94), some (.int x6), some (.int z14.1)] [.int (x3 + z14.1), .int (x2 + 1), .ref 1, .ref 92] z14.2 by
              obtain ⟨n, hn⟩ := hh
              exact ⟨n + 17, And.intro (jx_in_ok c11) (s_P_copyFrom (by omega) (by decide) h13 (s_S_goBy (by omega) (by decide) h15 (And.intro (fun zz => absurd c16 zz) (fun _ => hn))))⟩
            obtain ⟨n, hn⟩ := s_L_walk_104 hRec hd0 hd hK43 (u7 := some (.int z14.1)) (by decide) h hQ
            exact ⟨n + 2, hn⟩
          · rw [if_neg c16] at h
            suffices hh : ∃ n, jx_W jx_ShC d none jc_34 Q n 100 [some (.ref 92), some (.ref 1), some (.int x2), some (.int x3), some (.int x4), some (.ref 94), some (.int x6), some (.int z14.1)] [.int (x3 + z14.1), .int (x2 + 1), .ref 1, .ref 92] z14.2 by
              obtain ⟨n, hn⟩ := hh
              exact ⟨n + 17, And.intro (jx_in_ok c11) (s_P_copyFrom (by omega) (by decide) h13 (s_S_goBy (by omega) (by decide) h15 (And.intro (fun _ => hn) (fun zz => absurd zz c16))))⟩
            obtain ⟨n, hn⟩ := s_L_walk_104 hRec hd0 hd hK43 (u7 := some (.int z14.1)) (by decide) h hQ
            exact ⟨n + 3, hn⟩
    · unfold f_L_walk_67 at h
      cases c11 : jx_in y2 5 with
      | false => rw [c11, cond_false] at h; cases h
      | true =>
        rw [c11, cond_true] at h
        rcases jx_ix5 (jx_in_ok c11) with rfl | rfl | rfl | rfl | rfl
        · try rw [show (94 + 4 * (0 : Int32).toNatClampNeg) = 94 from by decide] at h
          obtain ⟨z12, h13, h⟩ := Option.bind_eq_some_iff.mp h
          obtain ⟨z14, h15, h⟩ := Option.bind_eq_some_iff.mp h
          by_cases c16 : x6 = 0
          · rw [if_pos c16] at h
            suffices hh : ∃ n, jx_W jx_ShC d none jc_34 Q n 95 [some (.ref 92), some (.ref 1), some (.int x2), some (.int x3), some (.int x4), some (.ref 94), some (.int x6), some (.int z14.1)] [.int (x3 + z14.1), .int (x2 + 1), .ref 1, .ref 92] z14.2 by
              obtain ⟨n, hn⟩ := hh
              exact ⟨n + 17, And.intro (jx_in_ok c11) (s_P_copyFrom (by omega) (by decide) h13 (s_S_goBy (by omega) (by decide) h15 (And.intro (fun zz => absurd c16 zz) (fun _ => hn))))⟩
            obtain ⟨n, hn⟩ := s_L_walk_104 hRec hd0 hd hK43 (u7 := some (.int z14.1)) (by decide) h hQ
            exact ⟨n + 2, hn⟩
          · rw [if_neg c16] at h
            suffices hh : ∃ n, jx_W jx_ShC d none jc_34 Q n 100 [some (.ref 92), some (.ref 1), some (.int x2), some (.int x3), some (.int x4), some (.ref 94), some (.int x6), some (.int z14.1)] [.int (x3 + z14.1), .int (x2 + 1), .ref 1, .ref 92] z14.2 by
              obtain ⟨n, hn⟩ := hh
              exact ⟨n + 17, And.intro (jx_in_ok c11) (s_P_copyFrom (by omega) (by decide) h13 (s_S_goBy (by omega) (by decide) h15 (And.intro (fun _ => hn) (fun zz => absurd zz c16))))⟩
            obtain ⟨n, hn⟩ := s_L_walk_104 hRec hd0 hd hK43 (u7 := some (.int z14.1)) (by decide) h hQ
            exact ⟨n + 3, hn⟩
        · try rw [show (94 + 4 * (1 : Int32).toNatClampNeg) = 98 from by decide] at h
          obtain ⟨z12, h13, h⟩ := Option.bind_eq_some_iff.mp h
          obtain ⟨z14, h15, h⟩ := Option.bind_eq_some_iff.mp h
          by_cases c16 : x6 = 0
          · rw [if_pos c16] at h
            suffices hh : ∃ n, jx_W jx_ShC d none jc_34 Q n 95 [some (.ref 92), some (.ref 1), some (.int x2), some (.int x3), some (.int x4), some (.ref 94), some (.int x6), some (.int z14.1)] [.int (x3 + z14.1), .int (x2 + 1), .ref 1, .ref 92] z14.2 by
              obtain ⟨n, hn⟩ := hh
              exact ⟨n + 17, And.intro (jx_in_ok c11) (s_P_copyFrom (by omega) (by decide) h13 (s_S_goBy (by omega) (by decide) h15 (And.intro (fun zz => absurd c16 zz) (fun _ => hn))))⟩
            obtain ⟨n, hn⟩ := s_L_walk_104 hRec hd0 hd hK43 (u7 := some (.int z14.1)) (by decide) h hQ
            exact ⟨n + 2, hn⟩
          · rw [if_neg c16] at h
            suffices hh : ∃ n, jx_W jx_ShC d none jc_34 Q n 100 [some (.ref 92), some (.ref 1), some (.int x2), some (.int x3), some (.int x4), some (.ref 94), some (.int x6), some (.int z14.1)] [.int (x3 + z14.1), .int (x2 + 1), .ref 1, .ref 92] z14.2 by
              obtain ⟨n, hn⟩ := hh
              exact ⟨n + 17, And.intro (jx_in_ok c11) (s_P_copyFrom (by omega) (by decide) h13 (s_S_goBy (by omega) (by decide) h15 (And.intro (fun _ => hn) (fun zz => absurd zz c16))))⟩
            obtain ⟨n, hn⟩ := s_L_walk_104 hRec hd0 hd hK43 (u7 := some (.int z14.1)) (by decide) h hQ
            exact ⟨n + 3, hn⟩
        · try rw [show (94 + 4 * (2 : Int32).toNatClampNeg) = 102 from by decide] at h
          obtain ⟨z12, h13, h⟩ := Option.bind_eq_some_iff.mp h
          obtain ⟨z14, h15, h⟩ := Option.bind_eq_some_iff.mp h
          by_cases c16 : x6 = 0
          · rw [if_pos c16] at h
            suffices hh : ∃ n, jx_W jx_ShC d none jc_34 Q n 95 [some (.ref 92), some (.ref 1), some (.int x2), some (.int x3), some (.int x4), some (.ref 94), some (.int x6), some (.int z14.1)] [.int (x3 + z14.1), .int (x2 + 1), .ref 1, .ref 92] z14.2 by
              obtain ⟨n, hn⟩ := hh
              exact ⟨n + 17, And.intro (jx_in_ok c11) (s_P_copyFrom (by omega) (by decide) h13 (s_S_goBy (by omega) (by decide) h15 (And.intro (fun zz => absurd c16 zz) (fun _ => hn))))⟩
            obtain ⟨n, hn⟩ := s_L_walk_104 hRec hd0 hd hK43 (u7 := some (.int z14.1)) (by decide) h hQ
            exact ⟨n + 2, hn⟩
          · rw [if_neg c16] at h
            suffices hh : ∃ n, jx_W jx_ShC d none jc_34 Q n 100 [some (.ref 92), some (.ref 1), some (.int x2), some (.int x3), some (.int x4), some (.ref 94), some (.int x6), some (.int z14.1)] [.int (x3 + z14.1), .int (x2 + 1), .ref 1, .ref 92] z14.2 by
              obtain ⟨n, hn⟩ := hh
              exact ⟨n + 17, And.intro (jx_in_ok c11) (s_P_copyFrom (by omega) (by decide) h13 (s_S_goBy (by omega) (by decide) h15 (And.intro (fun _ => hn) (fun zz => absurd zz c16))))⟩
            obtain ⟨n, hn⟩ := s_L_walk_104 hRec hd0 hd hK43 (u7 := some (.int z14.1)) (by decide) h hQ
            exact ⟨n + 3, hn⟩
        · try rw [show (94 + 4 * (3 : Int32).toNatClampNeg) = 106 from by decide] at h
          obtain ⟨z12, h13, h⟩ := Option.bind_eq_some_iff.mp h
          obtain ⟨z14, h15, h⟩ := Option.bind_eq_some_iff.mp h
          by_cases c16 : x6 = 0
          · rw [if_pos c16] at h
            suffices hh : ∃ n, jx_W jx_ShC d none jc_34 Q n 95 [some (.ref 92), some (.ref 1), some (.int x2), some (.int x3), some (.int x4), some (.ref 94), some (.int x6), some (.int z14.1)] [.int (x3 + z14.1), .int (x2 + 1), .ref 1, .ref 92] z14.2 by
              obtain ⟨n, hn⟩ := hh
              exact ⟨n + 17, And.intro (jx_in_ok c11) (s_P_copyFrom (by omega) (by decide) h13 (s_S_goBy (by omega) (by decide) h15 (And.intro (fun zz => absurd c16 zz) (fun _ => hn))))⟩
            obtain ⟨n, hn⟩ := s_L_walk_104 hRec hd0 hd hK43 (u7 := some (.int z14.1)) (by decide) h hQ
            exact ⟨n + 2, hn⟩
          · rw [if_neg c16] at h
            suffices hh : ∃ n, jx_W jx_ShC d none jc_34 Q n 100 [some (.ref 92), some (.ref 1), some (.int x2), some (.int x3), some (.int x4), some (.ref 94), some (.int x6), some (.int z14.1)] [.int (x3 + z14.1), .int (x2 + 1), .ref 1, .ref 92] z14.2 by
              obtain ⟨n, hn⟩ := hh
              exact ⟨n + 17, And.intro (jx_in_ok c11) (s_P_copyFrom (by omega) (by decide) h13 (s_S_goBy (by omega) (by decide) h15 (And.intro (fun _ => hn) (fun zz => absurd zz c16))))⟩
            obtain ⟨n, hn⟩ := s_L_walk_104 hRec hd0 hd hK43 (u7 := some (.int z14.1)) (by decide) h hQ
            exact ⟨n + 3, hn⟩
        · try rw [show (94 + 4 * (4 : Int32).toNatClampNeg) = 110 from by decide] at h
          obtain ⟨z12, h13, h⟩ := Option.bind_eq_some_iff.mp h
          obtain ⟨z14, h15, h⟩ := Option.bind_eq_some_iff.mp h
          by_cases c16 : x6 = 0
          · rw [if_pos c16] at h
            suffices hh : ∃ n, jx_W jx_ShC d none jc_34 Q n 95 [some (.ref 92), some (.ref 1), some (.int x2), some (.int x3), some (.int x4), some (.ref 94), some (.int x6), some (.int z14.1)] [.int (x3 + z14.1), .int (x2 + 1), .ref 1, .ref 92] z14.2 by
              obtain ⟨n, hn⟩ := hh
              exact ⟨n + 17, And.intro (jx_in_ok c11) (s_P_copyFrom (by omega) (by decide) h13 (s_S_goBy (by omega) (by decide) h15 (And.intro (fun zz => absurd c16 zz) (fun _ => hn))))⟩
            obtain ⟨n, hn⟩ := s_L_walk_104 hRec hd0 hd hK43 (u7 := some (.int z14.1)) (by decide) h hQ
            exact ⟨n + 2, hn⟩
          · rw [if_neg c16] at h
            suffices hh : ∃ n, jx_W jx_ShC d none jc_34 Q n 100 [some (.ref 92), some (.ref 1), some (.int x2), some (.int x3), some (.int x4), some (.ref 94), some (.int x6), some (.int z14.1)] [.int (x3 + z14.1), .int (x2 + 1), .ref 1, .ref 92] z14.2 by
              obtain ⟨n, hn⟩ := hh
              exact ⟨n + 17, And.intro (jx_in_ok c11) (s_P_copyFrom (by omega) (by decide) h13 (s_S_goBy (by omega) (by decide) h15 (And.intro (fun _ => hn) (fun zz => absurd zz c16))))⟩
            obtain ⟨n, hn⟩ := s_L_walk_104 hRec hd0 hd hK43 (u7 := some (.int z14.1)) (by decide) h hQ
            exact ⟨n + 3, hn⟩
    · unfold f_L_walk_67 at h
      cases c11 : jx_in y2 5 with
      | false => rw [c11, cond_false] at h; cases h
      | true =>
        rw [c11, cond_true] at h
        rcases jx_ix5 (jx_in_ok c11) with rfl | rfl | rfl | rfl | rfl
        · try rw [show (94 + 4 * (0 : Int32).toNatClampNeg) = 94 from by decide] at h
          obtain ⟨z12, h13, h⟩ := Option.bind_eq_some_iff.mp h
          obtain ⟨z14, h15, h⟩ := Option.bind_eq_some_iff.mp h
          by_cases c16 : x6 = 0
          · rw [if_pos c16] at h
            suffices hh : ∃ n, jx_W jx_ShC d none jc_34 Q n 95 [some (.ref 92), some (.ref 1), some (.int x2), some (.int x3), some (.int x4), some (.ref 94), some (.int x6), some (.int z14.1)] [.int (x3 + z14.1), .int (x2 + 1), .ref 1, .ref 92] z14.2 by
              obtain ⟨n, hn⟩ := hh
              exact ⟨n + 17, And.intro (jx_in_ok c11) (s_P_copyFrom (by omega) (by decide) h13 (s_S_goBy (by omega) (by decide) h15 (And.intro (fun zz => absurd c16 zz) (fun _ => hn))))⟩
            obtain ⟨n, hn⟩ := s_L_walk_104 hRec hd0 hd hK43 (u7 := some (.int z14.1)) (by decide) h hQ
            exact ⟨n + 2, hn⟩
          · rw [if_neg c16] at h
            suffices hh : ∃ n, jx_W jx_ShC d none jc_34 Q n 100 [some (.ref 92), some (.ref 1), some (.int x2), some (.int x3), some (.int x4), some (.ref 94), some (.int x6), some (.int z14.1)] [.int (x3 + z14.1), .int (x2 + 1), .ref 1, .ref 92] z14.2 by
              obtain ⟨n, hn⟩ := hh
              exact ⟨n + 17, And.intro (jx_in_ok c11) (s_P_copyFrom (by omega) (by decide) h13 (s_S_goBy (by omega) (by decide) h15 (And.intro (fun _ => hn) (fun zz => absurd zz c16))))⟩
            obtain ⟨n, hn⟩ := s_L_walk_104 hRec hd0 hd hK43 (u7 := some (.int z14.1)) (by decide) h hQ
            exact ⟨n + 3, hn⟩
        · try rw [show (94 + 4 * (1 : Int32).toNatClampNeg) = 98 from by decide] at h
          obtain ⟨z12, h13, h⟩ := Option.bind_eq_some_iff.mp h
          obtain ⟨z14, h15, h⟩ := Option.bind_eq_some_iff.mp h
          by_cases c16 : x6 = 0
          · rw [if_pos c16] at h
            suffices hh : ∃ n, jx_W jx_ShC d none jc_34 Q n 95 [some (.ref 92), some (.ref 1), some (.int x2), some (.int x3), some (.int x4), some (.ref 94), some (.int x6), some (.int z14.1)] [.int (x3 + z14.1), .int (x2 + 1), .ref 1, .ref 92] z14.2 by
              obtain ⟨n, hn⟩ := hh
              exact ⟨n + 17, And.intro (jx_in_ok c11) (s_P_copyFrom (by omega) (by decide) h13 (s_S_goBy (by omega) (by decide) h15 (And.intro (fun zz => absurd c16 zz) (fun _ => hn))))⟩
            obtain ⟨n, hn⟩ := s_L_walk_104 hRec hd0 hd hK43 (u7 := some (.int z14.1)) (by decide) h hQ
            exact ⟨n + 2, hn⟩
          · rw [if_neg c16] at h
            suffices hh : ∃ n, jx_W jx_ShC d none jc_34 Q n 100 [some (.ref 92), some (.ref 1), some (.int x2), some (.int x3), some (.int x4), some (.ref 94), some (.int x6), some (.int z14.1)] [.int (x3 + z14.1), .int (x2 + 1), .ref 1, .ref 92] z14.2 by
              obtain ⟨n, hn⟩ := hh
              exact ⟨n + 17, And.intro (jx_in_ok c11) (s_P_copyFrom (by omega) (by decide) h13 (s_S_goBy (by omega) (by decide) h15 (And.intro (fun _ => hn) (fun zz => absurd zz c16))))⟩
            obtain ⟨n, hn⟩ := s_L_walk_104 hRec hd0 hd hK43 (u7 := some (.int z14.1)) (by decide) h hQ
            exact ⟨n + 3, hn⟩
        · try rw [show (94 + 4 * (2 : Int32).toNatClampNeg) = 102 from by decide] at h
          obtain ⟨z12, h13, h⟩ := Option.bind_eq_some_iff.mp h
          obtain ⟨z14, h15, h⟩ := Option.bind_eq_some_iff.mp h
          by_cases c16 : x6 = 0
          · rw [if_pos c16] at h
            suffices hh : ∃ n, jx_W jx_ShC d none jc_34 Q n 95 [some (.ref 92), some (.ref 1), some (.int x2), some (.int x3), some (.int x4), some (.ref 94), some (.int x6), some (.int z14.1)] [.int (x3 + z14.1), .int (x2 + 1), .ref 1, .ref 92] z14.2 by
              obtain ⟨n, hn⟩ := hh
              exact ⟨n + 17, And.intro (jx_in_ok c11) (s_P_copyFrom (by omega) (by decide) h13 (s_S_goBy (by omega) (by decide) h15 (And.intro (fun zz => absurd c16 zz) (fun _ => hn))))⟩
            obtain ⟨n, hn⟩ := s_L_walk_104 hRec hd0 hd hK43 (u7 := some (.int z14.1)) (by decide) h hQ
            exact ⟨n + 2, hn⟩
          · rw [if_neg c16] at h
            suffices hh : ∃ n, jx_W jx_ShC d none jc_34 Q n 100 [some (.ref 92), some (.ref 1), some (.int x2), some (.int x3), some (.int x4), some (.ref 94), some (.int x6), some (.int z14.1)] [.int (x3 + z14.1), .int (x2 + 1), .ref 1, .ref 92] z14.2 by
              obtain ⟨n, hn⟩ := hh
              exact ⟨n + 17, And.intro (jx_in_ok c11) (s_P_copyFrom (by omega) (by decide) h13 (s_S_goBy (by omega) (by decide) h15 (And.intro (fun _ => hn) (fun zz => absurd zz c16))))⟩
            obtain ⟨n, hn⟩ := s_L_walk_104 hRec hd0 hd hK43 (u7 := some (.int z14.1)) (by decide) h hQ
            exact ⟨n + 3, hn⟩
        · try rw [show (94 + 4 * (3 : Int32).toNatClampNeg) = 106 from by decide] at h
          obtain ⟨z12, h13, h⟩ := Option.bind_eq_some_iff.mp h
          obtain ⟨z14, h15, h⟩ := Option.bind_eq_some_iff.mp h
          by_cases c16 : x6 = 0
          · rw [if_pos c16] at h
            suffices hh : ∃ n, jx_W jx_ShC d none jc_34 Q n 95 [some (.ref 92), some (.ref 1), some (.int x2), some (.int x3), some (.int x4), some (.ref 94), some (.int x6), some (.int z14.1)] [.int (x3 + z14.1), .int (x2 + 1), .ref 1, .ref 92] z14.2 by
              obtain ⟨n, hn⟩ := hh
              exact ⟨n + 17, And.intro (jx_in_ok c11) (s_P_copyFrom (by omega) (by decide) h13 (s_S_goBy (by omega) (by decide) h15 (And.intro (fun zz => absurd c16 zz) (fun _ => hn))))⟩
            obtain ⟨n, hn⟩ := s_L_walk_104 hRec hd0 hd hK43 (u7 := some (.int z14.1)) (by decide) h hQ
            exact ⟨n + 2, hn⟩
          · rw [if_neg c16] at h
            suffices hh : ∃ n, jx_W jx_ShC d none jc_34 Q n 100 [some (.ref 92), some (.ref 1), some (.int x2), some (.int x3), some (.int x4), some (.ref 94), some (.int x6), some (.int z14.1)] [.int (x3 + z14.1), .int (x2 + 1), .ref 1, .ref 92] z14.2 by
              obtain ⟨n, hn⟩ := hh
              exact ⟨n + 17, And.intro (jx_in_ok c11) (s_P_copyFrom (by omega) (by decide) h13 (s_S_goBy (by omega) (by decide) h15 (And.intro (fun _ => hn) (fun zz => absurd zz c16))))⟩
            obtain ⟨n, hn⟩ := s_L_walk_104 hRec hd0 hd hK43 (u7 := some (.int z14.1)) (by decide) h hQ
            exact ⟨n + 3, hn⟩
        · try rw [show (94 + 4 * (4 : Int32).toNatClampNeg) = 110 from by decide] at h
          obtain ⟨z12, h13, h⟩ := Option.bind_eq_some_iff.mp h
          obtain ⟨z14, h15, h⟩ := Option.bind_eq_some_iff.mp h
          by_cases c16 : x6 = 0
          · rw [if_pos c16] at h
            suffices hh : ∃ n, jx_W jx_ShC d none jc_34 Q n 95 [some (.ref 92), some (.ref 1), some (.int x2), some (.int x3), some (.int x4), some (.ref 94), some (.int x6), some (.int z14.1)] [.int (x3 + z14.1), .int (x2 + 1), .ref 1, .ref 92] z14.2 by
              obtain ⟨n, hn⟩ := hh
              exact ⟨n + 17, And.intro (jx_in_ok c11) (s_P_copyFrom (by omega) (by decide) h13 (s_S_goBy (by omega) (by decide) h15 (And.intro (fun zz => absurd c16 zz) (fun _ => hn))))⟩
            obtain ⟨n, hn⟩ := s_L_walk_104 hRec hd0 hd hK43 (u7 := some (.int z14.1)) (by decide) h hQ
            exact ⟨n + 2, hn⟩
          · rw [if_neg c16] at h
            suffices hh : ∃ n, jx_W jx_ShC d none jc_34 Q n 100 [some (.ref 92), some (.ref 1), some (.int x2), some (.int x3), some (.int x4), some (.ref 94), some (.int x6), some (.int z14.1)] [.int (x3 + z14.1), .int (x2 + 1), .ref 1, .ref 92] z14.2 by
              obtain ⟨n, hn⟩ := hh
              exact ⟨n + 17, And.intro (jx_in_ok c11) (s_P_copyFrom (by omega) (by decide) h13 (s_S_goBy (by omega) (by decide) h15 (And.intro (fun _ => hn) (fun zz => absurd zz c16))))⟩
            obtain ⟨n, hn⟩ := s_L_walk_104 hRec hd0 hd hK43 (u7 := some (.int z14.1)) (by decide) h hQ
            exact ⟨n + 3, hn⟩
  · rcases hr_0 with rfl | rfl | rfl | rfl | rfl
    · unfold f_L_walk_67 at h
      cases c11 : jx_in y2 5 with
      | false => rw [c11, cond_false] at h; cases h
      | true =>
        rw [c11, cond_true] at h
        rcases jx_ix5 (jx_in_ok c11) with rfl | rfl | rfl | rfl | rfl
        · try rw [show (94 + 4 * (0 : Int32).toNatClampNeg) = 94 from by decide] at h
          obtain ⟨z12, h13, h⟩ := Option.bind_eq_some_iff.mp h
          obtain ⟨z14, h15, h⟩ := Option.bind_eq_some_iff.mp h
          by_cases c16 : x6 = 0
          · rw [if_pos c16] at h
            suffices hh : ∃ n, jx_W jx_ShC d none jc_34 Q n 95 [some (.ref 92), some (.ref 1), some (.int x2), some (.int x3), some (.int x4), some (.ref 98), some (.int x6), some (.int z14.1)] [.int (x3 + z14.1), .int (x2 + 1), .ref 1, .ref 92] z14.2 by
              obtain ⟨n, hn⟩ := hh
              exact ⟨n + 17, And.intro (jx_in_ok c11) (s_P_copyFrom (by omega) (by decide) h13 (s_S_goBy (by omega) (by decide) h15 (And.intro (fun zz => absurd c16 zz) (fun _ => hn))))⟩
            obtain ⟨n, hn⟩ := s_L_walk_104 hRec hd0 hd hK43 (u7 := some (.int z14.1)) (by decide) h hQ
            exact ⟨n + 2, hn⟩
          · rw [if_neg c16] at h
            suffices hh : ∃ n, jx_W jx_ShC d none jc_34 Q n 100 [some (.ref 92), some (.ref 1), some (.int x2), some (.int x3), some (.int x4), some (.ref 98), some (.int x6), some (.int z14.1)] [.int (x3 + z14.1), .int (x2 + 1), .ref 1, .ref 92] z14.2 by
              obtain ⟨n, hn⟩ := hh
              exact ⟨n + 17, And.intro (jx_in_ok c11) (s_P_copyFrom (by omega) (by decide) h13 (s_S_goBy (by omega) (by decide) h15 (And.intro (fun _ => hn) (fun zz => absurd zz c16))))⟩
            obtain ⟨n, hn⟩ := s_L_walk_104 hRec hd0 hd hK43 (u7 := some (.int z14.1)) (by decide) h hQ
            exact ⟨n + 3, hn⟩
        · try rw [show (94 + 4 * (1 : Int32).toNatClampNeg) = 98 from by decide] at h
          obtain ⟨z12, h13, h⟩ := Option.bind_eq_some_iff.mp h
          obtain ⟨z14, h15, h⟩ := Option.bind_eq_some_iff.mp h
          by_cases c16 : x6 = 0
          · rw [if_pos c16] at h
            suffices hh : ∃ n, jx_W jx_ShC d none jc_34 Q n 95 [some (.ref 92), some (.ref 1), some (.int x2), some (.int x3), some (.int x4), some (.ref 98), some (.int x6), some (.int z14.1)] [.int (x3 + z14.1), .int (x2 + 1), .ref 1, .ref 92] z14.2 by
              obtain ⟨n, hn⟩ := hh
              exact ⟨n + 17, And.intro (jx_in_ok c11) (s_P_copyFrom (by omega) (by decide) h13 (s_S_goBy (by omega) (by decide) h15 (And.intro (fun zz => absurd c16 zz) (fun _ => hn))))⟩
            obtain ⟨n, hn⟩ := s_L_walk_104 hRec hd0 hd hK43 (u7 := some (.int z14.1)) (by decide) h hQ
            exact ⟨n + 2, hn⟩
          · rw [if_neg c16] at h
            suffices hh : ∃ n, jx_W jx_ShC d none jc_34 Q n 100 [some (.ref 92), some (.ref 1), some (.int x2), some (.int x3), some (.int x4), some (.ref 98), some (.int x6), some (.int z14.1)] [.int (x3 + z14.1), .int (x2 + 1), .ref 1, .ref 92] z14.2 by
              obtain ⟨n, hn⟩ := hh
              exact ⟨n + 17, And.intro (jx_in_ok c11) (s_P_copyFrom (by omega) (by decide) h13 (s_S_goBy (by omega) (by decide) h15 (And.intro (fun _ => hn) (fun zz => absurd zz c16))))⟩
            obtain ⟨n, hn⟩ := s_L_walk_104 hRec hd0 hd hK43 (u7 := some (.int z14.1)) (by decide) h hQ
            exact ⟨n + 3, hn⟩
        · try rw [show (94 + 4 * (2 : Int32).toNatClampNeg) = 102 from by decide] at h
          obtain ⟨z12, h13, h⟩ := Option.bind_eq_some_iff.mp h
          obtain ⟨z14, h15, h⟩ := Option.bind_eq_some_iff.mp h
          by_cases c16 : x6 = 0
          · rw [if_pos c16] at h
            suffices hh : ∃ n, jx_W jx_ShC d none jc_34 Q n 95 [some (.ref 92), some (.ref 1), some (.int x2), some (.int x3), some (.int x4), some (.ref 98), some (.int x6), some (.int z14.1)] [.int (x3 + z14.1), .int (x2 + 1), .ref 1, .ref 92] z14.2 by
              obtain ⟨n, hn⟩ := hh
              exact ⟨n + 17, And.intro (jx_in_ok c11) (s_P_copyFrom (by omega) (by decide) h13 (s_S_goBy (by omega) (by decide) h15 (And.intro (fun zz => absurd c16 zz) (fun _ => hn))))⟩
            obtain ⟨n, hn⟩ := s_L_walk_104 hRec hd0 hd hK43 (u7 := some (.int z14.1)) (by decide) h hQ
            exact ⟨n + 2, hn⟩
          · rw [if_neg c16] at h
            suffices hh : ∃ n, jx_W jx_ShC d none jc_34 Q n 100 [some (.ref 92), some (.ref 1), some (.int x2), some (.int x3), some (.int x4), some (.ref 98), some (.int x6), some (.int z14.1)] [.int (x3 + z14.1), .int (x2 + 1), .ref 1, .ref 92] z14.2 by
              obtain ⟨n, hn⟩ := hh
              exact ⟨n + 17, And.intro (jx_in_ok c11) (s_P_copyFrom (by omega) (by decide) h13 (s_S_goBy (by omega) (by decide) h15 (And.intro (fun _ => hn) (fun zz => absurd zz c16))))⟩
            obtain ⟨n, hn⟩ := s_L_walk_104 hRec hd0 hd hK43 (u7 := some (.int z14.1)) (by decide) h hQ
            exact ⟨n + 3, hn⟩
        · try rw [show (94 + 4 * (3 : Int32).toNatClampNeg) = 106 from by decide] at h
          obtain ⟨z12, h13, h⟩ := Option.bind_eq_some_iff.mp h
          obtain ⟨z14, h15, h⟩ := Option.bind_eq_some_iff.mp h
          by_cases c16 : x6 = 0
          · rw [if_pos c16] at h
            suffices hh : ∃ n, jx_W jx_ShC d none jc_34 Q n 95 [some (.ref 92), some (.ref 1), some (.int x2), some (.int x3), some (.int x4), some (.ref 98), some (.int x6), some (.int z14.1)] [.int (x3 + z14.1), .int (x2 + 1), .ref 1, .ref 92] z14.2 by
              obtain ⟨n, hn⟩ := hh
              exact ⟨n + 17, And.intro (jx_in_ok c11) (s_P_copyFrom (by omega) (by decide) h13 (s_S_goBy (by omega) (by decide) h15 (And.intro (fun zz => absurd c16 zz) (fun _ => hn))))⟩
            obtain ⟨n, hn⟩ := s_L_walk_104 hRec hd0 hd hK43 (u7 := some (.int z14.1)) (by decide) h hQ
            exact ⟨n + 2, hn⟩
          · rw [if_neg c16] at h
            suffices hh : ∃ n, jx_W jx_ShC d none jc_34 Q n 100 [some (.ref 92), some (.ref 1), some (.int x2), some (.int x3), some (.int x4), some (.ref 98), some (.int x6), some (.int z14.1)] [.int (x3 + z14.1), .int (x2 + 1), .ref 1, .ref 92] z14.2 by
              obtain ⟨n, hn⟩ := hh
              exact ⟨n + 17, And.intro (jx_in_ok c11) (s_P_copyFrom (by omega) (by decide) h13 (s_S_goBy (by omega) (by decide) h15 (And.intro (fun _ => hn) (fun zz => absurd zz c16))))⟩
            obtain ⟨n, hn⟩ := s_L_walk_104 hRec hd0 hd hK43 (u7 := some (.int z14.1)) (by decide) h hQ
            exact ⟨n + 3, hn⟩
        · try rw [show (94 + 4 * (4 : Int32).toNatClampNeg) = 110 from by decide] at h
          obtain ⟨z12, h13, h⟩ := Option.bind_eq_some_iff.mp h
          obtain ⟨z14, h15, h⟩ := Option.bind_eq_some_iff.mp h
          by_cases c16 : x6 = 0
          · rw [if_pos c16] at h
            suffices hh : ∃ n, jx_W jx_ShC d none jc_34 Q n 95 [some (.ref 92), some (.ref 1), some (.int x2), some (.int x3), some (.int x4), some (.ref 98), some (.int x6), some (.int z14.1)] [.int (x3 + z14.1), .int (x2 + 1), .ref 1, .ref 92] z14.2 by
              obtain ⟨n, hn⟩ := hh
              exact ⟨n + 17, And.intro (jx_in_ok c11) (s_P_copyFrom (by omega) (by decide) h13 (s_S_goBy (by omega) (by decide) h15 (And.intro (fun zz => absurd c16 zz) (fun _ => hn))))⟩
            obtain ⟨n, hn⟩ := s_L_walk_104 hRec hd0 hd hK43 (u7 := some (.int z14.1)) (by decide) h hQ
            exact ⟨n + 2, hn⟩
          · rw [if_neg c16] at h
            suffices hh : ∃ n, jx_W jx_ShC d none jc_34 Q n 100 [some (.ref 92), some (.ref 1), some (.int x2), some (.int x3), some (.int x4), some (.ref 98), some (.int x6), some (.int z14.1)] [.int (x3 + z14.1), .int (x2 + 1), .ref 1, .ref 92] z14.2 by
              obtain ⟨n, hn⟩ := hh
              exact ⟨n + 17, And.intro (jx_in_ok c11) (s_P_copyFrom (by omega) (by decide) h13 (s_S_goBy (by omega) (by decide) h15 (And.intro (fun _ => hn) (fun zz => absurd zz c16))))⟩
            obtain ⟨n, hn⟩ := s_L_walk_104 hRec hd0 hd hK43 (u7 := some (.int z14.1)) (by decide) h hQ
            exact ⟨n + 3, hn⟩
    · unfold f_L_walk_67 at h
      cases c11 : jx_in y2 5 with
      | false => rw [c11, cond_false] at h; cases h
      | true =>
        rw [c11, cond_true] at h
        rcases jx_ix5 (jx_in_ok c11) with rfl | rfl | rfl | rfl | rfl
        · try rw [show (94 + 4 * (0 : Int32).toNatClampNeg) = 94 from by decide] at h
          obtain ⟨z12, h13, h⟩ := Option.bind_eq_some_iff.mp h
          obtain ⟨z14, h15, h⟩ := Option.bind_eq_some_iff.mp h
          by_cases c16 : x6 = 0
          · rw [if_pos c16] at h
            suffices hh : ∃ n, jx_W jx_ShC d none jc_34 Q n 95 [some (.ref 92), some (.ref 1), some (.int x2), some (.int x3), some (.int x4), some (.ref 98), some (.int x6), some (.int z14.1)] [.int (x3 + z14.1), .int (x2 + 1), .ref 1, .ref 92] z14.2 by
              obtain ⟨n, hn⟩ := hh
              exact ⟨n + 17, And.intro (jx_in_ok c11) (s_P_copyFrom (by omega) (by decide) h13 (s_S_goBy (by omega) (by decide) h15 (And.intro (fun zz => absurd c16 zz) (fun _ => hn))))⟩
            obtain ⟨n, hn⟩ := s_L_walk_104 hRec hd0 hd hK43 (u7 := some (.int z14.1)) (by decide) h hQ
            exact ⟨n + 2, hn⟩
          · rw [if_neg c16] at h
            suffices hh : ∃ n, jx_W jx_ShC d none jc_34 Q n 100 [some (.ref 92), some (.ref 1), some (.int x2), some (.int x3), some (.int x4), some (.ref 98), some (.int x6), some (.int z14.1)] [.int (x3 + z14.1), .int (x2 + 1), .ref 1, .ref 92] z14.2 by
              obtain ⟨n, hn⟩ := hh
              exact ⟨n + 17, And.intro (jx_in_ok c11) (s_P_copyFrom (by omega) (by decide) h13 (s_S_goBy (by omega) (by decide) h15 (And.intro (fun _ => hn) (fun zz => absurd zz c16))))⟩
            obtain ⟨n, hn⟩ := s_L_walk_104 hRec hd0 hd hK43 (u7 := some (.int z14.1)) (by decide) h hQ
            exact ⟨n + 3, hn⟩
        · try rw [show (94 + 4 * (1 : Int32).toNatClampNeg) = 98 from by decide] at h
          obtain ⟨z12, h13, h⟩ := Option.bind_eq_some_iff.mp h
          obtain ⟨z14, h15, h⟩ := Option.bind_eq_some_iff.mp h
          by_cases c16 : x6 = 0
          · rw [if_pos c16] at h
            suffices hh : ∃ n, jx_W jx_ShC d none jc_34 Q n 95 [some (.ref 92), some (.ref 1), some (.int x2), some (.int x3), some (.int x4), some (.ref 98), some (.int x6), some (.int z14.1)] [.int (x3 + z14.1), .int (x2 + 1), .ref 1, .ref 92] z14.2 by
              obtain ⟨n, hn⟩ := hh
              exact ⟨n + 17, And.intro (jx_in_ok c11) (s_P_copyFrom (by omega) (by decide) h13 (s_S_goBy (by omega) (by decide) h15 (And.intro (fun zz => absurd c16 zz) (fun _ => hn))))⟩
            obtain ⟨n, hn⟩ := s_L_walk_104 hRec hd0 hd hK43 (u7 := some (.int z14.1)) (by decide) h hQ
            exact ⟨n + 2, hn⟩
          · rw [if_neg c16] at h
            suffices hh : ∃ n, jx_W jx_ShC d none jc_34 Q n 100 [some (.ref 92), some (.ref 1), some (.int x2), some (.int x3), some (.int x4), some (.ref 98), some (.int x6), some (.int z14.1)] [.int (x3 + z14.1), .int (x2 + 1), .ref 1, .ref 92] z14.2 by
              obtain ⟨n, hn⟩ := hh
              exact ⟨n + 17, And.intro (jx_in_ok c11) (s_P_copyFrom (by omega) (by decide) h13 (s_S_goBy (by omega) (by decide) h15 (And.intro (fun _ => hn) (fun zz => absurd zz c16))))⟩
            obtain ⟨n, hn⟩ := s_L_walk_104 hRec hd0 hd hK43 (u7 := some (.int z14.1)) (by decide) h hQ
            exact ⟨n + 3, hn⟩
        · try rw [show (94 + 4 * (2 : Int32).toNatClampNeg) = 102 from by decide] at h
          obtain ⟨z12, h13, h⟩ := Option.bind_eq_some_iff.mp h
          obtain ⟨z14, h15, h⟩ := Option.bind_eq_some_iff.mp h
          by_cases c16 : x6 = 0
          · rw [if_pos c16] at h
            suffices hh : ∃ n, jx_W jx_ShC d none jc_34 Q n 95 [some (.ref 92), some (.ref 1), some (.int x2), some (.int x3), some (.int x4), some (.ref 98), some (.int x6), some (.int z14.1)] [.int (x3 + z14.1), .int (x2 + 1), .ref 1, .ref 92] z14.2 by
              obtain ⟨n, hn⟩ := hh
              exact ⟨n + 17, And.intro (jx_in_ok c11) (s_P_copyFrom (by omega) (by decide) h13 (s_S_goBy (by omega) (by decide) h15 (And.intro (fun zz => absurd c16 zz) (fun _ => hn))))⟩
            obtain ⟨n, hn⟩ := s_L_walk_104 hRec hd0 hd hK43 (u7 := some (.int z14.1)) (by decide) h hQ
            exact ⟨n + 2, hn⟩
          · rw [if_neg c16] at h
            suffices hh : ∃ n, jx_W jx_ShC d none jc_34 Q n 100 [some (.ref 92), some (.ref 1), some (.int x2), some (.int x3), some (.int x4), some (.ref 98), some (.int x6), some (.int z14.1)] [.int (x3 + z14.1), .int (x2 + 1), .ref 1, .ref 92] z14.2 by
              obtain ⟨n, hn⟩ := hh
              exact ⟨n + 17, And.intro (jx_in_ok c11) (s_P_copyFrom (by omega) (by decide) h13 (s_S_goBy (by omega) (by decide) h15 (And.intro (fun _ => hn) (fun zz => absurd zz c16))))⟩
            obtain ⟨n, hn⟩ := s_L_walk_104 hRec hd0 hd hK43 (u7 := some (.int z14.1)) (by decide) h hQ
            exact ⟨n + 3, hn⟩
        · try rw [show (94 + 4 * (3 : Int32).toNatClampNeg) = 106 from by decide] at h
          obtain ⟨z12, h13, h⟩ := Option.bind_eq_some_iff.mp h
          obtain ⟨z14, h15, h⟩ := Option.bind_eq_some_iff.mp h
          by_cases c16 : x6 = 0
          · rw [if_pos c16] at h
            suffices hh : ∃ n, jx_W jx_ShC d none jc_34 Q n 95 [some (.ref 92), some (.ref 1), some (.int x2), some (.int x3), some (.int x4), some (.ref 98), some (.int x6), some (.int z14.1)] [.int (x3 + z14.1), .int (x2 + 1), .ref 1, .ref 92] z14.2 by
              obtain ⟨n, hn⟩ := hh
              exact ⟨n + 17, And.intro (jx_in_ok c11) (s_P_copyFrom (by omega) (by decide) h13 (s_S_goBy (by omega) (by decide) h15 (And.intro (fun zz => absurd c16 zz) (fun _ => hn))))⟩
            obtain ⟨n, hn⟩ := s_L_walk_104 hRec hd0 hd hK43 (u7 := some (.int z14.1)) (by decide) h hQ
            exact ⟨n + 2, hn⟩
          · rw [if_neg c16] at h
            suffices hh : ∃ n, jx_W jx_ShC d none jc_34 Q n 100 [some (.ref 92), some (.ref 1), some (.int x2), some (.int x3), some (.int x4), some (.ref 98), some (.int x6), some (.int z14.1)] [.int (x3 + z14.1), .int (x2 + 1), .ref 1, .ref 92] z14.2 by
              obtain ⟨n, hn⟩ := hh
              exact ⟨n + 17, And.intro (jx_in_ok c11) (s_P_copyFrom (by omega) (by decide) h13 (s_S_goBy (by omega) (by decide) h15 (And.intro (fun _ => hn) (fun zz => absurd zz c16))))⟩
            obtain ⟨n, hn⟩ := s_L_walk_104 hRec hd0 hd hK43 (u7 := some (.int z14.1)) (by decide) h hQ
            exact ⟨n + 3, hn⟩
        · try rw [show (94 + 4 * (4 : Int32).toNatClampNeg) = 110 from by decide] at h
          obtain ⟨z12, h13, h⟩ := Option.bind_eq_some_iff.mp h
          obtain ⟨z14, h15, h⟩ := Option.bind_eq_some_iff.mp h
          by_cases c16 : x6 = 0
          · rw [if_pos c16] at h
            suffices hh : ∃ n, jx_W jx_ShC d none jc_34 Q n 95 [some (.ref 92), some (.ref 1), some (.int x2), some (.int x3), some (.int x4), some (.ref 98), some (.int x6), some (.int z14.1)] [.int (x3 + z14.1), .int (x2 + 1), .ref 1, .ref 92] z14.2 by
              obtain ⟨n, hn⟩ := hh
              exact ⟨n + 17, And.intro (jx_in_ok c11) (s_P_copyFrom (by omega) (by decide) h13 (s_S_goBy (by omega) (by decide) h15 (And.intro (fun zz => absurd c16 zz) (fun _ => hn))))⟩
            obtain ⟨n, hn⟩ := s_L_walk_104 hRec hd0 hd hK43 (u7 := some (.int z14.1)) (by decide) h hQ
            exact ⟨n + 2, hn⟩
          · rw [if_neg c16] at h
            suffices hh : ∃ n, jx_W jx_ShC d none jc_34 Q n 100 [some (.ref 92), some (.ref 1), some (.int x2), some (.int x3), some (.int x4), some (.ref 98), some (.int x6), some (.int z14.1)] [.int (x3 + z14.1), .int (x2 + 1), .ref 1, .ref 92] z14.2 by
              obtain ⟨n, hn⟩ := hh
              exact ⟨n + 17, And.intro (jx_in_ok c11) (s_P_copyFrom (by omega) (by decide) h13 (s_S_goBy (by omega) (by decide) h15 (And.intro (fun _ => hn) (fun zz => absurd zz c16))))⟩
            obtain ⟨n, hn⟩ := s_L_walk_104 hRec hd0 hd hK43 (u7 := some (.int z14.1)) (by decide) h hQ
            exact ⟨n + 3, hn⟩
    · unfold f_L_walk_67 at h
      cases c11 : jx_in y2 5 with
      | false => rw [c11, cond_false] at h; cases h
      | true =>
        rw [c11, cond_true] at h
        rcases jx_ix5 (jx_in_ok c11) with rfl | rfl | rfl | rfl | rfl
        · try rw [show (94 + 4 * (0 : Int32).toNatClampNeg) = 94 from by decide] at h
          obtain ⟨z12, h13, h⟩ := Option.bind_eq_some_iff.mp h
          obtain ⟨z14, h15, h⟩ := Option.bind_eq_some_iff.mp h
          by_cases c16 : x6 = 0
          · rw [if_pos c16] at h
            suffices hh : ∃ n, jx_W jx_ShC d none jc_34 Q n 95 [some (.ref 92), some (.ref 1), some (.int x2), some (.int x3), some (.int x4), some (.ref 98), some (.int x6), some (.int z14.1)] [.int (x3 + z14.1), .int (x2 + 1), .ref 1, .ref 92] z14.2 by
              obtain ⟨n, hn⟩ := hh
              exact ⟨n + 17, And.intro (jx_in_ok c11) (s_P_copyFrom (by omega) (by decide) h13 (s_S_goBy (by omega) (by decide) h15 (And.intro (fun zz => absurd c16 zz) (fun _ => hn))))⟩
            obtain ⟨n, hn⟩ := s_L_walk_104 hRec hd0 hd hK43 (u7 := some (.int z14.1)) (by decide) h hQ
            exact ⟨n + 2, hn⟩
          · rw [if_neg c16] at h
            suffices hh : ∃ n, jx_W jx_ShC d none jc_34 Q n 100 [some (.ref 92), some (.ref 1), some (.int x2), some (.int x3), some (.int x4), some (.ref 98), some (.int x6), some (.int z14.1)] [.int (x3 + z14.1), .int (x2 + 1), .ref 1, .ref 92] z14.2 by
              obtain ⟨n, hn⟩ := hh
              exact ⟨n + 17, And.intro (jx_in_ok c11) (s_P_copyFrom (by omega) (by decide) h13 (s_S_goBy (by omega) (by decide) h15 (And.intro (fun _ => hn) (fun zz => absurd zz c16))))⟩
            obtain ⟨n, hn⟩ := s_L_walk_104 hRec hd0 hd hK43 (u7 := some (.int z14.1)) (by decide) h hQ
            exact ⟨n + 3, hn⟩
        · try rw [show (94 + 4 * (1 : Int32).toNatClampNeg) = 98 from by decide] at h
          obtain ⟨z12, h13, h⟩ := Option.bind_eq_some_iff.mp h
          obtain ⟨z14, h15, h⟩ := Option.bind_eq_some_iff.mp h
          by_cases c16 : x6 = 0
          · rw [if_pos c16] at h
            suffices hh : ∃ n, jx_W jx_ShC d none jc_34 Q n 95 [some (.ref 92), some (.ref 1), some (.int x2), some (.int x3), some (.int x4), some (.ref 98), some (.int x6), some (.int z14.1)] [.int (x3 + z14.1), .int (x2 + 1), .ref 1, .ref 92] z14.2 by
              obtain ⟨n, hn⟩ := hh
              exact ⟨n + 17, And.intro (jx_in_ok c11) (s_P_copyFrom (by omega) (by decide) h13 (s_S_goBy (by omega) (by decide) h15 (And.intro (fun zz => absurd c16 zz) (fun _ => hn))))⟩
            obtain ⟨n, hn⟩ := s_L_walk_104 hRec hd0 hd hK43 (u7 := some (.int z14.1)) (by decide) h hQ
            exact ⟨n + 2, hn⟩
          · rw [if_neg c16] at h
            suffices hh : ∃ n, jx_W jx_ShC d none jc_34 Q n 100 [some (.ref 92), some (.ref 1), some (.int x2), some (.int x3), some (.int x4), some (.ref 98), some (.int x6), some (.int z14.1)] [.int (x3 + z14.1), .int (x2 + 1), .ref 1, .ref 92] z14.2 by
              obtain ⟨n, hn⟩ := hh
              exact ⟨n + 17, And.intro (jx_in_ok c11) (s_P_copyFrom (by omega) (by decide) h13 (s_S_goBy (by omega) (by decide) h15 (And.intro (fun _ => hn) (fun zz => absurd zz c16))))⟩
            obtain ⟨n, hn⟩ := s_L_walk_104 hRec hd0 hd hK43 (u7 := some (.int z14.1)) (by decide) h hQ
            exact ⟨n + 3, hn⟩
        · try rw [show (94 + 4 * (2 : Int32).toNatClampNeg) = 102 from by decide] at h
          obtain ⟨z12, h13, h⟩ := Option.bind_eq_some_iff.mp h
          obtain ⟨z14, h15, h⟩ := Option.bind_eq_some_iff.mp h
          by_cases c16 : x6 = 0
          · rw [if_pos c16] at h
            suffices hh : ∃ n, jx_W jx_ShC d none jc_34 Q n 95 [some (.ref 92), some (.ref 1), some (.int x2), some (.int x3), some (.int x4), some (.ref 98), some (.int x6), some (.int z14.1)] [.int (x3 + z14.1), .int (x2 + 1), .ref 1, .ref 92] z14.2 by
              obtain ⟨n, hn⟩ := hh
              exact ⟨n + 17, And.intro (jx_in_ok c11) (s_P_copyFrom (by omega) (by decide) h13 (s_S_goBy (by omega) (by decide) h15 (And.intro (fun zz => absurd c16 zz) (fun _ => hn))))⟩
            obtain ⟨n, hn⟩ := s_L_walk_104 hRec hd0 hd hK43 (u7 := some (.int z14.1)) (by decide) h hQ
            exact ⟨n + 2, hn⟩
          · rw [if_neg c16] at h
            suffices hh : ∃ n, jx_W jx_ShC d none jc_34 Q n 100 [some (.ref 92), some (.ref 1), some (.int x2), some (.int x3), some (.int x4), some (.ref 98), some (.int x6), some (.int z14.1)] [.int (x3 + z14.1), .int (x2 + 1), .ref 1, .ref 92] z14.2 by
              obtain ⟨n, hn⟩ := hh
              exact ⟨n + 17, And.intro (jx_in_ok c11) (s_P_copyFrom (by omega) (by decide) h13 (s_S_goBy (by omega) (by decide) h15 (And.intro (fun _ => hn) (fun zz => absurd zz c16))))⟩
            obtain ⟨n, hn⟩ := s_L_walk_104 hRec hd0 hd hK43 (u7 := some (.int z14.1)) (by decide) h hQ
            exact ⟨n + 3, hn⟩
        · try rw [show (94 + 4 * (3 : Int32).toNatClampNeg) = 106 from by decide] at h
          obtain ⟨z12, h13, h⟩ := Option.bind_eq_some_iff.mp h
          obtain ⟨z14, h15, h⟩ := Option.bind_eq_some_iff.mp h
          by_cases c16 : x6 = 0
          · rw [if_pos c16] at h
            suffices hh : ∃ n, jx_W jx_ShC d none jc_34 Q n 95 [some (.ref 92), some (.ref 1), some (.int x2), some (.int x3), some (.int x4), some (.ref 98), some (.int x6), some (.int z14.1)] [.int (x3 + z14.1), .int (x2 + 1), .ref 1, .ref 92] z14.2 by
              obtain ⟨n, hn⟩ := hh
              exact ⟨n + 17, And.intro (jx_in_ok c11) (s_P_copyFrom (by omega) (by decide) h13 (s_S_goBy (by omega) (by decide) h15 (And.intro (fun zz => absurd c16 zz) (fun _ => hn))))⟩
            obtain ⟨n, hn⟩ := s_L_walk_104 hRec hd0 hd hK43 (u7 := some (.int z14.1)) (by decide) h hQ
            exact ⟨n + 2, hn⟩
          · rw [if_neg c16] at h
            suffices hh : ∃ n, jx_W jx_ShC d none jc_34 Q n 100 [some (.ref 92), some (.ref 1), some (.int x2), some (.int x3), some (.int x4), some (.ref 98), some (.int x6), some (.int z14.1)] [.int (x3 + z14.1), .int (x2 + 1), .ref 1, .ref 92] z14.2 by
              obtain ⟨n, hn⟩ := hh
              exact ⟨n + 17, And.intro (jx_in_ok c11) (s_P_copyFrom (by omega) (by decide) h13 (s_S_goBy (by omega) (by decide) h15 (And.intro (fun _ => hn) (fun zz => absurd zz c16))))⟩
            obtain ⟨n, hn⟩ := s_L_walk_104 hRec hd0 hd hK43 (u7 := some (.int z14.1)) (by decide) h hQ
            exact ⟨n + 3, hn⟩
        · try rw [show (94 + 4 * (4 : Int32).toNatClampNeg) = 110 from by decide] at h
          obtain ⟨z12, h13, h⟩ := Option.bind_eq_some_iff.mp h
          obtain ⟨z14, h15, h⟩ := Option.bind_eq_some_iff.mp h
          by_cases c16 : x6 = 0
          · rw [if_pos c16] at h
            suffices hh : ∃ n, jx_W jx_ShC d none jc_34 Q n 95 [some (.ref 92), some (.ref 1), some (.int x2), some (.int x3), some (.int x4), some (.ref 98), some (.int x6), some (.int z14.1)] [.int (x3 + z14.1), .int (x2 + 1), .ref 1, .ref 92] z14.2 by
              obtain ⟨n, hn⟩ := hh
              exact ⟨n + 17, And.intro (jx_in_ok c11) (s_P_copyFrom (by omega) (by decide) h13 (s_S_goBy (by omega) (by decide) h15 (And.intro (fun zz => absurd c16 zz) (fun _ => hn))))⟩
            obtain ⟨n, hn⟩ := s_L_walk_104 hRec hd0 hd hK43 (u7 := some (.int z14.1)) (by decide) h hQ
            exact ⟨n + 2, hn⟩
          · rw [if_neg c16] at h
            suffices hh : ∃ n, jx_W jx_ShC d none jc_34 Q n 100 [some (.ref 92), some (.ref 1), some (.int x2), some (.int x3), some (.int x4), some (.ref 98), some (.int x6), some (.int z14.1)] [.int (x3 + z14.1), .int (x2 + 1), .ref 1, .ref 92] z14.2 by
              obtain ⟨n, hn⟩ := hh
              exact ⟨n + 17, And.intro (jx_in_ok c11) (s_P_copyFrom (by omega) (by decide) h13 (s_S_goBy (by omega) (by decide) h15 (And.intro (fun _ => hn) (fun zz => absurd zz c16))))⟩
            obtain ⟨n, hn⟩ := s_L_walk_104 hRec hd0 hd hK43 (u7 := some (.int z14.1)) (by decide) h hQ
            exact ⟨n + 3, hn⟩
    · unfold f_L_walk_67 at h
      cases c11 : jx_in y2 5 with
      | false => rw [c11, cond_false] at h; cases h
      | true =>
        rw [c11, cond_true] at h
        rcases jx_ix5 (jx_in_ok c11) with rfl | rfl | rfl | rfl | rfl
        · try rw [show (94 + 4 * (0 : Int32).toNatClampNeg) = 94 from by decide] at h
          obtain ⟨z12, h13, h⟩ := Option.bind_eq_some_iff.mp h
          obtain ⟨z14, h15, h⟩ := Option.bind_eq_some_iff.mp h
          by_cases c16 : x6 = 0
          · rw [if_pos c16] at h
            suffices hh : ∃ n, jx_W jx_ShC d none jc_34 Q n 95 [some (.ref 92), some (.ref 1), some (.int x2), some (.int x3), some (.int x4), some (.ref 98), some (.int x6), some (.int z14.1)] [.int (x3 + z14.1), .int (x2 + 1), .ref 1, .ref 92] z14.2 by
              obtain ⟨n, hn⟩ := hh
              exact ⟨n + 17, And.intro (jx_in_ok c11) (s_P_copyFrom (by omega) (by decide) h13 (s_S_goBy (by omega) (by decide) h15 (And.intro (fun zz => absurd c16 zz) (fun _ => hn))))⟩
            obtain ⟨n, hn⟩ := s_L_walk_104 hRec hd0 hd hK43 (u7 := some (.int z14.1)) (by decide) h hQ
            exact ⟨n + 2, hn⟩
          · rw [if_neg c16] at h
            suffices hh : ∃ n, jx_W jx_ShC d none jc_34 Q n 100 [some (.ref 92), some (.ref 1), some (.int x2), some (.int x3), some (.int x4), some (.ref 98), some (.int x6), some (.int z14.1)] [.int (x3 + z14.1), .int (x2 + 1), .ref 1, .ref 92] z14.2 by
              obtain ⟨n, hn⟩ := hh
              exact ⟨n + 17, And.intro (jx_in_ok c11) (s_P_copyFrom (by omega) (by decide) h13 (s_S_goBy (by omega) (by decide) h15 (And.intro (fun _ => hn) (fun zz => absurd zz c16))))⟩
            obtain ⟨n, hn⟩ := s_L_walk_104 hRec hd0 hd hK43 (u7 := some (.int z14.1)) (by decide) h hQ
            exact ⟨n + 3, hn⟩
        · try rw [show (94 + 4 * (1 : Int32).toNatClampNeg) = 98 from by decide] at h
          obtain ⟨z12, h13, h⟩ := Option.bind_eq_some_iff.mp h
          obtain ⟨z14, h15, h⟩ := Option.bind_eq_some_iff.mp h
          by_cases c16 : x6 = 0
          · rw [if_pos c16] at h
            suffices hh : ∃ n, jx_W jx_ShC d none jc_34 Q n 95 [some (.ref 92), some (.ref 1), some (.int x2), some (.int x3), some (.int x4), some (.ref 98), some (.int x6), some (.int z14.1)] [.int (x3 + z14.1), .int (x2 + 1), .ref 1, .ref 92] z14.2 by
              obtain ⟨n, hn⟩ := hh
              exact ⟨n + 17, And.intro (jx_in_ok c11) (s_P_copyFrom (by omega) (by decide) h13 (s_S_goBy (by omega) (by decide) h15 (And.intro (fun zz => absurd c16 zz) (fun _ => hn))))⟩
            obtain ⟨n, hn⟩ := s_L_walk_104 hRec hd0 hd hK43 (u7 := some (.int z14.1)) (by decide) h hQ
            exact ⟨n + 2, hn⟩
          · rw [if_neg c16] at h
            suffices hh : ∃ n, jx_W jx_ShC d none jc_34 Q n 100 [some (.ref 92), some (.ref 1), some (.int x2), some (.int x3), some (.int x4), some (.ref 98), some (.int x6), some (.int z14.1)] [.int (x3 + z14.1), .int (x2 + 1), .ref 1, .ref 92] z14.2 by
              obtain ⟨n, hn⟩ := hh
              exact ⟨n + 17, And.intro (jx_in_ok c11) (s_P_copyFrom (by omega) (by decide) h13 (s_S_goBy (by omega) (by decide) h15 (And.intro (fun _ => hn) (fun zz => absurd zz c16))))⟩
            obtain ⟨n, hn⟩ := s_L_walk_104 hRec hd0 hd hK43 (u7 := some (.int z14.1)) (by decide) h hQ
            exact ⟨n + 3, hn⟩
        · try rw [show (94 + 4 * (2 : Int32).toNatClampNeg) = 102 from by decide] at h
          obtain ⟨z12, h13, h⟩ := Option.bind_eq_some_iff.mp h
          obtain ⟨z14, h15, h⟩ := Option.bind_eq_some_iff.mp h
          by_cases c16 : x6 = 0
          · rw [if_pos c16] at h
            suffices hh : ∃ n, jx_W jx_ShC d none jc_34 Q n 95 [some (.ref 92), some (.ref 1), some (.int x2), some (.int x3), some (.int x4), some (.ref 98), some (.int x6), some (.int z14.1)] [.int (x3 + z14.1), .int (x2 + 1), .ref 1, .ref 92] z14.2 by
              obtain ⟨n, hn⟩ := hh
              exact ⟨n + 17, And.intro (jx_in_ok c11) (s_P_copyFrom (by omega) (by decide) h13 (s_S_goBy (by omega) (by decide) h15 (And.intro (fun zz => absurd c16 zz) (fun _ => hn))))⟩
            obtain ⟨n, hn⟩ := s_L_walk_104 hRec hd0 hd hK43 (u7 := some (.int z14.1)) (by decide) h hQ
            exact ⟨n + 2, hn⟩
          · rw [if_neg c16] at h
            suffices hh : ∃ n, jx_W jx_ShC d none jc_34 Q n 100 [some (.ref 92), some (.ref 1), some (.int x2), some (.int x3), some (.int x4), some (.ref 98), some (.int x6), some (.int z14.1)] [.int (x3 + z14.1), .int (x2 + 1), .ref 1, .ref 92] z14.2 by
              obtain ⟨n, hn⟩ := hh
              exact ⟨n + 17, And.intro (jx_in_ok c11) (s_P_copyFrom (by omega) (by decide) h13 (s_S_goBy (by omega) (by decide) h15 (And.intro (fun _ => hn) (fun zz => absurd zz c16))))⟩
            obtain ⟨n, hn⟩ := s_L_walk_104 hRec hd0 hd hK43 (u7 := some (.int z14.1)) (by decide) h hQ
            exact ⟨n + 3, hn⟩
        · try rw [show (94 + 4 * (3 : Int32).toNatClampNeg) = 106 from by decide] at h
          obtain ⟨z12, h13, h⟩ := Option.bind_eq_some_iff.mp h
          obtain ⟨z14, h15, h⟩ := Option.bind_eq_some_iff.mp h
          by_cases c16 : x6 = 0
          · rw [if_pos c16] at h
            suffices hh : ∃ n, jx_W jx_ShC d none jc_34 Q n 95 [some (.ref 92), some (.ref 1), some (.int x2), some (.int x3), some (.int x4), some (.ref 98), some (.int x6), some (.int z14.1)] [.int (x3 + z14.1), .int (x2 + 1), .ref 1, .ref 92] z14.2 by
              obtain ⟨n, hn⟩ := hh
              exact ⟨n + 17, And.intro (jx_in_ok c11) (s_P_copyFrom (by omega) (by decide) h13 (s_S_goBy (by omega) (by decide) h15 (And.intro (fun zz => absurd c16 zz) (fun _ => hn))))⟩
            obtain ⟨n, hn⟩ := s_L_walk_104 hRec hd0 hd hK43 (u7 := some (.int z14.1)) (by decide) h hQ
            exact ⟨n + 2, hn⟩
          · rw [if_neg c16] at h
            suffices hh : ∃ n, jx_W jx_ShC d none jc_34 Q n 100 [some (.ref 92), some (.ref 1), some (.int x2), some (.int x3), some (.int x4), some (.ref 98), some (.int x6), some (.int z14.1)] [.int (x3 + z14.1), .int (x2 + 1), .ref 1, .ref 92] z14.2 by
              obtain ⟨n, hn⟩ := hh
              exact ⟨n + 17, And.intro (jx_in_ok c11) (s_P_copyFrom (by omega) (by decide) h13 (s_S_goBy (by omega) (by decide) h15 (And.intro (fun _ => hn) (fun zz => absurd zz c16))))⟩
            obtain ⟨n, hn⟩ := s_L_walk_104 hRec hd0 hd hK43 (u7 := some (.int z14.1)) (by decide) h hQ
            exact ⟨n + 3, hn⟩
        · try rw [show (94 + 4 * (4 : Int32).toNatClampNeg) = 110 from by decide] at h
          obtain ⟨z12, h13, h⟩ := Option.bind_eq_some_iff.mp h
          obtain ⟨z14, h15, h⟩ := Option.bind_eq_some_iff.mp h
          by_cases c16 : x6 = 0
          · rw [if_pos c16] at h
            suffices hh : ∃ n, jx_W jx_ShC d none jc_34 Q n 95 [some (.ref 92), some (.ref 1), some (.int x2), some (.int x3), some (.int x4), some (.ref 98), some (.int x6), some (.int z14.1)] [.int (x3 + z14.1), .int (x2 + 1), .ref 1, .ref 92] z14.2 by
              obtain ⟨n, hn⟩ := hh
              exact ⟨n + 17, And.intro (jx_in_ok c11) (s_P_copyFrom (by omega) (by decide) h13 (s_S_goBy (by omega) (by decide) h15 (And.intro (fun zz => absurd c16 zz) (fun _ => hn))))⟩
            obtain ⟨n, hn⟩ := s_L_walk_104 hRec hd0 hd hK43 (u7 := some (.int z14.1)) (by decide) h hQ
            exact ⟨n + 2, hn⟩
          · rw [if_neg c16] at h
            suffices hh : ∃ n, jx_W jx_ShC d none jc_34 Q n 100 [some (.ref 92), some (.ref 1), some (.int x2), some (.int x3), some (.int x4), some (.ref 98), some (.int x6), some (.int z14.1)] [.int (x3 + z14.1), .int (x2 + 1), .ref 1, .ref 92] z14.2 by
              obtain ⟨n, hn⟩ := hh
              exact ⟨n + 17, And.intro (jx_in_ok c11) (s_P_copyFrom (by omega) (by decide) h13 (s_S_goBy (by omega) (by decide) h15 (And.intro (fun _ => hn) (fun zz => absurd zz c16))))⟩
            obtain ⟨n, hn⟩ := s_L_walk_104 hRec hd0 hd hK43 (u7 := some (.int z14.1)) (by decide) h hQ
            exact ⟨n + 3, hn⟩
    · unfold f_L_walk_67 at h
      cases c11 : jx_in y2 5 with
      | false => rw [c11, cond_false] at h; cases h
      | true =>
        rw [c11, cond_true] at h
        rcases jx_ix5 (jx_in_ok c11) with rfl | rfl | rfl | rfl | rfl
        · try rw [show (94 + 4 * (0 : Int32).toNatClampNeg) = 94 from by decide] at h
          obtain ⟨z12, h13, h⟩ := Option.bind_eq_some_iff.mp h
          obtain ⟨z14, h15, h⟩ := Option.bind_eq_some_iff.mp h
          by_cases c16 : x6 = 0
          · rw [if_pos c16] at h
            suffices hh : ∃ n, jx_W jx_ShC d none jc_34 Q n 95 [some (.ref 92), some (.ref 1), some (.int x2), some (.int x3), some (.int x4), some (.ref 98), some (.int x6), some (.int z14.1)] [.int (x3 + z14.1), .int (x2 + 1), .ref 1, .ref 92] z14.2 by
              obtain ⟨n, hn⟩ := hh
              exact ⟨n + 17, And.intro (jx_in_ok c11) (s_P_copyFrom (by omega) (by decide) h13 (s_S_goBy (by omega) (by decide) h15 (And.intro (fun zz => absurd c16 zz) (fun _ => hn))))⟩
            obtain ⟨n, hn⟩ := s_L_walk_104 hRec hd0 hd hK43 (u7 := some (.int z14.1)) (by decide) h hQ
            exact ⟨n + 2, hn⟩
          · rw [if_neg c16] at h
            suffices hh : ∃ n, jx_W jx_ShC d none jc_34 Q n 100 [some (.ref 92), some (.ref 1), some (.int x2), some (.int x3), some (.int x4), some (.ref 98), some (.int x6), some (.int z14.1)] [.int (x3 + z14.1), .int (x2 + 1), .ref 1, .ref 92] z14.2 by
              obtain ⟨n, hn⟩ := hh
              exact ⟨n + 17, And.intro (jx_in_ok c11) (s_P_copyFrom (by omega) (by decide) h13 (s_S_goBy (by omega) (by decide) h15 (And.intro (fun _ => hn) (fun zz => absurd zz c16))))⟩
            obtain ⟨n, hn⟩ := s_L_walk_104 hRec hd0 hd hK43 (u7 := some (.int z14.1)) (by decide) h hQ
            exact ⟨n + 3, hn⟩
        · try rw [show (94 + 4 * (1 : Int32).toNatClampNeg) = 98 from by decide] at h
          obtain ⟨z12, h13, h⟩ := Option.bind_eq_some_iff.mp h
          obtain ⟨z14, h15, h⟩ := Option.bind_eq_some_iff.mp h
          by_cases c16 : x6 = 0
          · rw [if_pos c16] at h
            suffices hh : ∃ n, jx_W jx_ShC d none jc_34 Q n 95 [some (.ref 92), some (.ref 1), some (.int x2), some (.int x3), some (.int x4), some (.ref 98), some (.int x6), some (.int z14.1)] [.int (x3 + z14.1), .int (x2 + 1), .ref 1, .ref 92] z14.2 by
              obtain ⟨n, hn⟩ := hh
              exact ⟨n + 17, And.intro (jx_in_ok c11) (s_P_copyFrom (by omega) (by decide) h13 (s_S_goBy (by omega) (by decide) h15 (And.intro (fun zz => absurd c16 zz) (fun _ => hn))))⟩
            obtain ⟨n, hn⟩ := s_L_walk_104 hRec hd0 hd hK43 (u7 := some (.int z14.1)) (by decide) h hQ
            exact ⟨n + 2, hn⟩
          · rw [if_neg c16] at h
            suffices hh : ∃ n, jx_W jx_ShC d none jc_34 Q n 100 [some (.ref 92), some (.ref 1), some (.int x2), some (.int x3), some (.int x4), some (.ref 98), some (.int x6), some (.int z14.1)] [.int (x3 + z14.1), .int (x2 + 1), .ref 1, .ref 92] z14.2 by
              obtain ⟨n, hn⟩ := hh
              exact ⟨n + 17, And.intro (jx_in_ok c11) (s_P_copyFrom (by omega) (by decide) h13 (s_S_goBy (by omega) (by decide) h15 (And.intro (fun _ => hn) (fun zz => absurd zz c16))))⟩
            obtain ⟨n, hn⟩ := s_L_walk_104 hRec hd0 hd hK43 (u7 := some (.int z14.1)) (by decide) h hQ
            exact ⟨n + 3, hn⟩
        · try rw [show (94 + 4 * (2 : Int32).toNatClampNeg) = 102 from by decide] at h
          obtain ⟨z12, h13, h⟩ := Option.bind_eq_some_iff.mp h
          obtain ⟨z14, h15, h⟩ := Option.bind_eq_some_iff.mp h
          by_cases c16 : x6 = 0
          · rw [if_pos c16] at h
            suffices hh : ∃ n, jx_W jx_ShC d none jc_34 Q n 95 [some (.ref 92), some (.ref 1), some (.int x2), some (.int x3), some (.int x4), some (.ref 98), some (.int x6), some (.int z14.1)] [.int (x3 + z14.1), .int (x2 + 1), .ref 1, .ref 92] z14.2 by
              obtain ⟨n, hn⟩ := hh
              exact ⟨n + 17, And.intro (jx_in_ok c11) (s_P_copyFrom (by omega) (by decide) h13 (s_S_goBy (by omega) (by decide) h15 (And.intro (fun zz => absurd c16 zz) (fun _ => hn))))⟩
            obtain ⟨n, hn⟩ := s_L_walk_104 hRec hd0 hd hK43 (u7 := some (.int z14.1)) (by decide) h hQ
            exact ⟨n + 2, hn⟩
          · rw [if_neg c16] at h
            suffices hh : ∃ n, jx_W jx_ShC d none jc_34 Q n 100 [some (.ref 92), some (.ref 1), some (.int x2), some (.int x3), some (.int x4), some (.ref 98), some (.int x6), some (.int z14.1)] [.int (x3 + z14.1), .int (x2 + 1), .ref 1, .ref 92] z14.2 by
              obtain ⟨n, hn⟩ := hh
              exact ⟨n + 17, And.intro (jx_in_ok c11) (s_P_copyFrom (by omega) (by decide) h13 (s_S_goBy (by omega) (by decide) h15 (And.intro (fun _ => hn) (fun zz => absurd zz c16))))⟩
            obtain ⟨n, hn⟩ := s_L_walk_104 hRec hd0 hd hK43 (u7 := some (.int z14.1)) (by decide) h hQ
            exact ⟨n + 3, hn⟩
        · try rw [show (94 + 4 * (3 : Int32).toNatClampNeg) = 106 from by decide] at h
          obtain ⟨z12, h13, h⟩ := Option.bind_eq_some_iff.mp h
          obtain ⟨z14, h15, h⟩ := Option.bind_eq_some_iff.mp h
          by_cases c16 : x6 = 0
          · rw [if_pos c16] at h
            suffices hh : ∃ n, jx_W jx_ShC d none jc_34 Q n 95 [some (.ref 92), some (.ref 1), some (.int x2), some (.int x3), some (.int x4), some (.ref 98), some (.int x6), some (.int z14.1)] [.int (x3 + z14.1), .int (x2 + 1), .ref 1, .ref 92] z14.2 by
              obtain ⟨n, hn⟩ := hh
              exact ⟨n + 17, And.intro (jx_in_ok c11) (s_P_copyFrom (by omega) (by decide) h13 (s_S_goBy (by omega) (by decide) h15 (And.intro (fun zz => absurd c16 zz) (fun _ => hn))))⟩
            obtain ⟨n, hn⟩ := s_L_walk_104 hRec hd0 hd hK43 (u7 := some (.int z14.1)) (by decide) h hQ
            exact ⟨n + 2, hn⟩
          · rw [if_neg c16] at h
            suffices hh : ∃ n, jx_W jx_ShC d none jc_34 Q n 100 [some (.ref 92), some (.ref 1), some (.int x2), some (.int x3), some (.int x4), some (.ref 98), some (.int x6), some (.int z14.1)] [.int (x3 + z14.1), .int (x2 + 1), .ref 1, .ref 92] z14.2 by
              obtain ⟨n, hn⟩ := hh
              exact ⟨n + 17, And.intro (jx_in_ok c11) (s_P_copyFrom (by omega) (by decide) h13 (s_S_goBy (by omega) (by decide) h15 (And.intro (fun _ => hn) (fun zz => absurd zz c16))))⟩
            obtain ⟨n, hn⟩ := s_L_walk_104 hRec hd0 hd hK43 (u7 := some (.int z14.1)) (by decide) h hQ
            exact ⟨n + 3, hn⟩
        · try rw [show (94 + 4 * (4 : Int32).toNatClampNeg) = 110 from by decide] at h
          obtain ⟨z12, h13, h⟩ := Option.bind_eq_some_iff.mp h
          obtain ⟨z14, h15, h⟩ := Option.bind_eq_some_iff.mp h
          by_cases c16 : x6 = 0
          · rw [if_pos c16] at h
            suffices hh : ∃ n, jx_W jx_ShC d none jc_34 Q n 95 [some (.ref 92), some (.ref 1), some (.int x2), some (.int x3), some (.int x4), some (.ref 98), some (.int x6), some (.int z14.1)] [.int (x3 + z14.1), .int (x2 + 1), .ref 1, .ref 92] z14.2 by
              obtain ⟨n, hn⟩ := hh
              exact ⟨n + 17, And.intro (jx_in_ok c11) (s_P_copyFrom (by omega) (by decide) h13 (s_S_goBy (by omega) (by decide) h15 (And.intro (fun zz => absurd c16 zz) (fun _ => hn))))⟩
            obtain ⟨n, hn⟩ := s_L_walk_104 hRec hd0 hd hK43 (u7 := some (.int z14.1)) (by decide) h hQ
            exact ⟨n + 2, hn⟩
          · rw [if_neg c16] at h
            suffices hh : ∃ n, jx_W jx_ShC d none jc_34 Q n 100 [some (.ref 92), some (.ref 1), some (.int x2), some (.int x3), some (.int x4), some (.ref 98), some (.int x6), some (.int z14.1)] [.int (x3 + z14.1), .int (x2 + 1), .ref 1, .ref 92] z14.2 by
              obtain ⟨n, hn⟩ := hh
              exact ⟨n + 17, And.intro (jx_in_ok c11) (s_P_copyFrom (by omega) (by decide) h13 (s_S_goBy (by omega) (by decide) h15 (And.intro (fun _ => hn) (fun zz => absurd zz c16))))⟩
            obtain ⟨n, hn⟩ := s_L_walk_104 hRec hd0 hd hK43 (u7 := some (.int z14.1)) (by decide) h hQ
            exact ⟨n + 3, hn⟩
  · rcases hr_0 with rfl | rfl | rfl | rfl | rfl
    · unfold f_L_walk_67 at h
      cases c11 : jx_in y2 5 with
      | false => rw [c11, cond_false] at h; cases h
      | true =>
        rw [c11, cond_true] at h
        rcases jx_ix5 (jx_in_ok c11) with rfl | rfl | rfl | rfl | rfl
        · try rw [show (94 + 4 * (0 : Int32).toNatClampNeg) = 94 from by decide] at h
          obtain ⟨z12, h13, h⟩ := Option.bind_eq_some_iff.mp h
          obtain ⟨z14, h15, h⟩ := Option.bind_eq_some_iff.mp h
          by_cases c16 : x6 = 0
          · rw [if_pos c16] at h
            suffices hh : ∃ n, jx_W jx_ShC d none jc_34 Q n 95 [some (.ref 92), some (.ref 1), some (.int x2), some (.int x3), some (.int x4), some (.ref 102), some (.int x6), some (.int z14.1)] [.int (x3 + z14.1), .int (x2 + 1), .ref 1, .ref 92] z14.2 by
              obtain ⟨n, hn⟩ := hh
              exact ⟨n + 17, And.intro (jx_in_ok c11) (s_P_copyFrom (by omega) (by decide) h13 (s_S_goBy (by omega) (by decide) h15 (And.intro (fun zz => absurd c16 zz) (fun _ => hn))))⟩
            obtain ⟨n, hn⟩ := s_L_walk_104 hRec hd0 hd hK43 (u7 := some (.int z14.1)) (by decide) h hQ
            exact ⟨n + 2, hn⟩
          · rw [if_neg c16] at h
            suffices hh : ∃ n, jx_W jx_ShC d none jc_34 Q n 100 [some (.ref 92), some (.ref 1), some (.int x2), some (.int x3), some (.int x4), some (.ref 102), some (.int x6), some (.int z14.1)] [.int (x3 + z14.1), .int (x2 + 1), .ref 1, .ref 92] z14.2 by
              obtain ⟨n, hn⟩ := hh
              exact ⟨n + 17, And.intro (jx_in_ok c11) (s_P_copyFrom (by omega) (by decide) h13 (s_S_goBy (by omega) (by decide) h15 (And.intro (fun _ => hn) (fun zz => absurd zz c16))))⟩
            obtain ⟨n, hn⟩ := s_L_walk_104 hRec hd0 hd hK43 (u7 := some (.int z14.1)) (by decide) h hQ
            exact ⟨n + 3, hn⟩
        · try rw [show (94 + 4 * (1 : Int32).toNatClampNeg) = 98 from by decide] at h
          obtain ⟨z12, h13, h⟩ := Option.bind_eq_some_iff.mp h
          obtain ⟨z14, h15, h⟩ := Option.bind_eq_some_iff.mp h
          by_cases c16 : x6 = 0
          · rw [if_pos c16] at h
            suffices hh : ∃ n, jx_W jx_ShC d none jc_34 Q n 95 [some (.ref 92), some (.ref 1), some (.int x2), some (.int x3), some (.int x4), some (.ref 102), some (.int x6), some (.int z14.1)] [.int (x3 + z14.1), .int (x2 + 1), .ref 1, .ref 92] z14.2 by
              obtain ⟨n, hn⟩ := hh
              exact ⟨n + 17, And.intro (jx_in_ok c11) (s_P_copyFrom (by omega) (by decide) h13 (s_S_goBy (by omega) (by decide) h15 (And.intro (fun zz => absurd c16 zz) (fun _ => hn))))⟩
            obtain ⟨n, hn⟩ := s_L_walk_104 hRec hd0 hd hK43 (u7 := some (.int z14.1)) (by decide) h hQ
            exact ⟨n + 2, hn⟩
          · rw [if_neg c16] at h
            suffices hh : ∃ n, jx_W jx_ShC d none jc_34 Q n 100 [some (.ref 92), some (.ref 1), some (.int x2), some (.int x3), some (.int x4), some (.ref 102), some (.int x6), some (.int z14.1)] [.int (x3 + z14.1), .int (x2 + 1), .ref 1, .ref 92] z14.2 by
              obtain ⟨n, hn⟩ := hh
              exact ⟨n + 17, And.intro (jx_in_ok c11) (s_P_copyFrom (by omega) (by decide) h13 (s_S_goBy (by omega) (by decide) h15 (And.intro (fun _ => hn) (fun zz => absurd zz c16))))⟩
            obtain ⟨n, hn⟩ := s_L_walk_104 hRec hd0 hd hK43 (u7 := some (.int z14.1)) (by decide) h hQ
            exact ⟨n + 3, hn⟩
        · try rw [show (94 + 4 * (2 : Int32).toNatClampNeg) = 102 from by decide] at h
          obtain ⟨z12, h13, h⟩ := Option.bind_eq_some_iff.mp h
          obtain ⟨z14, h15, h⟩ := Option.bind_eq_some_iff.mp h
          by_cases c16 : x6 = 0
          · rw [if_pos c16] at h
            suffices hh : ∃ n, jx_W jx_ShC d none jc_34 Q n 95 [some (.ref 92), some (.ref 1), some (.int x2), some (.int x3), some (.int x4), some (.ref 102), some (.int x6), some (.int z14.1)] [.int (x3 + z14.1), .int (x2 + 1), .ref 1, .ref 92] z14.2 by
              obtain ⟨n, hn⟩ := hh
              exact ⟨n + 17, And.intro (jx_in_ok c11) (s_P_copyFrom (by omega) (by decide) h13 (s_S_goBy (by omega) (by decide) h15 (And.intro (fun zz => absurd c16 zz) (fun _ => hn))))⟩
            obtain ⟨n, hn⟩ := s_L_walk_104 hRec hd0 hd hK43 (u7 := some (.int z14.1)) (by decide) h hQ
            exact ⟨n + 2, hn⟩
          · rw [if_neg c16] at h
            suffices hh : ∃ n, jx_W jx_ShC d none jc_34 Q n 100 [some (.ref 92), some (.ref 1), some (.int x2), some (.int x3), some (.int x4), some (.ref 102), some (.int x6), some (.int z14.1)] [.int (x3 + z14.1), .int (x2 + 1), .ref 1, .ref 92] z14.2 by
              obtain ⟨n, hn⟩ := hh
              exact ⟨n + 17, And.intro (jx_in_ok c11) (s_P_copyFrom (by omega) (by decide) h13 (s_S_goBy (by omega) (by decide) h15 (And.intro (fun _ => hn) (fun zz => absurd zz c16))))⟩
            obtain ⟨n, hn⟩ := s_L_walk_104 hRec hd0 hd hK43 (u7 := some (.int z14.1)) (by decide) h hQ
            exact ⟨n + 3, hn⟩
        · try rw [show (94 + 4 * (3 : Int32).toNatClampNeg) = 106 from by decide] at h
          obtain ⟨z12, h13, h⟩ := Option.bind_eq_some_iff.mp h
          obtain ⟨z14, h15, h⟩ := Option.bind_eq_some_iff.mp h
          by_cases c16 : x6 = 0
          · rw [if_pos c16] at h
            suffices hh : ∃ n, jx_W jx_ShC d none jc_34 Q n 95 [some (.ref 92), some (.ref 1), some (.int x2), some (.int x3), some (.int x4), some (.ref 102), some (.int x6), some (.int z14.1)] [.int (x3 + z14.1), .int (x2 + 1), .ref 1, .ref 92] z14.2 by
              obtain ⟨n, hn⟩ := hh
              exact ⟨n + 17, And.intro (jx_in_ok c11) (s_P_copyFrom (by omega) (by decide) h13 (s_S_goBy (by omega) (by decide) h15 (And.intro (fun zz => absurd c16 zz) (fun _ => hn))))⟩
            obtain ⟨n, hn⟩ := s_L_walk_104 hRec hd0 hd hK43 (u7 := some (.int z14.1)) (by decide) h hQ
            exact ⟨n + 2, hn⟩
          · rw [if_neg c16] at h
            suffices hh : ∃ n, jx_W jx_ShC d none jc_34 Q n 100 [some (.ref 92), some (.ref 1), some (.int x2), some (.int x3), some (.int x4), some (.ref 102), some (.int x6), some (.int z14.1)] [.int (x3 + z14.1), .int (x2 + 1), .ref 1, .ref 92] z14.2 by
              obtain ⟨n, hn⟩ := hh
              exact ⟨n + 17, And.intro (jx_in_ok c11) (s_P_copyFrom (by omega) (by decide) h13 (s_S_goBy (by omega) (by decide) h15 (And.intro (fun _ => hn) (fun zz => absurd zz c16))))⟩
            obtain ⟨n, hn⟩ := s_L_walk_104 hRec hd0 hd hK43 (u7 := some (.int z14.1)) (by decide) h hQ
            exact ⟨n + 3, hn⟩
        · try rw [show (94 + 4 * (4 : Int32).toNatClampNeg) = 110 from by decide] at h
          obtain ⟨z12, h13, h⟩ := Option.bind_eq_some_iff.mp h
          obtain ⟨z14, h15, h⟩ := Option.bind_eq_some_iff.mp h
          by_cases c16 : x6 = 0
          · rw [if_pos c16] at h
            suffices hh : ∃ n, jx_W jx_ShC d none jc_34 Q n 95 [some (.ref 92), some (.ref 1), some (.int x2), some (.int x3), some (.int x4), some (.ref 102), some (.int x6), some (.int z14.1)] [.int (x3 + z14.1), .int (x2 + 1), .ref 1, .ref 92] z14.2 by
              obtain ⟨n, hn⟩ := hh
              exact ⟨n + 17, And.intro (jx_in_ok c11) (s_P_copyFrom (by omega) (by decide) h13 (s_S_goBy (by omega) (by decide) h15 (And.intro (fun zz => absurd c16 zz) (fun _ => hn))))⟩
            obtain ⟨n, hn⟩ := s_L_walk_104 hRec hd0 hd hK43 (u7 := some (.int z14.1)) (by decide) h hQ
            exact ⟨n + 2, hn⟩
          · rw [if_neg c16] at h
            suffices hh : ∃ n, jx_W jx_ShC d none jc_34 Q n 100 [some (.ref 92), some (.ref 1), some (.int x2), some (.int x3), some (.int x4), some (.ref 102), some (.int x6), some (.int z14.1)] [.int (x3 + z14.1), .int (x2 + 1), .ref 1, .ref 92] z14.2 by
              obtain ⟨n, hn⟩ := hh
              exact ⟨n + 17, And.intro (jx_in_ok c11) (s_P_copyFrom (by omega) (by decide) h13 (s_S_goBy (by omega) (by decide) h15 (And.intro (fun _ => hn) (fun zz => absurd zz c16))))⟩
            obtain ⟨n, hn⟩ := s_L_walk_104 hRec hd0 hd hK43 (u7 := some (.int z14.1)) (by decide) h hQ
            exact ⟨n + 3, hn⟩
    · unfold f_L_walk_67 at h
      cases c11 : jx_in y2 5 with
      | false => rw [c11, cond_false] at h; cases h
      | true =>
        rw [c11, cond_true] at h
        rcases jx_ix5 (jx_in_ok c11) with rfl | rfl | rfl | rfl | rfl
        · try rw [show (94 + 4 * (0 : Int32).toNatClampNeg) = 94 from by decide] at h
          obtain ⟨z12, h13, h⟩ := Option.bind_eq_some_iff.mp h
          obtain ⟨z14, h15, h⟩ := Option.bind_eq_some_iff.mp h
          by_cases c16 : x6 = 0
          · rw [if_pos c16] at h
            suffices hh : ∃ n, jx_W jx_ShC d none jc_34 Q n 95 [some (.ref 92), some (.ref 1), some (.int x2), some (.int x3), some (.int x4), some (.ref 102), some (.int x6), some (.int z14.1)] [.int (x3 + z14.1), .int (x2 + 1), .ref 1, .ref 92] z14.2 by
              obtain ⟨n, hn⟩ := hh
              exact ⟨n + 17, And.intro (jx_in_ok c11) (s_P_copyFrom (by omega) (by decide) h13 (s_S_goBy (by omega) (by decide) h15 (And.intro (fun zz => absurd c16 zz) (fun _ => hn))))⟩
            obtain ⟨n, hn⟩ := s_L_walk_104 hRec hd0 hd hK43 (u7 := some (.int z14.1)) (by decide) h hQ
            exact ⟨n + 2, hn⟩
          · rw [if_neg c16] at h
            suffices hh : ∃ n, jx_W jx_ShC d none jc_34 Q n 100 [some (.ref 92), some (.ref 1), some (.int x2), some (.int x3), some (.int x4), some (.ref 102), some (.int x6), some (.int z14.1)] [.int (x3 + z14.1), .int (x2 + 1), .ref 1, .ref 92] z14.2 by
              obtain ⟨n, hn⟩ := hh
              exact ⟨n + 17, And.intro (jx_in_ok c11) (s_P_copyFrom (by omega) (by decide) h13 (s_S_goBy (by omega) (by decide) h15 (And.intro (fun _ => hn) (fun zz => absurd zz c16))))⟩
            obtain ⟨n, hn⟩ := s_L_walk_104 hRec hd0 hd hK43 (u7 := some (.int z14.1)) (by decide) h hQ
            exact ⟨n + 3, hn⟩
        · try rw [show (94 + 4 * (1 : Int32).toNatClampNeg) = 98 from by decide] at h
          obtain ⟨z12, h13, h⟩ := Option.bind_eq_some_iff.mp h
          obtain ⟨z14, h15, h⟩ := Option.bind_eq_some_iff.mp h
          by_cases c16 : x6 = 0
          · rw [if_pos c16] at h
            suffices hh : ∃ n, jx_W jx_ShC d none jc_34 Q n 95 [some (.ref 92), some (.ref 1), some (.int x2), some (.int x3), some (.int x4), some (.ref 102), some (.int x6), some (.int z14.1)] [.int (x3 + z14.1), .int (x2 + 1), .ref 1, .ref 92] z14.2 by
              obtain ⟨n, hn⟩ := hh
              exact ⟨n + 17, And.intro (jx_in_ok c11) (s_P_copyFrom (by omega) (by decide) h13 (s_S_goBy (by omega) (by decide) h15 (And.intro (fun zz => absurd c16 zz) (fun _ => hn))))⟩
            obtain ⟨n, hn⟩ := s_L_walk_104 hRec hd0 hd hK43 (u7 := some (.int z14.1)) (by decide) h hQ
            exact ⟨n + 2, hn⟩
          · rw [if_neg c16] at h
            suffices hh : ∃ n, jx_W jx_ShC d none jc_34 Q n 100 [some (.ref 92), some (.ref 1), some (.int x2), some (.int x3), some (.int x4), some (.ref 102), some (.int x6), some (.int z14.1)] [.int (x3 + z14.1), .int (x2 + 1), .ref 1, .ref 92] z14.2 by
              obtain ⟨n, hn⟩ := hh
              exact ⟨n + 17, And.intro (jx_in_ok c11) (s_P_copyFrom (by omega) (by decide) h13 (s_S_goBy (by omega) (by decide) h15 (And.intro (fun _ => hn) (fun zz => absurd zz c16))))⟩
            obtain ⟨n, hn⟩ := s_L_walk_104 hRec hd0 hd hK43 (u7 := some (.int z14.1)) (by decide) h hQ
            exact ⟨n + 3, hn⟩
        · try rw [show (94 + 4 * (2 : Int32).toNatClampNeg) = 102 from by decide] at h
          obtain ⟨z12, h13, h⟩ := Option.bind_eq_some_iff.mp h
          obtain ⟨z14, h15, h⟩ := Option.bind_eq_some_iff.mp h
          by_cases c16 : x6 = 0
          · rw [if_pos c16] at h
            suffices hh : ∃ n, jx_W jx_ShC d none jc_34 Q n 95 [some (.ref 92), some (.ref 1), some (.int x2), some (.int x3), some (.int x4), some (.ref 102), some (.int x6), some (.int z14.1)] [.int (x3 + z14.1), .int (x2 + 1), .ref 1, .ref 92] z14.2 by
              obtain ⟨n, hn⟩ := hh
              exact ⟨n + 17, And.intro (jx_in_ok c11) (s_P_copyFrom (by omega) (by decide) h13 (s_S_goBy (by omega) (by decide) h15 (And.intro (fun zz => absurd c16 zz) (fun _ => hn))))⟩
            obtain ⟨n, hn⟩ := s_L_walk_104 hRec hd0 hd hK43 (u7 := some (.int z14.1)) (by decide) h hQ
            exact ⟨n + 2, hn⟩
          · rw [if_neg c16] at h
            suffices hh : ∃ n, jx_W jx_ShC d none jc_34 Q n 100 [some (.ref 92), some (.ref 1), some (.int x2), some (.int x3), some (.int x4), some (.ref 102), some (.int x6), some (.int z14.1)] [.int (x3 + z14.1), .int (x2 + 1), .ref 1, .ref 92] z14.2 by
              obtain ⟨n, hn⟩ := hh
              exact ⟨n + 17, And.intro (jx_in_ok c11) (s_P_copyFrom (by omega) (by decide) h13 (s_S_goBy (by omega) (by decide) h15 (And.intro (fun _ => hn) (fun zz => absurd zz c16))))⟩
            obtain ⟨n, hn⟩ := s_L_walk_104 hRec hd0 hd hK43 (u7 := some (.int z14.1)) (by decide) h hQ
            exact ⟨n + 3, hn⟩
        · try rw [show (94 + 4 * (3 : Int32).toNatClampNeg) = 106 from by decide] at h
          obtain ⟨z12, h13, h⟩ := Option.bind_eq_some_iff.mp h
          obtain ⟨z14, h15, h⟩ := Option.bind_eq_some_iff.mp h
          by_cases c16 : x6 = 0
          · rw [if_pos c16] at h
            suffices hh : ∃ n, jx_W jx_ShC d none jc_34 Q n 95 [some (.ref 92), some (.ref 1), some (.int x2), some (.int x3), some (.int x4), some (.ref 102), some (.int x6), some (.int z14.1)] [.int (x3 + z14.1), .int (x2 + 1), .ref 1, .ref 92] z14.2 by
              obtain ⟨n, hn⟩ := hh
              exact ⟨n + 17, And.intro (jx_in_ok c11) (s_P_copyFrom (by omega) (by decide) h13 (s_S_goBy (by omega) (by decide) h15 (And.intro (fun zz => absurd c16 zz) (fun _ => hn))))⟩
            obtain ⟨n, hn⟩ := s_L_walk_104 hRec hd0 hd hK43 (u7 := some (.int z14.1)) (by decide) h hQ
            exact ⟨n + 2, hn⟩
          · rw [if_neg c16] at h
            suffices hh : ∃ n, jx_W jx_ShC d none jc_34 Q n 100 [some (.ref 92), some (.ref 1), some (.int x2), some (.int x3), some (.int x4), some (.ref 102), some (.int x6), some (.int z14.1)] [.int (x3 + z14.1), .int (x2 + 1), .ref 1, .ref 92] z14.2 by
              obtain ⟨n, hn⟩ := hh
              exact ⟨n + 17, And.intro (jx_in_ok c11) (s_P_copyFrom (by omega) (by decide) h13 (s_S_goBy (by omega) (by decide) h15 (And.intro (fun _ => hn) (fun zz => absurd zz c16))))⟩
            obtain ⟨n, hn⟩ := s_L_walk_104 hRec hd0 hd hK43 (u7 := some (.int z14.1)) (by decide) h hQ
            exact ⟨n + 3, hn⟩
        · try rw [show (94 + 4 * (4 : Int32).toNatClampNeg) = 110 from by decide] at h
          obtain ⟨z12, h13, h⟩ := Option.bind_eq_some_iff.mp h
          obtain ⟨z14, h15, h⟩ := Option.bind_eq_some_iff.mp h
          by_cases c16 : x6 = 0
          · rw [if_pos c16] at h
            suffices hh : ∃ n, jx_W jx_ShC d none jc_34 Q n 95 [some (.ref 92), some (.ref 1), some (.int x2), some (.int x3), some (.int x4), some (.ref 102), some (.int x6), some (.int z14.1)] [.int (x3 + z14.1), .int (x2 + 1), .ref 1, .ref 92] z14.2 by
              obtain ⟨n, hn⟩ := hh
              exact ⟨n + 17, And.intro (jx_in_ok c11) (s_P_copyFrom (by omega) (by decide) h13 (s_S_goBy (by omega) (by decide) h15 (And.intro (fun zz => absurd c16 zz) (fun _ => hn))))⟩
            obtain ⟨n, hn⟩ := s_L_walk_104 hRec hd0 hd hK43 (u7 := some (.int z14.1)) (by decide) h hQ
            exact ⟨n + 2, hn⟩
          · rw [if_neg c16] at h
            suffices hh : ∃ n, jx_W jx_ShC d none jc_34 Q n 100 [some (.ref 92), some (.ref 1), some (.int x2), some (.int x3), some (.int x4), some (.ref 102), some (.int x6), some (.int z14.1)] [.int (x3 + z14.1), .int (x2 + 1), .ref 1, .ref 92] z14.2 by
              obtain ⟨n, hn⟩ := hh
              exact ⟨n + 17, And.intro (jx_in_ok c11) (s_P_copyFrom (by omega) (by decide) h13 (s_S_goBy (by omega) (by decide) h15 (And.intro (fun _ => hn) (fun zz => absurd zz c16))))⟩
            obtain ⟨n, hn⟩ := s_L_walk_104 hRec hd0 hd hK43 (u7 := some (.int z14.1)) (by decide) h hQ
            exact ⟨n + 3, hn⟩
    · unfold f_L_walk_67 at h
      cases c11 : jx_in y2 5 with
      | false => rw [c11, cond_false] at h; cases h
      | true =>
        rw [c11, cond_true] at h
        rcases jx_ix5 (jx_in_ok c11) with rfl | rfl | rfl | rfl | rfl
        · try rw [show (94 + 4 * (0 : Int32).toNatClampNeg) = 94 from by decide] at h
          obtain ⟨z12, h13, h⟩ := Option.bind_eq_some_iff.mp h
          obtain ⟨z14, h15, h⟩ := Option.bind_eq_some_iff.mp h
          by_cases c16 : x6 = 0
          · rw [if_pos c16] at h
            suffices hh : ∃ n, jx_W jx_ShC d none jc_34 Q n 95 [some (.ref 92), some (.ref 1), some (.int x2), some (.int x3), some (.int x4), some (.ref 102), some (.int x6), some (.int z14.1)] [.int (x3 + z14.1), .int (x2 + 1), .ref 1, .ref 92] z14.2 by
              obtain ⟨n, hn⟩ := hh
              exact ⟨n + 17, And.intro (jx_in_ok c11) (s_P_copyFrom (by omega) (by decide) h13 (s_S_goBy (by omega) (by decide) h15 (And.intro (fun zz => absurd c16 zz) (fun _ => hn))))⟩
            obtain ⟨n, hn⟩ := s_L_walk_104 hRec hd0 hd hK43 (u7 := some (.int z14.1)) (by decide) h hQ
            exact ⟨n + 2, hn⟩
          · rw [if_neg c16] at h
            suffices hh : ∃ n, jx_W jx_ShC d none jc_34 Q n 100 [some (.ref 92), some (.ref 1), some (.int x2), some (.int x3), some (.int x4), some (.ref 102), some (.int x6), some (.int z14.1)] [.int (x3 + z14.1), .int (x2 + 1), .ref 1, .ref 92] z14.2 by
              obtain ⟨n, hn⟩ := hh
              exact ⟨n + 17, And.intro (jx_in_ok c11) (s_P_copyFrom (by omega) (by decide) h13 (s_S_goBy (by omega) (by decide) h15 (And.intro (fun _ => hn) (fun zz => absurd zz c16))))⟩
            obtain ⟨n, hn⟩ := s_L_walk_104 hRec hd0 hd hK43 (u7 := some (.int z14.1)) (by decide) h hQ
            exact ⟨n + 3, hn⟩
        · try rw [show (94 + 4 * (1 : Int32).toNatClampNeg) = 98 from by decide] at h
          obtain ⟨z12, h13, h⟩ := Option.bind_eq_some_iff.mp h
          obtain ⟨z14, h15, h⟩ := Option.bind_eq_some_iff.mp h
          by_cases c16 : x6 = 0
          · rw [if_pos c16] at h
            suffices hh : ∃ n, jx_W jx_ShC d none jc_34 Q n 95 [some (.ref 92), some (.ref 1), some (.int x2), some (.int x3), some (.int x4), some (.ref 102), some (.int x6), some (.int z14.1)] [.int (x3 + z14.1), .int (x2 + 1), .ref 1, .ref 92] z14.2 by
              obtain ⟨n, hn⟩ := hh
              exact ⟨n + 17, And.intro (jx_in_ok c11) (s_P_copyFrom (by omega) (by decide) h13 (s_S_goBy (by omega) (by decide) h15 (And.intro (fun zz => absurd c16 zz) (fun _ => hn))))⟩
            obtain ⟨n, hn⟩ := s_L_walk_104 hRec hd0 hd hK43 (u7 := some (.int z14.1)) (by decide) h hQ
            exact ⟨n + 2, hn⟩
          · rw [if_neg c16] at h
            suffices hh : ∃ n, jx_W jx_ShC d none jc_34 Q n 100 [some (.ref 92), some (.ref 1), some (.int x2), some (.int x3), some (.int x4), some (.ref 102), some (.int x6), some (.int z14.1)] [.int (x3 + z14.1), .int (x2 + 1), .ref 1, .ref 92] z14.2 by
              obtain ⟨n, hn⟩ := hh
              exact ⟨n + 17, And.intro (jx_in_ok c11) (s_P_copyFrom (by omega) (by decide) h13 (s_S_goBy (by omega) (by decide) h15 (And.intro (fun _ => hn) (fun zz => absurd zz c16))))⟩
            obtain ⟨n, hn⟩ := s_L_walk_104 hRec hd0 hd hK43 (u7 := some (.int z14.1)) (by decide) h hQ
            exact ⟨n + 3, hn⟩
        · try rw [show (94 + 4 * (2 : Int32).toNatClampNeg) = 102 from by decide] at h
          obtain ⟨z12, h13, h⟩ := Option.bind_eq_some_iff.mp h
          obtain ⟨z14, h15, h⟩ := Option.bind_eq_some_iff.mp h
          by_cases c16 : x6 = 0
          · rw [if_pos c16] at h
            suffices hh : ∃ n, jx_W jx_ShC d none jc_34 Q n 95 [some (.ref 92), some (.ref 1), some (.int x2), some (.int x3), some (.int x4), some (.ref 102), some (.int x6), some (.int z14.1)] [.int (x3 + z14.1), .int (x2 + 1), .ref 1, .ref 92] z14.2 by
              obtain ⟨n, hn⟩ := hh
              exact ⟨n + 17, And.intro (jx_in_ok c11) (s_P_copyFrom (by omega) (by decide) h13 (s_S_goBy (by omega) (by decide) h15 (And.intro (fun zz => absurd c16 zz) (fun _ => hn))))⟩
            obtain ⟨n, hn⟩ := s_L_walk_104 hRec hd0 hd hK43 (u7 := some (.int z14.1)) (by decide) h hQ
            exact ⟨n + 2, hn⟩
          · rw [if_neg c16] at h
            suffices hh : ∃ n, jx_W jx_ShC d none jc_34 Q n 100 [some (.ref 92), some (.ref 1), some (.int x2), some (.int x3), some (.int x4), some (.ref 102), some (.int x6), some (.int z14.1)] [.int (x3 + z14.1), .int (x2 + 1), .ref 1, .ref 92] z14.2 by
              obtain ⟨n, hn⟩ := hh
              exact ⟨n + 17, And.intro (jx_in_ok c11) (s_P_copyFrom (by omega) (by decide) h13 (s_S_goBy (by omega) (by decide) h15 (And.intro (fun _ => hn) (fun zz => absurd zz c16))))⟩
            obtain ⟨n, hn⟩ := s_L_walk_104 hRec hd0 hd hK43 (u7 := some (.int z14.1)) (by decide) h hQ
            exact ⟨n + 3, hn⟩
        · try rw [show (94 + 4 * (3 : Int32).toNatClampNeg) = 106 from by decide] at h
          obtain ⟨z12, h13, h⟩ := Option.bind_eq_some_iff.mp h
          obtain ⟨z14, h15, h⟩ := Option.bind_eq_some_iff.mp h
          by_cases c16 : x6 = 0
          · rw [if_pos c16] at h
            suffices hh : ∃ n, jx_W jx_ShC d none jc_34 Q n 95 [some (.ref 92), some (.ref 1), some (.int x2), some (.int x3), some (.int x4), some (.ref 102), some (.int x6), some (.int z14.1)] [.int (x3 + z14.1), .int (x2 + 1), .ref 1, .ref 92] z14.2 by
              obtain ⟨n, hn⟩ := hh
              exact ⟨n + 17, And.intro (jx_in_ok c11) (s_P_copyFrom (by omega) (by decide) h13 (s_S_goBy (by omega) (by decide) h15 (And.intro (fun zz => absurd c16 zz) (fun _ => hn))))⟩
            obtain ⟨n, hn⟩ := s_L_walk_104 hRec hd0 hd hK43 (u7 := some (.int z14.1)) (by decide) h hQ
            exact ⟨n + 2, hn⟩
          · rw [if_neg c16] at h
            suffices hh : ∃ n, jx_W jx_ShC d none jc_34 Q n 100 [some (.ref 92), some (.ref 1), some (.int x2), some (.int x3), some (.int x4), some (.ref 102), some (.int x6), some (.int z14.1)] [.int (x3 + z14.1), .int (x2 + 1), .ref 1, .ref 92] z14.2 by
              obtain ⟨n, hn⟩ := hh
              exact ⟨n + 17, And.intro (jx_in_ok c11) (s_P_copyFrom (by omega) (by decide) h13 (s_S_goBy (by omega) (by decide) h15 (And.intro (fun _ => hn) (fun zz => absurd zz c16))))⟩
            obtain ⟨n, hn⟩ := s_L_walk_104 hRec hd0 hd hK43 (u7 := some (.int z14.1)) (by decide) h hQ
            exact ⟨n + 3, hn⟩
        · try rw [show (94 + 4 * (4 : Int32).toNatClampNeg) = 110 from by decide] at h
          obtain ⟨z12, h13, h⟩ := Option.bind_eq_some_iff.mp h
          obtain ⟨z14, h15, h⟩ := Option.bind_eq_some_iff.mp h
          by_cases c16 : x6 = 0
          · rw [if_pos c16] at h
            suffices hh : ∃ n, jx_W jx_ShC d none jc_34 Q n 95 [some (.ref 92), some (.ref 1), some (.int x2), some (.int x3), some (.int x4), some (.ref 102), some (.int x6), some (.int z14.1)] [.int (x3 + z14.1), .int (x2 + 1), .ref 1, .ref 92] z14.2 by
              obtain ⟨n, hn⟩ := hh
              exact ⟨n + 17, And.intro (jx_in_ok c11) (s_P_copyFrom (by omega) (by decide) h13 (s_S_goBy (by omega) (by decide) h15 (And.intro (fun zz => absurd c16 zz) (fun _ => hn))))⟩
            obtain ⟨n, hn⟩ := s_L_walk_104 hRec hd0 hd hK43 (u7 := some (.int z14.1)) (by decide) h hQ
            exact ⟨n + 2, hn⟩
          · rw [if_neg c16] at h
            suffices hh : ∃ n, jx_W jx_ShC d none jc_34 Q n 100 [some (.ref 92), some (.ref 1), some (.int x2), some (.int x3), some (.int x4), some (.ref 102), some (.int x6), some (.int z14.1)] [.int (x3 + z14.1), .int (x2 + 1), .ref 1, .ref 92] z14.2 by
              obtain ⟨n, hn⟩ := hh
              exact ⟨n + 17, And.intro (jx_in_ok c11) (s_P_copyFrom (by omega) (by decide) h13 (s_S_goBy (by omega) (by decide) h15 (And.intro (fun _ => hn) (fun zz => absurd zz c16))))⟩
            obtain ⟨n, hn⟩ := s_L_walk_104 hRec hd0 hd hK43 (u7 := some (.int z14.1)) (by decide) h hQ
            exact ⟨n + 3, hn⟩
    · unfold f_L_walk_67 at h
      cases c11 : jx_in y2 5 with
      | false => rw [c11, cond_false] at h; cases h
      | true =>
        rw [c11, cond_true] at h
        rcases jx_ix5 (jx_in_ok c11) with rfl | rfl | rfl | rfl | rfl
        · try rw [show (94 + 4 * (0 : Int32).toNatClampNeg) = 94 from by decide] at h
          obtain ⟨z12, h13, h⟩ := Option.bind_eq_some_iff.mp h
          obtain ⟨z14, h15, h⟩ := Option.bind_eq_some_iff.mp h
          by_cases c16 : x6 = 0
          · rw [if_pos c16] at h
            suffices hh : ∃ n, jx_W jx_ShC d none jc_34 Q n 95 [some (.ref 92), some (.ref 1), some (.int x2), some (.int x3), some (.int x4), some (.ref 102), some (.int x6), some (.int z14.1)] [.int (x3 + z14.1), .int (x2 + 1), .ref 1, .ref 92] z14.2 by
              obtain ⟨n, hn⟩ := hh
              exact ⟨n + 17, And.intro (jx_in_ok c11) (s_P_copyFrom (by omega) (by decide) h13 (s_S_goBy (by omega) (by decide) h15 (And.intro (fun zz => absurd c16 zz) (fun _ => hn))))⟩
            obtain ⟨n, hn⟩ := s_L_walk_104 hRec hd0 hd hK43 (u7 := some (.int z14.1)) (by decide) h hQ
            exact ⟨n + 2, hn⟩
          · rw [if_neg c16] at h
            suffices hh : ∃ n, jx_W jx_ShC d none jc_34 Q n 100 [some (.ref 92), some (.ref 1), some (.int x2), some (.int x3), some (.int x4), some (.ref 102), some (.int x6), some (.int z14.1)] [.int (x3 + z14.1), .int (x2 + 1), .ref 1, .ref 92] z14.2 by
              obtain ⟨n, hn⟩ := hh
              exact ⟨n + 17, And.intro (jx_in_ok c11) (s_P_copyFrom (by omega) (by decide) h13 (s_S_goBy (by omega) (by decide) h15 (And.intro (fun _ => hn) (fun zz => absurd zz c16))))⟩
            obtain ⟨n, hn⟩ := s_L_walk_104 hRec hd0 hd hK43 (u7 := some (.int z14.1)) (by decide) h hQ
            exact ⟨n + 3, hn⟩
        · try rw [show (94 + 4 * (1 : Int32).toNatClampNeg) = 98 from by decide] at h
          obtain ⟨z12, h13, h⟩ := Option.bind_eq_some_iff.mp h
          obtain ⟨z14, h15, h⟩ := Option.bind_eq_some_iff.mp h
          by_cases c16 : x6 = 0
          · rw [if_pos c16] at h
            suffices hh : ∃ n, jx_W jx_ShC d none jc_34 Q n 95 [some (.ref 92), some (.ref 1), some (.int x2), some (.int x3), some (.int x4), some (.ref 102), some (.int x6), some (.int z14.1)] [.int (x3 + z14.1), .int (x2 + 1), .ref 1, .ref 92] z14.2 by
              obtain ⟨n, hn⟩ := hh
              exact ⟨n + 17, And.intro (jx_in_ok c11) (s_P_copyFrom (by omega) (by decide) h13 (s_S_goBy (by omega) (by decide) h15 (And.intro (fun zz => absurd c16 zz) (fun _ => hn))))⟩
            obtain ⟨n, hn⟩ := s_L_walk_104 hRec hd0 hd hK43 (u7 := some (.int z14.1)) (by decide) h hQ
            exact ⟨n + 2, hn⟩
          · rw [if_neg c16] at h
            suffices hh : ∃ n, jx_W jx_ShC d none jc_34 Q n 100 [some (.ref 92), some (.ref 1), some (.int x2), some (.int x3), some (.int x4), some (.ref 102), some (.int x6), some (.int z14.1)] [.int (x3 + z14.1), .int (x2 + 1), .ref 1, .ref 92] z14.2 by
              obtain ⟨n, hn⟩ := hh
              exact ⟨n + 17, And.intro (jx_in_ok c11) (s_P_copyFrom (by omega) (by decide) h13 (s_S_goBy (by omega) (by decide) h15 (And.intro (fun _ => hn) (fun zz => absurd zz c16))))⟩
            obtain ⟨n, hn⟩ := s_L_walk_104 hRec hd0 hd hK43 (u7 := some (.int z14.1)) (by decide) h hQ
            exact ⟨n + 3, hn⟩
        · try rw [show (94 + 4 * (2 : Int32).toNatClampNeg) = 102 from by decide] at h
          obtain ⟨z12, h13, h⟩ := Option.bind_eq_some_iff.mp h
          obtain ⟨z14, h15, h⟩ := Option.bind_eq_some_iff.mp h
          by_cases c16 : x6 = 0
          · rw [if_pos c16] at h
            suffices hh : ∃ n, jx_W jx_ShC d none jc_34 Q n 95 [some (.ref 92), some (.ref 1), some (.int x2), some (.int x3), some (.int x4), some (.ref 102), some (.int x6), some (.int z14.1)] [.int (x3 + z14.1), .int (x2 + 1), .ref 1, .ref 92] z14.2 by
              obtain ⟨n, hn⟩ := hh
              exact ⟨n + 17, And.intro (jx_in_ok c11) (s_P_copyFrom (by omega) (by decide) h13 (s_S_goBy (by omega) (by decide) h15 (And.intro (fun zz => absurd c16 zz) (fun _ => hn))))⟩
            obtain ⟨n, hn⟩ := s_L_walk_104 hRec hd0 hd hK43 (u7 := some (.int z14.1)) (by decide) h hQ
            exact ⟨n + 2, hn⟩
          · rw [if_neg c16] at h
            suffices hh : ∃ n, jx_W jx_ShC d none jc_34 Q n 100 [some (.ref 92), some (.ref 1), some (.int x2), some (.int x3), some (.int x4), some (.ref 102), some (.int x6), some (.int z14.1)] [.int (x3 + z14.1), .int (x2 + 1), .ref 1, .ref 92] z14.2 by
              obtain ⟨n, hn⟩ := hh
              exact ⟨n + 17, And.intro (jx_in_ok c11) (s_P_copyFrom (by omega) (by decide) h13 (s_S_goBy (by omega) (by decide) h15 (And.intro (fun _ => hn) (fun zz => absurd zz c16))))⟩
            obtain ⟨n, hn⟩ := s_L_walk_104 hRec hd0 hd hK43 (u7 := some (.int z14.1)) (by decide) h hQ
            exact ⟨n + 3, hn⟩
        · try rw [show (94 + 4 * (3 : Int32).toNatClampNeg) = 106 from by decide] at h
          obtain ⟨z12, h13, h⟩ := Option.bind_eq_some_iff.mp h
          obtain ⟨z14, h15, h⟩ := Option.bind_eq_some_iff.mp h
          by_cases c16 : x6 = 0
          · rw [if_pos c16] at h
            suffices hh : ∃ n, jx_W jx_ShC d none jc_34 Q n 95 [some (.ref 92), some (.ref 1), some (.int x2), some (.int x3), some (.int x4), some (.ref 102), some (.int x6), some (.int z14.1)] [.int (x3 + z14.1), .int (x2 + 1), .ref 1, .ref 92] z14.2 by
              obtain ⟨n, hn⟩ := hh
              exact ⟨n + 17, And.intro (jx_in_ok c11) (s_P_copyFrom (by omega) (by decide) h13 (s_S_goBy (by omega) (by decide) h15 (And.intro (fun zz => absurd c16 zz) (fun _ => hn))))⟩
            obtain ⟨n, hn⟩ := s_L_walk_104 hRec hd0 hd hK43 (u7 := some (.int z14.1)) (by decide) h hQ
            exact ⟨n + 2, hn⟩
          · rw [if_neg c16] at h
            suffices hh : ∃ n, jx_W jx_ShC d none jc_34 Q n 100 [some (.ref 92), some (.ref 1), some (.int x2), some (.int x3), some (.int x4), some (.ref 102), some (.int x6), some (.int z14.1)] [.int (x3 + z14.1), .int (x2 + 1), .ref 1, .ref 92] z14.2 by
              obtain ⟨n, hn⟩ := hh
              exact ⟨n + 17, And.intro (jx_in_ok c11) (s_P_copyFrom (by omega) (by decide) h13 (s_S_goBy (by omega) (by decide) h15 (And.intro (fun _ => hn) (fun zz => absurd zz c16))))⟩
            obtain ⟨n, hn⟩ := s_L_walk_104 hRec hd0 hd hK43 (u7 := some (.int z14.1)) (by decide) h hQ
            exact ⟨n + 3, hn⟩
        · try rw [show (94 + 4 * (4 : Int32).toNatClampNeg) = 110 from by decide] at h
          obtain ⟨z12, h13, h⟩ := Option.bind_eq_some_iff.mp h
          obtain ⟨z14, h15, h⟩ := Option.bind_eq_some_iff.mp h
          by_cases c16 : x6 = 0
          · rw [if_pos c16] at h
            suffices hh : ∃ n, jx_W jx_ShC d none jc_34 Q n 95 [some (.ref 92), some (.ref 1), some (.int x2), some (.int x3), some (.int x4), some (.ref 102), some (.int x6), some (.int z14.1)] [.int (x3 + z14.1), .int (x2 + 1), .ref 1, .ref 92] z14.2 by
              obtain ⟨n, hn⟩ := hh
              exact ⟨n + 17, And.intro (jx_in_ok c11) (s_P_copyFrom (by omega) (by decide) h13 (s_S_goBy (by omega) (by decide) h15 (And.intro (fun zz => absurd c16 zz) (fun _ => hn))))⟩
            obtain ⟨n, hn⟩ := s_L_walk_104 hRec hd0 hd hK43 (u7 := some (.int z14.1)) (by decide) h hQ
            exact ⟨n + 2, hn⟩
          · rw [if_neg c16] at h
            suffices hh : ∃ n, jx_W jx_ShC d none jc_34 Q n 100 [some (.ref 92), some (.ref 1), some (.int x2), some (.int x3), some (.int x4), some (.ref 102), some (.int x6), some (.int z14.1)] [.int (x3 + z14.1), .int (x2 + 1), .ref 1, .ref 92] z14.2 by
              obtain ⟨n, hn⟩ := hh
              exact ⟨n + 17, And.intro (jx_in_ok c11) (s_P_copyFrom (by omega) (by decide) h13 (s_S_goBy (by omega) (by decide) h15 (And.intro (fun _ => hn) (fun zz => absurd zz c16))))⟩
            obtain ⟨n, hn⟩ := s_L_walk_104 hRec hd0 hd hK43 (u7 := some (.int z14.1)) (by decide) h hQ
            exact ⟨n + 3, hn⟩
    · unfold f_L_walk_67 at h
      cases c11 : jx_in y2 5 with
      | false => rw [c11, cond_false] at h; cases h
      | true =>
        rw [c11, cond_true] at h
        rcases jx_ix5 (jx_in_ok c11) with rfl | rfl | rfl | rfl | rfl
        · try rw [show (94 + 4 * (0 : Int32).toNatClampNeg) = 94 from by decide] at h
          obtain ⟨z12, h13, h⟩ := Option.bind_eq_some_iff.mp h
          obtain ⟨z14, h15, h⟩ := Option.bind_eq_some_iff.mp h
          by_cases c16 : x6 = 0
          · rw [if_pos c16] at h
            suffices hh : ∃ n, jx_W jx_ShC d none jc_34 Q n 95 [some (.ref 92), some (.ref 1), some (.int x2), some (.int x3), some (.int x4), some (.ref 102), some (.int x6), some (.int z14.1)] [.int (x3 + z14.1), .int (x2 + 1), .ref 1, .ref 92] z14.2 by
              obtain ⟨n, hn⟩ := hh
              exact ⟨n + 17, And.intro (jx_in_ok c11) (s_P_copyFrom (by omega) (by decide) h13 (s_S_goBy (by omega) (by decide) h15 (And.intro (fun zz => absurd c16 zz) (fun _ => hn))))⟩
            obtain ⟨n, hn⟩ := s_L_walk_104 hRec hd0 hd hK43 (u7 := some (.int z14.1)) (by decide) h hQ
            exact ⟨n + 2, hn⟩
          · rw [if_neg c16] at h
            suffices hh : ∃ n, jx_W jx_ShC d none jc_34 Q n 100 [some (.ref 92), some (.ref 1), some (.int x2), some (.int x3), some (.int x4), some (.ref 102), some (.int x6), some (.int z14.1)] [.int (x3 + z14.1), .int (x2 + 1), .ref 1, .ref 92] z14.2 by
              obtain ⟨n, hn⟩ := hh
              exact ⟨n + 17, And.intro (jx_in_ok c11) (s_P_copyFrom (by omega) (by decide) h13 (s_S_goBy (by omega) (by decide) h15 (And.intro (fun _ => hn) (fun zz => absurd zz c16))))⟩
            obtain ⟨n, hn⟩ := s_L_walk_104 hRec hd0 hd hK43 (u7 := some (.int z14.1)) (by decide) h hQ
            exact ⟨n + 3, hn⟩
        · try rw [show (94 + 4 * (1 : Int32).toNatClampNeg) = 98 from by decide] at h
          obtain ⟨z12, h13, h⟩ := Option.bind_eq_some_iff.mp h
          obtain ⟨z14, h15, h⟩ := Option.bind_eq_some_iff.mp h
          by_cases c16 : x6 = 0
          · rw [if_pos c16] at h
            suffices hh : ∃ n, jx_W jx_ShC d none jc_34 Q n 95 [some (.ref 92), some (.ref 1), some (.int x2), some (.int x3), some (.int x4), some (.ref 102), some (.int x6), some (.int z14.1)] [.int (x3 + z14.1), .int (x2 + 1), .ref 1, .ref 92] z14.2 by
              obtain ⟨n, hn⟩ := hh
              exact ⟨n + 17, And.intro (jx_in_ok c11) (s_P_copyFrom (by omega) (by decide) h13 (s_S_goBy (by omega) (by decide) h15 (And.intro (fun zz => absurd c16 zz) (fun _ => hn))))⟩
            obtain ⟨n, hn⟩ := s_L_walk_104 hRec hd0 hd hK43 (u7 := some (.int z14.1)) (by decide) h hQ
            exact ⟨n + 2, hn⟩
          · rw [if_neg c16] at h
            suffices hh : ∃ n, jx_W jx_ShC d none jc_34 Q n 100 [some (.ref 92), some (.ref 1), some (.int x2), some (.int x3), some (.int x4), some (.ref 102), some (.int x6), some (.int z14.1)] [.int (x3 + z14.1), .int (x2 + 1), .ref 1, .ref 92] z14.2 by
              obtain ⟨n, hn⟩ := hh
              exact ⟨n + 17, And.intro (jx_in_ok c11) (s_P_copyFrom (by omega) (by decide) h13 (s_S_goBy (by omega) (by decide) h15 (And.intro (fun _ => hn) (fun zz => absurd zz c16))))⟩
            obtain ⟨n, hn⟩ := s_L_walk_104 hRec hd0 hd hK43 (u7 := some (.int z14.1)) (by decide) h hQ
            exact ⟨n + 3, hn⟩
        · try rw [show (94 + 4 * (2 : Int32).toNatClampNeg) = 102 from by decide] at h
          obtain ⟨z12, h13, h⟩ := Option.bind_eq_some_iff.mp h
          obtain ⟨z14, h15, h⟩ := Option.bind_eq_some_iff.mp h
          by_cases c16 : x6 = 0
          · rw [if_pos c16] at h
            suffices hh : ∃ n, jx_W jx_ShC d none jc_34 Q n 95 [some (.ref 92), some (.ref 1), some (.int x2), some (.int x3), some (.int x4), some (.ref 102), some (.int x6), some (.int z14.1)] [.int (x3 + z14.1), .int (x2 + 1), .ref 1, .ref 92] z14.2 by
              obtain ⟨n, hn⟩ := hh
              exact ⟨n + 17, And.intro (jx_in_ok c11) (s_P_copyFrom (by omega) (by decide) h13 (s_S_goBy (by omega) (by decide) h15 (And.intro (fun zz => absurd c16 zz) (fun _ => hn))))⟩
            obtain ⟨n, hn⟩ := s_L_walk_104 hRec hd0 hd hK43 (u7 := some (.int z14.1)) (by decide) h hQ
            exact ⟨n + 2, hn⟩
          · rw [if_neg c16] at h
            suffices hh : ∃ n, jx_W jx_ShC d none jc_34 Q n 100 [some (.ref 92), some (.ref 1), some (.int x2), some (.int x3), some (.int x4), some (.ref 102), some (.int x6), some (.int z14.1)] [.int (x3 + z14.1), .int (x2 + 1), .ref 1, .ref 92] z14.2 by
              obtain ⟨n, hn⟩ := hh
              exact ⟨n + 17, And.intro (jx_in_ok c11) (s_P_copyFrom (by omega) (by decide) h13 (s_S_goBy (by omega) (by decide) h15 (And.intro (fun _ => hn) (fun zz => absurd zz c16))))⟩
            obtain ⟨n, hn⟩ := s_L_walk_104 hRec hd0 hd hK43 (u7 := some (.int z14.1)) (by decide) h hQ
            exact ⟨n + 3, hn⟩
        · try rw [show (94 + 4 * (3 : Int32).toNatClampNeg) = 106 from by decide] at h
          obtain ⟨z12, h13, h⟩ := Option.bind_eq_some_iff.mp h
          obtain ⟨z14, h15, h⟩ := Option.bind_eq_some_iff.mp h
          by_cases c16 : x6 = 0
          · rw [if_pos c16] at h
            suffices hh : ∃ n, jx_W jx_ShC d none jc_34 Q n 95 [some (.ref 92), some (.ref 1), some (.int x2), some (.int x3), some (.int x4), some (.ref 102), some (.int x6), some (.int z14.1)] [.int (x3 + z14.1), .int (x2 + 1), .ref 1, .ref 92] z14.2 by
              obtain ⟨n, hn⟩ := hh
              exact ⟨n + 17, And.intro (jx_in_ok c11) (s_P_copyFrom (by omega) (by decide) h13 (s_S_goBy (by omega) (by decide) h15 (And.intro (fun zz => absurd c16 zz) (fun _ => hn))))⟩
            obtain ⟨n, hn⟩ := s_L_walk_104 hRec hd0 hd hK43 (u7 := some (.int z14.1)) (by decide) h hQ
            exact ⟨n + 2, hn⟩
          · rw [if_neg c16] at h
            suffices hh : ∃ n, jx_W jx_ShC d none jc_34 Q n 100 [some (.ref 92), some (.ref 1), some (.int x2), some (.int x3), some (.int x4), some (.ref 102), some (.int x6), some (.int z14.1)] [.int (x3 + z14.1), .int (x2 + 1), .ref 1, .ref 92] z14.2 by
              obtain ⟨n, hn⟩ := hh
              exact ⟨n + 17, And.intro (jx_in_ok c11) (s_P_copyFrom (by omega) (by decide) h13 (s_S_goBy (by omega) (by decide) h15 (And.intro (fun _ => hn) (fun zz => absurd zz c16))))⟩
            obtain ⟨n, hn⟩ := s_L_walk_104 hRec hd0 hd hK43 (u7 := some (.int z14.1)) (by decide) h hQ
            exact ⟨n + 3, hn⟩
        · try rw [show (94 + 4 * (4 : Int32).toNatClampNeg) = 110 from by decide] at h
          obtain ⟨z12, h13, h⟩ := Option.bind_eq_some_iff.mp h
          obtain ⟨z14, h15, h⟩ := Option.bind_eq_some_iff.mp h
          by_cases c16 : x6 = 0
          · rw [if_pos c16] at h
            suffices hh : ∃ n, jx_W jx_ShC d none jc_34 Q n 95 [some (.ref 92), some (.ref 1), some (.int x2), some (.int x3), some (.int x4), some (.ref 102), some (.int x6), some (.int z14.1)] [.int (x3 + z14.1), .int (x2 + 1), .ref 1, .ref 92] z14.2 by
              obtain ⟨n, hn⟩ := hh
              exact ⟨n + 17, And.intro (jx_in_ok c11) (s_P_copyFrom (by omega) (by decide) h13 (s_S_goBy (by omega) (by decide) h15 (And.intro (fun zz => absurd c16 zz) (fun _ => hn))))⟩
            obtain ⟨n, hn⟩ := s_L_walk_104 hRec hd0 hd hK43 (u7 := some (.int z14.1)) (by decide) h hQ
            exact ⟨n + 2, hn⟩
          · rw [if_neg c16] at h
            suffices hh : ∃ n, jx_W jx_ShC d none jc_34 Q n 100 [some (.ref 92), some (.ref 1), some (.int x2), some (.int x3), some (.int x4), some (.ref 102), some (.int x6), some (.int z14.1)] [.int (x3 + z14.1), .int (x2 + 1), .ref 1, .ref 92] z14.2 by
              obtain ⟨n, hn⟩ := hh
              exact ⟨n + 17, And.intro (jx_in_ok c11) (s_P_copyFrom (by omega) (by decide) h13 (s_S_goBy (by omega) (by decide) h15 (And.intro (fun _ => hn) (fun zz => absurd zz c16))))⟩
            obtain ⟨n, hn⟩ := s_L_walk_104 hRec hd0 hd hK43 (u7 := some (.int z14.1)) (by decide) h hQ
            exact ⟨n + 3, hn⟩
  · rcases hr_0 with rfl | rfl | rfl | rfl | rfl
    · unfold f_L_walk_67 at h
      cases c11 : jx_in y2 5 with
      | false => rw [c11, cond_false] at h; cases h
      | true =>
        rw [c11, cond_true] at h
        rcases jx_ix5 (jx_in_ok c11) with rfl | rfl | rfl | rfl | rfl
        · try rw [show (94 + 4 * (0 : Int32).toNatClampNeg) = 94 from by decide] at h
          obtain ⟨z12, h13, h⟩ := Option.bind_eq_some_iff.mp h
          obtain ⟨z14, h15, h⟩ := Option.bind_eq_some_iff.mp h
          by_cases c16 : x6 = 0
          · rw [if_pos c16] at h
            suffices hh : ∃ n, jx_W jx_ShC d none jc_34 Q n 95 [some (.ref 92), some (.ref 1), some (.int x2), some (.int x3), some (.int x4), some (.ref 106), some (.int x6), some (.int z14.1)] [.int (x3 + z14.1), .int (x2 + 1), .ref 1, .ref 92] z14.2 by
              obtain ⟨n, hn⟩ := hh
              exact ⟨n + 17, And.intro (jx_in_ok c11) (s_P_copyFrom (by omega) (by decide) h13 (s_S_goBy (by omega) (by decide) h15 (And.intro (fun zz => absurd c16 zz) (fun _ => hn))))⟩
            obtain ⟨n, hn⟩ := s_L_walk_104 hRec hd0 hd hK43 (u7 := some (.int z14.1)) (by decide) h hQ
            exact ⟨n + 2, hn⟩
          · rw [if_neg c16] at h
            suffices hh : ∃ n, jx_W jx_ShC d none jc_34 Q n 100 [some (.ref 92), some (.ref 1), some (.int x2), some (.int x3), some (.int x4), some (.ref 106), some (.int x6), some (.int z14.1)] [.int (x3 + z14.1), .int (x2 + 1), .ref 1, .ref 92] z14.2 by
              obtain ⟨n, hn⟩ := hh
              exact ⟨n + 17, And.intro (jx_in_ok c11) (s_P_copyFrom (by omega) (by decide) h13 (s_S_goBy (by omega) (by decide) h15 (And.intro (fun _ => hn) (fun zz => absurd zz c16))))⟩
            obtain ⟨n, hn⟩ := s_L_walk_104 hRec hd0 hd hK43 (u7 := some (.int z14.1)) (by decide) h hQ
            exact ⟨n + 3, hn⟩
        · try rw [show (94 + 4 * (1 : Int32).toNatClampNeg) = 98 from by decide] at h
          obtain ⟨z12, h13, h⟩ := Option.bind_eq_some_iff.mp h
          obtain ⟨z14, h15, h⟩ := Option.bind_eq_some_iff.mp h
          by_cases c16 : x6 = 0
          · rw [if_pos c16] at h
            suffices hh : ∃ n, jx_W jx_ShC d none jc_34 Q n 95 [some (.ref 92), some (.ref 1), some (.int x2), some (.int x3), some (.int x4), some (.ref 106), some (.int x6), some (.int z14.1)] [.int (x3 + z14.1), .int (x2 + 1), .ref 1, .ref 92] z14.2 by
              obtain ⟨n, hn⟩ := hh
              exact ⟨n + 17, And.intro (jx_in_ok c11) (s_P_copyFrom (by omega) (by decide) h13 (s_S_goBy (by omega) (by decide) h15 (And.intro (fun zz => absurd c16 zz) (fun _ => hn))))⟩
            obtain ⟨n, hn⟩ := s_L_walk_104 hRec hd0 hd hK43 (u7 := some (.int z14.1)) (by decide) h hQ
            exact ⟨n + 2, hn⟩
          · rw [if_neg c16] at h
            suffices hh : ∃ n, jx_W jx_ShC d none jc_34 Q n 100 [some (.ref 92), some (.ref 1), some (.int x2), some (.int x3), some (.int x4), some (.ref 106), some (.int x6), some (.int z14.1)] [.int (x3 + z14.1), .int (x2 + 1), .ref 1, .ref 92] z14.2 by
              obtain ⟨n, hn⟩ := hh
              exact ⟨n + 17, And.intro (jx_in_ok c11) (s_P_copyFrom (by omega) (by decide) h13 (s_S_goBy (by omega) (by decide) h15 (And.intro (fun _ => hn) (fun zz => absurd zz c16))))⟩
            obtain ⟨n, hn⟩ := s_L_walk_104 hRec hd0 hd hK43 (u7 := some (.int z14.1)) (by decide) h hQ
            exact ⟨n + 3, hn⟩
        · try rw [show (94 + 4 * (2 : Int32).toNatClampNeg) = 102 from by decide] at h
          obtain ⟨z12, h13, h⟩ := Option.bind_eq_some_iff.mp h
          obtain ⟨z14, h15, h⟩ := Option.bind_eq_some_iff.mp h
          by_cases c16 : x6 = 0
          · rw [if_pos c16] at h
            suffices hh : ∃ n, jx_W jx_ShC d none jc_34 Q n 95 [some (.ref 92), some (.ref 1), some (.int x2), some (.int x3), some (.int x4), some (.ref 106), some (.int x6), some (.int z14.1)] [.int (x3 + z14.1), .int (x2 + 1), .ref 1, .ref 92] z14.2 by
              obtain ⟨n, hn⟩ := hh
              exact ⟨n + 17, And.intro (jx_in_ok c11) (s_P_copyFrom (by omega) (by decide) h13 (s_S_goBy (by omega) (by decide) h15 (And.intro (fun zz => absurd c16 zz) (fun _ => hn))))⟩
            obtain ⟨n, hn⟩ := s_L_walk_104 hRec hd0 hd hK43 (u7 := some (.int z14.1)) (by decide) h hQ
            exact ⟨n + 2, hn⟩
          · rw [if_neg c16] at h
            suffices hh : ∃ n, jx_W jx_ShC d none jc_34 Q n 100 [some (.ref 92), some (.ref 1), some (.int x2), some (.int x3), some (.int x4), some (.ref 106), some (.int x6), some (.int z14.1)] [.int (x3 + z14.1), .int (x2 + 1), .ref 1, .ref 92] z14.2 by
              obtain ⟨n, hn⟩ := hh
              exact ⟨n + 17, And.intro (jx_in_ok c11) (s_P_copyFrom (by omega) (by decide) h13 (s_S_goBy (by omega) (by decide) h15 (And.intro (fun _ => hn) (fun zz => absurd zz c16))))⟩
            obtain ⟨n, hn⟩ := s_L_walk_104 hRec hd0 hd hK43 (u7 := some (.int z14.1)) (by decide) h hQ
            exact ⟨n + 3, hn⟩
        · try rw [show (94 + 4 * (3 : Int32).toNatClampNeg) = 106 from by decide] at h
          obtain ⟨z12, h13, h⟩ := Option.bind_eq_some_iff.mp h
          obtain ⟨z14, h15, h⟩ := Option.bind_eq_some_iff.mp h
          by_cases c16 : x6 = 0
          · rw [if_pos c16] at h
            suffices hh : ∃ n, jx_W jx_ShC d none jc_34 Q n 95 [some (.ref 92), some (.ref 1), some (.int x2), some (.int x3), some (.int x4), some (.ref 106), some (.int x6), some (.int z14.1)] [.int (x3 + z14.1), .int (x2 + 1), .ref 1, .ref 92] z14.2 by
              obtain ⟨n, hn⟩ := hh
              exact ⟨n + 17, And.intro (jx_in_ok c11) (s_P_copyFrom (by omega) (by decide) h13 (s_S_goBy (by omega) (by decide) h15 (And.intro (fun zz => absurd c16 zz) (fun _ => hn))))⟩
            obtain ⟨n, hn⟩ := s_L_walk_104 hRec hd0 hd hK43 (u7 := some (.int z14.1)) (by decide) h hQ
            exact ⟨n + 2, hn⟩
          · rw [if_neg c16] at h
            suffices hh : ∃ n, jx_W jx_ShC d none jc_34 Q n 100 [some (.ref 92), some (.ref 1), some (.int x2), some (.int x3), some (.int x4), some (.ref 106), some (.int x6), some (.int z14.1)] [.int (x3 + z14.1), .int (x2 + 1), .ref 1, .ref 92] z14.2 by
              obtain ⟨n, hn⟩ := hh
              exact ⟨n + 17, And.intro (jx_in_ok c11) (s_P_copyFrom (by omega) (by decide) h13 (s_S_goBy (by omega) (by decide) h15 (And.intro (fun _ => hn) (fun zz => absurd zz c16))))⟩
            obtain ⟨n, hn⟩ := s_L_walk_104 hRec hd0 hd hK43 (u7 := some (.int z14.1)) (by decide) h hQ
            exact ⟨n + 3, hn⟩
        · try rw [show (94 + 4 * (4 : Int32).toNatClampNeg) = 110 from by decide] at h
          obtain ⟨z12, h13, h⟩ := Option.bind_eq_some_iff.mp h
          obtain ⟨z14, h15, h⟩ := Option.bind_eq_some_iff.mp h
          by_cases c16 : x6 = 0
          · rw [if_pos c16] at h
            suffices hh : ∃ n, jx_W jx_ShC d none jc_34 Q n 95 [some (.ref 92), some (.ref 1), some (.int x2), some (.int x3), some (.int x4), some (.ref 106), some (.int x6), some (.int z14.1)] [.int (x3 + z14.1), .int (x2 + 1), .ref 1, .ref 92] z14.2 by
              obtain ⟨n, hn⟩ := hh
              exact ⟨n + 17, And.intro (jx_in_ok c11) (s_P_copyFrom (by omega) (by decide) h13 (s_S_goBy (by omega) (by decide) h15 (And.intro (fun zz => absurd c16 zz) (fun _ => hn))))⟩
            obtain ⟨n, hn⟩ := s_L_walk_104 hRec hd0 hd hK43 (u7 := some (.int z14.1)) (by decide) h hQ
            exact ⟨n + 2, hn⟩
          · rw [if_neg c16] at h
            suffices hh : ∃ n, jx_W jx_ShC d none jc_34 Q n 100 [some (.ref 92), some (.ref 1), some (.int x2), some (.int x3), some (.int x4), some (.ref 106), some (.int x6), some (.int z14.1)] [.int (x3 + z14.1), .int (x2 + 1), .ref 1, .ref 92] z14.2 by
              obtain ⟨n, hn⟩ := hh
              exact ⟨n + 17, And.intro (jx_in_ok c11) (s_P_copyFrom (by omega) (by decide) h13 (s_S_goBy (by omega) (by decide) h15 (And.intro (fun _ => hn) (fun zz => absurd zz c16))))⟩
            obtain ⟨n, hn⟩ := s_L_walk_104 hRec hd0 hd hK43 (u7 := some (.int z14.1)) (by decide) h hQ
            exact ⟨n + 3, hn⟩
    · unfold f_L_walk_67 at h
      cases c11 : jx_in y2 5 with
      | false => rw [c11, cond_false] at h; cases h
      | true =>
        rw [c11, cond_true] at h
        rcases jx_ix5 (jx_in_ok c11) with rfl | rfl | rfl | rfl | rfl
        · try rw [show (94 + 4 * (0 : Int32).toNatClampNeg) = 94 from by decide] at h
          obtain ⟨z12, h13, h⟩ := Option.bind_eq_some_iff.mp h
          obtain ⟨z14, h15, h⟩ := Option.bind_eq_some_iff.mp h
          by_cases c16 : x6 = 0
          · rw [if_pos c16] at h
            suffices hh : ∃ n, jx_W jx_ShC d none jc_34 Q n 95 [some (.ref 92), some (.ref 1), some (.int x2), some (.int x3), some (.int x4), some (.ref 106), some (.int x6), some (.int z14.1)] [.int (x3 + z14.1), .int (x2 + 1), .ref 1, .ref 92] z14.2 by
              obtain ⟨n, hn⟩ := hh
              exact ⟨n + 17, And.intro (jx_in_ok c11) (s_P_copyFrom (by omega) (by decide) h13 (s_S_goBy (by omega) (by decide) h15 (And.intro (fun zz => absurd c16 zz) (fun _ => hn))))⟩
            obtain ⟨n, hn⟩ := s_L_walk_104 hRec hd0 hd hK43 (u7 := some (.int z14.1)) (by decide) h hQ
            exact ⟨n + 2, hn⟩
          · rw [if_neg c16] at h
            suffices hh : ∃ n, jx_W jx_ShC d none jc_34 Q n 100 [some (.ref 92), some (.ref 1), some (.int x2), some (.int x3), some (.int x4), some (.ref 106), some (.int x6), some (.int z14.1)] [.int (x3 + z14.1), .int (x2 + 1), .ref 1, .ref 92] z14.2 by
              obtain ⟨n, hn⟩ := hh
              exact ⟨n + 17, And.intro (jx_in_ok c11) (s_P_copyFrom (by omega) (by decide) h13 (s_S_goBy (by omega) (by decide) h15 (And.intro (fun _ => hn) (fun zz => absurd zz c16))))⟩
            obtain ⟨n, hn⟩ := s_L_walk_104 hRec hd0 hd hK43 (u7 := some (.int z14.1)) (by decide) h hQ
            exact ⟨n + 3, hn⟩
        · try rw [show (94 + 4 * (1 : Int32).toNatClampNeg) = 98 from by decide] at h
          obtain ⟨z12, h13, h⟩ := Option.bind_eq_some_iff.mp h
          obtain ⟨z14, h15, h⟩ := Option.bind_eq_some_iff.mp h
          by_cases c16 : x6 = 0
          · rw [if_pos c16] at h
            suffices hh : ∃ n, jx_W jx_ShC d none jc_34 Q n 95 [some (.ref 92), some (.ref 1), some (.int x2), some (.int x3), some (.int x4), some (.ref 106), some (.int x6), some (.int z14.1)] [.int (x3 + z14.1), .int (x2 + 1), .ref 1, .ref 92] z14.2 by
              obtain ⟨n, hn⟩ := hh
              exact ⟨n + 17, And.intro (jx_in_ok c11) (s_P_copyFrom (by omega) (by decide) h13 (s_S_goBy (by omega) (by decide) h15 (And.intro (fun zz => absurd c16 zz) (fun _ => hn))))⟩
            obtain ⟨n, hn⟩ := s_L_walk_104 hRec hd0 hd hK43 (u7 := some (.int z14.1)) (by decide) h hQ
            exact ⟨n + 2, hn⟩
          · rw [if_neg c16] at h
            suffices hh : ∃ n, jx_W jx_ShC d none jc_34 Q n 100 [some (.ref 92), some (.ref 1), some (.int x2), some (.int x3), some (.int x4), some (.ref 106), some (.int x6), some (.int z14.1)] [.int (x3 + z14.1), .int (x2 + 1), .ref 1, .ref 92] z14.2 by
              obtain ⟨n, hn⟩ := hh
              exact ⟨n + 17, And.intro (jx_in_ok c11) (s_P_copyFrom (by omega) (by decide) h13 (s_S_goBy (by omega) (by decide) h15 (And.intro (fun _ => hn) (fun zz => absurd zz c16))))⟩
            obtain ⟨n, hn⟩ := s_L_walk_104 hRec hd0 hd hK43 (u7 := some (.int z14.1)) (by decide) h hQ
            exact ⟨n + 3, hn⟩
        · try rw [show (94 + 4 * (2 : Int32).toNatClampNeg) = 102 from by decide] at h
          obtain ⟨z12, h13, h⟩ := Option.bind_eq_some_iff.mp h
          obtain ⟨z14, h15, h⟩ := Option.bind_eq_some_iff.mp h
          by_cases c16 : x6 = 0
          · rw [if_pos c16] at h
            suffices hh : ∃ n, jx_W jx_ShC d none jc_34 Q n 95 [some (.ref 92), some (.ref 1), some (.int x2), some (.int x3), some (.int x4), some (.ref 106), some (.int x6), some (.int z14.1)] [.int (x3 + z14.1), .int (x2 + 1), .ref 1, .ref 92] z14.2 by
              obtain ⟨n, hn⟩ := hh
              exact ⟨n + 17, And.intro (jx_in_ok c11) (s_P_copyFrom (by omega) (by decide) h13 (s_S_goBy (by omega) (by decide) h15 (And.intro (fun zz => absurd c16 zz) (fun _ => hn))))⟩
            obtain ⟨n, hn⟩ := s_L_walk_104 hRec hd0 hd hK43 (u7 := some (.int z14.1)) (by decide) h hQ
            exact ⟨n + 2, hn⟩
          · rw [if_neg c16] at h
            suffices hh : ∃ n, jx_W jx_ShC d none jc_34 Q n 100 [some (.ref 92), some (.ref 1), some (.int x2), some (.int x3), some (.int x4), some (.ref 106), some (.int x6), some (.int z14.1)] [.int (x3 + z14.1), .int (x2 + 1), .ref 1, .ref 92] z14.2 by
              obtain ⟨n, hn⟩ := hh
              exact ⟨n + 17, And.intro (jx_in_ok c11) (s_P_copyFrom (by omega) (by decide) h13 (s_S_goBy (by omega) (by decide) h15 (And.intro (fun _ => hn) (fun zz => absurd zz c16))))⟩
            obtain ⟨n, hn⟩ := s_L_walk_104 hRec hd0 hd hK43 (u7 := some (.int z14.1)) (by decide) h hQ
            exact ⟨n + 3, hn⟩
        · try rw [show (94 + 4 * (3 : Int32).toNatClampNeg) = 106 from by decide] at h
          obtain ⟨z12, h13, h⟩ := Option.bind_eq_some_iff.mp h
          obtain ⟨z14, h15, h⟩ := Option.bind_eq_some_iff.mp h
          by_cases c16 : x6 = 0
          · rw [if_pos c16] at h
            suffices hh : ∃ n, jx_W jx_ShC d none jc_34 Q n 95 [some (.ref 92), some (.ref 1), some (.int x2), some (.int x3), some (.int x4), some (.ref 106), some (.int x6), some (.int z14.1)] [.int (x3 + z14.1), .int (x2 + 1), .ref 1, .ref 92] z14.2 by
              obtain ⟨n, hn⟩ := hh
              exact ⟨n + 17, And.intro (jx_in_ok c11) (s_P_copyFrom (by omega) (by decide) h13 (s_S_goBy (by omega) (by decide) h15 (And.intro (fun zz => absurd c16 zz) (fun _ => hn))))⟩
            obtain ⟨n, hn⟩ := s_L_walk_104 hRec hd0 hd hK43 (u7 := some (.int z14.1)) (by decide) h hQ
            exact ⟨n + 2, hn⟩
          · rw [if_neg c16] at h
            suffices hh : ∃ n, jx_W jx_ShC d none jc_34 Q n 100 [some (.ref 92), some (.ref 1), some (.int x2), some (.int x3), some (.int x4), some (.ref 106), some (.int x6), some (.int z14.1)] [.int (x3 + z14.1), .int (x2 + 1), .ref 1, .ref 92] z14.2 by
              obtain ⟨n, hn⟩ := hh
              exact ⟨n + 17, And.intro (jx_in_ok c11) (s_P_copyFrom (by omega) (by decide) h13 (s_S_goBy (by omega) (by decide) h15 (And.intro (fun _ => hn) (fun zz => absurd zz c16))))⟩
            obtain ⟨n, hn⟩ := s_L_walk_104 hRec hd0 hd hK43 (u7 := some (.int z14.1)) (by decide) h hQ
            exact ⟨n + 3, hn⟩
        · try rw [show (94 + 4 * (4 : Int32).toNatClampNeg) = 110 from by decide] at h
          obtain ⟨z12, h13, h⟩ := Option.bind_eq_some_iff.mp h
          obtain ⟨z14, h15, h⟩ := Option.bind_eq_some_iff.mp h
          by_cases c16 : x6 = 0
          · rw [if_pos c16] at h
            suffices hh : ∃ n, jx_W jx_ShC d none jc_34 Q n 95 [some (.ref 92), some (.ref 1), some (.int x2), some (.int x3), some (.int x4), some (.ref 106), some (.int x6), some (.int z14.1)] [.int (x3 + z14.1), .int (x2 + 1), .ref 1, .ref 92] z14.2 by
              obtain ⟨n, hn⟩ := hh
              exact ⟨n + 17, And.intro (jx_in_ok c11) (s_P_copyFrom (by omega) (by decide) h13 (s_S_goBy (by omega) (by decide) h15 (And.intro (fun zz => absurd c16 zz) (fun _ => hn))))⟩
            obtain ⟨n, hn⟩ := s_L_walk_104 hRec hd0 hd hK43 (u7 := some (.int z14.1)) (by decide) h hQ
            exact ⟨n + 2, hn⟩
          · rw [if_neg c16] at h
            suffices hh : ∃ n, jx_W jx_ShC d none jc_34 Q n 100 [some (.ref 92), some (.ref 1), some (.int x2), some (.int x3), some (.int x4), some (.ref 106), some (.int x6), some (.int z14.1)] [.int (x3 + z14.1), .int (x2 + 1), .ref 1, .ref 92] z14.2 by
              obtain ⟨n, hn⟩ := hh
              exact ⟨n + 17, And.intro (jx_in_ok c11) (s_P_copyFrom (by omega) (by decide) h13 (s_S_goBy (by omega) (by decide) h15 (And.intro (fun _ => hn) (fun zz => absurd zz c16))))⟩
            obtain ⟨n, hn⟩ := s_L_walk_104 hRec hd0 hd hK43 (u7 := some (.int z14.1)) (by decide) h hQ
            exact ⟨n + 3, hn⟩
    · unfold f_L_walk_67 at h
      cases c11 : jx_in y2 5 with
      | false => rw [c11, cond_false] at h; cases h
      | true =>
        rw [c11, cond_true] at h
        rcases jx_ix5 (jx_in_ok c11) with rfl | rfl | rfl | rfl | rfl
        · try rw [show (94 + 4 * (0 : Int32).toNatClampNeg) = 94 from by decide] at h
          obtain ⟨z12, h13, h⟩ := Option.bind_eq_some_iff.mp h
          obtain ⟨z14, h15, h⟩ := Option.bind_eq_some_iff.mp h
          by_cases c16 : x6 = 0
          · rw [if_pos c16] at h
            suffices hh : ∃ n, jx_W jx_ShC d none jc_34 Q n 95 [some (.ref 92), some (.ref 1), some (.int x2), some (.int x3), some (.int x4), some (.ref 106), some (.int x6), some (.int z14.1)] [.int (x3 + z14.1), .int (x2 + 1), .ref 1, .ref 92] z14.2 by
              obtain ⟨n, hn⟩ := hh
              exact ⟨n + 17, And.intro (jx_in_ok c11) (s_P_copyFrom (by omega) (by decide) h13 (s_S_goBy (by omega) (by decide) h15 (And.intro (fun zz => absurd c16 zz) (fun _ => hn))))⟩
            obtain ⟨n, hn⟩ := s_L_walk_104 hRec hd0 hd hK43 (u7 := some (.int z14.1)) (by decide) h hQ
            exact ⟨n + 2, hn⟩
          · rw [if_neg c16] at h
            suffices hh : ∃ n, jx_W jx_ShC d none jc_34 Q n 100 [some (.ref 92), some (.ref 1), some (.int x2), some (.int x3), some (.int x4), some (.ref 106), some (.int x6), some (.int z14.1)] [.int (x3 + z14.1), .int (x2 + 1), .ref 1, .ref 92] z14.2 by
              obtain ⟨n, hn⟩ := hh
              exact ⟨n + 17, And.intro (jx_in_ok c11) (s_P_copyFrom (by omega) (by decide) h13 (s_S_goBy (by omega) (by decide) h15 (And.intro (fun _ => hn) (fun zz => absurd zz c16))))⟩
            obtain ⟨n, hn⟩ := s_L_walk_104 hRec hd0 hd hK43 (u7 := some (.int z14.1)) (by decide) h hQ
            exact ⟨n + 3, hn⟩
        · try rw [show (94 + 4 * (1 : Int32).toNatClampNeg) = 98 from by decide] at h
          obtain ⟨z12, h13, h⟩ := Option.bind_eq_some_iff.mp h
          obtain ⟨z14, h15, h⟩ := Option.bind_eq_some_iff.mp h
          by_cases c16 : x6 = 0
          · rw [if_pos c16] at h
            suffices hh : ∃ n, jx_W jx_ShC d none jc_34 Q n 95 [some (.ref 92), some (.ref 1), some (.int x2), some (.int x3), some (.int x4), some (.ref 106), some (.int x6), some (.int z14.1)] [.int (x3 + z14.1), .int (x2 + 1), .ref 1, .ref 92] z14.2 by
              obtain ⟨n, hn⟩ := hh
              exact ⟨n + 17, And.intro (jx_in_ok c11) (s_P_copyFrom (by omega) (by decide) h13 (s_S_goBy (by omega) (by decide) h15 (And.intro (fun zz => absurd c16 zz) (fun _ => hn))))⟩
            obtain ⟨n, hn⟩ := s_L_walk_104 hRec hd0 hd hK43 (u7 := some (.int z14.1)) (by decide) h hQ
            exact ⟨n + 2, hn⟩
          · rw [if_neg c16] at h
            suffices hh : ∃ n, jx_W jx_ShC d none jc_34 Q n 100 [some (.ref 92), some (.ref 1), some (.int x2), some (.int x3), some (.int x4), some (.ref 106), some (.int x6), some (.int z14.1)] [.int (x3 + z14.1), .int (x2 + 1), .ref 1, .ref 92] z14.2 by
              obtain ⟨n, hn⟩ := hh
              exact ⟨n + 17, And.intro (jx_in_ok c11) (s_P_copyFrom (by omega) (by decide) h13 (s_S_goBy (by omega) (by decide) h15 (And.intro (fun _ => hn) (fun zz => absurd zz c16))))⟩
            obtain ⟨n, hn⟩ := s_L_walk_104 hRec hd0 hd hK43 (u7 := some (.int z14.1)) (by decide) h hQ
            exact ⟨n + 3, hn⟩
        · try rw [show (94 + 4 * (2 : Int32).toNatClampNeg) = 102 from by decide] at h
          obtain ⟨z12, h13, h⟩ := Option.bind_eq_some_iff.mp h
          obtain ⟨z14, h15, h⟩ := Option.bind_eq_some_iff.mp h
          by_cases c16 : x6 = 0
          · rw [if_pos c16] at h
            suffices hh : ∃ n, jx_W jx_ShC d none jc_34 Q n 95 [some (.ref 92), some (.ref 1), some (.int x2), some (.int x3), some (.int x4), some (.ref 106), some (.int x6), some (.int z14.1)] [.int (x3 + z14.1), .int (x2 + 1), .ref 1, .ref 92] z14.2 by
              obtain ⟨n, hn⟩ := hh
              exact ⟨n + 17, And.intro (jx_in_ok c11) (s_P_copyFrom (by omega) (by decide) h13 (s_S_goBy (by omega) (by decide) h15 (And.intro (fun zz => absurd c16 zz) (fun _ => hn))))⟩
            obtain ⟨n, hn⟩ := s_L_walk_104 hRec hd0 hd hK43 (u7 := some (.int z14.1)) (by decide) h hQ
            exact ⟨n + 2, hn⟩
          · rw [if_neg c16] at h
            suffices hh : ∃ n, jx_W jx_ShC d none jc_34 Q n 100 [some (.ref 92), some (.ref 1), some (.int x2), some (.int x3), some (.int x4), some (.ref 106), some (.int x6), some (.int z14.1)] [.int (x3 + z14.1), .int (x2 + 1), .ref 1, .ref 92] z14.2 by
              obtain ⟨n, hn⟩ := hh
              exact ⟨n + 17, And.intro (jx_in_ok c11) (s_P_copyFrom (by omega) (by decide) h13 (s_S_goBy (by omega) (by decide) h15 (And.intro (fun _ => hn) (fun zz => absurd zz c16))))⟩
            obtain ⟨n, hn⟩ := s_L_walk_104 hRec hd0 hd hK43 (u7 := some (.int z14.1)) (by decide) h hQ
            exact ⟨n + 3, hn⟩
        · try rw [show (94 + 4 * (3 : Int32).toNatClampNeg) = 106 from by decide] at h
          obtain ⟨z12, h13, h⟩ := Option.bind_eq_some_iff.mp h
          obtain ⟨z14, h15, h⟩ := Option.bind_eq_some_iff.mp h
          by_cases c16 : x6 = 0
          · rw [if_pos c16] at h
            suffices hh : ∃ n, jx_W jx_ShC d none jc_34 Q n 95 [some (.ref 92), some (.ref 1), some (.int x2), some (.int x3), some (.int x4), some (.ref 106), some (.int x6), some (.int z14.1)] [.int (x3 + z14.1), .int (x2 + 1), .ref 1, .ref 92] z14.2 by
              obtain ⟨n, hn⟩ := hh
              exact ⟨n + 17, And.intro (jx_in_ok c11) (s_P_copyFrom (by omega) (by decide) h13 (s_S_goBy (by omega) (by decide) h15 (And.intro (fun zz => absurd c16 zz) (fun _ => hn))))⟩
            obtain ⟨n, hn⟩ := s_L_walk_104 hRec hd0 hd hK43 (u7 := some (.int z14.1)) (by decide) h hQ
            exact ⟨n + 2, hn⟩
          · rw [if_neg c16] at h
            suffices hh : ∃ n, jx_W jx_ShC d none jc_34 Q n 100 [some (.ref 92), some (.ref 1), some (.int x2), some (.int x3), some (.int x4), some (.ref 106), some (.int x6), some (.int z14.1)] [.int (x3 + z14.1), .int (x2 + 1), .ref 1, .ref 92] z14.2 by
              obtain ⟨n, hn⟩ := hh
              exact ⟨n + 17, And.intro (jx_in_ok c11) (s_P_copyFrom (by omega) (by decide) h13 (s_S_goBy (by omega) (by decide) h15 (And.intro (fun _ => hn) (fun zz => absurd zz c16))))⟩
            obtain ⟨n, hn⟩ := s_L_walk_104 hRec hd0 hd hK43 (u7 := some (.int z14.1)) (by decide) h hQ
            exact ⟨n + 3, hn⟩
        · try rw [show (94 + 4 * (4 : Int32).toNatClampNeg) = 110 from by decide] at h
          obtain ⟨z12, h13, h⟩ := Option.bind_eq_some_iff.mp h
          obtain ⟨z14, h15, h⟩ := Option.bind_eq_some_iff.mp h
          by_cases c16 : x6 = 0
          · rw [if_pos c16] at h
            suffices hh : ∃ n, jx_W jx_ShC d none jc_34 Q n 95 [some (.ref 92), some (.ref 1), some (.int x2), some (.int x3), some (.int x4), some (.ref 106), some (.int x6), some (.int z14.1)] [.int (x3 + z14.1), .int (x2 + 1), .ref 1, .ref 92] z14.2 by
              obtain ⟨n, hn⟩ := hh
              exact ⟨n + 17, And.intro (jx_in_ok c11) (s_P_copyFrom (by omega) (by decide) h13 (s_S_goBy (by omega) (by decide) h15 (And.intro (fun zz => absurd c16 zz) (fun _ => hn))))⟩
            obtain ⟨n, hn⟩ := s_L_walk_104 hRec hd0 hd hK43 (u7 := some (.int z14.1)) (by decide) h hQ
            exact ⟨n + 2, hn⟩
          · rw [if_neg c16] at h
            suffices hh : ∃ n, jx_W jx_ShC d none jc_34 Q n 100 [some (.ref 92), some (.ref 1), some (.int x2), some (.int x3), some (.int x4), some (.ref 106), some (.int x6), some (.int z14.1)] [.int (x3 + z14.1), .int (x2 + 1), .ref 1, .ref 92] z14.2 by
              obtain ⟨n, hn⟩ := hh
              exact ⟨n + 17, And.intro (jx_in_ok c11) (s_P_copyFrom (by omega) (by decide) h13 (s_S_goBy (by omega) (by decide) h15 (And.intro (fun _ => hn) (fun zz => absurd zz c16))))⟩
            obtain ⟨n, hn⟩ := s_L_walk_104 hRec hd0 hd hK43 (u7 := some (.int z14.1)) (by decide) h hQ
            exact ⟨n + 3, hn⟩
    · unfold f_L_walk_67 at h
      cases c11 : jx_in y2 5 with
      | false => rw [c11, cond_false] at h; cases h
      | true =>
        rw [c11, cond_true] at h
        rcases jx_ix5 (jx_in_ok c11) with rfl | rfl | rfl | rfl | rfl
        · try rw [show (94 + 4 * (0 : Int32).toNatClampNeg) = 94 from by decide] at h
          obtain ⟨z12, h13, h⟩ := Option.bind_eq_some_iff.mp h
          obtain ⟨z14, h15, h⟩ := Option.bind_eq_some_iff.mp h
          by_cases c16 : x6 = 0
          · rw [if_pos c16] at h
            suffices hh : ∃ n, jx_W jx_ShC d none jc_34 Q n 95 [some (.ref 92), some (.ref 1), some (.int x2), some (.int x3), some (.int x4), some (.ref 106), some (.int x6), some (.int z14.1)] [.int (x3 + z14.1), .int (x2 + 1), .ref 1, .ref 92] z14.2 by
              obtain ⟨n, hn⟩ := hh
              exact ⟨n + 17, And.intro (jx_in_ok c11) (s_P_copyFrom (by omega) (by decide) h13 (s_S_goBy (by omega) (by decide) h15 (And.intro (fun zz => absurd c16 zz) (fun _ => hn))))⟩
            obtain ⟨n, hn⟩ := s_L_walk_104 hRec hd0 hd hK43 (u7 := some (.int z14.1)) (by decide) h hQ
            exact ⟨n + 2, hn⟩
          · rw [if_neg c16] at h
            suffices hh : ∃ n, jx_W jx_ShC d none jc_34 Q n 100 [some (.ref 92), some (.ref 1), some (.int x2), some (.int x3), some (.int x4), some (.ref 106), some (.int x6), some (.int z14.1)] [.int (x3 + z14.1), .int (x2 + 1), .ref 1, .ref 92] z14.2 by
              obtain ⟨n, hn⟩ := hh
              exact ⟨n + 17, And.intro (jx_in_ok c11) (s_P_copyFrom (by omega) (by decide) h13 (s_S_goBy (by omega) (by decide) h15 (And.intro (fun _ => hn) (fun zz => absurd zz c16))))⟩
            obtain ⟨n, hn⟩ := s_L_walk_104 hRec hd0 hd hK43 (u7 := some (.int z14.1)) (by decide) h hQ
            exact ⟨n + 3, hn⟩
        · try rw [show (94 + 4 * (1 : Int32).toNatClampNeg) = 98 from by decide] at h
          obtain ⟨z12, h13, h⟩ := Option.bind_eq_some_iff.mp h
          obtain ⟨z14, h15, h⟩ := Option.bind_eq_some_iff.mp h
          by_cases c16 : x6 = 0
          · rw [if_pos c16] at h
            suffices hh : ∃ n, jx_W jx_ShC d none jc_34 Q n 95 [some (.ref 92), some (.ref 1), some (.int x2), some (.int x3), some (.int x4), some (.ref 106), some (.int x6), some (.int z14.1)] [.int (x3 + z14.1), .int (x2 + 1), .ref 1, .ref 92] z14.2 by
              obtain ⟨n, hn⟩ := hh
              exact ⟨n + 17, And.intro (jx_in_ok c11) (s_P_copyFrom (by omega) (by decide) h13 (s_S_goBy (by omega) (by decide) h15 (And.intro (fun zz => absurd c16 zz) (fun _ => hn))))⟩
            obtain ⟨n, hn⟩ := s_L_walk_104 hRec hd0 hd hK43 (u7 := some (.int z14.1)) (by decide) h hQ
            exact ⟨n + 2, hn⟩
          · rw [if_neg c16] at h
            suffices hh : ∃ n, jx_W jx_ShC d none jc_34 Q n 100 [some (.ref 92), some (.ref 1), some (.int x2), some (.int x3), some (.int x4), some (.ref 106), some (.int x6), some (.int z14.1)] [.int (x3 + z14.1), .int (x2 + 1), .ref 1, .ref 92] z14.2 by
              obtain ⟨n, hn⟩ := hh
              exact ⟨n + 17, And.intro (jx_in_ok c11) (s_P_copyFrom (by omega) (by decide) h13 (s_S_goBy (by omega) (by decide) h15 (And.intro (fun _ => hn) (fun zz => absurd zz c16))))⟩
            obtain ⟨n, hn⟩ := s_L_walk_104 hRec hd0 hd hK43 (u7 := some (.int z14.1)) (by decide) h hQ
            exact ⟨n + 3, hn⟩
        · try rw [show (94 + 4 * (2 : Int32).toNatClampNeg) = 102 from by decide] at h
          obtain ⟨z12, h13, h⟩ := Option.bind_eq_some_iff.mp h
          obtain ⟨z14, h15, h⟩ := Option.bind_eq_some_iff.mp h
          by_cases c16 : x6 = 0
          · rw [if_pos c16] at h
            suffices hh : ∃ n, jx_W jx_ShC d none jc_34 Q n 95 [some (.ref 92), some (.ref 1), some (.int x2), some (.int x3), some (.int x4), some (.ref 106), some (.int x6), some (.int z14.1)] [.int (x3 + z14.1), .int (x2 + 1), .ref 1, .ref 92] z14.2 by
              obtain ⟨n, hn⟩ := hh
              exact ⟨n + 17, And.intro (jx_in_ok c11) (s_P_copyFrom (by omega) (by decide) h13 (s_S_goBy (by omega) (by decide) h15 (And.intro (fun zz => absurd c16 zz) (fun _ => hn))))⟩
            obtain ⟨n, hn⟩ := s_L_walk_104 hRec hd0 hd hK43 (u7 := some (.int z14.1)) (by decide) h hQ
            exact ⟨n + 2, hn⟩
          · rw [if_neg c16] at h
            suffices hh : ∃ n, jx_W jx_ShC d none jc_34 Q n 100 [some (.ref 92), some (.ref 1), some (.int x2), some (.int x3), some (.int x4), some (.ref 106), some (.int x6), some (.int z14.1)] [.int (x3 + z14.1), .int (x2 + 1), .ref 1, .ref 92] z14.2 by
              obtain ⟨n, hn⟩ := hh
              exact ⟨n + 17, And.intro (jx_in_ok c11) (s_P_copyFrom (by omega) (by decide) h13 (s_S_goBy (by omega) (by decide) h15 (And.intro (fun _ => hn) (fun zz => absurd zz c16))))⟩
            obtain ⟨n, hn⟩ := s_L_walk_104 hRec hd0 hd hK43 (u7 := some (.int z14.1)) (by decide) h hQ
            exact ⟨n + 3, hn⟩
        · try rw [show (94 + 4 * (3 : Int32).toNatClampNeg) = 106 from by decide] at h
          obtain ⟨z12, h13, h⟩ := Option.bind_eq_some_iff.mp h
          obtain ⟨z14, h15, h⟩ := Option.bind_eq_some_iff.mp h
          by_cases c16 : x6 = 0
          · rw [if_pos c16] at h
            suffices hh : ∃ n, jx_W jx_ShC d none jc_34 Q n 95 [some (.ref 92), some (.ref 1), some (.int x2), some (.int x3), some (.int x4), some (.ref 106), some (.int x6), some (.int z14.1)] [.int (x3 + z14.1), .int (x2 + 1), .ref 1, .ref 92] z14.2 by
              obtain ⟨n, hn⟩ := hh
              exact ⟨n + 17, And.intro (jx_in_ok c11) (s_P_copyFrom (by omega) (by decide) h13 (s_S_goBy (by omega) (by decide) h15 (And.intro (fun zz => absurd c16 zz) (fun _ => hn))))⟩
            obtain ⟨n, hn⟩ := s_L_walk_104 hRec hd0 hd hK43 (u7 := some (.int z14.1)) (by decide) h hQ
            exact ⟨n + 2, hn⟩
          · rw [if_neg c16] at h
            suffices hh : ∃ n, jx_W jx_ShC d none jc_34 Q n 100 [some (.ref 92), some (.ref 1), some (.int x2), some (.int x3), some (.int x4), some (.ref 106), some (.int x6), some (.int z14.1)] [.int (x3 + z14.1), .int (x2 + 1), .ref 1, .ref 92] z14.2 by
              obtain ⟨n, hn⟩ := hh
              exact ⟨n + 17, And.intro (jx_in_ok c11) (s_P_copyFrom (by omega) (by decide) h13 (s_S_goBy (by omega) (by decide) h15 (And.intro (fun _ => hn) (fun zz => absurd zz c16))))⟩
            obtain ⟨n, hn⟩ := s_L_walk_104 hRec hd0 hd hK43 (u7 := some (.int z14.1)) (by decide) h hQ
            exact ⟨n + 3, hn⟩
        · try rw [show (94 + 4 * (4 : Int32).toNatClampNeg) = 110 from by decide] at h
          obtain ⟨z12, h13, h⟩ := Option.bind_eq_some_iff.mp h
          obtain ⟨z14, h15, h⟩ := Option.bind_eq_some_iff.mp h
          by_cases c16 : x6 = 0
          · rw [if_pos c16] at h
            suffices hh : ∃ n, jx_W jx_ShC d none jc_34 Q n 95 [some (.ref 92), some (.ref 1), some (.int x2), some (.int x3), some (.int x4), some (.ref 106), some (.int x6), some (.int z14.1)] [.int (x3 + z14.1), .int (x2 + 1), .ref 1, .ref 92] z14.2 by
              obtain ⟨n, hn⟩ := hh
              exact ⟨n + 17, And.intro (jx_in_ok c11) (s_P_copyFrom (by omega) (by decide) h13 (s_S_goBy (by omega) (by decide) h15 (And.intro (fun zz => absurd c16 zz) (fun _ => hn))))⟩
            obtain ⟨n, hn⟩ := s_L_walk_104 hRec hd0 hd hK43 (u7 := some (.int z14.1)) (by decide) h hQ
            exact ⟨n + 2, hn⟩
          · rw [if_neg c16] at h
            suffices hh : ∃ n, jx_W jx_ShC d none jc_34 Q n 100 [some (.ref 92), some (.ref 1), some (.int x2), some (.int x3), some (.int x4), some (.ref 106), some (.int x6), some (.int z14.1)] [.int (x3 + z14.1), .int (x2 + 1), .ref 1, .ref 92] z14.2 by
              obtain ⟨n, hn⟩ := hh
              exact ⟨n + 17, And.intro (jx_in_ok c11) (s_P_copyFrom (by omega) (by decide) h13 (s_S_goBy (by omega) (by decide) h15 (And.intro (fun _ => hn) (fun zz => absurd zz c16))))⟩
            obtain ⟨n, hn⟩ := s_L_walk_104 hRec hd0 hd hK43 (u7 := some (.int z14.1)) (by decide) h hQ
            exact ⟨n + 3, hn⟩
    · unfold f_L_walk_67 at h
      cases c11 : jx_in y2 5 with
      | false => rw [c11, cond_false] at h; cases h
      | true =>
        rw [c11, cond_true] at h
        rcases jx_ix5 (jx_in_ok c11) with rfl | rfl | rfl | rfl | rfl
        · try rw [show (94 + 4 * (0 : Int32).toNatClampNeg) = 94 from by decide] at h
          obtain ⟨z12, h13, h⟩ := Option.bind_eq_some_iff.mp h
          obtain ⟨z14, h15, h⟩ := Option.bind_eq_some_iff.mp h
          by_cases c16 : x6 = 0
          · rw [if_pos c16] at h
            suffices hh : ∃ n, jx_W jx_ShC d none jc_34 Q n 95 [some (.ref 92), some (.ref 1), some (.int x2), some (.int x3), some (.int x4), some (.ref 106), some (.int x6), some (.int z14.1)] [.int (x3 + z14.1), .int (x2 + 1), .ref 1, .ref 92] z14.2 by
              obtain ⟨n, hn⟩ := hh
              exact ⟨n + 17, And.intro (jx_in_ok c11) (s_P_copyFrom (by omega) (by decide) h13 (s_S_goBy (by omega) (by decide) h15 (And.intro (fun zz => absurd c16 zz) (fun _ => hn))))⟩
            obtain ⟨n, hn⟩ := s_L_walk_104 hRec hd0 hd hK43 (u7 := some (.int z14.1)) (by decide) h hQ
            exact ⟨n + 2, hn⟩
          · rw [if_neg c16] at h
            suffices hh : ∃ n, jx_W jx_ShC d none jc_34 Q n 100 [some (.ref 92), some (.ref 1), some (.int x2), some (.int x3), some (.int x4), some (.ref 106), some (.int x6), some (.int z14.1)] [.int (x3 + z14.1), .int (x2 + 1), .ref 1, .ref 92] z14.2 by
              obtain ⟨n, hn⟩ := hh
              exact ⟨n + 17, And.intro (jx_in_ok c11) (s_P_copyFrom (by omega) (by decide) h13 (s_S_goBy (by omega) (by decide) h15 (And.intro (fun _ => hn) (fun zz => absurd zz c16))))⟩
            obtain ⟨n, hn⟩ := s_L_walk_104 hRec hd0 hd hK43 (u7 := some (.int z14.1)) (by decide) h hQ
            exact ⟨n + 3, hn⟩
        · try rw [show (94 + 4 * (1 : Int32).toNatClampNeg) = 98 from by decide] at h
          obtain ⟨z12, h13, h⟩ := Option.bind_eq_some_iff.mp h
          obtain ⟨z14, h15, h⟩ := Option.bind_eq_some_iff.mp h
          by_cases c16 : x6 = 0
          · rw [if_pos c16] at h
            suffices hh : ∃ n, jx_W jx_ShC d none jc_34 Q n 95 [some (.ref 92), some (.ref 1), some (.int x2), some (.int x3), some (.int x4), some (.ref 106), some (.int x6), some (.int z14.1)] [.int (x3 + z14.1), .int (x2 + 1), .ref 1, .ref 92] z14.2 by
              obtain ⟨n, hn⟩ := hh
              exact ⟨n + 17, And.intro (jx_in_ok c11) (s_P_copyFrom (by omega) (by decide) h13 (s_S_goBy (by omega) (by decide) h15 (And.intro (fun zz => absurd c16 zz) (fun _ => hn))))⟩
            obtain ⟨n, hn⟩ := s_L_walk_104 hRec hd0 hd hK43 (u7 := some (.int z14.1)) (by decide) h hQ
            exact ⟨n + 2, hn⟩
          · rw [if_neg c16] at h
            suffices hh : ∃ n, jx_W jx_ShC d none jc_34 Q n 100 [some (.ref 92), some (.ref 1), some (.int x2), some (.int x3), some (.int x4), some (.ref 106), some (.int x6), some (.int z14.1)] [.int (x3 + z14.1), .int (x2 + 1), .ref 1, .ref 92] z14.2 by
              obtain ⟨n, hn⟩ := hh
              exact ⟨n + 17, And.intro (jx_in_ok c11) (s_P_copyFrom (by omega) (by decide) h13 (s_S_goBy (by omega) (by decide) h15 (And.intro (fun _ => hn) (fun zz => absurd zz c16))))⟩
            obtain ⟨n, hn⟩ := s_L_walk_104 hRec hd0 hd hK43 (u7 := some (.int z14.1)) (by decide) h hQ
            exact ⟨n + 3, hn⟩
        · try rw [show (94 + 4 * (2 : Int32).toNatClampNeg) = 102 from by decide] at h
          obtain ⟨z12, h13, h⟩ := Option.bind_eq_some_iff.mp h
          obtain ⟨z14, h15, h⟩ := Option.bind_eq_some_iff.mp h
          by_cases c16 : x6 = 0
          · rw [if_pos c16] at h
            suffices hh : ∃ n, jx_W jx_ShC d none jc_34 Q n 95 [some (.ref 92), some (.ref 1), some (.int x2), some (.int x3), some (.int x4), some (.ref 106), some (.int x6), some (.int z14.1)] [.int (x3 + z14.1), .int (x2 + 1), .ref 1, .ref 92] z14.2 by
              obtain ⟨n, hn⟩ := hh
              exact ⟨n + 17, And.intro (jx_in_ok c11) (s_P_copyFrom (by omega) (by decide) h13 (s_S_goBy (by omega) (by decide) h15 (And.intro (fun zz => absurd c16 zz) (fun _ => hn))))⟩
            obtain ⟨n, hn⟩ := s_L_walk_104 hRec hd0 hd hK43 (u7 := some (.int z14.1)) (by decide) h hQ
            exact ⟨n + 2, hn⟩
          · rw [if_neg c16] at h
            suffices hh : ∃ n, jx_W jx_ShC d none jc_34 Q n 100 [some (.ref 92), some (.ref 1), some (.int x2), some (.int x3), some (.int x4), some (.ref 106), some (.int x6), some (.int z14.1)] [.int (x3 + z14.1), .int (x2 + 1), .ref 1, .ref 92] z14.2 by
              obtain ⟨n, hn⟩ := hh
              exact ⟨n + 17, And.intro (jx_in_ok c11) (s_P_copyFrom (by omega) (by decide) h13 (s_S_goBy (by omega) (by decide) h15 (And.intro (fun _ => hn) (fun zz => absurd zz c16))))⟩
            obtain ⟨n, hn⟩ := s_L_walk_104 hRec hd0 hd hK43 (u7 := some (.int z14.1)) (by decide) h hQ
            exact ⟨n + 3, hn⟩
        · try rw [show (94 + 4 * (3 : Int32).toNatClampNeg) = 106 from by decide] at h
          obtain ⟨z12, h13, h⟩ := Option.bind_eq_some_iff.mp h
          obtain ⟨z14, h15, h⟩ := Option.bind_eq_some_iff.mp h
          by_cases c16 : x6 = 0
          · rw [if_pos c16] at h
            suffices hh : ∃ n, jx_W jx_ShC d none jc_34 Q n 95 [some (.ref 92), some (.ref 1), some (.int x2), some (.int x3), some (.int x4), some (.ref 106), some (.int x6), some (.int z14.1)] [.int (x3 + z14.1), .int (x2 + 1), .ref 1, .ref 92] z14.2 by
              obtain ⟨n, hn⟩ := hh
              exact ⟨n + 17, And.intro (jx_in_ok c11) (s_P_copyFrom (by omega) (by decide) h13 (s_S_goBy (by omega) (by decide) h15 (And.intro (fun zz => absurd c16 zz) (fun _ => hn))))⟩
            obtain ⟨n, hn⟩ := s_L_walk_104 hRec hd0 hd hK43 (u7 := some (.int z14.1)) (by decide) h hQ
            exact ⟨n + 2, hn⟩
          · rw [if_neg c16] at h
            suffices hh : ∃ n, jx_W jx_ShC d none jc_34 Q n 100 [some (.ref 92), some (.ref 1), some (.int x2), some (.int x3), some (.int x4), some (.ref 106), some (.int x6), some (.int z14.1)] [.int (x3 + z14.1), .int (x2 + 1), .ref 1, .ref 92] z14.2 by
              obtain ⟨n, hn⟩ := hh
              exact ⟨n + 17, And.intro (jx_in_ok c11) (s_P_copyFrom (by omega) (by decide) h13 (s_S_goBy (by omega) (by decide) h15 (And.intro (fun _ => hn) (fun zz => absurd zz c16))))⟩
            obtain ⟨n, hn⟩ := s_L_walk_104 hRec hd0 hd hK43 (u7 := some (.int z14.1)) (by decide) h hQ
            exact ⟨n + 3, hn⟩
        · try rw [show (94 + 4 * (4 : Int32).toNatClampNeg) = 110 from by decide] at h
          obtain ⟨z12, h13, h⟩ := Option.bind_eq_some_iff.mp h
          obtain ⟨z14, h15, h⟩ := Option.bind_eq_some_iff.mp h
          by_cases c16 : x6 = 0
          · rw [if_pos c16] at h
            suffices hh : ∃ n, jx_W jx_ShC d none jc_34 Q n 95 [some (.ref 92), some (.ref 1), some (.int x2), some (.int x3), some (.int x4), some (.ref 106), some (.int x6), some (.int z14.1)] [.int (x3 + z14.1), .int (x2 + 1), .ref 1, .ref 92] z14.2 by
              obtain ⟨n, hn⟩ := hh
              exact ⟨n + 17, And.intro (jx_in_ok c11) (s_P_copyFrom (by omega) (by decide) h13 (s_S_goBy (by omega) (by decide) h15 (And.intro (fun zz => absurd c16 zz) (fun _ => hn))))⟩
            obtain ⟨n, hn⟩ := s_L_walk_104 hRec hd0 hd hK43 (u7 := some (.int z14.1)) (by decide) h hQ
            exact ⟨n + 2, hn⟩
          · rw [if_neg c16] at h
            suffices hh : ∃ n, jx_W jx_ShC d none jc_34 Q n 100 [some (.ref 92), some (.ref 1), some (.int x2), some (.int x3), some (.int x4), some (.ref 106), some (.int x6), some (.int z14.1)] [.int (x3 + z14.1), .int (x2 + 1), .ref 1, .ref 92] z14.2 by
              obtain ⟨n, hn⟩ := hh
              exact ⟨n + 17, And.intro (jx_in_ok c11) (s_P_copyFrom (by omega) (by decide) h13 (s_S_goBy (by omega) (by decide) h15 (And.intro (fun _ => hn) (fun zz => absurd zz c16))))⟩
            obtain ⟨n, hn⟩ := s_L_walk_104 hRec hd0 hd hK43 (u7 := some (.int z14.1)) (by decide) h hQ
            exact ⟨n + 3, hn⟩
  · rcases hr_0 with rfl | rfl | rfl | rfl | rfl
    · unfold f_L_walk_67 at h
      cases c11 : jx_in y2 5 with
      | false => rw [c11, cond_false] at h; cases h
      | true =>
        rw [c11, cond_true] at h
        rcases jx_ix5 (jx_in_ok c11) with rfl | rfl | rfl | rfl | rfl
        · try rw [show (94 + 4 * (0 : Int32).toNatClampNeg) = 94 from by decide] at h
          obtain ⟨z12, h13, h⟩ := Option.bind_eq_some_iff.mp h
          obtain ⟨z14, h15, h⟩ := Option.bind_eq_some_iff.mp h
          by_cases c16 : x6 = 0
          · rw [if_pos c16] at h
            suffices hh : ∃ n, jx_W jx_ShC d none jc_34 Q n 95 [some (.ref 92), some (.ref 1), some (.int x2), some (.int x3), some (.int x4), some (.ref 110), some (.int x6), some (.int z14.1)] [.int (x3 + z14.1), .int (x2 + 1), .ref 1, .ref 92] z14.2 by
              obtain ⟨n, hn⟩ := hh
              exact ⟨n + 17, And.intro (jx_in_ok c11) (s_P_copyFrom (by omega) (by decide) h13 (s_S_goBy (by omega) (by decide) h15 (And.intro (fun zz => absurd c16 zz) (fun _ => hn))))⟩
            obtain ⟨n, hn⟩ := s_L_walk_104 hRec hd0 hd hK43 (u7 := some (.int z14.1)) (by decide) h hQ
            exact ⟨n + 2, hn⟩
          · rw [if_neg c16] at h
            suffices hh : ∃ n, jx_W jx_ShC d none jc_34 Q n 100 [some (.ref 92), some (.ref 1), some (.int x2), some (.int x3), some (.int x4), some (.ref 110), some (.int x6), some (.int z14.1)] [.int (x3 + z14.1), .int (x2 + 1), .ref 1, .ref 92] z14.2 by
              obtain ⟨n, hn⟩ := hh
              exact ⟨n + 17, And.intro (jx_in_ok c11) (s_P_copyFrom (by omega) (by decide) h13 (s_S_goBy (by omega) (by decide) h15 (And.intro (fun _ => hn) (fun zz => absurd zz c16))))⟩
            obtain ⟨n, hn⟩ := s_L_walk_104 hRec hd0 hd hK43 (u7 := some (.int z14.1)) (by decide) h hQ
            exact ⟨n + 3, hn⟩
        · try rw [show (94 + 4 * (1 : Int32).toNatClampNeg) = 98 from by decide] at h
          obtain ⟨z12, h13, h⟩ := Option.bind_eq_some_iff.mp h
          obtain ⟨z14, h15, h⟩ := Option.bind_eq_some_iff.mp h
          by_cases c16 : x6 = 0
          · rw [if_pos c16] at h
            suffices hh : ∃ n, jx_W jx_ShC d none jc_34 Q n 95 [some (.ref 92), some (.ref 1), some (.int x2), some (.int x3), some (.int x4), some (.ref 110), some (.int x6), some (.int z14.1)] [.int (x3 + z14.1), .int (x2 + 1), .ref 1, .ref 92] z14.2 by
              obtain ⟨n, hn⟩ := hh
              exact ⟨n + 17, And.intro (jx_in_ok c11) (s_P_copyFrom (by omega) (by decide) h13 (s_S_goBy (by omega) (by decide) h15 (And.intro (fun zz => absurd c16 zz) (fun _ => hn))))⟩
            obtain ⟨n, hn⟩ := s_L_walk_104 hRec hd0 hd hK43 (u7 := some (.int z14.1)) (by decide) h hQ
            exact ⟨n + 2, hn⟩
          · rw [if_neg c16] at h
            suffices hh : ∃ n, jx_W jx_ShC d none jc_34 Q n 100 [some (.ref 92), some (.ref 1), some (.int x2), some (.int x3), some (.int x4), some (.ref 110), some (.int x6), some (.int z14.1)] [.int (x3 + z14.1), .int (x2 + 1), .ref 1, .ref 92] z14.2 by
              obtain ⟨n, hn⟩ := hh
              exact ⟨n + 17, And.intro (jx_in_ok c11) (s_P_copyFrom (by omega) (by decide) h13 (s_S_goBy (by omega) (by decide) h15 (And.intro (fun _ => hn) (fun zz => absurd zz c16))))⟩
            obtain ⟨n, hn⟩ := s_L_walk_104 hRec hd0 hd hK43 (u7 := some (.int z14.1)) (by decide) h hQ
            exact ⟨n + 3, hn⟩
        · try rw [show (94 + 4 * (2 : Int32).toNatClampNeg) = 102 from by decide] at h
          obtain ⟨z12, h13, h⟩ := Option.bind_eq_some_iff.mp h
          obtain ⟨z14, h15, h⟩ := Option.bind_eq_some_iff.mp h
          by_cases c16 : x6 = 0
          · rw [if_pos c16] at h
            suffices hh : ∃ n, jx_W jx_ShC d none jc_34 Q n 95 [some (.ref 92), some (.ref 1), some (.int x2), some (.int x3), some (.int x4), some (.ref 110), some (.int x6), some (.int z14.1)] [.int (x3 + z14.1), .int (x2 + 1), .ref 1, .ref 92] z14.2 by
              obtain ⟨n, hn⟩ := hh
              exact ⟨n + 17, And.intro (jx_in_ok c11) (s_P_copyFrom (by omega) (by decide) h13 (s_S_goBy (by omega) (by decide) h15 (And.intro (fun zz => absurd c16 zz) (fun _ => hn))))⟩
            obtain ⟨n, hn⟩ := s_L_walk_104 hRec hd0 hd hK43 (u7 := some (.int z14.1)) (by decide) h hQ
            exact ⟨n + 2, hn⟩
          · rw [if_neg c16] at h
            suffices hh : ∃ n, jx_W jx_ShC d none jc_34 Q n 100 [some (.ref 92), some (.ref 1), some (.int x2), some (.int x3), some (.int x4), some (.ref 110), some (.int x6), some (.int z14.1)] [.int (x3 + z14.1), .int (x2 + 1), .ref 1, .ref 92] z14.2 by
              obtain ⟨n, hn⟩ := hh
              exact ⟨n + 17, And.intro (jx_in_ok c11) (s_P_copyFrom (by omega) (by decide) h13 (s_S_goBy (by omega) (by decide) h15 (And.intro (fun _ => hn) (fun zz => absurd zz c16))))⟩
            obtain ⟨n, hn⟩ := s_L_walk_104 hRec hd0 hd hK43 (u7 := some (.int z14.1)) (by decide) h hQ
            exact ⟨n + 3, hn⟩
        · try rw [show (94 + 4 * (3 : Int32).toNatClampNeg) = 106 from by decide] at h
          obtain ⟨z12, h13, h⟩ := Option.bind_eq_some_iff.mp h
          obtain ⟨z14, h15, h⟩ := Option.bind_eq_some_iff.mp h
          by_cases c16 : x6 = 0
          · rw [if_pos c16] at h
            suffices hh : ∃ n, jx_W jx_ShC d none jc_34 Q n 95 [some (.ref 92), some (.ref 1), some (.int x2), some (.int x3), some (.int x4), some (.ref 110), some (.int x6), some (.int z14.1)] [.int (x3 + z14.1), .int (x2 + 1), .ref 1, .ref 92] z14.2 by
              obtain ⟨n, hn⟩ := hh
              exact ⟨n + 17, And.intro (jx_in_ok c11) (s_P_copyFrom (by omega) (by decide) h13 (s_S_goBy (by omega) (by decide) h15 (And.intro (fun zz => absurd c16 zz) (fun _ => hn))))⟩
            obtain ⟨n, hn⟩ := s_L_walk_104 hRec hd0 hd hK43 (u7 := some (.int z14.1)) (by decide) h hQ
            exact ⟨n + 2, hn⟩
          · rw [if_neg c16] at h
            suffices hh : ∃ n, jx_W jx_ShC d none jc_34 Q n 100 [some (.ref 92), some (.ref 1), some (.int x2), some (.int x3), some (.int x4), some (.ref 110), some (.int x6), some (.int z14.1)] [.int (x3 + z14.1), .int (x2 + 1), .ref 1, .ref 92] z14.2 by
              obtain ⟨n, hn⟩ := hh
              exact ⟨n + 17, And.intro (jx_in_ok c11) (s_P_copyFrom (by omega) (by decide) h13 (s_S_goBy (by omega) (by decide) h15 (And.intro (fun _ => hn) (fun zz => absurd zz c16))))⟩
            obtain ⟨n, hn⟩ := s_L_walk_104 hRec hd0 hd hK43 (u7 := some (.int z14.1)) (by decide) h hQ
            exact ⟨n + 3, hn⟩
        · try rw [show (94 + 4 * (4 : Int32).toNatClampNeg) = 110 from by decide] at h
          obtain ⟨z12, h13, h⟩ := Option.bind_eq_some_iff.mp h
          obtain ⟨z14, h15, h⟩ := Option.bind_eq_some_iff.mp h
          by_cases c16 : x6 = 0
          · rw [if_pos c16] at h
            suffices hh : ∃ n, jx_W jx_ShC d none jc_34 Q n 95 [some (.ref 92), some (.ref 1), some (.int x2), some (.int x3), some (.int x4), some (.ref 110), some (.int x6), some (.int z14.1)] [.int (x3 + z14.1), .int (x2 + 1), .ref 1, .ref 92] z14.2 by
              obtain ⟨n, hn⟩ := hh
              exact ⟨n + 17, And.intro (jx_in_ok c11) (s_P_copyFrom (by omega) (by decide) h13 (s_S_goBy (by omega) (by decide) h15 (And.intro (fun zz => absurd c16 zz) (fun _ => hn))))⟩
            obtain ⟨n, hn⟩ := s_L_walk_104 hRec hd0 hd hK43 (u7 := some (.int z14.1)) (by decide) h hQ
            exact ⟨n + 2, hn⟩
          · rw [if_neg c16] at h
            suffices hh : ∃ n, jx_W jx_ShC d none jc_34 Q n 100 [some (.ref 92), some (.ref 1), some (.int x2), some (.int x3), some (.int x4), some (.ref 110), some (.int x6), some (.int z14.1)] [.int (x3 + z14.1), .int (x2 + 1), .ref 1, .ref 92] z14.2 by
              obtain ⟨n, hn⟩ := hh
              exact ⟨n + 17, And.intro (jx_in_ok c11) (s_P_copyFrom (by omega) (by decide) h13 (s_S_goBy (by omega) (by decide) h15 (And.intro (fun _ => hn) (fun zz => absurd zz c16))))⟩
            obtain ⟨n, hn⟩ := s_L_walk_104 hRec hd0 hd hK43 (u7 := some (.int z14.1)) (by decide) h hQ
            exact ⟨n + 3, hn⟩
    · unfold f_L_walk_67 at h
      cases c11 : jx_in y2 5 with
      | false => rw [c11, cond_false] at h; cases h
      | true =>
        rw [c11, cond_true] at h
        rcases jx_ix5 (jx_in_ok c11) with rfl | rfl | rfl | rfl | rfl
        · try rw [show (94 + 4 * (0 : Int32).toNatClampNeg) = 94 from by decide] at h
          obtain ⟨z12, h13, h⟩ := Option.bind_eq_some_iff.mp h
          obtain ⟨z14, h15, h⟩ := Option.bind_eq_some_iff.mp h
          by_cases c16 : x6 = 0
          · rw [if_pos c16] at h
            suffices hh : ∃ n, jx_W jx_ShC d none jc_34 Q n 95 [some (.ref 92), some (.ref 1), some (.int x2), some (.int x3), some (.int x4), some (.ref 110), some (.int x6), some (.int z14.1)] [.int (x3 + z14.1), .int (x2 + 1), .ref 1, .ref 92] z14.2 by
              obtain ⟨n, hn⟩ := hh
              exact ⟨n + 17, And.intro (jx_in_ok c11) (s_P_copyFrom (by omega) (by decide) h13 (s_S_goBy (by omega) (by decide) h15 (And.intro (fun zz => absurd c16 zz) (fun _ => hn))))⟩
            obtain ⟨n, hn⟩ := s_L_walk_104 hRec hd0 hd hK43 (u7 := some (.int z14.1)) (by decide) h hQ
            exact ⟨n + 2, hn⟩
          · rw [if_neg c16] at h
            suffices hh : ∃ n, jx_W jx_ShC d none jc_34 Q n 100 [some (.ref 92), some (.ref 1), some (.int x2), some (.int x3), some (.int x4), some (.ref 110), some (.int x6), some (.int z14.1)] [.int (x3 + z14.1), .int (x2 + 1), .ref 1, .ref 92] z14.2 by
              obtain ⟨n, hn⟩ := hh
              exact ⟨n + 17, And.intro (jx_in_ok c11) (s_P_copyFrom (by omega) (by decide) h13 (s_S_goBy (by omega) (by decide) h15 (And.intro (fun _ => hn) (fun zz => absurd zz c16))))⟩
            obtain ⟨n, hn⟩ := s_L_walk_104 hRec hd0 hd hK43 (u7 := some (.int z14.1)) (by decide) h hQ
            exact ⟨n + 3, hn⟩
        · try rw [show (94 + 4 * (1 : Int32).toNatClampNeg) = 98 from by decide] at h
          obtain ⟨z12, h13, h⟩ := Option.bind_eq_some_iff.mp h
          obtain ⟨z14, h15, h⟩ := Option.bind_eq_some_iff.mp h
          by_cases c16 : x6 = 0
          · rw [if_pos c16] at h
            suffices hh : ∃ n, jx_W jx_ShC d none jc_34 Q n 95 [some (.ref 92), some (.ref 1), some (.int x2), some (.int x3), some (.int x4), some (.ref 110), some (.int x6), some (.int z14.1)] [.int (x3 + z14.1), .int (x2 + 1), .ref 1, .ref 92] z14.2 by
              obtain ⟨n, hn⟩ := hh
              exact ⟨n + 17, And.intro (jx_in_ok c11) (s_P_copyFrom (by omega) (by decide) h13 (s_S_goBy (by omega) (by decide) h15 (And.intro (fun zz => absurd c16 zz) (fun _ => hn))))⟩
            obtain ⟨n, hn⟩ := s_L_walk_104 hRec hd0 hd hK43 (u7 := some (.int z14.1)) (by decide) h hQ
            exact ⟨n + 2, hn⟩
          · rw [if_neg c16] at h
            suffices hh : ∃ n, jx_W jx_ShC d none jc_34 Q n 100 [some (.ref 92), some (.ref 1), some (.int x2), some (.int x3), some (.int x4), some (.ref 110), some (.int x6), some (.int z14.1)] [.int (x3 + z14.1), .int (x2 + 1), .ref 1, .ref 92] z14.2 by
              obtain ⟨n, hn⟩ := hh
              exact ⟨n + 17, And.intro (jx_in_ok c11) (s_P_copyFrom (by omega) (by decide) h13 (s_S_goBy (by omega) (by decide) h15 (And.intro (fun _ => hn) (fun zz => absurd zz c16))))⟩
            obtain ⟨n, hn⟩ := s_L_walk_104 hRec hd0 hd hK43 (u7 := some (.int z14.1)) (by decide) h hQ
            exact ⟨n + 3, hn⟩
        · try rw [show (94 + 4 * (2 : Int32).toNatClampNeg) = 102 from by decide] at h
          obtain ⟨z12, h13, h⟩ := Option.bind_eq_some_iff.mp h
          obtain ⟨z14, h15, h⟩ := Option.bind_eq_some_iff.mp h
          by_cases c16 : x6 = 0
          · rw [if_pos c16] at h
            suffices hh : ∃ n, jx_W jx_ShC d none jc_34 Q n 95 [some (.ref 92), some (.ref 1), some (.int x2), some (.int x3), some (.int x4), some (.ref 110), some (.int x6), some (.int z14.1)] [.int (x3 + z14.1), .int (x2 + 1), .ref 1, .ref 92] z14.2 by
              obtain ⟨n, hn⟩ := hh
              exact ⟨n + 17, And.intro (jx_in_ok c11) (s_P_copyFrom (by omega) (by decide) h13 (s_S_goBy (by omega) (by decide) h15 (And.intro (fun zz => absurd c16 zz) (fun _ => hn))))⟩
            obtain ⟨n, hn⟩ := s_L_walk_104 hRec hd0 hd hK43 (u7 := some (.int z14.1)) (by decide) h hQ
            exact ⟨n + 2, hn⟩
          · rw [if_neg c16] at h
            suffices hh : ∃ n, jx_W jx_ShC d none jc_34 Q n 100 [some (.ref 92), some (.ref 1), some (.int x2), some (.int x3), some (.int x4), some (.ref 110), some (.int x6), some (.int z14.1)] [.int (x3 + z14.1), .int (x2 + 1), .ref 1, .ref 92] z14.2 by
              obtain ⟨n, hn⟩ := hh
              exact ⟨n + 17, And.intro (jx_in_ok c11) (s_P_copyFrom (by omega) (by decide) h13 (s_S_goBy (by omega) (by decide) h15 (And.intro (fun _ => hn) (fun zz => absurd zz c16))))⟩
            obtain ⟨n, hn⟩ := s_L_walk_104 hRec hd0 hd hK43 (u7 := some (.int z14.1)) (by decide) h hQ
            exact ⟨n + 3, hn⟩
        · try rw [show (94 + 4 * (3 : Int32).toNatClampNeg) = 106 from by decide] at h
          obtain ⟨z12, h13, h⟩ := Option.bind_eq_some_iff.mp h
          obtain ⟨z14, h15, h⟩ := Option.bind_eq_some_iff.mp h
          by_cases c16 : x6 = 0
          · rw [if_pos c16] at h
            suffices hh : ∃ n, jx_W jx_ShC d none jc_34 Q n 95 [some (.ref 92), some (.ref 1), some (.int x2), some (.int x3), some (.int x4), some (.ref 110), some (.int x6), some (.int z14.1)] [.int (x3 + z14.1), .int (x2 + 1), .ref 1, .ref 92] z14.2 by
              obtain ⟨n, hn⟩ := hh
              exact ⟨n + 17, And.intro (jx_in_ok c11) (s_P_copyFrom (by omega) (by decide) h13 (s_S_goBy (by omega) (by decide) h15 (And.intro (fun zz => absurd c16 zz) (fun _ => hn))))⟩
            obtain ⟨n, hn⟩ := s_L_walk_104 hRec hd0 hd hK43 (u7 := some (.int z14.1)) (by decide) h hQ
            exact ⟨n + 2, hn⟩
          · rw [if_neg c16] at h
            suffices hh : ∃ n, jx_W jx_ShC d none jc_34 Q n 100 [some (.ref 92), some (.ref 1), some (.int x2), some (.int x3), some (.int x4), some (.ref 110), some (.int x6), some (.int z14.1)] [.int (x3 + z14.1), .int (x2 + 1), .ref 1, .ref 92] z14.2 by
              obtain ⟨n, hn⟩ := hh
              exact ⟨n + 17, And.intro (jx_in_ok c11) (s_P_copyFrom (by omega) (by decide) h13 (s_S_goBy (by omega) (by decide) h15 (And.intro (fun _ => hn) (fun zz => absurd zz c16))))⟩
            obtain ⟨n, hn⟩ := s_L_walk_104 hRec hd0 hd hK43 (u7 := some (.int z14.1)) (by decide) h hQ
            exact ⟨n + 3, hn⟩
        · try rw [show (94 + 4 * (4 : Int32).toNatClampNeg) = 110 from by decide] at h
          obtain ⟨z12, h13, h⟩ := Option.bind_eq_some_iff.mp h
          obtain ⟨z14, h15, h⟩ := Option.bind_eq_some_iff.mp h
          by_cases c16 : x6 = 0
          · rw [if_pos c16] at h
            suffices hh : ∃ n, jx_W jx_ShC d none jc_34 Q n 95 [some (.ref 92), some (.ref 1), some (.int x2), some (.int x3), some (.int x4), some (.ref 110), some (.int x6), some (.int z14.1)] [.int (x3 + z14.1), .int (x2 + 1), .ref 1, .ref 92] z14.2 by
              obtain ⟨n, hn⟩ := hh
              exact ⟨n + 17, And.intro (jx_in_ok c11) (s_P_copyFrom (by omega) (by decide) h13 (s_S_goBy (by omega) (by decide) h15 (And.intro (fun zz => absurd c16 zz) (fun _ => hn))))⟩
            obtain ⟨n, hn⟩ := s_L_walk_104 hRec hd0 hd hK43 (u7 := some (.int z14.1)) (by decide) h hQ
            exact ⟨n + 2, hn⟩
          · rw [if_neg c16] at h
            suffices hh : ∃ n, jx_W jx_ShC d none jc_34 Q n 100 [some (.ref 92), some (.ref 1), some (.int x2), some (.int x3), some (.int x4), some (.ref 110), some (.int x6), some (.int z14.1)] [.int (x3 + z14.1), .int (x2 + 1), .ref 1, .ref 92] z14.2 by
              obtain ⟨n, hn⟩ := hh
              exact ⟨n + 17, And.intro (jx_in_ok c11) (s_P_copyFrom (by omega) (by decide) h13 (s_S_goBy (by omega) (by decide) h15 (And.intro (fun _ => hn) (fun zz => absurd zz c16))))⟩
            obtain ⟨n, hn⟩ := s_L_walk_104 hRec hd0 hd hK43 (u7 := some (.int z14.1)) (by decide) h hQ
            exact ⟨n + 3, hn⟩
    · unfold f_L_walk_67 at h
      cases c11 : jx_in y2 5 with
      | false => rw [c11, cond_false] at h; cases h
      | true =>
        rw [c11, cond_true] at h
        rcases jx_ix5 (jx_in_ok c11) with rfl | rfl | rfl | rfl | rfl
        · try rw [show (94 + 4 * (0 : Int32).toNatClampNeg) = 94 from by decide] at h
          obtain ⟨z12, h13, h⟩ := Option.bind_eq_some_iff.mp h
          obtain ⟨z14, h15, h⟩ := Option.bind_eq_some_iff.mp h
          by_cases c16 : x6 = 0
          · rw [if_pos c16] at h
            suffices hh : ∃ n, jx_W jx_ShC d none jc_34 Q n 95 [some (.ref 92), some (.ref 1), some (.int x2), some (.int x3), some (.int x4), some (.ref 110), some (.int x6), some (.int z14.1)] [.int (x3 + z14.1), .int (x2 + 1), .ref 1, .ref 92] z14.2 by
              obtain ⟨n, hn⟩ := hh
              exact ⟨n + 17, And.intro (jx_in_ok c11) (s_P_copyFrom (by omega) (by decide) h13 (s_S_goBy (by omega) (by decide) h15 (And.intro (fun zz => absurd c16 zz) (fun _ => hn))))⟩
            obtain ⟨n, hn⟩ := s_L_walk_104 hRec hd0 hd hK43 (u7 := some (.int z14.1)) (by decide) h hQ
            exact ⟨n + 2, hn⟩
          · rw [if_neg c16] at h
            suffices hh : ∃ n, jx_W jx_ShC d none jc_34 Q n 100 [some (.ref 92), some (.ref 1), some (.int x2), some (.int x3), some (.int x4), some (.ref 110), some (.int x6), some (.int z14.1)] [.int (x3 + z14.1), .int (x2 + 1), .ref 1, .ref 92] z14.2 by
              obtain ⟨n, hn⟩ := hh
              exact ⟨n + 17, And.intro (jx_in_ok c11) (s_P_copyFrom (by omega) (by decide) h13 (s_S_goBy (by omega) (by decide) h15 (And.intro (fun _ => hn) (fun zz => absurd zz c16))))⟩
            obtain ⟨n, hn⟩ := s_L_walk_104 hRec hd0 hd hK43 (u7 := some (.int z14.1)) (by decide) h hQ
            exact ⟨n + 3, hn⟩
        · try rw [show (94 + 4 * (1 : Int32).toNatClampNeg) = 98 from by decide] at h
          obtain ⟨z12, h13, h⟩ := Option.bind_eq_some_iff.mp h
          obtain ⟨z14, h15, h⟩ := Option.bind_eq_some_iff.mp h
          by_cases c16 : x6 = 0
          · rw [if_pos c16] at h
            suffices hh : ∃ n, jx_W jx_ShC d none jc_34 Q n 95 [some (.ref 92), some (.ref 1), some (.int x2), some (.int x3), some (.int x4), some (.ref 110), some (.int x6), some (.int z14.1)] [.int (x3 + z14.1), .int (x2 + 1), .ref 1, .ref 92] z14.2 by
              obtain ⟨n, hn⟩ := hh
              exact ⟨n + 17, And.intro (jx_in_ok c11) (s_P_copyFrom (by omega) (by decide) h13 (s_S_goBy (by omega) (by decide) h15 (And.intro (fun zz => absurd c16 zz) (fun _ => hn))))⟩
            obtain ⟨n, hn⟩ := s_L_walk_104 hRec hd0 hd hK43 (u7 := some (.int z14.1)) (by decide) h hQ
            exact ⟨n + 2, hn⟩
          · rw [if_neg c16] at h
            suffices hh : ∃ n, jx_W jx_ShC d none jc_34 Q n 100 [some (.ref 92), some (.ref 1), some (.int x2), some (.int x3), some (.int x4), some (.ref 110), some (.int x6), some (.int z14.1)] [.int (x3 + z14.1), .int (x2 + 1), .ref 1, .ref 92] z14.2 by
              obtain ⟨n, hn⟩ := hh
              exact ⟨n + 17, And.intro (jx_in_ok c11) (s_P_copyFrom (by omega) (by decide) h13 (s_S_goBy (by omega) (by decide) h15 (And.intro (fun _ => hn) (fun zz => absurd zz c16))))⟩
            obtain ⟨n, hn⟩ := s_L_walk_104 hRec hd0 hd hK43 (u7 := some (.int z14.1)) (by decide) h hQ
            exact ⟨n + 3, hn⟩
        · try rw [show (94 + 4 * (2 : Int32).toNatClampNeg) = 102 from by decide] at h
          obtain ⟨z12, h13, h⟩ := Option.bind_eq_some_iff.mp h
          obtain ⟨z14, h15, h⟩ := Option.bind_eq_some_iff.mp h
          by_cases c16 : x6 = 0
          · rw [if_pos c16] at h
            suffices hh : ∃ n, jx_W jx_ShC d none jc_34 Q n 95 [some (.ref 92), some (.ref 1), some (.int x2), some (.int x3), some (.int x4), some (.ref 110), some (.int x6), some (.int z14.1)] [.int (x3 + z14.1), .int (x2 + 1), .ref 1, .ref 92] z14.2 by
              obtain ⟨n, hn⟩ := hh
              exact ⟨n + 17, And.intro (jx_in_ok c11) (s_P_copyFrom (by omega) (by decide) h13 (s_S_goBy (by omega) (by decide) h15 (And.intro (fun zz => absurd c16 zz) (fun _ => hn))))⟩
            obtain ⟨n, hn⟩ := s_L_walk_104 hRec hd0 hd hK43 (u7 := some (.int z14.1)) (by decide) h hQ
            exact ⟨n + 2, hn⟩
          · rw [if_neg c16] at h
            suffices hh : ∃ n, jx_W jx_ShC d none jc_34 Q n 100 [some (.ref 92), some (.ref 1), some (.int x2), some (.int x3), some (.int x4), some (.ref 110), some (.int x6), some (.int z14.1)] [.int (x3 + z14.1), .int (x2 + 1), .ref 1, .ref 92] z14.2 by
              obtain ⟨n, hn⟩ := hh
              exact ⟨n + 17, And.intro (jx_in_ok c11) (s_P_copyFrom (by omega) (by decide) h13 (s_S_goBy (by omega) (by decide) h15 (And.intro (fun _ => hn) (fun zz => absurd zz c16))))⟩
            obtain ⟨n, hn⟩ := s_L_walk_104 hRec hd0 hd hK43 (u7 := some (.int z14.1)) (by decide) h hQ
            exact ⟨n + 3, hn⟩
        · try rw [show (94 + 4 * (3 : Int32).toNatClampNeg) = 106 from by decide] at h
          obtain ⟨z12, h13, h⟩ := Option.bind_eq_some_iff.mp h
          obtain ⟨z14, h15, h⟩ := Option.bind_eq_some_iff.mp h
          by_cases c16 : x6 = 0
          · rw [if_pos c16] at h
            suffices hh : ∃ n, jx_W jx_ShC d none jc_34 Q n 95 [some (.ref 92), some (.ref 1), some (.int x2), some (.int x3), some (.int x4), some (.ref 110), some (.int x6), some (.int z14.1)] [.int (x3 + z14.1), .int (x2 + 1), .ref 1, .ref 92] z14.2 by
              obtain ⟨n, hn⟩ := hh
              exact ⟨n + 17, And.intro (jx_in_ok c11) (s_P_copyFrom (by omega) (by decide) h13 (s_S_goBy (by omega) (by decide) h15 (And.intro (fun zz => absurd c16 zz) (fun _ => hn))))⟩
            obtain ⟨n, hn⟩ := s_L_walk_104 hRec hd0 hd hK43 (u7 := some (.int z14.1)) (by decide) h hQ
            exact ⟨n + 2, hn⟩
          · rw [if_neg c16] at h
            suffices hh : ∃ n, jx_W jx_ShC d none jc_34 Q n 100 [some (.ref 92), some (.ref 1), some (.int x2), some (.int x3), some (.int x4), some (.ref 110), some (.int x6), some (.int z14.1)] [.int (x3 + z14.1), .int (x2 + 1), .ref 1, .ref 92] z14.2 by
              obtain ⟨n, hn⟩ := hh
              exact ⟨n + 17, And.intro (jx_in_ok c11) (s_P_copyFrom (by omega) (by decide) h13 (s_S_goBy (by omega) (by decide) h15 (And.intro (fun _ => hn) (fun zz => absurd zz c16))))⟩
            obtain ⟨n, hn⟩ := s_L_walk_104 hRec hd0 hd hK43 (u7 := some (.int z14.1)) (by decide) h hQ
            exact ⟨n + 3, hn⟩
        · try rw [show (94 + 4 * (4 : Int32).toNatClampNeg) = 110 from by decide] at h
          obtain ⟨z12, h13, h⟩ := Option.bind_eq_some_iff.mp h
          obtain ⟨z14, h15, h⟩ := Option.bind_eq_some_iff.mp h
          by_cases c16 : x6 = 0
          · rw [if_pos c16] at h
            suffices hh : ∃ n, jx_W jx_ShC d none jc_34 Q n 95 [some (.ref 92), some (.ref 1), some (.int x2), some (.int x3), some (.int x4), some (.ref 110), some (.int x6), some (.int z14.1)] [.int (x3 + z14.1), .int (x2 + 1), .ref 1, .ref 92] z14.2 by
              obtain ⟨n, hn⟩ := hh
              exact ⟨n + 17, And.intro (jx_in_ok c11) (s_P_copyFrom (by omega) (by decide) h13 (s_S_goBy (by omega) (by decide) h15 (And.intro (fun zz => absurd c16 zz) (fun _ => hn))))⟩
            obtain ⟨n, hn⟩ := s_L_walk_104 hRec hd0 hd hK43 (u7 := some (.int z14.1)) (by decide) h hQ
            exact ⟨n + 2, hn⟩
          · rw [if_neg c16] at h
            suffices hh : ∃ n, jx_W jx_ShC d none jc_34 Q n 100 [some (.ref 92), some (.ref 1), some (.int x2), some (.int x3), some (.int x4), some (.ref 110), some (.int x6), some (.int z14.1)] [.int (x3 + z14.1), .int (x2 + 1), .ref 1, .ref 92] z14.2 by
              obtain ⟨n, hn⟩ := hh
              exact ⟨n + 17, And.intro (jx_in_ok c11) (s_P_copyFrom (by omega) (by decide) h13 (s_S_goBy (by omega) (by decide) h15 (And.intro (fun _ => hn) (fun zz => absurd zz c16))))⟩
            obtain ⟨n, hn⟩ := s_L_walk_104 hRec hd0 hd hK43 (u7 := some (.int z14.1)) (by decide) h hQ
            exact ⟨n + 3, hn⟩
    · unfold f_L_walk_67 at h
      cases c11 : jx_in y2 5 with
      | false => rw [c11, cond_false] at h; cases h
      | true =>
        rw [c11, cond_true] at h
        rcases jx_ix5 (jx_in_ok c11) with rfl | rfl | rfl | rfl | rfl
        · try rw [show (94 + 4 * (0 : Int32).toNatClampNeg) = 94 from by decide] at h
          obtain ⟨z12, h13, h⟩ := Option.bind_eq_some_iff.mp h
          obtain ⟨z14, h15, h⟩ := Option.bind_eq_some_iff.mp h
          by_cases c16 : x6 = 0
          · rw [if_pos c16] at h
            suffices hh : ∃ n, jx_W jx_ShC d none jc_34 Q n 95 [some (.ref 92), some (.ref 1), some (.int x2), some (.int x3), some (.int x4), some (.ref 110), some (.int x6), some (.int z14.1)] [.int (x3 + z14.1), .int (x2 + 1), .ref 1, .ref 92] z14.2 by
              obtain ⟨n, hn⟩ := hh
              exact ⟨n + 17, And.intro (jx_in_ok c11) (s_P_copyFrom (by omega) (by decide) h13 (s_S_goBy (by omega) (by decide) h15 (And.intro (fun zz => absurd c16 zz) (fun _ => hn))))⟩
            obtain ⟨n, hn⟩ := s_L_walk_104 hRec hd0 hd hK43 (u7 := some (.int z14.1)) (by decide) h hQ
            exact ⟨n + 2, hn⟩
          · rw [if_neg c16] at h
            suffices hh : ∃ n, jx_W jx_ShC d none jc_34 Q n 100 [some (.ref 92), some (.ref 1), some (.int x2), some (.int x3), some (.int x4), some (.ref 110), some (.int x6), some (.int z14.1)] [.int (x3 + z14.1), .int (x2 + 1), .ref 1, .ref 92] z14.2 by
              obtain ⟨n, hn⟩ := hh
              exact ⟨n + 17, And.intro (jx_in_ok c11) (s_P_copyFrom (by omega) (by decide) h13 (s_S_goBy (by omega) (by decide) h15 (And.intro (fun _ => hn) (fun zz => absurd zz c16))))⟩
            obtain ⟨n, hn⟩ := s_L_walk_104 hRec hd0 hd hK43 (u7 := some (.int z14.1)) (by decide) h hQ
            exact ⟨n + 3, hn⟩
        · try rw [show (94 + 4 * (1 : Int32).toNatClampNeg) = 98 from by decide] at h
          obtain ⟨z12, h13, h⟩ := Option.bind_eq_some_iff.mp h
          obtain ⟨z14, h15, h⟩ := Option.bind_eq_some_iff.mp h
          by_cases c16 : x6 = 0
          · rw [if_pos c16] at h
            suffices hh : ∃ n, jx_W jx_ShC d none jc_34 Q n 95 [some (.ref 92), some (.ref 1), some (.int x2), some (.int x3), some (.int x4), some (.ref 110), some (.int x6), some (.int z14.1)] [.int (x3 + z14.1), .int (x2 + 1), .ref 1, .ref 92] z14.2 by
              obtain ⟨n, hn⟩ := hh
              exact ⟨n + 17, And.intro (jx_in_ok c11) (s_P_copyFrom (by omega) (by decide) h13 (s_S_goBy (by omega) (by decide) h15 (And.intro (fun zz => absurd c16 zz) (fun _ => hn))))⟩
            obtain ⟨n, hn⟩ := s_L_walk_104 hRec hd0 hd hK43 (u7 := some (.int z14.1)) (by decide) h hQ
            exact ⟨n + 2, hn⟩
          · rw [if_neg c16] at h
            suffices hh : ∃ n, jx_W jx_ShC d none jc_34 Q n 100 [some (.ref 92), some (.ref 1), some (.int x2), some (.int x3), some (.int x4), some (.ref 110), some (.int x6), some (.int z14.1)] [.int (x3 + z14.1), .int (x2 + 1), .ref 1, .ref 92] z14.2 by
              obtain ⟨n, hn⟩ := hh
              exact ⟨n + 17, And.intro (jx_in_ok c11) (s_P_copyFrom (by omega) (by decide) h13 (s_S_goBy (by omega) (by decide) h15 (And.intro (fun _ => hn) (fun zz => absurd zz c16))))⟩
            obtain ⟨n, hn⟩ := s_L_walk_104 hRec hd0 hd hK43 (u7 := some (.int z14.1)) (by decide) h hQ
            exact ⟨n + 3, hn⟩
        · try rw [show (94 + 4 * (2 : Int32).toNatClampNeg) = 102 from by decide] at h
          obtain ⟨z12, h13, h⟩ := Option.bind_eq_some_iff.mp h
          obtain ⟨z14, h15, h⟩ := Option.bind_eq_some_iff.mp h
          by_cases c16 : x6 = 0
          · rw [if_pos c16] at h
            suffices hh : ∃ n, jx_W jx_ShC d none jc_34 Q n 95 [some (.ref 92), some (.ref 1), some (.int x2), some (.int x3), some (.int x4), some (.ref 110), some (.int x6), some (.int z14.1)] [.int (x3 + z14.1), .int (x2 + 1), .ref 1, .ref 92] z14.2 by
              obtain ⟨n, hn⟩ := hh
              exact ⟨n + 17, And.intro (jx_in_ok c11) (s_P_copyFrom (by omega) (by decide) h13 (s_S_goBy (by omega) (by decide) h15 (And.intro (fun zz => absurd c16 zz) (fun _ => hn))))⟩
            obtain ⟨n, hn⟩ := s_L_walk_104 hRec hd0 hd hK43 (u7 := some (.int z14.1)) (by decide) h hQ
            exact ⟨n + 2, hn⟩
          · rw [if_neg c16] at h
            suffices hh : ∃ n, jx_W jx_ShC d none jc_34 Q n 100 [some (.ref 92), some (.ref 1), some (.int x2), some (.int x3), some (.int x4), some (.ref 110), some (.int x6), some (.int z14.1)] [.int (x3 + z14.1), .int (x2 + 1), .ref 1, .ref 92] z14.2 by
              obtain ⟨n, hn⟩ := hh
              exact ⟨n + 17, And.intro (jx_in_ok c11) (s_P_copyFrom (by omega) (by decide) h13 (s_S_goBy (by omega) (by decide) h15 (And.intro (fun _ => hn) (fun zz => absurd zz c16))))⟩
            obtain ⟨n, hn⟩ := s_L_walk_104 hRec hd0 hd hK43 (u7 := some (.int z14.1)) (by decide) h hQ
            exact ⟨n + 3, hn⟩
        · try rw [show (94 + 4 * (3 : Int32).toNatClampNeg) = 106 from by decide] at h
          obtain ⟨z12, h13, h⟩ := Option.bind_eq_some_iff.mp h
          obtain ⟨z14, h15, h⟩ := Option.bind_eq_some_iff.mp h
          by_cases c16 : x6 = 0
          · rw [if_pos c16] at h
            suffices hh : ∃ n, jx_W jx_ShC d none jc_34 Q n 95 [some (.ref 92), some (.ref 1), some (.int x2), some (.int x3), some (.int x4), some (.ref 110), some (.int x6), some (.int z14.1)] [.int (x3 + z14.1), .int (x2 + 1), .ref 1, .ref 92] z14.2 by
              obtain ⟨n, hn⟩ := hh
              exact ⟨n + 17, And.intro (jx_in_ok c11) (s_P_copyFrom (by omega) (by decide) h13 (s_S_goBy (by omega) (by decide) h15 (And.intro (fun zz => absurd c16 zz) (fun _ => hn))))⟩
            obtain ⟨n, hn⟩ := s_L_walk_104 hRec hd0 hd hK43 (u7 := some (.int z14.1)) (by decide) h hQ
            exact ⟨n + 2, hn⟩
          · rw [if_neg c16] at h
            suffices hh : ∃ n, jx_W jx_ShC d none jc_34 Q n 100 [some (.ref 92), some (.ref 1), some (.int x2), some (.int x3), some (.int x4), some (.ref 110), some (.int x6), some (.int z14.1)] [.int (x3 + z14.1), .int (x2 + 1), .ref 1, .ref 92] z14.2 by
              obtain ⟨n, hn⟩ := hh
              exact ⟨n + 17, And.intro (jx_in_ok c11) (s_P_copyFrom (by omega) (by decide) h13 (s_S_goBy (by omega) (by decide) h15 (And.intro (fun _ => hn) (fun zz => absurd zz c16))))⟩
            obtain ⟨n, hn⟩ := s_L_walk_104 hRec hd0 hd hK43 (u7 := some (.int z14.1)) (by decide) h hQ
            exact ⟨n + 3, hn⟩
        · try rw [show (94 + 4 * (4 : Int32).toNatClampNeg) = 110 from by decide] at h
          obtain ⟨z12, h13, h⟩ := Option.bind_eq_some_iff.mp h
          obtain ⟨z14, h15, h⟩ := Option.bind_eq_some_iff.mp h
          by_cases c16 : x6 = 0
          · rw [if_pos c16] at h
            suffices hh : ∃ n, jx_W jx_ShC d none jc_34 Q n 95 [some (.ref 92), some (.ref 1), some (.int x2), some (.int x3), some (.int x4), some (.ref 110), some (.int x6), some (.int z14.1)] [.int (x3 + z14.1), .int (x2 + 1), .ref 1, .ref 92] z14.2 by
              obtain ⟨n, hn⟩ := hh
              exact ⟨n + 17, And.intro (jx_in_ok c11) (s_P_copyFrom (by omega) (by decide) h13 (s_S_goBy (by omega) (by decide) h15 (And.intro (fun zz => absurd c16 zz) (fun _ => hn))))⟩
            obtain ⟨n, hn⟩ := s_L_walk_104 hRec hd0 hd hK43 (u7 := some (.int z14.1)) (by decide) h hQ
            exact ⟨n + 2, hn⟩
          · rw [if_neg c16] at h
            suffices hh : ∃ n, jx_W jx_ShC d none jc_34 Q n 100 [some (.ref 92), some (.ref 1), some (.int x2), some (.int x3), some (.int x4), some (.ref 110), some (.int x6), some (.int z14.1)] [.int (x3 + z14.1), .int (x2 + 1), .ref 1, .ref 92] z14.2 by
              obtain ⟨n, hn⟩ := hh
              exact ⟨n + 17, And.intro (jx_in_ok c11) (s_P_copyFrom (by omega) (by decide) h13 (s_S_goBy (by omega) (by decide) h15 (And.intro (fun _ => hn) (fun zz => absurd zz c16))))⟩
            obtain ⟨n, hn⟩ := s_L_walk_104 hRec hd0 hd hK43 (u7 := some (.int z14.1)) (by decide) h hQ
            exact ⟨n + 3, hn⟩
    · unfold f_L_walk_67 at h
      cases c11 : jx_in y2 5 with
      | false => rw [c11, cond_false] at h; cases h
      | true =>
        rw [c11, cond_true] at h
        rcases jx_ix5 (jx_in_ok c11) with rfl | rfl | rfl | rfl | rfl
        · try rw [show (94 + 4 * (0 : Int32).toNatClampNeg) = 94 from by decide] at h
          obtain ⟨z12, h13, h⟩ := Option.bind_eq_some_iff.mp h
          obtain ⟨z14, h15, h⟩ := Option.bind_eq_some_iff.mp h
          by_cases c16 : x6 = 0
          · rw [if_pos c16] at h
            suffices hh : ∃ n, jx_W jx_ShC d none jc_34 Q n 95 [some (.ref 92), some (.ref 1), some (.int x2), some (.int x3), some (.int x4), some (.ref 110), some (.int x6), some (.int z14.1)] [.int (x3 + z14.1), .int (x2 + 1), .ref 1, .ref 92] z14.2 by
              obtain ⟨n, hn⟩ := hh
              exact ⟨n + 17, And.intro (jx_in_ok c11) (s_P_copyFrom (by omega) (by decide) h13 (s_S_goBy (by omega) (by decide) h15 (And.intro (fun zz => absurd c16 zz) (fun _ => hn))))⟩
            obtain ⟨n, hn⟩ := s_L_walk_104 hRec hd0 hd hK43 (u7 := some (.int z14.1)) (by decide) h hQ
            exact ⟨n + 2, hn⟩
          · rw [if_neg c16] at h
            suffices hh : ∃ n, jx_W jx_ShC d none jc_34 Q n 100 [some (.ref 92), some (.ref 1), some (.int x2), some (.int x3), some (.int x4), some (.ref 110), some (.int x6), some (.int z14.1)] [.int (x3 + z14.1), .int (x2 + 1), .ref 1, .ref 92] z14.2 by
              obtain ⟨n, hn⟩ := hh
              exact ⟨n + 17, And.intro (jx_in_ok c11) (s_P_copyFrom (by omega) (by decide) h13 (s_S_goBy (by omega) (by decide) h15 (And.intro (fun _ => hn) (fun zz => absurd zz c16))))⟩
            obtain ⟨n, hn⟩ := s_L_walk_104 hRec hd0 hd hK43 (u7 := some (.int z14.1)) (by decide) h hQ
            exact ⟨n + 3, hn⟩
        · try rw [show (94 + 4 * (1 : Int32).toNatClampNeg) = 98 from by decide] at h
          obtain ⟨z12, h13, h⟩ := Option.bind_eq_some_iff.mp h
          obtain ⟨z14, h15, h⟩ := Option.bind_eq_some_iff.mp h
          by_cases c16 : x6 = 0
          · rw [if_pos c16] at h
            suffices hh : ∃ n, jx_W jx_ShC d none jc_34 Q n 95 [some (.ref 92), some (.ref 1), some (.int x2), some (.int x3), some (.int x4), some (.ref 110), some (.int x6), some (.int z14.1)] [.int (x3 + z14.1), .int (x2 + 1), .ref 1, .ref 92] z14.2 by
              obtain ⟨n, hn⟩ := hh
              exact ⟨n + 17, And.intro (jx_in_ok c11) (s_P_copyFrom (by omega) (by decide) h13 (s_S_goBy (by omega) (by decide) h15 (And.intro (fun zz => absurd c16 zz) (fun _ => hn))))⟩
            obtain ⟨n, hn⟩ := s_L_walk_104 hRec hd0 hd hK43 (u7 := some (.int z14.1)) (by decide) h hQ
            exact ⟨n + 2, hn⟩
          · rw [if_neg c16] at h
            suffices hh : ∃ n, jx_W jx_ShC d none jc_34 Q n 100 [some (.ref 92), some (.ref 1), some (.int x2), some (.int x3), some (.int x4), some (.ref 110), some (.int x6), some (.int z14.1)] [.int (x3 + z14.1), .int (x2 + 1), .ref 1, .ref 92] z14.2 by
              obtain ⟨n, hn⟩ := hh
              exact ⟨n + 17, And.intro (jx_in_ok c11) (s_P_copyFrom (by omega) (by decide) h13 (s_S_goBy (by omega) (by decide) h15 (And.intro (fun _ => hn) (fun zz => absurd zz c16))))⟩
            obtain ⟨n, hn⟩ := s_L_walk_104 hRec hd0 hd hK43 (u7 := some (.int z14.1)) (by decide) h hQ
            exact ⟨n + 3, hn⟩
        · try rw [show (94 + 4 * (2 : Int32).toNatClampNeg) = 102 from by decide] at h
          obtain ⟨z12, h13, h⟩ := Option.bind_eq_some_iff.mp h
          obtain ⟨z14, h15, h⟩ := Option.bind_eq_some_iff.mp h
          by_cases c16 : x6 = 0
          · rw [if_pos c16] at h
            suffices hh : ∃ n, jx_W jx_ShC d none jc_34 Q n 95 [some (.ref 92), some (.ref 1), some (.int x2), some (.int x3), some (.int x4), some (.ref 110), some (.int x6), some (.int z14.1)] [.int (x3 + z14.1), .int (x2 + 1), .ref 1, .ref 92] z14.2 by
              obtain ⟨n, hn⟩ := hh
              exact ⟨n + 17, And.intro (jx_in_ok c11) (s_P_copyFrom (by omega) (by decide) h13 (s_S_goBy (by omega) (by decide) h15 (And.intro (fun zz => absurd c16 zz) (fun _ => hn))))⟩
            obtain ⟨n, hn⟩ := s_L_walk_104 hRec hd0 hd hK43 (u7 := some (.int z14.1)) (by decide) h hQ
            exact ⟨n + 2, hn⟩
          · rw [if_neg c16] at h
            suffices hh : ∃ n, jx_W jx_ShC d none jc_34 Q n 100 [some (.ref 92), some (.ref 1), some (.int x2), some (.int x3), some (.int x4), some (.ref 110), some (.int x6), some (.int z14.1)] [.int (x3 + z14.1), .int (x2 + 1), .ref 1, .ref 92] z14.2 by
              obtain ⟨n, hn⟩ := hh
              exact ⟨n + 17, And.intro (jx_in_ok c11) (s_P_copyFrom (by omega) (by decide) h13 (s_S_goBy (by omega) (by decide) h15 (And.intro (fun _ => hn) (fun zz => absurd zz c16))))⟩
            obtain ⟨n, hn⟩ := s_L_walk_104 hRec hd0 hd hK43 (u7 := some (.int z14.1)) (by decide) h hQ
            exact ⟨n + 3, hn⟩
        · try rw [show (94 + 4 * (3 : Int32).toNatClampNeg) = 106 from by decide] at h
          obtain ⟨z12, h13, h⟩ := Option.bind_eq_some_iff.mp h
          obtain ⟨z14, h15, h⟩ := Option.bind_eq_some_iff.mp h
          by_cases c16 : x6 = 0
          · rw [if_pos c16] at h
            suffices hh : ∃ n, jx_W jx_ShC d none jc_34 Q n 95 [some (.ref 92), some (.ref 1), some (.int x2), some (.int x3), some (.int x4), some (.ref 110), some (.int x6), some (.int z14.1)] [.int (x3 + z14.1), .int (x2 + 1), .ref 1, .ref 92] z14.2 by
              obtain ⟨n, hn⟩ := hh
              exact ⟨n + 17, And.intro (jx_in_ok c11) (s_P_copyFrom (by omega) (by decide) h13 (s_S_goBy (by omega) (by decide) h15 (And.intro (fun zz => absurd c16 zz) (fun _ => hn))))⟩
            obtain ⟨n, hn⟩ := s_L_walk_104 hRec hd0 hd hK43 (u7 := some (.int z14.1)) (by decide) h hQ
            exact ⟨n + 2, hn⟩
          · rw [if_neg c16] at h
            suffices hh : ∃ n, jx_W jx_ShC d none jc_34 Q n 100 [some (.ref 92), some (.ref 1), some (.int x2), some (.int x3), some (.int x4), some (.ref 110), some (.int x6), some (.int z14.1)] [.int (x3 + z14.1), .int (x2 + 1), .ref 1, .ref 92] z14.2 by
              obtain ⟨n, hn⟩ := hh
              exact ⟨n + 17, And.intro (jx_in_ok c11) (s_P_copyFrom (by omega) (by decide) h13 (s_S_goBy (by omega) (by decide) h15 (And.intro (fun _ => hn) (fun zz => absurd zz c16))))⟩
            obtain ⟨n, hn⟩ := s_L_walk_104 hRec hd0 hd hK43 (u7 := some (.int z14.1)) (by decide) h hQ
            exact ⟨n + 3, hn⟩
        · try rw [show (94 + 4 * (4 : Int32).toNatClampNeg) = 110 from by decide] at h
          obtain ⟨z12, h13, h⟩ := Option.bind_eq_some_iff.mp h
          obtain ⟨z14, h15, h⟩ := Option.bind_eq_some_iff.mp h
          by_cases c16 : x6 = 0
          · rw [if_pos c16] at h
            suffices hh : ∃ n, jx_W jx_ShC d none jc_34 Q n 95 [some (.ref 92), some (.ref 1), some (.int x2), some (.int x3), some (.int x4), some (.ref 110), some (.int x6), some (.int z14.1)] [.int (x3 + z14.1), .int (x2 + 1), .ref 1, .ref 92] z14.2 by
              obtain ⟨n, hn⟩ := hh
              exact ⟨n + 17, And.intro (jx_in_ok c11) (s_P_copyFrom (by omega) (by decide) h13 (s_S_goBy (by omega) (by decide) h15 (And.intro (fun zz => absurd c16 zz) (fun _ => hn))))⟩
            obtain ⟨n, hn⟩ := s_L_walk_104 hRec hd0 hd hK43 (u7 := some (.int z14.1)) (by decide) h hQ
            exact ⟨n + 2, hn⟩
          · rw [if_neg c16] at h
            suffices hh : ∃ n, jx_W jx_ShC d none jc_34 Q n 100 [some (.ref 92), some (.ref 1), some (.int x2), some (.int x3), some (.int x4), some (.ref 110), some (.int x6), some (.int z14.1)] [.int (x3 + z14.1), .int (x2 + 1), .ref 1, .ref 92] z14.2 by
              obtain ⟨n, hn⟩ := hh
              exact ⟨n + 17, And.intro (jx_in_ok c11) (s_P_copyFrom (by omega) (by decide) h13 (s_S_goBy (by omega) (by decide) h15 (And.intro (fun _ => hn) (fun zz => absurd zz c16))))⟩
            obtain ⟨n, hn⟩ := s_L_walk_104 hRec hd0 hd hK43 (u7 := some (.int z14.1)) (by decide) h hQ
            exact ⟨n + 3, hn⟩
set_option maxRecDepth 20000 in
theorem s_L_walk_43 {N d : Nat} {Dr : Nat} {Rec : Int32 → Int32 → Int32 → jw_M → Option jw_M} {Q : jw_Q} (hRec : ∀ {d : Nat} {a2 : Int32} {a3 : Int32} {a4 : Int32} {σ : jw_M} {z : jw_M} {Q : jw_Q}, Dr ≤ d → Rec a2 a3 a4 σ = some z → Q none (jx_ShC, z) → jw_C jp_kd jp_ys d 34 [.ref 92, .ref 1, .int a2, .int a3, .int a4] (jx_ShC, σ) Q) (hd0 : 0 + Dr ≤ d) (hd : 6 ≤ d) : ∀ (k : Nat) {x2 : Int32} {x3 : Int32} {x4 : Int32} {r5 : Nat} {x6 : Int32} {u7 : Option Value} {σ : jw_M} {z : jw_M} → (r5 = 94 ∨ r5 = 98 ∨ r5 = 102 ∨ r5 = 106 ∨ r5 = 110), f_L_walk_43 N Rec k x2 x3 x4 r5 x6 σ = some z → Q none (jx_ShC, z) → ∃ n, jx_W jx_ShC d none jc_34 Q n 43 [some (.ref 92), some (.ref 1), some (.int x2), some (.int x3), some (.int x4), some (.ref r5), some (.int x6), u7] [] σ
  | 0, _, _, _, _, _, _, _, _, _, h, _ => by cases h
  | k + 1, x2, x3, x4, r5, x6, u7, σ, z, hr5, h, hQ => by
    rcases hr5 with rfl | rfl | rfl | rfl | rfl
    · rw [f_L_walk_43] at h
      by_cases c9 : (σ.1 1 0) < x6
      · rw [if_pos c9] at h
        suffices hh : ∃ n, jx_W jx_ShC d none jc_34 Q n 113 [some (.ref 92), some (.ref 1), some (.int x2), some (.int x3), some (.int x4), some (.ref 94), some (.int x6), u7] [] σ by
          obtain ⟨n, hn⟩ := hh
          exact ⟨n + 4, And.intro (fun _ => hn) (fun zz => absurd c9 zz)⟩
        cases h
        exact ⟨1, And.intro hQ (And.intro rfl rfl)⟩
      · rw [if_neg c9] at h
        suffices hh : ∃ n, jx_W jx_ShC d none jc_34 Q n 52 [some (.ref 92), some (.ref 1), some (.int x2), some (.int x3), some (.int x4), some (.ref 94), some (.int x6), u7] [] σ by
          obtain ⟨n, hn⟩ := hh
          exact ⟨n + 4, And.intro (fun zz => absurd zz c9) (fun _ => hn)⟩
        cases c10 : jx_in x2 4 with
        | false => rw [c10, cond_false] at h; cases h
        | true =>
          rw [c10, cond_true] at h
          obtain ⟨n, hn⟩ := s_L_walk_67 hRec hd0 hd (s_L_walk_43 hRec hd0 hd k) (u7 := u7) (by decide) (by decide) h hQ
          exact ⟨n + 9, And.intro (jx_in_ok c10) (hn)⟩
    · rw [f_L_walk_43] at h
      by_cases c9 : (σ.1 1 0) < x6
      · rw [if_pos c9] at h
        suffices hh : ∃ n, jx_W jx_ShC d none jc_34 Q n 113 [some (.ref 92), some (.ref 1), some (.int x2), some (.int x3), some (.int x4), some (.ref 98), some (.int x6), u7] [] σ by
          obtain ⟨n, hn⟩ := hh
          exact ⟨n + 4, And.intro (fun _ => hn) (fun zz => absurd c9 zz)⟩
        cases h
        exact ⟨1, And.intro hQ (And.intro rfl rfl)⟩
      · rw [if_neg c9] at h
        suffices hh : ∃ n, jx_W jx_ShC d none jc_34 Q n 52 [some (.ref 92), some (.ref 1), some (.int x2), some (.int x3), some (.int x4), some (.ref 98), some (.int x6), u7] [] σ by
          obtain ⟨n, hn⟩ := hh
          exact ⟨n + 4, And.intro (fun zz => absurd zz c9) (fun _ => hn)⟩
        cases c10 : jx_in x2 4 with
        | false => rw [c10, cond_false] at h; cases h
        | true =>
          rw [c10, cond_true] at h
          obtain ⟨n, hn⟩ := s_L_walk_67 hRec hd0 hd (s_L_walk_43 hRec hd0 hd k) (u7 := u7) (by decide) (by decide) h hQ
          exact ⟨n + 9, And.intro (jx_in_ok c10) (hn)⟩
    · rw [f_L_walk_43] at h
      by_cases c9 : (σ.1 1 0) < x6
      · rw [if_pos c9] at h
        suffices hh : ∃ n, jx_W jx_ShC d none jc_34 Q n 113 [some (.ref 92), some (.ref 1), some (.int x2), some (.int x3), some (.int x4), some (.ref 102), some (.int x6), u7] [] σ by
          obtain ⟨n, hn⟩ := hh
          exact ⟨n + 4, And.intro (fun _ => hn) (fun zz => absurd c9 zz)⟩
        cases h
        exact ⟨1, And.intro hQ (And.intro rfl rfl)⟩
      · rw [if_neg c9] at h
        suffices hh : ∃ n, jx_W jx_ShC d none jc_34 Q n 52 [some (.ref 92), some (.ref 1), some (.int x2), some (.int x3), some (.int x4), some (.ref 102), some (.int x6), u7] [] σ by
          obtain ⟨n, hn⟩ := hh
          exact ⟨n + 4, And.intro (fun zz => absurd zz c9) (fun _ => hn)⟩
        cases c10 : jx_in x2 4 with
        | false => rw [c10, cond_false] at h; cases h
        | true =>
          rw [c10, cond_true] at h
          obtain ⟨n, hn⟩ := s_L_walk_67 hRec hd0 hd (s_L_walk_43 hRec hd0 hd k) (u7 := u7) (by decide) (by decide) h hQ
          exact ⟨n + 9, And.intro (jx_in_ok c10) (hn)⟩
    · rw [f_L_walk_43] at h
      by_cases c9 : (σ.1 1 0) < x6
      · rw [if_pos c9] at h
        suffices hh : ∃ n, jx_W jx_ShC d none jc_34 Q n 113 [some (.ref 92), some (.ref 1), some (.int x2), some (.int x3), some (.int x4), some (.ref 106), some (.int x6), u7] [] σ by
          obtain ⟨n, hn⟩ := hh
          exact ⟨n + 4, And.intro (fun _ => hn) (fun zz => absurd c9 zz)⟩
        cases h
        exact ⟨1, And.intro hQ (And.intro rfl rfl)⟩
      · rw [if_neg c9] at h
        suffices hh : ∃ n, jx_W jx_ShC d none jc_34 Q n 52 [some (.ref 92), some (.ref 1), some (.int x2), some (.int x3), some (.int x4), some (.ref 106), some (.int x6), u7] [] σ by
          obtain ⟨n, hn⟩ := hh
          exact ⟨n + 4, And.intro (fun zz => absurd zz c9) (fun _ => hn)⟩
        cases c10 : jx_in x2 4 with
        | false => rw [c10, cond_false] at h; cases h
        | true =>
          rw [c10, cond_true] at h
          obtain ⟨n, hn⟩ := s_L_walk_67 hRec hd0 hd (s_L_walk_43 hRec hd0 hd k) (u7 := u7) (by decide) (by decide) h hQ
          exact ⟨n + 9, And.intro (jx_in_ok c10) (hn)⟩
    · rw [f_L_walk_43] at h
      by_cases c9 : (σ.1 1 0) < x6
      · rw [if_pos c9] at h
        suffices hh : ∃ n, jx_W jx_ShC d none jc_34 Q n 113 [some (.ref 92), some (.ref 1), some (.int x2), some (.int x3), some (.int x4), some (.ref 110), some (.int x6), u7] [] σ by
          obtain ⟨n, hn⟩ := hh
          exact ⟨n + 4, And.intro (fun _ => hn) (fun zz => absurd c9 zz)⟩
        cases h
        exact ⟨1, And.intro hQ (And.intro rfl rfl)⟩
      · rw [if_neg c9] at h
        suffices hh : ∃ n, jx_W jx_ShC d none jc_34 Q n 52 [some (.ref 92), some (.ref 1), some (.int x2), some (.int x3), some (.int x4), some (.ref 110), some (.int x6), u7] [] σ by
          obtain ⟨n, hn⟩ := hh
          exact ⟨n + 4, And.intro (fun zz => absurd zz c9) (fun _ => hn)⟩
        cases c10 : jx_in x2 4 with
        | false => rw [c10, cond_false] at h; cases h
        | true =>
          rw [c10, cond_true] at h
          obtain ⟨n, hn⟩ := s_L_walk_67 hRec hd0 hd (s_L_walk_43 hRec hd0 hd k) (u7 := u7) (by decide) (by decide) h hQ
          exact ⟨n + 9, And.intro (jx_in_ok c10) (hn)⟩
set_option maxRecDepth 20000 in
theorem s_L_walk_37 {N d : Nat} {Dr : Nat} {Rec : Int32 → Int32 → Int32 → jw_M → Option jw_M} {Q : jw_Q} (hRec : ∀ {d : Nat} {a2 : Int32} {a3 : Int32} {a4 : Int32} {σ : jw_M} {z : jw_M} {Q : jw_Q}, Dr ≤ d → Rec a2 a3 a4 σ = some z → Q none (jx_ShC, z) → jw_C jp_kd jp_ys d 34 [.ref 92, .ref 1, .int a2, .int a3, .int a4] (jx_ShC, σ) Q) (hd0 : 0 + Dr ≤ d) (hd : 6 ≤ d) {x2 : Int32} {x3 : Int32} {x4 : Int32} {y1 : Int32} {u5 : Option Value} {u6 : Option Value} {u7 : Option Value} {σ : jw_M} {z : jw_M} (h : f_L_walk_37 N Rec x2 x3 x4 y1 σ = some z) (hQ : Q none (jx_ShC, z)) : ∃ n, jx_W jx_ShC d none jc_34 Q n 37 [some (.ref 92), some (.ref 1), some (.int x2), some (.int x3), some (.int x4), u5, u6, u7] [.int y1, .ref 93] σ := by
  unfold f_L_walk_37 at h
  cases c8 : jx_in y1 5 with
  | false => rw [c8, cond_false] at h; cases h
  | true =>
    rw [c8, cond_true] at h
    rcases jx_ix5 (jx_in_ok c8) with rfl | rfl | rfl | rfl | rfl
    · try rw [show (94 + 4 * (0 : Int32).toNatClampNeg) = 94 from by decide] at h
      obtain ⟨n, hn⟩ := s_L_walk_43 hRec hd0 hd N (u7 := u7) (by decide) h hQ
      exact ⟨n + 4, And.intro (jx_in_ok c8) (hn)⟩
    · try rw [show (94 + 4 * (1 : Int32).toNatClampNeg) = 98 from by decide] at h
      obtain ⟨n, hn⟩ := s_L_walk_43 hRec hd0 hd N (u7 := u7) (by decide) h hQ
      exact ⟨n + 4, And.intro (jx_in_ok c8) (hn)⟩
    · try rw [show (94 + 4 * (2 : Int32).toNatClampNeg) = 102 from by decide] at h
      obtain ⟨n, hn⟩ := s_L_walk_43 hRec hd0 hd N (u7 := u7) (by decide) h hQ
      exact ⟨n + 4, And.intro (jx_in_ok c8) (hn)⟩
    · try rw [show (94 + 4 * (3 : Int32).toNatClampNeg) = 106 from by decide] at h
      obtain ⟨n, hn⟩ := s_L_walk_43 hRec hd0 hd N (u7 := u7) (by decide) h hQ
      exact ⟨n + 4, And.intro (jx_in_ok c8) (hn)⟩
    · try rw [show (94 + 4 * (4 : Int32).toNatClampNeg) = 110 from by decide] at h
      obtain ⟨n, hn⟩ := s_L_walk_43 hRec hd0 hd N (u7 := u7) (by decide) h hQ
      exact ⟨n + 4, And.intro (jx_in_ok c8) (hn)⟩
set_option maxRecDepth 20000 in
theorem s_L_walk {N : Nat} : ∀ (r : Nat) {d : Nat} {x2 : Int32} {x3 : Int32} {x4 : Int32} {σ : jw_M} {z : jw_M} {Q : jw_Q}, 7 + 1 * r ≤ d → f_L_walk N r x2 x3 x4 σ = some z → Q none (jx_ShC, z) → jw_C jp_kd jp_ys d 34 [.ref 92, .ref 1, .int x2, .int x3, .int x4] (jx_ShC, σ) Q
  | 0, _, _, _, _, _, _, _, _, h, _ => by cases h
  | r + 1, d, x2, x3, x4, σ, z, Q, hd, h, hQ => by
    obtain ⟨d, rfl⟩ : ∃ e, d = e + 1 := ⟨d - 1, by omega⟩
    have hd0 : 0 + (7 + 1 * r) ≤ d := by omega
    replace hd : 6 ≤ d := by omega
    have hRec := @s_L_walk N r
    refine jx_C rfl rfl ?_
    rw [f_L_walk] at h
    by_cases c1 : (σ.1 92 2) ≤ x2
    · rw [if_pos c1] at h
      suffices hh : ∃ n, jx_W jx_ShC d none jc_34 Q n 13 [some (.ref 92), some (.ref 1), some (.int x2), some (.int x3), some (.int x4), none, none, none] [] σ by
        obtain ⟨n, hn⟩ := hh
        exact ⟨n + 4, And.intro (fun _ => hn) (fun zz => absurd c1 zz)⟩
      obtain ⟨n, hn⟩ := s_L_walk_13 hRec hd0 hd (u1 := some (.ref 1)) (u5 := none) (u6 := none) (u7 := none) h hQ
      exact ⟨n + 0, hn⟩
    · rw [if_neg c1] at h
      suffices hh : ∃ n, jx_W jx_ShC d none jc_34 Q n 8 [some (.ref 92), some (.ref 1), some (.int x2), some (.int x3), some (.int x4), none, none, none] [] σ by
        obtain ⟨n, hn⟩ := hh
        exact ⟨n + 4, And.intro (fun zz => absurd zz c1) (fun _ => hn)⟩
      by_cases c7 : x2 < 4
      · rw [if_pos c7] at h
        suffices hh : ∃ n, jx_W jx_ShC d none jc_34 Q n 30 [some (.ref 92), some (.ref 1), some (.int x2), some (.int x3), some (.int x4), none, none, none] [] σ by
          obtain ⟨n, hn⟩ := hh
          exact ⟨n + 3, And.intro (fun _ => hn) (fun zz => absurd c7 zz)⟩
        obtain ⟨n, hn⟩ := s_L_walk_37 hRec hd0 hd (u5 := none) (u6 := none) (u7 := none) h hQ
        exact ⟨n + 5, hn⟩
      · rw [if_neg c7] at h
        suffices hh : ∃ n, jx_W jx_ShC d none jc_34 Q n 13 [some (.ref 92), some (.ref 1), some (.int x2), some (.int x3), some (.int x4), none, none, none] [] σ by
          obtain ⟨n, hn⟩ := hh
          exact ⟨n + 3, And.intro (fun zz => absurd zz c7) (fun _ => hn)⟩
        obtain ⟨n, hn⟩ := s_L_walk_13 hRec hd0 hd (u1 := some (.ref 1)) (u5 := none) (u6 := none) (u7 := none) h hQ
        exact ⟨n + 0, hn⟩
