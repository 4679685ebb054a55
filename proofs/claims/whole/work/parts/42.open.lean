/-! ===== pure: which lessons are open, on the class's side ===== -/
def q_need (σ : jw_M) (has : Int32) (i : Nat) : Bool := decide (σ.1 7 i < 0) || bt has (σ.1 7 i).toNatClampNeg
theorem e_open45 {N p1 m : Nat} {σ : jw_M} {has : Int32} (hm : m ≤ 8) (h5 : σ.1 1 5 = nI m) (hn : ∀ l, l < m → σ.1 7 l < 0 ∨ ∃ j, j < 32 ∧ σ.1 7 l = nI j) : ∀ (r l k : Nat) (o : Int32), l + r = m → r < k → ∃ o', f_S_openTo_45 N p1 k has o (nI l) σ = some (o', σ) ∧ ∀ i, i < 32 → bt o' i = (bt o i && (decide (i < l) || decide (m ≤ i) || q_need σ has i))
  | 0, l, 0, _, _, h => absurd h (by omega)
  | r + 1, l, 0, _, _, h => absurd h (by omega)
  | 0, l, k + 1, o, hl, _ => by
    refine ⟨o, ?_, fun i _ => ?_⟩
    · rw [f_S_openTo_45, h5, if_pos (nI_le (by omega) (by omega))]
    · by_cases z : i < l
      · rw [decide_eq_true z, Bool.true_or, Bool.true_or, Bool.and_true]
      · rw [decide_eq_true (show m ≤ i by omega), Bool.or_true, Bool.true_or, Bool.and_true]
  | r + 1, l, k + 1, o, hl, hk => by
    rw [f_S_openTo_45, h5, if_neg (nI_ge (by omega) (by omega))]
    by_cases hz : o >>> (nI l &&& 31) = 0
    · refine ⟨o, by rw [if_pos hz], fun i hi => ?_⟩
      by_cases z : i < l
      · rw [decide_eq_true z, Bool.true_or, Bool.true_or, Bool.and_true]
      · rw [q_shz (by omega) hz (by omega) hi, Bool.false_and]
    · rw [if_neg hz, q_in (by omega) (by decide), cond_true, nI_clamp (by omega)]
      rcases hn l (by omega) with c | ⟨j, hj, c⟩
      · rw [if_pos c]
        unfold f_S_openTo_98
        rw [nI_1]
        obtain ⟨o', e1, e2⟩ := e_open45 hm h5 hn r (l + 1) k o (by omega) (by omega)
        refine ⟨o', e1, fun i hi => ?_⟩
        rw [e2 i hi]
        by_cases z : i = l
        · subst z
          have y : q_need σ has i = true := by
            unfold q_need
            rw [decide_eq_true c, Bool.true_or]
          rw [y, Bool.or_true, Bool.or_true]
        · rw [show decide (i < l + 1) = decide (i < l) from decide_eq_decide.mpr (by omega)]
      · rw [c, if_neg (nI_pos (by omega))]
        by_cases d : bt has j = true
        · rw [if_neg (fun y => by rw [q_bit0 has hj] at y; rw [y] at d; cases d)]
          unfold f_S_openTo_98
          rw [nI_1]
          obtain ⟨o', e1, e2⟩ := e_open45 hm h5 hn r (l + 1) k o (by omega) (by omega)
          refine ⟨o', e1, fun i hi => ?_⟩
          rw [e2 i hi]
          by_cases z : i = l
          · subst z
            have y : q_need σ has i = true := by
              unfold q_need
              rw [c, nI_clamp (by omega), d, Bool.or_true]
            rw [y, Bool.or_true, Bool.or_true]
          · rw [show decide (i < l + 1) = decide (i < l) from decide_eq_decide.mpr (by omega)]
        · have d' : bt has j = false := by
            cases y : bt has j
            · rfl
            · exact absurd y d
          rw [if_pos ((q_bit0 has hj).mpr d')]
          unfold f_S_openTo_98
          rw [nI_1]
          obtain ⟨o', e1, e2⟩ := e_open45 hm h5 hn r (l + 1) k (o &&& (((1 : Int32) <<< (nI l &&& 31)) ^^^ (-1))) (by omega) (by omega)
          refine ⟨o', e1, fun i hi => ?_⟩
          rw [e2 i hi, q_bn _ _ hi, q_sh1 (by omega) hi]
          by_cases z : i = l
          · subst z
            have y : q_need σ has i = false := by
              unfold q_need
              rw [c, nI_clamp (by omega), d', decide_eq_false (nI_pos (by omega)), Bool.or_false]
            rw [y, decide_eq_true rfl, Bool.not_true, Bool.and_false, Bool.false_and, decide_eq_false (by omega : ¬ i < i), decide_eq_false (by omega : ¬ m ≤ i), Bool.or_false, Bool.or_false, Bool.and_false]
          · rw [decide_eq_false z, Bool.not_false, Bool.and_true, show decide (i < l + 1) = decide (i < l) from decide_eq_decide.mpr (by omega)]
/-- the set of open lessons -/
theorem e_openTo {N p1 m h p : Nat} {σ : jw_M} {full : Int32} (hN : 9 ≤ N) (hp : p < 6) (hh : h ≤ 16) (hm : m ≤ 8) (h0 : σ.1 p1 0 = nI h) (h5 : σ.1 1 5 = nI m) (hn : ∀ l, l < m → σ.1 7 l < 0 ∨ ∃ j, j < 32 ∧ σ.1 7 l = nI j) (hg : ∀ i, m ≤ i → i < 32 → bt (σ.1 11 h) i = false) : ∃ o, f_S_openTo N p1 (nI p) full σ = some (o, σ) ∧ ∀ i, i < 32 → bt o i = (bt (σ.1 11 h) i && !bt (σ.1 (p1 + 2) p) i && !bt full i && q_need σ (σ.1 (p1 + 2) p) i) := by
  unfold f_S_openTo
  rw [h0, if_pos (show nI h < 17 from nI_lt (b := 17) (by omega) (by omega)), q_in hp (by decide), cond_true, q_in (show h < 17 by omega) (by decide), cond_true, nI_clamp (by omega), nI_clamp (by omega)]
  obtain ⟨o, e1, e2⟩ := e_open45 (N := N) (p1 := p1) (has := σ.1 (p1 + 2) p) hm h5 hn m 0 N ((σ.1 11 h &&& (σ.1 (p1 + 2) p ^^^ (-1))) &&& (full ^^^ (-1))) (by omega) (by omega)
  refine ⟨o, e1, fun i hi => ?_⟩
  rw [e2 i hi, q_bn _ _ hi, q_bn _ _ hi]
  by_cases z : m ≤ i
  · rw [hg i z hi, Bool.false_and, Bool.false_and, Bool.false_and, Bool.false_and]
  · rw [decide_eq_false z, decide_eq_false (by omega : ¬ i < 0), Bool.false_or, Bool.false_or]
