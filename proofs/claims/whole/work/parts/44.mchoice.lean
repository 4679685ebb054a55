/-! ===== pure: the choice, on the reference's side ===== -/
theorem q_i5 (l w : Nat) : (24 + (5 * nI l)) + nI w = nI (24 + 5 * l + w) := by
  show (nI 24 + (nI 5 * nI l)) + nI w = _
  rw [pk_mul, nI_add, nI_add]
theorem q_i3 (p w : Nat) : (6 + (3 * nI p)) + nI w = nI (6 + 3 * p + w) := by
  show (nI 6 + (nI 3 * nI p)) + nI w = _
  rw [pk_mul, nI_add, nI_add]
theorem q_i2 (p : Nat) : 2 + nI p = nI (2 + p) := by
  show nI 2 + nI p = _
  rw [nI_add]
theorem q_i8 (p l : Nat) : (8 + (8 * nI p)) + nI l = nI (8 + 8 * p + l) := by
  show (nI 8 + (nI 8 * nI p)) + nI l = _
  rw [pk_mul, nI_add, nI_add]
theorem e_ln {N l w : Nat} {σ : jw_M} (hl : l < 8) (hw : w < 5) : f_M_lessonNumber N (nI l) (nI w) σ = some (σ.1 3 (24 + 5 * l + w), σ) := by
  unfold f_M_lessonNumber
  rw [q_i5, q_in (by omega) (by decide), cond_true, nI_clamp (by omega)]
theorem e_of {N p w : Nat} {σ : jw_M} (hp : p < 6) (hw : w < 3) : f_M_of N (nI p) (nI w) σ = some (σ.1 3 (6 + 3 * p + w), σ) := by
  unfold f_M_of
  rw [q_i3, q_in (by omega) (by decide), cond_true, nI_clamp (by omega)]
theorem e_has {N p l : Nat} {σ : jw_M} (hp : p < 6) (hl : l < 32) : f_M_hasLearnt N (nI p) (nI l) σ = some (bif bt (σ.1 1 (2 + p)) l then 1 else 0, σ) := by
  unfold f_M_hasLearnt
  rw [q_i2, q_in (by omega) (by decide), cond_true, nI_clamp (by omega)]
  cases e : bt (σ.1 1 (2 + p)) l
  · rw [if_neg (fun z => by rw [q_bit1 _ hl, e] at z; cases z), cond_false]
  · rw [if_pos ((q_bit1 _ hl).mpr e), cond_true]
theorem e_pts {N p l : Nat} {σ : jw_M} (hp : p < 6) (hl : l < 8) : f_M_pointsOf N (nI p) (nI l) σ = some (σ.1 1 (8 + 8 * p + l), σ) := by
  unfold f_M_pointsOf
  rw [q_i8, q_in (by omega) (by decide), cond_true, nI_clamp (by omega)]
def q_op (σ : jw_M) (p l : Nat) : Bool := !bt (σ.1 1 (2 + p)) l && (decide (σ.1 3 (24 + 5 * l + 1) < 0) || bt (σ.1 1 (2 + p)) (σ.1 3 (24 + 5 * l + 1)).toNatClampNeg) && (!decide (σ.1 1 0 < σ.1 3 (24 + 5 * l + 2)) && !decide (σ.1 3 (24 + 5 * l + 3) < σ.1 1 0)) && !decide (σ.1 3 (24 + 5 * l + 4) ≤ σ.1 10 l)
theorem e_isOpen29 {N l : Nat} {σ : jw_M} (hl : l < 8) : f_M_isOpen_29 N (nI l) σ = some (bif (!decide (σ.1 1 0 < σ.1 3 (24 + 5 * l + 2)) && !decide (σ.1 3 (24 + 5 * l + 3) < σ.1 1 0)) && !decide (σ.1 3 (24 + 5 * l + 4) ≤ σ.1 10 l) then 1 else 0, σ) := by
  unfold f_M_isOpen_29 f_M_in
  rw [show f_M_lessonNumber N (nI l) 2 σ = some (σ.1 3 (24 + 5 * l + 2), σ) from e_ln (w := 2) hl (by decide), Option.bind_some]
  dsimp only
  rw [show f_M_lessonNumber N (nI l) 3 σ = some (σ.1 3 (24 + 5 * l + 3), σ) from e_ln (w := 3) hl (by decide), Option.bind_some]
  dsimp only
  by_cases a : σ.1 1 0 < σ.1 3 (24 + 5 * l + 2)
  · rw [if_pos a, decide_eq_true a]
    rfl
  · rw [if_neg a, decide_eq_false a]
    by_cases b : σ.1 3 (24 + 5 * l + 3) < σ.1 1 0
    · rw [if_pos b, decide_eq_true b]
      rfl
    · rw [if_neg b, decide_eq_false b, Option.bind_some]
      dsimp only
      rw [if_neg (by decide), q_in hl (by decide), cond_true, nI_clamp (by omega), show f_M_lessonNumber N (nI l) 4 σ = some (σ.1 3 (24 + 5 * l + 4), σ) from e_ln (w := 4) hl (by decide), Option.bind_some]
      dsimp only
      by_cases c : σ.1 3 (24 + 5 * l + 4) ≤ σ.1 10 l
      · rw [if_pos c, decide_eq_true c]
        rfl
      · rw [if_neg c, decide_eq_false c]
        rfl
theorem e_isOpen {N p l : Nat} {σ : jw_M} (hp : p < 6) (hl : l < 8) (hn : σ.1 3 (24 + 5 * l + 1) < 0 ∨ ∃ j, j < 32 ∧ σ.1 3 (24 + 5 * l + 1) = nI j) : f_M_isOpen N (nI p) (nI l) σ = some (bif q_op σ p l then 1 else 0, σ) := by
  unfold f_M_isOpen q_op
  rw [show f_M_lessonNumber N (nI l) 1 σ = some (σ.1 3 (24 + 5 * l + 1), σ) from e_ln (w := 1) hl (by decide), Option.bind_some]
  dsimp only
  rw [e_has hp (by omega), Option.bind_some]
  dsimp only
  cases a : bt (σ.1 1 (2 + p)) l
  · rw [cond_false, if_pos rfl]
    rcases hn with c | ⟨j, hj, c⟩
    · rw [if_pos c, e_isOpen29 hl, decide_eq_true c, Bool.true_or, Bool.not_false, Bool.true_and, Bool.true_and]
    · rw [c, if_neg (nI_pos (by omega)), e_has hp hj, Option.bind_some, decide_eq_false (nI_pos (by omega)), Bool.false_or, nI_clamp (by omega), Bool.not_false, Bool.true_and]
      dsimp only
      cases b : bt (σ.1 1 (2 + p)) j
      · rw [cond_false, if_pos rfl]
        rfl
      · rw [cond_true, if_neg (by decide), e_isOpen29 hl, Bool.true_and]
  · rw [cond_true, if_neg (by decide)]
    rfl
def q_lkM (σ : jw_M) (p l : Nat) : Int32 := σ.1 3 (24 + 5 * l + 0) - σ.1 1 (8 + 8 * p + l)
theorem e_lacks {N p l : Nat} {σ : jw_M} (hp : p < 6) (hl : l < 8) : f_M_lacks N (nI p) (nI l) σ = some (q_lkM σ p l, σ) := by
  unfold f_M_lacks
  rw [show f_M_lessonNumber N (nI l) 0 σ = some (σ.1 3 (24 + 5 * l + 0), σ) from e_ln (w := 0) hl (by decide), Option.bind_some]
  dsimp only
  rw [e_pts hp hl, Option.bind_some]
  rfl
theorem e_Mch {N p m : Nat} {σ : jw_M} {t : Int32} (hp : p < 6) (hm : m ≤ 8) (h3 : σ.1 3 3 = nI m) (ht : t ≠ 2) (hn : ∀ l, l < m → σ.1 3 (24 + 5 * l + 1) < 0 ∨ ∃ j, j < 32 ∧ σ.1 3 (24 + 5 * l + 1) = nI j) : ∀ (r l k best : Nat), l + r = m → r < k → (best = 8 ∨ best < l) → f_M_choiceOf_12 N k (nI p) t (nI best) (nI l) σ = some (nI (q_ch (q_op σ p) (q_lkM σ p) t r best l), σ)
  | 0, l, 0, _, _, h, _ => absurd h (by omega)
  | r + 1, l, 0, _, _, h, _ => absurd h (by omega)
  | 0, l, k + 1, best, hl, _, _ => by
    rw [f_M_choiceOf_12, h3, if_pos (nI_le (by omega) (by omega))]
    rfl
  | r + 1, l, k + 1, best, hl, hk, hb => by
    rw [f_M_choiceOf_12, h3, if_neg (nI_ge (by omega) (by omega)), if_neg ht, e_isOpen hp (show l < 8 by omega) (hn l (by omega)), Option.bind_some, q_ch]
    dsimp only
    unfold f_M_choiceOf_91 f_M_choiceOf_72 f_M_choiceOf_76 f_M_choiceOf_77 f_M_choiceOf_90 f_M_choiceOf_91
    rw [nI_1, if_neg (show ¬ (1 : Int32) = 0 by decide), if_pos (show (0 : Int32) = 0 from rfl)]
    cases a : q_op σ p l
    · rw [cond_false, if_pos rfl, if_neg (fun z => by cases z.1)]
      exact e_Mch hp hm h3 ht hn r (l + 1) k best (by omega) (by omega) (by omega)
    · rw [cond_true, if_neg (show ¬ (1 : Int32) = 0 by decide)]
      have go := e_Mch (N := N) (t := t) hp hm h3 ht hn r (l + 1) k l (by omega) (by omega) (by omega)
      by_cases b : best = 8
      · rw [if_pos (show nI best = 8 by rw [b]; rfl), if_pos ⟨rfl, Or.inl b⟩]
        exact go
      · rw [if_neg (show ¬ nI best = 8 from fun z => b ((nI_eq (b := 8) (by omega) (by omega)).mp z))]
        by_cases c : t = 0
        · rw [if_pos c, if_pos ⟨rfl, Or.inr (Or.inl c)⟩]
          exact go
        · rw [if_neg c]
          by_cases d : t = 1
          · rw [if_pos d, e_lacks hp (show l < 8 by omega), Option.bind_some]
            dsimp only
            rw [e_lacks hp (show best < 8 by omega), Option.bind_some]
            dsimp only
            by_cases e : q_lkM σ p best ≤ q_lkM σ p l
            · rw [if_pos e, if_pos (show (0 : Int32) = 0 from rfl), if_neg (by
                rintro ⟨_, z | z | z⟩
                · exact b z
                · exact c z
                · exact absurd z.2 (Int32.not_lt.mpr e))]
              exact e_Mch hp hm h3 ht hn r (l + 1) k best (by omega) (by omega) (by omega)
            · rw [if_neg e, if_neg (show ¬ (1 : Int32) = 0 by decide), if_pos ⟨rfl, Or.inr (Or.inr ⟨d, Int32.not_le.mp e⟩)⟩]
              exact go
          · rw [if_neg d, if_neg (by
              rintro ⟨_, z | z | z⟩
              · exact b z
              · exact c z
              · exact d z.1)]
            exact e_Mch hp hm h3 ht hn r (l + 1) k best (by omega) (by omega) (by omega)
theorem e_Mchoice {N p m : Nat} {σ σ' : jw_M} {t : Int32} (hN : 9 ≤ N) (hp : p < 6) (hm : m ≤ 8) (hr : f_M_ruleFor N (nI p) σ = some (t, σ')) (h3 : σ'.1 3 3 = nI m) (hn : ∀ l, l < m → σ'.1 3 (24 + 5 * l + 1) < 0 ∨ ∃ j, j < 32 ∧ σ'.1 3 (24 + 5 * l + 1) = nI j) : f_M_choiceOf N (nI p) σ = some (nI (q_pick (q_op σ' p) (q_lkM σ' p) t m), σ') := by
  unfold f_M_choiceOf q_pick
  rw [hr, Option.bind_some]
  dsimp only
  by_cases ht : t = 2
  · rw [if_pos ht]
    obtain ⟨N, rfl⟩ : ∃ n, N = n + 1 := ⟨N - 1, by omega⟩
    subst ht
    rw [f_M_choiceOf_12]
    by_cases c : σ'.1 3 3 ≤ 0
    · rw [if_pos c]
      rfl
    · rw [if_neg c, if_pos rfl]
      rfl
  · rw [if_neg ht]
    exact e_Mch hp hm h3 ht hn m 0 N 8 (by omega) (by omega) (Or.inl rfl)
