/-! ===== pure: shelf, taken, act ===== -/
theorem q_R_V {σC σM σC' σM' : jw_M} (hR : q_R σC σM) (gC : ∀ c i, ¬ (129 ≤ c ∧ c ≤ 131) → σC'.1 c i = σC.1 c i) (gM : ∀ c i, ¬ (17 ≤ c ∧ c ≤ 19) → σM'.1 c i = σM.1 c i) (gL : σM'.2 = σM.2) (hV : q_V σC' σM') : q_R σC' σM' := by
  obtain ⟨⟨L, n, m, d, h, t, H⟩, hK, hT, hW, hH, _, hX⟩ := hR
  refine ⟨⟨L, n, m, d, h, t, ?_⟩, q_K_k hK (fun c i z => gC _ _ (by omega)) (fun c i z => gM _ _ (by omega)), q_T_k hT (fun c i z => gC _ _ (by omega)) (fun c i z => gM _ _ (by omega)), q_W_k hW (fun c i z => gC _ _ (by omega)) (fun c i z => gM _ _ (by omega)), q_H_k hH (fun c i z => gC _ _ (by omega)) (fun c i z => gM _ _ (by omega)) (fun i => by rw [gL]), hV, q_X_k hX (fun c i z => gC _ _ (by omega)) (fun c i z => gM _ _ (by omega))⟩
  rw [show σM'.1 3 = σM.1 3 from funext fun i => gM 3 i (by omega), show σM'.1 1 = σM.1 1 from funext fun i => gM 1 i (by omega)]
  exact q_AA_k H (fun c i h1 h2 => gC _ _ (by omega))
theorem e_put0 {N s : Nat} {x2 x3 : Int32} {σC σM : jw_M} (hR : q_R σC σM) (hs : s < 4) (h2 : x2 = 0 ∨ x2 = 2) : ∃ σC' σM', f_H_put N (nI s) x2 x3 σC = some σC' ∧ f_M_shelf_47 N (nI s) x2 x3 (nI s) (if x2 = 2 then -1 else x2) σM = some (1, σM') ∧ q_R σC' σM' := by
  have n1 : ¬ x2 = 1 := by rcases h2 with rfl | rfl <;> decide
  unfold f_H_put f_M_shelf_47 f_M_shelf_68 f_M_shelf_89
  rw [q_in hs (by decide), cond_true, cond_true, cond_true, cond_true, if_neg n1, if_neg n1, if_neg n1, nI_clamp (by omega)]
  refine ⟨_, _, rfl, rfl, q_R_V hR (fun c i z => by rw [q_wC (by omega), q_wC (by omega)]) (fun c i z => by rw [q_wC (by omega), q_wC (by omega), q_wC (by omega)]) rfl (fun s' hs' => ?_)⟩
  have hV := hR.2.2.2.2.2.1 s' hs'
  by_cases e : s' = s
  · subst e
    rcases h2 with rfl | rfl
    · refine Or.inr (Or.inl ⟨?_, ?_, ?_⟩)
      · rw [q_wC (by decide), q_wS]
      · rw [q_wC (by decide), q_wC (by decide), q_wS, if_neg (by decide)]
      · rw [q_wS, q_wC (by decide), q_wS]
    · refine Or.inl ⟨?_, ?_⟩
      · rw [q_wC (by decide), q_wS]
      · rw [q_wC (by decide), q_wC (by decide), q_wS, if_pos rfl]
  · simp only [q_wI e]
    exact hV
theorem e_put1 {N s r : Nat} {σC σM : jw_M} (hR : q_R σC σM) (hs : s < 4) (hr : r < 4) : ∃ σC' σM', f_H_put N (nI s) 1 (nI r) σC = some σC' ∧ (if 0 ≤ σM.1 14 r then f_M_shelf_46 N (nI s) 1 (nI r) (nI s) σM else f_M_shelf_42 N (nI s) 1 (nI r) (nI s) σM) = some (1, σM') ∧ q_R σC' σM' := by
  obtain ⟨z, z40, h2, h3, h4, h5, h6⟩ := hR.2.2.2.2.1 r hr
  unfold f_H_put f_H_put_39 f_M_shelf_42 f_M_shelf_46 f_M_shelf_47 f_M_shelf_68 f_M_shelf_89
  rw [q_in hs (by decide), q_in hr (by decide)]
  simp only [cond_true, if_pos rfl]
  rw [nI_clamp (show s < 2 ^ 31 by omega), nI_clamp (show r < 2 ^ 31 by omega)]
  rw [q_wC (show (122 : Nat) ≠ 130 by decide), q_wC (show (122 : Nat) ≠ 129 by decide), h4]
  rcases h5 with e | ⟨k, k4, e⟩
  · rw [e, if_pos rfl, if_neg q_n1]
    refine ⟨_, _, rfl, rfl, q_R_V hR (fun c i z => by rw [q_wC (by omega), q_wC (by omega), q_wC (by omega), q_wC (by omega), q_wC (by omega)]) (fun c i z => by rw [q_wC (by omega), q_wC (by omega), q_wC (by omega)]) rfl (fun s' hs' => ?_)⟩
    have hV := hR.2.2.2.2.2.1 s' hs'
    by_cases e : s' = s
    · subst e
      refine Or.inl ⟨?_, ?_⟩
      · rw [q_wC (by decide), q_wC (by decide), q_wS]
      · rw [q_wC (by decide), q_wC (by decide), q_wS]
    · simp only [q_wI e]
      exact hV
  · have n1 : ¬ nI k = -1 := fun z => nI_pos (n := k) (by omega) (by rw [z]; decide)
    rw [e, if_neg n1, if_pos (nI_pos' (by omega))]
    refine ⟨_, _, rfl, rfl, q_R_V hR (fun c i z => by rw [q_wC (by omega), q_wC (by omega), q_wC (by omega), q_wC (by omega), q_wC (by omega)]) (fun c i z => by rw [q_wC (by omega), q_wC (by omega), q_wC (by omega)]) rfl (fun s' hs' => ?_)⟩
    have hV := hR.2.2.2.2.2.1 s' hs'
    by_cases e2 : s' = s
    · subst e2
      refine Or.inr (Or.inr ⟨?_, ?_, ?_, ?_, k, k4, ?_⟩)
      · rw [q_wC (by decide), q_wC (by decide), q_wS]
      · rw [q_wC (by decide), q_wC (by decide), q_wS]
      · rw [q_wC (by decide), q_wS, q_wS]
        rw [q_wC (by decide), q_wC (by decide), q_wC (by decide), q_wC (by decide), q_wC (by decide), h2, h3]
      · rw [q_wS, q_wC (by decide), q_wC (by decide), q_wC (by decide), q_wC (by decide), q_wC (by decide), q_wS, q_wC (by decide), h4]
      · rw [q_wC (by decide), q_wS, q_wC (by decide)]
        exact e
    · simp only [q_wI e2]
      exact hV
theorem u_shelf {N : Nat} {x y v : Int32} : q_U (f_F_shelf N x y v) (f_M_shelf N x y v) := by
  intro σC σM hR
  obtain ⟨⟨L, n, m, d, h, t, hw, hq, ht, hRM, hr, hS, hP⟩, hO⟩ := id hR
  have en : σC.1 1 0 = nI n := by rw [show σC.1 1 0 = _ from hS.1 0 0 2 rfl]; exact hw.2.2.2.2.1
  unfold f_F_shelf f_M_shelf
  rcases q_shfD (N := N) (x := x) (σC := σC) (σM := σM) with ⟨a, b⟩ | ⟨s, hs, rfl, a, b⟩
  · rw [a, b, q_bz0, q_bz0]
    exact ⟨_, σC, σM, rfl, rfl, hR⟩
  · rw [a, b, q_bz1, q_bz1]
    unfold f_F_shelf_28 f_F_shelf_44 f_F_shelf_49 f_F_shelf_54 f_M_isHeld
    dsimp only
    by_cases c0 : y = 0
    · subst c0
      rw [if_pos rfl, if_pos rfl]
      rcases q_shD (N := N) (x := v) en hw.2.2.2.2.1 hw.1 with ⟨a, b⟩ | ⟨p, hp, rfl, a, b⟩
      · rw [a, b, q_bz0, Option.bind_some]
        exact ⟨_, σC, σM, rfl, rfl, hR⟩
      · rw [a, b, q_bz1, Option.bind_some]
        obtain ⟨σC', σM', g1, g2, g3⟩ := e_put0 (N := N) (x2 := 0) (x3 := nI p) hR hs (Or.inl rfl)
        dsimp only
        rw [if_neg (by decide), g1, Option.bind_some]
        exact ⟨1, σC', σM', rfl, g2, g3⟩
    · rw [if_neg c0, if_neg c0]
      by_cases c1 : y = 1
      · subst c1
        rw [if_pos rfl, if_pos rfl]
        rcases q_shtD (N := N) (x := v) (σC := σC) (σM := σM) with ⟨a, b⟩ | ⟨r, hr, rfl, a, b⟩
        · rw [a, b, q_bz0, Option.bind_some]
          exact ⟨_, σC, σM, rfl, rfl, hR⟩
        · rw [a, b, q_bz1, Option.bind_some]
          obtain ⟨σC', σM', g1, g2, g3⟩ := e_put1 (N := N) hR hs hr
          dsimp only
          rw [if_neg (by decide), g1, Option.bind_some]
          refine ⟨1, σC', σM', rfl, ?_, g3⟩
          rw [← g2]
          show (bif jx_in (nI r) 4 then _ else none) = _
          rw [q_in hr (by decide), cond_true, nI_clamp (by omega)]
      · rw [if_neg c1, if_neg c1]
        by_cases c2 : y = 2
        · subst c2
          rw [if_pos rfl, if_pos rfl, Option.bind_some]
          obtain ⟨σC', σM', g1, g2, g3⟩ := e_put0 (N := N) (x2 := 2) (x3 := v) hR hs (Or.inr rfl)
          dsimp only
          rw [if_neg (by decide), g1, Option.bind_some]
          exact ⟨1, σC', σM', rfl, g2, g3⟩
        · rw [if_neg c2, if_neg c2, Option.bind_some]
          exact ⟨_, σC, σM, rfl, rfl, hR⟩
/-- the kind on a shelf -/
theorem e_kindOn {N s n : Nat} {σC σM : jw_M} {S : q_f} {L : q_L} {m d : Nat} (hs : s < 4) (hV : q_V σC σM) (hw : q_wf S n m d) (hS : q_SC 1 σC S L m) (h3 : σM.1 3 = S) : (σC.1 129 s ≠ 1 ∧ (∃ q, f_H_shadowOn N (nI s) σC = some (q, σC) ∧ f_S_isShadow N q σC = some (0, σC)) ∧ f_M_kindOn N (nI s) σM = some (-1, σM)) ∨ (∃ k, k ≤ 4 ∧ σC.1 129 s = 1 ∧ f_M_kindOn N (nI s) σM = some (9, σM) ∧ σC.1 130 s = σM.1 19 s ∧ σC.1 131 s = nI k ∧ σM.1 18 s = nI k ∧ ∃ q, f_H_shadowOn N (nI s) σC = some (q, σC) ∧ f_S_isShadow N q σC = some (0, σC)) ∨ ∃ p k, p < n ∧ 1 ≤ k ∧ k ≤ 5 ∧ σC.1 129 s ≠ 1 ∧ f_H_shadowOn N (nI s) σC = some (nI p, σC) ∧ f_S_isShadow N (nI p) σC = some (1, σC) ∧ f_M_kindOn N (nI s) σM = some (nI k, σM) ∧ σC.1 2 p = nI k ∧ σM.1 18 s = nI p := by
  have hn := hw.1
  have en : σC.1 1 0 = nI n := by rw [show σC.1 1 0 = _ from hS.1 0 0 2 rfl]; exact hw.2.2.2.2.1
  have neg : f_S_isShadow N (-1) σC = some (0, σC) := by
    unfold f_S_isShadow
    rw [if_pos (by decide)]
  rcases hV s hs with ⟨h1, h2⟩ | ⟨h1, h2, h4⟩ | ⟨h1, h2, h4, h5, k, k4, h6⟩
  · left
    unfold f_H_shadowOn f_M_kindOn
    rw [q_in hs (by decide), cond_true, cond_true, nI_clamp (by omega), h1, h2, if_neg (by decide), if_neg (by decide), if_neg (by decide)]
    exact ⟨by decide, ⟨-1, rfl, neg⟩, rfl⟩
  · unfold f_H_shadowOn f_M_kindOn
    rw [q_in hs (by decide), cond_true, cond_true, nI_clamp (by omega), h1, h2, if_pos rfl, if_pos rfl, h4]
    rcases q_shD (N := N) (x := σM.1 18 s) (σC := σC) (σM := σM) en (by rw [h3]; exact hw.2.2.2.2.1) hw.1 with ⟨a, b⟩ | ⟨p, hp, e, a, b⟩
    · rw [b, q_bz0]
      exact Or.inl ⟨by decide, ⟨_, rfl, a⟩, rfl⟩
    · right
      right
      obtain ⟨⟨k, k1, k5, ek⟩, _⟩ := hw.2.2.2.2.2.2.2.1 p hp
      rw [b, q_bz1]
      dsimp only
      rw [e] at a ⊢
      rw [show f_M_of N (nI p) 0 σM = _ from e_of (w := 0) (by omega) (by decide), Option.bind_some, h3, ek]
      exact ⟨p, k, hp, k1, k5, by decide, rfl, a, rfl, by rw [show σC.1 2 p = _ from q_SCs hS (w := 0) (by decide) (show p < 6 by omega)]; exact ek, rfl⟩
  · right
    left
    unfold f_H_shadowOn f_M_kindOn
    rw [q_in hs (by decide), cond_true, cond_true, nI_clamp (by omega), h1, h2, if_neg (show ¬ (1 : Int32) = 0 by decide), if_neg (show ¬ (1 : Int32) = 0 by decide), if_pos (show (0 : Int32) ≤ 1 by decide)]
    exact ⟨k, k4, rfl, rfl, h4, by rw [h5]; exact h6, h6, -1, rfl, neg⟩
theorem q_10 {k j : Nat} (hk : k ≤ 4) (hj : j ≤ 14) : nI k = nI j - 10 ↔ nI j = 10 + nI k := by
  rw [show (10 : Int32) + nI k = nI (10 + k) from nI_add 10 k, nI_eq (by omega) (by omega)]
  by_cases c : 10 ≤ j
  · rw [show nI j - 10 = nI (j - 10) from pk_sub c, nI_eq (by omega) (by omega)]
    omega
  · constructor
    · intro z
      have : nI j - 10 < 0 := pk_sneg (b := 10) (by decide) (by omega)
      rw [← z] at this
      exact absurd this (nI_pos (by omega))
    · intro z
      omega
theorem u_taken {N : Nat} {x y : Int32} : q_U (f_F_taken N x y) (f_M_taken N x y) := by
  intro σC σM hR
  obtain ⟨⟨L, n, m, d, h, t, hw, hq, ht, hRM, hr, hS, hP⟩, hK, hT, hW, hH, hV, hX⟩ := id hR
  have hn := hw.1
  unfold f_F_taken f_M_taken
  rcases q_shfD (N := N) (x := x) (σC := σC) (σM := σM) with ⟨a, b⟩ | ⟨s, hs, rfl, a, b⟩
  · rw [a, b, q_bz0, q_bz0]
    exact ⟨_, σC, σM, rfl, rfl, hR⟩
  · rw [a, b, q_bz1, q_bz1]
    dsimp only
    have main : ∀ j, (j ≤ 5 ∨ (10 ≤ j ∧ j ≤ 14)) → ∃ r, f_F_taken_33 N (nI s) (nI j) σC = some (r, σC) ∧ f_M_taken_29 N (nI s) (nI j) σM = some (r, σM) := by
      intro j hj
      unfold f_F_taken_33 f_M_taken_29
      rw [q_in hs (by decide), nI_clamp (show s < 2 ^ 31 by omega)]
      simp only [cond_true]
      rcases e_kindOn (N := N) hs hV hw hS rfl with ⟨k1, ⟨q, k2, k3⟩, k4⟩ | ⟨k, k4, e1, e2, e3, e4, e5, _⟩ | ⟨p, k, hp, k1, k5, e1, e2, e3, e4, e5, e6⟩
      · rw [if_neg k1, k2, k4, Option.bind_some, Option.bind_some]
        dsimp only
        rw [k3, q_bz0, if_neg q_n1]
        exact ⟨_, rfl, rfl⟩
      · rw [if_pos e1, e2, Option.bind_some]
        dsimp only
        rw [if_pos (show (0 : Int32) ≤ 9 by decide), if_pos (show (9 : Int32) = 9 from rfl), e4, e5, e3]
        by_cases c : nI k = nI j - 10
        · rw [if_pos c, if_pos ((q_10 k4 (by omega)).mp c)]
          exact ⟨_, rfl, rfl⟩
        · rw [if_neg c, if_neg (fun z => c ((q_10 k4 (by omega)).mpr z))]
          exact ⟨_, rfl, rfl⟩
      · rw [if_neg e1, e2, e4, Option.bind_some, Option.bind_some]
        dsimp only
        rw [e3, q_bz1, if_pos (nI_pos' (by omega)), if_neg (show ¬ nI k = 9 from fun z => absurd ((nI_eq (b := 9) (by omega) (by decide)).mp z) (by omega)), q_in (show p < 6 by omega) (by decide), cond_true, nI_clamp (show p < 2 ^ 31 by omega)]
        dsimp only
        rw [e5]
        rcases hj with hj | hj
        · rw [if_neg (show ¬ (5 : Int32) < nI j from nI_nlt (a := 5) hj (by decide)), if_neg (show ¬ (10 : Int32) ≤ nI j from nI_ge (b := 10) (by omega) (by decide)), e_under (by omega) (by omega) (by omega), e_MisUnder (by omega) (by omega) (by omega)]
          cases q_under k j
          · rw [cond_false, q_bz0, q_bz0]
            exact ⟨_, rfl, rfl⟩
          · rw [cond_true, q_bz1, q_bz1]
            dsimp only
            rw [e6]
            exact ⟨_, rfl, rfl⟩
        · rw [if_pos (show (5 : Int32) < nI j from nI_lt (a := 5) (by omega) (by omega)), if_pos (show (10 : Int32) ≤ nI j from nI_le (a := 10) (by omega) (by omega))]
          exact ⟨_, rfl, rfl⟩
    by_cases c : y < 0 ∨ 5 < y
    · rw [e_win0 c, e_in0 c, q_bz0, q_bz0]
      dsimp only
      by_cases c2 : y < 10 ∨ 14 < y
      · rw [e_win0 c2, e_in0 c2, q_bz0, q_bz0]
        exact ⟨_, σC, σM, rfl, rfl, hR⟩
      · rw [e_win1 c2, e_in1 c2, q_bz1, q_bz1]
        obtain ⟨j, j1, j2, rfl⟩ := q_num 10 14 c2
        obtain ⟨r, g1, g2⟩ := main j (Or.inr ⟨j1, j2⟩)
        exact ⟨r, σC, σM, g1, g2, hR⟩
    · rw [e_win1 c, e_in1 c, q_bz1, q_bz1]
      obtain ⟨j, j1, j2, rfl⟩ := q_num 0 5 c
      obtain ⟨r, g1, g2⟩ := main j (Or.inl j2)
      exact ⟨r, σC, σM, g1, g2, hR⟩
