/-! ===== pure: sheets and shelves ===== -/
theorem q_shtD {N : Nat} {x : Int32} {σC σM : jw_M} : (f_H_isSheet N x σC = some (0, σC) ∧ f_M_isSheet N x σM = some (0, σM)) ∨ ∃ s, s < 4 ∧ x = nI s ∧ f_H_isSheet N x σC = some (1, σC) ∧ f_M_isSheet N x σM = some (1, σM) := by
  unfold f_H_isSheet f_M_isSheet
  by_cases c : x < 0 ∨ 3 < x
  · refine Or.inl ⟨?_, by rw [e_in0 c]; rfl⟩
    by_cases c1 : x < 0
    · rw [if_pos c1]
    · obtain ⟨j, hj, rfl⟩ := nI_of c1
      have c2 := c.resolve_left c1
      rw [if_neg c1, if_pos (show (4 : Int32) ≤ nI j from nI_le (a := 4) (by have := (nI_ltI (a := 3) (by decide) hj).mp c2; omega) hj)]
  · obtain ⟨s, _, s3, rfl⟩ := q_num 0 3 c
    refine Or.inr ⟨s, by omega, rfl, ?_, by rw [e_in1 c]; rfl⟩
    rw [if_neg (fun z => c (Or.inl z)), if_neg (show ¬ (4 : Int32) ≤ nI s from nI_ge (b := 4) (by omega) (by decide))]
theorem q_shfD {N : Nat} {x : Int32} {σC σM : jw_M} : (f_H_isShelf N x σC = some (0, σC) ∧ f_M_isSheet N x σM = some (0, σM)) ∨ ∃ s, s < 4 ∧ x = nI s ∧ f_H_isShelf N x σC = some (1, σC) ∧ f_M_isSheet N x σM = some (1, σM) := q_shtD (N := N)
theorem q_n1 : ¬ (0 : Int32) ≤ -1 := by decide
theorem e_ref {N s : Nat} {y : Int32} {σC σM : jw_M} (hs : s < 4) (hH : q_H σC σM) : (∃ v, v ≠ 0 ∧ f_H_refusalAs N (nI s) y σC = some (v, σC) ∧ f_M_lacksSort N (nI s) y σM = some (v, σM)) ∨ (f_H_refusalAs N (nI s) y σC = some (0, σC) ∧ f_M_lacksSort N (nI s) y σM = some (0, σM) ∧ σM.1 14 s = y) := by
  obtain ⟨z, z40, h2, h3, h4, h5, h6⟩ := hH s hs
  unfold f_H_refusalAs f_M_lacksSort
  rw [q_in hs (by decide), cond_true, cond_true, nI_clamp (by omega), h4]
  rcases h5 with e | ⟨k, k4, e⟩
  · rw [e, if_pos rfl, if_neg q_n1]
    exact Or.inl ⟨-11, by decide, rfl, rfl⟩
  · have n1 : ¬ nI k = -1 := fun z => nI_pos (n := k) (by omega) (by rw [z]; decide)
    rw [e, if_neg n1, if_pos (nI_pos' (by omega))]
    by_cases c : nI k = y
    · rw [if_pos c, if_pos c]
      exact Or.inr ⟨rfl, rfl, c⟩
    · rw [if_neg c, if_neg c]
      exact Or.inl ⟨-13, by decide, rfl, rfl⟩
theorem q_itD {N s z : Nat} {y : Int32} {σC σM : jw_M} (hs : s < 4) (hz : z ≤ 40) (hC : σC.1 123 s = nI z) : (f_H_hasItem N (nI s) y σC = some (0, σC) ∧ f_M_in N y 0 (nI z - 1) σM = some (0, σM)) ∨ ∃ i, i < z ∧ y = nI i ∧ f_H_hasItem N (nI s) y σC = some (1, σC) ∧ f_M_in N y 0 (nI z - 1) σM = some (1, σM) := by
  unfold f_H_hasItem
  rw [q_in hs (by decide), cond_true, nI_clamp (by omega), hC]
  by_cases c : y < 0
  · exact Or.inl ⟨by rw [if_pos c], e_in0 (Or.inl c)⟩
  · obtain ⟨j, hj, rfl⟩ := nI_of c
    rw [if_neg c]
    by_cases e : z ≤ j
    · exact Or.inl ⟨by rw [if_pos (nI_le e hj)], e_in0 (Or.inr ((q_lt1 (by omega) hj).mpr e))⟩
    · exact Or.inr ⟨j, by omega, rfl, by rw [if_neg (nI_ge (by omega) (by omega))], e_in1 (fun z => z.elim c (fun z => e ((q_lt1 (by omega) hj).mp z)))⟩
theorem e_itemAt {N s i : Nat} {σ : jw_M} (hs : s < 4) (hi : i < 40) : f_H_itemAt N (nI s) (nI i) σ = some (σ.1 (125 + s) i, σ) := by
  unfold f_H_itemAt f_H_itemAt_5 f_H_itemAt_6
  rw [q_in hs (by decide), cond_true, q_in hi (by decide), cond_true, nI_clamp (by omega), nI_clamp (by omega)]
theorem q_i40 (s i : Nat) : (40 * nI s) + nI i = nI (40 * s + i) := by
  show (nI 40 * nI s) + nI i = _
  rw [pk_mul, nI_add]
theorem u_item {N : Nat} {x y v : Int32} : q_U (f_F_item N x y v) (f_M_item N x y v) := by
  intro σC σM hR
  obtain ⟨hA, hK, hT, hW, hH, hV, hX⟩ := id hR
  unfold f_F_item f_M_item
  rcases q_shtD (N := N) (x := x) (σC := σC) (σM := σM) with ⟨a, b⟩ | ⟨s, hs, rfl, a, b⟩
  · rw [a, b, q_bz0, q_bz0]
    exact ⟨_, σC, σM, rfl, rfl, hR⟩
  · rw [a, b, q_bz1, q_bz1]
    dsimp only
    by_cases c : y < 0 ∨ 4 < y
    · rw [e_win0 c, e_in0 c, q_bz0, q_bz0]
      exact ⟨_, σC, σM, rfl, rfl, hR⟩
    · rw [e_win1 c, e_in1 c, q_bz1, q_bz1]
      dsimp only
      rcases e_ref (N := N) (y := y) hs hH with ⟨w, w0, a, b⟩ | ⟨a, b, e⟩
      · rw [a, b, Option.bind_some, Option.bind_some, if_neg w0, if_neg w0]
        exact ⟨_, σC, σM, rfl, rfl, hR⟩
      · rw [a, b, q_bz0, q_bz0]
        dsimp only
        obtain ⟨z, z40, h2, h3, h4, h5, h6⟩ := hH s hs
        rw [q_in hs (by decide), cond_true, nI_clamp (show s < 2 ^ 31 by omega), h3]
        rcases q_itD (N := N) (y := v) (σM := σM) hs z40 h2 with ⟨a, b⟩ | ⟨i, hi, rfl, a, b⟩
        · rw [a, b, q_bz0, q_bz0]
          exact ⟨_, σC, σM, rfl, rfl, hR⟩
        · rw [a, b, q_bz1, q_bz1]
          dsimp only
          rw [e_itemAt hs (by omega), Option.bind_some, q_i40, q_in (show 40 * s + i < 160 by omega) (by decide), cond_true, nI_clamp (show 40 * s + i < 2 ^ 31 by omega), (h6 i (by omega)).1, Int32.toInt32_toInt64]
          exact ⟨_, σC, σM, rfl, rfl, hR⟩
/-- what only the sheets feel -/
theorem q_R_H {σC σM σC' σM' : jw_M} (hR : q_R σC σM) (gC : ∀ c i, ¬ (122 ≤ c ∧ c ≤ 128) → σC'.1 c i = σC.1 c i) (gM : ∀ c i, ¬ (c = 14 ∨ c = 15) → σM'.1 c i = σM.1 c i) (hH : q_H σC' σM') : q_R σC' σM' := by
  obtain ⟨⟨L, n, m, d, h, t, H⟩, hK, hT, hW, _, hV, hX⟩ := hR
  refine ⟨⟨L, n, m, d, h, t, ?_⟩, q_K_k hK (fun c i z => gC _ _ (by omega)) (fun c i z => gM _ _ (by omega)), q_T_k hT (fun c i z => gC _ _ (by omega)) (fun c i z => gM _ _ (by omega)), q_W_k hW (fun c i z => gC _ _ (by omega)) (fun c i z => gM _ _ (by omega)), hH, q_V_k hV (fun c i z => gC _ _ (by omega)) (fun c i z => gM _ _ (by omega)), q_X_k hX (fun c i z => gC _ _ (by omega)) (fun c i z => gM _ _ (by omega))⟩
  rw [show σM'.1 3 = σM.1 3 from funext fun i => gM 3 i (by omega), show σM'.1 1 = σM.1 1 from funext fun i => gM 1 i (by omega)]
  exact q_AA_k H (fun c i h1 h2 => gC _ _ (by omega))
theorem q_wl2 (σ : jw_M) (i : Nat) (v : Int64) (j : Nat) : (jx_wl σ 16 i v).2 16 j = if j = i then v else σ.2 16 j := by
  unfold jx_wl
  dsimp only
  rw [jw_up_eq]
  rfl
/-- an item is written -/
theorem q_H_w {s i : Nat} {v : Int32} {σC σM : jw_M} (hH : q_H σC σM) (hs : s < 4) (hi : i < 40) (hv : σM.1 14 s = 0 → -128 ≤ v.toInt ∧ v.toInt ≤ 127) : q_H (jx_w σC (125 + s) i v) (jx_wl σM 16 (40 * s + i) v.toInt64) := by
  intro s' hs'
  obtain ⟨z, z40, h2, h3, h4, h5, h6⟩ := hH s' hs'
  refine ⟨z, z40, by rw [q_wC (by omega)]; exact h2, h3, by rw [q_wC (by omega)]; exact h4, h5, fun j hj => ?_⟩
  rw [q_wl2, q_w]
  by_cases e : s' = s ∧ j = i
  · rw [if_pos (by omega), if_pos (by omega)]
    refine ⟨rfl, fun g => hv ?_⟩
    rw [← e.1]
    exact g
  · rw [if_neg (by omega), if_neg (by omega)]
    exact h6 j hj
theorem q_t8 (v : Int32) : -128 ≤ v.toInt8.toInt32.toInt ∧ v.toInt8.toInt32.toInt ≤ 127 := by
  rw [Int8.toInt_toInt32]
  have h1 := Int8.le_toInt v.toInt8
  have h2 := Int8.toInt_lt v.toInt8
  omega
theorem u_write {N : Nat} {x y v : Int32} : q_U (f_F_write N x y v) (f_M_write N x y v) := by
  intro σC σM hR
  obtain ⟨hA, hK, hT, hW, hH, hV, hX⟩ := id hR
  unfold f_F_write f_M_write
  rcases q_shtD (N := N) (x := x) (σC := σC) (σM := σM) with ⟨a, b⟩ | ⟨s, hs, rfl, a, b⟩
  · rw [a, b, q_bz0, q_bz0]
    exact ⟨_, σC, σM, rfl, rfl, hR⟩
  · rw [a, b, q_bz1, q_bz1]
    dsimp only
    obtain ⟨z, z40, h2, h3, h4, h5, h6⟩ := hH s hs
    rw [q_in hs (by decide), cond_true, cond_true, nI_clamp (show s < 2 ^ 31 by omega), h4, h3]
    rcases h5 with e | ⟨k, k4, e⟩
    · rw [e, if_pos rfl, if_neg q_n1]
      exact ⟨_, σC, σM, rfl, rfl, hR⟩
    · have n1 : ¬ nI k = -1 := fun z => nI_pos (n := k) (by omega) (by rw [z]; decide)
      rw [e, if_neg n1, if_pos (nI_pos' (by omega))]
      rcases q_itD (N := N) (y := y) (σM := σM) hs z40 h2 with ⟨a, b⟩ | ⟨i, hi, rfl, a, b⟩
      · rw [a, b, q_bz0, q_bz0]
        exact ⟨_, σC, σM, rfl, rfl, hR⟩
      · rw [a, b, q_bz1, q_bz1]
        unfold f_H_putItem f_H_putItem_45 f_H_putItem_46 f_H_putItem_58 f_H_putItem_59 f_H_putItem_71 f_H_putItem_72 f_H_putItem_82 f_H_putItem_91 f_H_putItem_92 f_M_narrowed
        dsimp only
        simp only [q_in hs (by decide), cond_true, q_in (show i < 40 by omega) (by decide), nI_clamp (show s < 2 ^ 31 by omega), nI_clamp (show i < 2 ^ 31 by omega), nI_clamp (show 40 * s + i < 2 ^ 31 by omega), h4, e, q_i40, q_in (show 40 * s + i < 160 by omega) (by decide)]
        have fin : ∀ w : Int32, (σM.1 14 s = 0 → -128 ≤ w.toInt ∧ w.toInt ≤ 127) → q_R (jx_w σC (125 + s) i w) (jx_wl σM 16 (40 * s + i) w.toInt64) := fun w hw => q_R_H hR (fun c j z => q_wC (by omega)) (fun c j z => rfl) (q_H_w hH hs (by omega) hw)
        rcases (show k = 0 ∨ k = 1 ∨ k = 2 ∨ k = 3 ∨ k = 4 by omega) with rfl | rfl | rfl | rfl | rfl
        · rw [if_pos (show nI 0 = 0 from rfl), if_pos (show nI 0 = 0 from rfl), Option.bind_some, Option.bind_some]
          exact ⟨_, _, _, rfl, rfl, fin _ (fun _ => q_t8 v)⟩
        · rw [if_neg (show ¬ nI 1 = 0 by decide), if_neg (show ¬ nI 1 = 0 by decide), if_pos (show nI 1 = 1 from rfl), if_pos (show nI 1 = 1 from rfl), Option.bind_some, Option.bind_some]
          exact ⟨_, _, _, rfl, rfl, fin _ (fun g => by rw [e] at g; exact absurd g (by decide))⟩
        · rw [if_neg (show ¬ nI 2 = 0 by decide), if_neg (show ¬ nI 2 = 0 by decide), if_neg (show ¬ nI 2 = 1 by decide), if_neg (show ¬ nI 2 = 1 by decide), if_pos (show nI 2 = 2 from rfl), if_neg (show ¬ nI 2 = 4 by decide), Option.bind_some, Option.bind_some]
          exact ⟨_, _, _, rfl, rfl, fin _ (fun g => by rw [e] at g; exact absurd g (by decide))⟩
        · rw [if_neg (show ¬ nI 3 = 0 by decide), if_neg (show ¬ nI 3 = 0 by decide), if_neg (show ¬ nI 3 = 1 by decide), if_neg (show ¬ nI 3 = 1 by decide), if_neg (show ¬ nI 3 = 2 by decide), if_pos (show nI 3 = 3 from rfl), if_neg (show ¬ nI 3 = 4 by decide), Option.bind_some, Option.bind_some]
          exact ⟨_, _, _, rfl, rfl, fin _ (fun g => by rw [e] at g; exact absurd g (by decide))⟩
        · rw [if_neg (show ¬ nI 4 = 0 by decide), if_neg (show ¬ nI 4 = 0 by decide), if_neg (show ¬ nI 4 = 1 by decide), if_neg (show ¬ nI 4 = 1 by decide), if_neg (show ¬ nI 4 = 2 by decide), if_neg (show ¬ nI 4 = 3 by decide), if_pos (show nI 4 = 4 from rfl), if_pos (show nI 4 = 4 from rfl)]
          by_cases c : v = 0
          · rw [if_pos c, if_pos c, Option.bind_some, Option.bind_some]
            exact ⟨_, _, _, rfl, rfl, fin 0 (fun g => by rw [e] at g; exact absurd g (by decide))⟩
          · rw [if_neg c, if_neg c, Option.bind_some, Option.bind_some]
            exact ⟨_, _, _, rfl, rfl, fin 1 (fun g => by rw [e] at g; exact absurd g (by decide))⟩
theorem e_sh64 {N s : Nat} (hs : s < 4) : ∀ (r i k : Nat) (σ : jw_M), i + r = 40 → r < k → ∃ σ', f_M_sheet_64 N k (nI s) (nI i) σ = some (1, σ') ∧ σ'.1 = σ.1 ∧ ∀ j, σ'.2 16 j = if 40 * s + i ≤ j ∧ j < 40 * s + 40 then 0 else σ.2 16 j
  | 0, i, k, σ, hi, hk => by
    obtain ⟨k, rfl⟩ : ∃ j, k = j + 1 := ⟨k - 1, by omega⟩
    refine ⟨σ, ?_, rfl, fun j => ?_⟩
    · rw [f_M_sheet_64, if_pos (show (40 : Int32) ≤ nI i from nI_le (a := 40) (by omega) (by omega))]
    · rw [if_neg (by omega)]
  | r + 1, i, k, σ, hi, hk => by
    obtain ⟨k, rfl⟩ : ∃ j, k = j + 1 := ⟨k - 1, by omega⟩
    obtain ⟨σ', g1, g2, g3⟩ := e_sh64 (N := N) hs r (i + 1) k (jx_wl σ 16 (40 * s + i) 0) (by omega) (by omega)
    refine ⟨σ', ?_, g2, fun j => ?_⟩
    · rw [f_M_sheet_64, if_neg (show ¬ (40 : Int32) ≤ nI i from nI_ge (b := 40) (by omega) (by omega)), q_i40, q_in (show 40 * s + i < 160 by omega) (by decide), cond_true, nI_clamp (show 40 * s + i < 2 ^ 31 by omega), nI_1]
      exact g1
    · rw [g3 j, q_wl2]
      by_cases c : j = 40 * s + i
      · rw [if_neg (by omega), if_pos c, if_pos (by omega)]
      · rw [if_neg c]
        by_cases c2 : 40 * s + (i + 1) ≤ j ∧ j < 40 * s + 40
        · rw [if_pos c2, if_pos (by omega)]
        · rw [if_neg c2, if_neg (by omega)]
theorem e_mkrow {N s z : Nat} {y w : Int32} {σC σM : jw_M} (hN : 300 ≤ N) (hR : q_R σC σM) (hs : s < 4) (hz : z ≤ 40) (hy : y = -1 ∨ ∃ k, k ≤ 4 ∧ y = nI k) (hw : w = nI z) : ∃ σC' σM', f_H_makeRow_22 N (nI s) (nI s) w (jx_w σC 122 s y) = some σC' ∧ f_M_sheet_60 N (nI s) (nI s) w (jx_w σM 14 s y) = some (1, σM') ∧ q_R σC' σM' := by
  have hfill : ∃ τ : jw_M, f_J_fill N (125 + s) 40 0 (jx_w (jx_w σC 122 s y) 123 s w) = some τ ∧ (∀ c i, c ≠ 125 + s → τ.1 c i = (jx_w (jx_w σC 122 s y) 123 s w).1 c i) ∧ ∀ i, i < 40 → τ.1 (125 + s) i = 0 := by
    unfold f_J_fill
    rw [show Nat.ble 40 1000 = true from rfl, cond_true]
    refine ⟨_, rfl, fun c i z => ?_, fun i hi => ?_⟩
    · show jw_lay _ (125 + s) _ c i = _
      unfold jw_lay
      rw [if_neg z]
    · show jw_lay _ (125 + s) _ (125 + s) i = 0
      unfold jw_lay
      rw [if_pos rfl, if_pos hi]
  obtain ⟨τ, t1, t2, t3⟩ := hfill
  unfold f_H_makeRow_22 f_H_makeRow_28 f_H_makeRow_29 f_M_sheet_60
  rw [q_in hs (by decide), cond_true, cond_true, cond_true, nI_clamp (show s < 2 ^ 31 by omega), t1, Option.bind_some]
  obtain ⟨σ', g1, g2, g3⟩ := e_sh64 (N := N) hs 40 0 N (jx_w (jx_w σM 14 s y) 15 s w) (by omega) (by omega)
  refine ⟨τ, σ', rfl, g1, q_R_H hR (fun c i z => ?_) (fun c i z => ?_) ?_⟩
  · rw [t2 c i (by omega), q_wC (by omega), q_wC (by omega)]
  · rw [g2, q_wC (by omega), q_wC (by omega)]
  · have hH := hR.2.2.2.2.1
    intro s' hs'
    obtain ⟨z', z40, h2, h3, h4, h5, h6⟩ := hH s' hs'
    rw [t2 _ _ (by omega), t2 _ _ (by omega), g2]
    by_cases e : s' = s
    · subst e
      refine ⟨z, hz, by rw [q_wS]; exact hw, by rw [q_wS]; exact hw, by rw [q_wC (by decide), q_wS, q_wC (by decide), q_wS], by rw [q_wC (by decide), q_wS]; exact hy, fun i hi => ?_⟩
      rw [t3 i hi, g3, if_pos (by omega)]
      exact ⟨rfl, fun _ => by decide⟩
    · refine ⟨z', z40, by rw [q_wI e, q_wC (by decide)]; exact h2, by rw [q_wI e, q_wC (by decide)]; exact h3, by rw [q_wC (by decide), q_wI e, q_wC (by decide), q_wI e]; exact h4, by rw [q_wC (by decide), q_wI e]; exact h5, fun i hi => ?_⟩
      rw [t2 _ _ (by omega), g3, if_neg (by omega), q_wC (by omega), q_wC (by omega), q_wC (by decide), q_wI e]
      exact h6 i hi
theorem u_sheet {N : Nat} (hN : 300 ≤ N) {x y v : Int32} : q_U (f_F_sheet N x y v) (f_M_sheet N x y v) := by
  intro σC σM hR
  unfold f_F_sheet f_M_sheet
  rcases q_shtD (N := N) (x := x) (σC := σC) (σM := σM) with ⟨a, b⟩ | ⟨s, hs, rfl, a, b⟩
  · rw [a, b, q_bz0, q_bz0]
    exact ⟨_, σC, σM, rfl, rfl, hR⟩
  · rw [a, b, q_bz1, q_bz1]
    dsimp only
    by_cases c : y < -1 ∨ 4 < y
    · rw [e_win0 c, e_in0 c, q_bz0, q_bz0]
      exact ⟨_, σC, σM, rfl, rfl, hR⟩
    · rw [e_win1 c, e_in1 c, q_bz1, q_bz1]
      dsimp only
      have hy : y = -1 ∨ ∃ k, k ≤ 4 ∧ y = nI k := by
        by_cases y0 : y < 0
        · left
          have h1 : ¬ y < -1 := fun z => c (Or.inl z)
          rw [Int32.lt_iff_toInt_lt, show (-1 : Int32).toInt = -1 by decide] at h1
          rw [Int32.lt_iff_toInt_lt, show (0 : Int32).toInt = 0 by decide] at y0
          exact Int32.toInt_inj.mp (by rw [show (-1 : Int32).toInt = -1 by decide]; omega)
        · obtain ⟨j, hj, rfl⟩ := nI_of y0
          refine Or.inr ⟨j, ?_, rfl⟩
          have h1 : ¬ (4 : Int32) < nI j := fun z => c (Or.inr z)
          rcases Nat.lt_or_ge 4 j with z | z
          · exact absurd ((nI_ltI (a := 4) (by decide) hj).mpr z) h1
          · exact z
      unfold f_F_sheet_35 f_F_sheet_47 f_M_sheet_28 f_M_sheet_39 f_H_makeRow
      rw [q_in hs (by decide), cond_true, cond_true, nI_clamp (show s < 2 ^ 31 by omega)]
      rcases id hy with rfl | ⟨k, k4, rfl⟩
      · rw [if_pos rfl, if_pos rfl, if_pos rfl, if_pos (show (-1 : Int32) < 0 by decide), if_pos (show (-1 : Int32) < 0 by decide), if_neg q_n1]
        obtain ⟨σC', σM', g1, g2, g3⟩ := e_mkrow (z := 0) (w := 0) hN hR hs (by decide) hy rfl
        rw [g1, g2, Option.bind_some]
        exact ⟨_, σC', σM', rfl, rfl, g3⟩
      · have n1 : ¬ nI k = -1 := fun z => nI_pos (n := k) (by omega) (by rw [z]; decide)
        rw [if_neg n1, if_neg n1, if_neg n1, if_neg (nI_pos (by omega)), if_neg (nI_pos (by omega)), if_pos (nI_pos' (by omega))]
        by_cases c1 : v ≤ 40
        · rw [if_pos c1, if_pos c1]
          by_cases c2 : 0 ≤ v
          · rw [if_pos c2, if_pos c2]
            obtain ⟨z, hz, rfl⟩ := nI_of (show ¬ v < 0 from Int32.not_lt.mpr c2)
            obtain ⟨σC', σM', g1, g2, g3⟩ := e_mkrow (z := z) (w := nI z) hN hR hs ((nI_leI (b := 40) hz (by decide)).mp c1) hy rfl
            rw [g1, g2, Option.bind_some]
            exact ⟨_, σC', σM', rfl, rfl, g3⟩
          · rw [if_neg c2, if_neg c2]
            exact ⟨_, σC, σM, rfl, rfl, hR⟩
        · rw [if_neg c1, if_neg c1]
          exact ⟨_, σC, σM, rfl, rfl, hR⟩
