/-! ===== pure: feed ===== -/
theorem q_byte (y : Int64) : ∃ b, b < 256 ∧ y.toInt32 &&& 255 = nI b ∧ (y &&& 255).toInt32 = nI b := by
  obtain ⟨b, hb, e⟩ := pk_andE y.toInt32 (m := 255) 8 (by decide)
  refine ⟨b, hb, e, ?_⟩
  rw [Int64.toInt32_and]
  exact e
theorem e_feed {N c : Nat} {x : Int64} (hc : c ≤ 8) : ∀ (r i k k2 t : Nat) (σC σM : jw_M), i + r = c → r < k → r < k2 → t + r ≤ 200 → σC.1 80 0 = nI t → σM.1 0 7 = nI t → (∀ j, j < t → ∃ b, b < 256 ∧ σC.1 81 j = nI b ∧ σM.1 6 j = nI b) → ∃ σC' σM', f_D_take_3 N k x (nI c) (nI i) σC = some (nI (t + r), σC') ∧ f_M_feed_30 N k2 x (nI c) (nI i) σM = some (nI (t + r), σM') ∧ σC'.1 80 0 = nI (t + r) ∧ σM'.1 0 7 = nI (t + r) ∧ (∀ j, j < t + r → ∃ b, b < 256 ∧ σC'.1 81 j = nI b ∧ σM'.1 6 j = nI b) ∧ q_fr (fun c i => c == 81 || (c == 80 && i == 0)) σC σC' ∧ q_fr (fun c i => c == 6 || (c == 0 && i == 7)) σM σM'
  | 0, i, k, k2, t, σC, σM, hi, hk, hk2, ht, h1, h2, h3 => by
    obtain ⟨k, rfl⟩ : ∃ j, k = j + 1 := ⟨k - 1, by omega⟩
    obtain ⟨k2, rfl⟩ : ∃ j, k2 = j + 1 := ⟨k2 - 1, by omega⟩
    refine ⟨σC, σM, ?_, ?_, h1, h2, h3, q_fr_r _ _, q_fr_r _ _⟩
    · rw [f_D_take_3, if_pos (nI_le (by omega) (by omega))]
      unfold f_D_take_56
      rw [h1]
      rfl
    · rw [f_M_feed_30, if_pos (nI_le (by omega) (by omega)), h2]
      rfl
  | r + 1, i, k, k2, t, σC, σM, hi, hk, hk2, ht, h1, h2, h3 => by
    obtain ⟨k, rfl⟩ : ∃ j, k = j + 1 := ⟨k - 1, by omega⟩
    obtain ⟨k2, rfl⟩ : ∃ j, k2 = j + 1 := ⟨k2 - 1, by omega⟩
    obtain ⟨b, b1, b2, b3⟩ := q_byte (x >>> ((8 * nI i).toInt64 &&& 63))
    rw [f_D_take_3, if_neg (nI_ge (by omega) (by omega)), h1, if_neg (show ¬ (200 : Int32) ≤ nI t from nI_ge (b := 200) (by omega) (by decide)), q_in (show t < 200 by omega) (by decide), cond_true, nI_clamp (show t < 2 ^ 31 by omega), q_wC (show (80 : Nat) ≠ 81 by decide), h1, f_M_feed_30, if_neg (nI_ge (by omega) (by omega)), h2, q_in (show t < 200 by omega) (by decide), cond_true, nI_clamp (show t < 2 ^ 31 by omega), q_wC (show (0 : Nat) ≠ 6 by decide), h2, b2, b3, nI_1, nI_1]
    obtain ⟨τ, υ, g1, g2, g3, g4, g5, g6, g7⟩ := e_feed (N := N) (x := x) hc r (i + 1) k k2 (t + 1) (jx_w (jx_w σC 81 t (nI b)) 80 0 (nI (t + 1))) (jx_w (jx_w σM 6 t (nI b)) 0 7 (nI (t + 1))) (by omega) (by omega) (by omega) (by omega) q_wS q_wS (fun j hj => by
      rw [q_wC (show (81 : Nat) ≠ 80 by decide), q_wC (show (6 : Nat) ≠ 0 by decide)]
      by_cases e : j = t
      · subst e
        exact ⟨b, b1, q_wS, q_wS⟩
      · rw [q_wI e, q_wI e]
        exact h3 j (by omega))
    rw [show t + (r + 1) = t + 1 + r by omega]
    exact ⟨τ, υ, g1, g2, g3, g4, g5, q_fr_t (q_fr_w (q_fr_w (q_fr_r _ _) rfl) rfl) g6, q_fr_t (q_fr_w (q_fr_w (q_fr_r _ _) rfl) rfl) g7⟩
theorem u_feed {N : Nat} (hN : 300 ≤ N) {x : Int64} {y : Int32} : q_U (f_F_feed N x y) (f_M_feed N x y) := by
  intro σC σM hR
  obtain ⟨⟨L, n, m, d, h, t, H⟩, hK, hT, hW, hH, hV, hX⟩ := id hR
  obtain ⟨tt, t200, t1, t2, t3⟩ := hT
  unfold f_F_feed f_M_feed
  by_cases c : y < 1 ∨ 8 < y
  · rw [e_win0 c, e_in0 c, q_bz0, q_bz0]
    exact ⟨_, σC, σM, rfl, rfl, hR⟩
  · rw [e_win1 c, e_in1 c, q_bz1, q_bz1]
    dsimp only
    obtain ⟨j, j1, j8, rfl⟩ := q_num 1 8 c
    rw [t1, t2, nI_add]
    by_cases c2 : tt + j ≤ 200
    · rw [if_pos (show nI (tt + j) ≤ 200 from nI_le (b := 200) c2 (by decide)), if_pos (show nI (tt + j) ≤ 200 from nI_le (b := 200) c2 (by decide))]
      unfold f_D_take
      obtain ⟨τ, υ, g1, g2, g3, g4, g5, g6, g7⟩ := e_feed (N := N) (x := x) j8 j 0 N N tt σC σM (by omega) (by omega) (by omega) c2 t1 t2 t3
      rw [show f_D_take_3 N N x (nI j) 0 σC = _ from g1, show f_M_feed_30 N N x (nI j) 0 σM = _ from g2, Option.bind_some]
      have gC : ∀ c i, ¬ (c = 81 ∨ (c = 80 ∧ i = 0)) → τ.1 c i = σC.1 c i := fun c i z => g6.1 c i (by simp; omega)
      have gM : ∀ c i, ¬ (c = 6 ∨ (c = 0 ∧ i = 7)) → υ.1 c i = σM.1 c i := fun c i z => g7.1 c i (by simp; omega)
      refine ⟨_, τ, υ, rfl, rfl, ⟨L, n, m, d, h, t, ?_⟩, q_K_k hK (fun c i z => gC _ _ (by omega)) (fun c i z => gM _ _ (by omega)), ⟨tt + j, c2, g3, g4, g5⟩, q_W_k hW (fun c i z => gC _ _ (by omega)) (fun c i z => gM _ _ (by omega)), q_H_k hH (fun c i z => gC _ _ (by omega)) (fun c i z => gM _ _ (by omega)) (fun i => by rw [g7.2]), q_V_k hV (fun c i z => gC _ _ (by omega)) (fun c i z => gM _ _ (by omega)), q_X_k hX (fun c i z => gC _ _ (by omega)) (fun c i z => gM _ _ (by omega))⟩
      rw [show υ.1 3 = σM.1 3 from funext fun i => gM 3 i (by omega), show υ.1 1 = σM.1 1 from funext fun i => gM 1 i (by omega)]
      exact q_AA_k H (fun c i h1 h2 => gC _ _ (by omega))
    · rw [if_neg (show ¬ nI (tt + j) ≤ 200 from nI_ge (a := 200) (by omega) (by omega)), if_neg (show ¬ nI (tt + j) ≤ 200 from nI_ge (a := 200) (by omega) (by omega))]
      exact ⟨_, σC, σM, rfl, rfl, hR⟩
