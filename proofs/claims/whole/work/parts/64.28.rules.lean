/-! ===== pure: rules ===== -/
def q_OutA (E : q_En) (N : Nat) (r s : Option (Int32 × jw_M)) : Prop := (∃ L V σ' τ', r = some (nI L.length, σ') ∧ s = f_M_rules_51 N (nI L.length) τ' ∧ (∀ x, x ∈ L → q_xo x) ∧ q_Z E E.nt 0 L [] V 0 0 0 σ' τ') ∨ ∃ k' x σ' τ', r = some ((-100) - nI (q_p E k'), σ') ∧ s = f_M_rules_51 N x τ' ∧ q_CT E k' σ' ∧ q_Fl E k' τ'
theorem q_t_2 {E : q_En} {k : Nat} (G : q_G E) (h : k < E.nt) : ¬ q_t E k = -2 := by
  have n : ∀ j, j < 2 ^ 31 → ¬ nI j = -2 := fun j hj z => nI_pos hj (by rw [z]; decide)
  rcases q_t_c G (Nat.le_of_lt h) with ⟨e, _⟩ | ⟨_, e | ⟨j, hj, e⟩ | ⟨b, hb, e⟩ | ⟨v, hv, e⟩⟩
  · omega
  · rw [e]
    decide
  · rw [e]
    exact n _ (by omega)
  · rw [e]
    exact n _ (by omega)
  · rw [e]
    exact n _ (by omega)
theorem Z_all {E : q_En} {N : Nat} (hN : 300 ≤ N) (G : q_G E) : ∀ (r f f' k V : Nat) (L : q_L) (σ τ : jw_M), L.length + r = 8 → r < f → r + 1 < f' → (∀ x, x ∈ L → q_xo x) → q_Z E k 0 L [] V 0 0 0 σ τ → q_OutA E N (f_D_readAll_23 N f (nI L.length) σ) (f_M_rules_26 N f' (nI L.length) τ) := fun r => by
  induction r with
  | zero =>
    intro f f' k V L σ τ hr hf hf' hL Z
    obtain ⟨f, rfl⟩ : ∃ n, f = n + 1 := ⟨f - 1, by omega⟩
    obtain ⟨f', rfl⟩ : ∃ n, f' = n + 1 + 1 := ⟨f' - 2, by omega⟩
    obtain ⟨a1, a2, a3⟩ := C_at G Z.1.1
    have hk : k ≤ E.nt := Z.1.1.2.2.1
    rw [f_D_readAll_23, f_M_rules_26, if_pos (show (8 : Int32) ≤ nI L.length from nI_le (a := 8) (by omega) (by omega)), if_neg (Z_ne Z)]
    unfold f_D_readAll_69
    rw [a1, cond_true, a2, a3, Z.1.2.1]
    by_cases e : k = E.nt
    · subst e
      rw [if_pos (q_t_n G), if_pos ((e_sort0 Z.2.1.2.1).mpr G.2.2.2.1)]
      exact Or.inl ⟨L, V, σ, τ, rfl, rfl, hL, Z⟩
    · have hk1 : k < E.nt := by omega
      rw [if_neg (q_t_2 G hk1), if_neg (fun z => absurd ((e_sort0 Z.2.1.2.1).mp z) (Nat.ne_of_lt (G.2.2.1 k hk1)))]
      have w : f_M_readRule N (nI L.length) τ = some (jx_w τ 0 13 0) := by
        unfold f_M_readRule
        rcases q_kc G hk with ⟨j, hj, e⟩ | ⟨n1, n2⟩
        · rw [M_kin Z.2.1 hj e, Option.bind_some]
          dsimp only
          rw [if_neg (nI_pos (by omega)), if_pos (show (8 : Int32) ≤ nI L.length from nI_le (a := 8) (by omega) (by omega)), M_f20]
        · rw [M_kin0 Z.2.1 n2, Option.bind_some]
          dsimp only
          rw [if_pos (by decide), M_f20]
      rw [w, Option.bind_some, f_M_rules_26, q_wS, if_pos rfl]
      exact Or.inr ⟨k, _, σ, _, rfl, rfl, Z.1.1, M_fl Z.2.1⟩
  | succ r ih =>
    intro f f' k V L σ τ hr hf hf' hL Z
    obtain ⟨f, rfl⟩ : ∃ n, f = n + 1 := ⟨f - 1, by omega⟩
    obtain ⟨f', rfl⟩ : ∃ n, f' = n + 1 + 1 := ⟨f' - 2, by omega⟩
    obtain ⟨a1, a2, a3⟩ := C_at G Z.1.1
    have hk : k ≤ E.nt := Z.1.1.2.2.1
    rw [f_D_readAll_23, f_M_rules_26, if_neg (show ¬ (8 : Int32) ≤ nI L.length from nI_ge (b := 8) (by omega) (by decide)), if_neg (Z_ne Z), a1, cond_true, a2]
    by_cases e : k = E.nt
    · subst e
      unfold f_D_readAll_69
      rw [if_pos (q_t_n G), if_pos ((e_sort0 Z.2.1.2.1).mpr G.2.2.2.1), a1, cond_true, a2, a3, Z.1.2.1, if_pos (q_t_n G)]
      exact Or.inl ⟨L, V, σ, τ, rfl, rfl, hL, Z⟩
    · have hk1 : k < E.nt := by omega
      rw [if_neg (q_t_2 G hk1), if_neg (fun z => absurd ((e_sort0 Z.2.1.2.1).mp z) (Nat.ne_of_lt (G.2.2.1 k hk1)))]
      rcases Z_rule (N := N) hN G (show L.length < 8 by omega) Z with ⟨k', x, V', σ', τ', r1, r2, r3, r4, r5⟩ | ⟨k', σ', τ', r1, r2, r3, r4⟩
      · rw [r1, q_bz1, r2, Option.bind_some, nI_1]
        have z := ih f (f' + 1) k' V' (L ++ [x]) σ' τ' (by rw [List.length_append, List.length_singleton]; omega) (by omega) (by omega) (fun y hy => by
          rcases List.mem_append.mp hy with w | w
          · exact hL y w
          · rw [List.mem_singleton.mp w]
            exact r4) r5
        rw [List.length_append, List.length_singleton] at z
        exact z
      · obtain ⟨b1, b2, b3⟩ := C_at G r3
        rw [r1, q_bz0, r2, Option.bind_some, f_M_rules_26, if_pos r4.1]
        dsimp only
        rw [b1, cond_true, b3]
        exact Or.inr ⟨k', _, σ', τ', rfl, rfl, r3, r4⟩
theorem e_r110 {N F : Nat} {x1 : Int32} (hF : F ≤ 200) : ∀ (r i k : Nat) (σ : jw_M), i + r = 2 * F → r < k → σ.1 0 16 = nI F → ∃ σ', f_M_rules_110 N k x1 (nI i) σ = some (x1, σ') ∧ (∀ j, i ≤ j → j < 2 * F → σ'.1 3 (126 + j) = σ.1 8 j) ∧ (∀ c j, ¬ (c = 3 ∧ 126 + i ≤ j) → σ'.1 c j = σ.1 c j) ∧ σ'.2 = σ.2
  | 0, i, 0, σ, h1, h2, h3 => by omega
  | 0, i, k + 1, σ, h1, h2, h3 => by
    rw [f_M_rules_110, h3, q_2x, if_pos (nI_le (by omega) (by omega))]
    exact ⟨σ, rfl, fun j a b => by omega, fun c j _ => rfl, rfl⟩
  | r + 1, i, 0, σ, h1, h2, h3 => by omega
  | r + 1, i, k + 1, σ, h1, h2, h3 => by
    rw [f_M_rules_110, h3, q_2x, if_neg (nI_ge (by omega) (by omega)), q_in (show i < 400 by omega) (by decide), cond_true, show (126 + nI i) = nI (126 + i) from nI_add 126 i, q_in (show 126 + i < 526 by omega) (by decide), cond_true, nI_clamp (show 126 + i < 2 ^ 31 by omega), nI_clamp (show i < 2 ^ 31 by omega), nI_1]
    obtain ⟨σ', g1, g2, g3, g4⟩ := e_r110 (N := N) (x1 := x1) hF r (i + 1) k (jx_w σ 3 (126 + i) (σ.1 8 i)) (by omega) (by omega) (by rw [q_wC (by decide)]; exact h3)
    refine ⟨σ', g1, fun j a b => ?_, fun c j z => ?_, g4⟩
    · by_cases e : j = i
      · subst e
        rw [g3 3 _ (by omega), q_wS]
      · rw [g2 j (by omega) b, q_wC (by decide)]
    · rw [g3 c j (by omega)]
      by_cases e : c = 3
      · subst e
        exact q_wI (by omega)
      · exact q_wC e
theorem e_r80 {N F n : Nat} (hN : 500 ≤ N) (hF : F ≤ 200) (hn : n ≤ 8) : ∀ (r i k : Nat) (σ : jw_M), i + r = 4 * n → r < k → σ.1 0 16 = nI F → ∃ σ', f_M_rules_80 N k (nI n) (nI i) σ = some (nI n, σ') ∧ (∀ j, i ≤ j → j < 4 * n → σ'.1 3 (94 + j) = σ.1 7 j) ∧ (∀ j, j < 2 * F → σ'.1 3 (126 + j) = σ.1 8 j) ∧ (∀ c j, ¬ (c = 3 ∧ 94 + i ≤ j) → σ'.1 c j = σ.1 c j) ∧ σ'.2 = σ.2
  | 0, i, 0, σ, h1, h2, h3 => by omega
  | 0, i, k + 1, σ, h1, h2, h3 => by
    rw [f_M_rules_80, q_4x, if_pos (nI_le (by omega) (by omega))]
    obtain ⟨σ', g1, g2, g3, g4⟩ := e_r110 (N := N) (x1 := nI n) hF (2 * F) 0 N σ (by omega) (by omega) h3
    exact ⟨σ', g1, fun j a b => by omega, fun j a => g2 j (by omega) a, fun c j z => g3 c j (by omega), g4⟩
  | r + 1, i, 0, σ, h1, h2, h3 => by omega
  | r + 1, i, k + 1, σ, h1, h2, h3 => by
    rw [f_M_rules_80, q_4x, if_neg (nI_ge (by omega) (by omega)), q_in (show i < 32 by omega) (by decide), cond_true, show (94 + nI i) = nI (94 + i) from nI_add 94 i, q_in (show 94 + i < 526 by omega) (by decide), cond_true, nI_clamp (show 94 + i < 2 ^ 31 by omega), nI_clamp (show i < 2 ^ 31 by omega), nI_1]
    obtain ⟨σ', g1, g2, g3, g4, g5⟩ := e_r80 hN hF hn r (i + 1) k (jx_w σ 3 (94 + i) (σ.1 7 i)) (by omega) (by omega) (by rw [q_wC (by decide)]; exact h3)
    refine ⟨σ', g1, fun j a b => ?_, fun j a => ?_, fun c j z => ?_, g5⟩
    · by_cases e : j = i
      · subst e
        rw [g4 3 _ (by omega), q_wS]
      · rw [g2 j (by omega) b, q_wC (by decide)]
    · rw [g3 j a, q_wC (by decide)]
    · rw [g4 c j (by omega)]
      by_cases e : c = 3
      · subst e
        exact q_wI (by omega)
      · exact q_wC e
/-- the draft taken over -/
theorem e_cpD {N : Nat} (σ : jw_M) : ∃ σ', f_R_copyFrom N 19 84 σ = some σ' ∧ σ'.1 19 0 = σ.1 84 0 ∧ (∀ c i, 1 ≤ c → c ≤ 3 → i < 8 → σ'.1 (19 + c) i = σ.1 (84 + c) i) ∧ (∀ c i, 4 ≤ c → c ≤ 6 → i < 100 → σ'.1 (19 + c) i = σ.1 (84 + c) i) ∧ (∀ i, i < 105 → σ'.1 26 i = σ.1 91 i) ∧ (∀ c i, (c < 19 ∨ 26 < c) → σ'.1 c i = σ.1 c i) ∧ σ'.2 = σ.2 := by
  unfold f_R_copyFrom f_R_copyFrom_27 f_R_copyFrom_38 f_R_copyFrom_49 f_R_copyFrom_60 f_R_copyFrom_71 f_R_copyFrom_82
  generalize ha : jx_w (jx_w σ 19 0 (σ.1 84 0)) 19 1 ((jx_w σ 19 0 (σ.1 84 0)).1 84 1) = a
  have k0 : ∀ c i, c ≠ 19 → a.1 c i = σ.1 c i := fun c i h => by
    rw [← ha, q_wC h, q_wC h]
  have l0 : a.2 = σ.2 := by
    rw [← ha]
    rfl
  have v0 : a.1 19 0 = σ.1 84 0 := by
    rw [← ha, q_wI (by decide), q_wS]
  obtain ⟨a1, g1, v1, k1, l1⟩ := e_cr (N := N) (a := 85) (b := 20) (n := 8) (by decide) a
  rw [show f_F_copyRow N (84 + 1) (19 + 1) 8 8 a = _ from g1, Option.bind_some]
  obtain ⟨a2, g2, v2, k2, l2⟩ := e_cr (N := N) (a := 86) (b := 21) (n := 8) (by decide) a1
  rw [show f_F_copyRow N (84 + 2) (19 + 2) 8 8 a1 = _ from g2, Option.bind_some]
  obtain ⟨a3, g3, v3, k3, l3⟩ := e_cr (N := N) (a := 87) (b := 22) (n := 8) (by decide) a2
  rw [show f_F_copyRow N (84 + 3) (19 + 3) 8 8 a2 = _ from g3, Option.bind_some]
  obtain ⟨a4, g4, v4, k4, l4⟩ := e_cr (N := N) (a := 88) (b := 23) (n := 100) (by decide) a3
  rw [show f_F_copyRow N (84 + 4) (19 + 4) 100 100 a3 = _ from g4, Option.bind_some]
  obtain ⟨a5, g5, v5, k5, l5⟩ := e_cr (N := N) (a := 89) (b := 24) (n := 100) (by decide) a4
  rw [show f_F_copyRow N (84 + 5) (19 + 5) 100 100 a4 = _ from g5, Option.bind_some]
  obtain ⟨a6, g6, v6, k6, l6⟩ := e_cr (N := N) (a := 90) (b := 25) (n := 100) (by decide) a5
  rw [show f_F_copyRow N (84 + 6) (19 + 6) 100 100 a5 = _ from g6, Option.bind_some]
  obtain ⟨a7, g7, v7, k7, l7⟩ := e_cr (N := N) (a := 91) (b := 26) (n := 105) (by decide) (jx_w a6 19 9 (a6.1 84 9))
  rw [show f_F_copyRow N (84 + 7) (19 + 7) 105 105 (jx_w a6 19 9 (a6.1 84 9)) = _ from g7, Option.bind_some]
  have w6 : ∀ c i, c ≠ 19 → (jx_w a6 19 9 (a6.1 84 9)).1 c i = a6.1 c i := fun c i h => q_wC h
  refine ⟨a7, rfl, ?_, fun c i h1 h2 h3 => ?_, fun c i h1 h2 h3 => ?_, fun i hi => ?_, fun c i h => ?_, ?_⟩
  · rw [k7 _ _ (by decide), q_wI (by decide), k6 _ _ (by decide), k5 _ _ (by decide), k4 _ _ (by decide), k3 _ _ (by decide), k2 _ _ (by decide), k1 _ _ (by decide), v0]
  · rcases (show c = 1 ∨ c = 2 ∨ c = 3 by omega) with rfl | rfl | rfl
    · rw [k7 _ _ (by decide), w6 _ _ (by decide), k6 _ _ (by decide), k5 _ _ (by decide), k4 _ _ (by decide), k3 _ _ (by decide), k2 _ _ (by decide), v1 i h3, k0 _ _ (by decide)]
    · rw [k7 _ _ (by decide), w6 _ _ (by decide), k6 _ _ (by decide), k5 _ _ (by decide), k4 _ _ (by decide), k3 _ _ (by decide), v2 i h3, k1 _ _ (by decide), k0 _ _ (by decide)]
    · rw [k7 _ _ (by decide), w6 _ _ (by decide), k6 _ _ (by decide), k5 _ _ (by decide), k4 _ _ (by decide), v3 i h3, k2 _ _ (by decide), k1 _ _ (by decide), k0 _ _ (by decide)]
  · rcases (show c = 4 ∨ c = 5 ∨ c = 6 by omega) with rfl | rfl | rfl
    · rw [k7 _ _ (by decide), w6 _ _ (by decide), k6 _ _ (by decide), k5 _ _ (by decide), v4 i h3, k3 _ _ (by decide), k2 _ _ (by decide), k1 _ _ (by decide), k0 _ _ (by decide)]
    · rw [k7 _ _ (by decide), w6 _ _ (by decide), k6 _ _ (by decide), v5 i h3, k4 _ _ (by decide), k3 _ _ (by decide), k2 _ _ (by decide), k1 _ _ (by decide), k0 _ _ (by decide)]
    · rw [k7 _ _ (by decide), w6 _ _ (by decide), v6 i h3, k5 _ _ (by decide), k4 _ _ (by decide), k3 _ _ (by decide), k2 _ _ (by decide), k1 _ _ (by decide), k0 _ _ (by decide)]
  · rw [v7 i hi, w6 _ _ (by decide), k6 _ _ (by decide), k5 _ _ (by decide), k4 _ _ (by decide), k3 _ _ (by decide), k2 _ _ (by decide), k1 _ _ (by decide), k0 _ _ (by decide)]
  · rw [k7 _ _ (by omega), w6 _ _ (by omega), k6 _ _ (by omega), k5 _ _ (by omega), k4 _ _ (by omega), k3 _ _ (by omega), k2 _ _ (by omega), k1 _ _ (by omega), k0 _ _ (by omega)]
  · rw [l7]
    show a6.2 = _
    rw [l6, l5, l4, l3, l2, l1, l0]
theorem q_O_r {σC σM σC' σM' : jw_M} (H : q_O σC σM) (gC : ∀ c i, (c = 0 ∨ (38 ≤ c ∧ c ≤ 66) ∨ 92 ≤ c) → σC'.1 c i = σC.1 c i) (gM : ∀ c i, ((c = 0 ∧ (i = 5 ∨ i = 29 ∨ i = 40)) ∨ (4 ≤ c ∧ c ≤ 5) ∨ 13 ≤ c) → σM'.1 c i = σM.1 c i) (gL : ∀ i, σM'.2 16 i = σM.2 16 i) (c0 : σC'.1 80 0 = 0) (m0 : σM'.1 0 7 = 0) : q_O σC' σM' := by
  obtain ⟨hK, hT, hW, hH, hV, hX⟩ := H
  exact ⟨q_K_k hK (fun c i z => gC _ _ (by omega)) (fun c i z => gM _ _ (by omega)), ⟨0, by decide, c0, m0, fun i hi => by omega⟩, q_W_k hW (fun c i z => gC _ _ (by omega)) (fun c i z => gM _ _ (by omega)), q_H_k hH (fun c i z => gC _ _ (by omega)) (fun c i z => gM _ _ (by omega)) gL, q_V_k hV (fun c i z => gC _ _ (by omega)) (fun c i z => gM _ _ (by omega)), q_X_k hX (fun c i z => gC _ _ (by omega)) (fun c i z => gM _ _ (by omega))⟩
theorem q_m100 : ∀ p, p < 256 → (-100 : Int32) - nI p < 0 := by decide +kernel
theorem u_rules {N : Nat} (hN : 500 ≤ N) : q_U (f_F_rules N) (f_M_rules N) := by
  intro σC σM hR
  obtain ⟨⟨L0, n, m, d, h, t, H⟩, hO⟩ := id hR
  obtain ⟨T, T200, t1, t2, t3⟩ := hO.2.1
  let B : Nat → Nat := fun i => (σC.1 81 i).toNatClampNeg
  have hB : ∀ i, i < T → B i < 256 ∧ σC.1 81 i = nI (B i) ∧ σM.1 6 i = nI (B i) := fun i hi => by
    obtain ⟨b, b1, b2, b3⟩ := t3 i hi
    have e : B i = b := by
      show (σC.1 81 i).toNatClampNeg = b
      rw [b2, nI_clamp (by omega)]
    rw [e]
    exact ⟨b1, b2, b3⟩
  have hx : q_tx B T σC := ⟨T200, t1, fun i hi => ⟨(hB i hi).1, (hB i hi).2.1⟩⟩
  have hy : q_ty' B T (jx_w (jx_w (jx_w (jx_w σM 0 10 (0 : Int32)) 0 13 (1 : Int32)) 0 16 (0 : Int32)) 0 17 (0 : Int32)) := by
    refine q_ty'_w (q_ty'_w (q_ty'_w (q_ty'_w ⟨T200, t2, fun i hi => ⟨(hB i hi).1, (hB i hi).2.2⟩⟩ (by decide) (Or.inr (by decide))) (by decide) (Or.inr (by decide))) (by decide) (Or.inr (by decide))) (by decide) (Or.inr (by decide))
  obtain ⟨nt, σ1, c1, c2, c3, c4, c5, c6⟩ := e_cut (N := N) (by omega) hx
  generalize hτ0 : jx_w (jx_w (jx_w (jx_w σM 0 10 (0 : Int32)) 0 13 (1 : Int32)) 0 16 (0 : Int32)) 0 17 (0 : Int32) = τ0 at hy
  have m10 : τ0.1 0 10 = nI 0 := by
    rw [← hτ0, q_wI (by decide), q_wI (by decide), q_wI (by decide), q_wS]
    rfl
  have m13 : τ0.1 0 13 = 1 := by
    rw [← hτ0, q_wI (by decide), q_wI (by decide), q_wS]
  have m16 : τ0.1 0 16 = nI 0 := by
    rw [← hτ0, q_wI (by decide), q_wS]
    rfl
  have m17 : τ0.1 0 17 = nI 0 := by
    rw [← hτ0, q_wS]
    rfl
  have mF : ∀ c i, ¬ (c = 0 ∧ 10 ≤ i ∧ i ≤ 17) → τ0.1 c i = σM.1 c i := fun c i z => by
    rw [← hτ0, q_w, if_neg (by omega), q_w, if_neg (by omega), q_w, if_neg (by omega), q_w, if_neg (by omega)]
  have mL : τ0.2 = σM.2 := by
    rw [← hτ0]
    rfl
  obtain ⟨τ1, a1, a2, a3⟩ := e_adv (N := N) (e := 0) (by omega) (by omega) hy m10
  unfold f_F_rules f_M_rules f_D_readAll f_R_clear
  rw [hτ0, a1, Option.bind_some, c1, Option.bind_some, Option.bind_some]
  generalize hσ2 : jx_w (jx_w (jx_w (jx_w (jx_w σ1 80 0 (0 : Int32)) 80 4 (0 : Int32)) 84 0 (0 : Int32)) 84 1 (0 : Int32)) 84 9 (5 : Int32) = σ2
  have sF : ∀ c i, ¬ (c = 80 ∧ (i = 0 ∨ i = 4)) → ¬ (c = 82 ∨ c = 83 ∨ c = 84) → σ2.1 c i = σC.1 c i := fun c i z1 z2 => by
    rw [← hσ2, q_w, if_neg (by omega), q_w, if_neg (by omega), q_w, if_neg (by omega), q_w, if_neg (by omega), q_w, if_neg (by omega)]
    refine c6.1 c i ?_
    simp
    omega
  have s80 : σ2.1 80 0 = 0 := by
    rw [← hσ2, q_wC (by decide), q_wC (by decide), q_wC (by decide), q_wI (by decide), q_wS]
  have s84 : σ2.1 80 4 = nI 0 := by
    rw [← hσ2, q_wC (by decide), q_wC (by decide), q_wC (by decide), q_wS]
    rfl
  have s0 : σ2.1 84 0 = nI 0 := by
    rw [← hσ2, q_wI (by decide), q_wI (by decide), q_wS]
    rfl
  have s1 : σ2.1 84 1 = nI 0 := by
    rw [← hσ2, q_wI (by decide), q_wS]
    rfl
  have s9 : σ2.1 84 9 = nI 5 := by
    rw [← hσ2, q_wS]
    rfl
  have s2 : q_tk B T nt σ2 := fun j hj => by
    rw [← hσ2, q_wC (by decide), q_wC (by decide), q_wC (by decide), q_wC (by decide), q_wC (by decide), q_wC (by decide), q_wC (by decide), q_wC (by decide), q_wC (by decide), q_wC (by decide)]
    exact c5 j hj
  let E : q_En := (B, T, nt, σ2, τ0)
  have G : q_G E := ⟨T200, c2, c3, c4, fun i hi => (hB i hi).1⟩
  have Z : q_Z E 0 0 [] [] 0 0 0 0 σ2 τ1 := by
    refine ⟨⟨⟨s2, s84, Nat.zero_le _, q_fr_r _ _⟩, s0, by decide, s1, s9, trivial, trivial⟩, ⟨q_ty'_k hy a3, a2, by rw [a3.1 0 13 rfl]; exact m13, by rw [a3.1 0 17 rfl]; exact m17, by rw [a3.1 0 16 rfl]; exact m16, trivial, trivial, q_fm_m a3 (fun a i y => ?_)⟩, rfl, rfl, fun y hy => absurd hy (List.not_mem_nil), Nat.zero_le _, Nat.zero_le _, Nat.zero_le _⟩
    by_cases ha : a = 0
    · subst ha
      unfold q_rdM at y
      unfold q_ad
      simp at y ⊢
      omega
    · unfold q_ad
      rw [show (a == 0) = false by simpa using ha]
      rfl
  have fC : ∀ σ', q_fr q_rdC σ2 σ' → ∀ c i, (c < 80 ∨ 92 ≤ c) → σ'.1 c i = σC.1 c i := fun σ' f c i z => by
    rw [f.1 c i (by unfold q_rdC; simp; omega), sF c i (by omega) (by omega)]
  have fM : ∀ τ', q_fm q_rdM τ0 τ' → ∀ c i, ¬ (c = 0 ∧ 8 ≤ i ∧ i ≤ 17) → c ≠ 7 → c ≠ 8 → τ'.1 c i = σM.1 c i := fun τ' f c i z1 z2 z3 => by
    rw [f.1 c i (by unfold q_rdM; simp; omega), mF c i (by omega)]
  have fL : ∀ τ', q_fm q_rdM τ0 τ' → ∀ i, τ'.2 16 i = σM.2 16 i := fun τ' f i => by
    rw [f.2 16 i (by decide), mL]
  rcases Z_all (N := N) (by omega) G 8 N N 0 0 [] σ2 τ1 rfl (by omega) (by omega) (fun x hx => absurd hx (List.not_mem_nil)) Z with ⟨L, V, σ', τ', r1, r2, r3, r4⟩ | ⟨k', x, σ', τ', r1, r2, r3, r4⟩
  · obtain ⟨zC, zM, z3, z4, z5, z6, z7, z8⟩ := r4
    obtain ⟨⟨e1, e2, e3, e4⟩, d1, d2, d3, d4, d5, d6⟩ := zC
    have pT := q_p_T G (Nat.le_refl E.nt)
    have eT : E.T = T := rfl
    have eN : E.nt = nt := rfl
    rw [show f_D_readAll_23 N N 0 σ2 = _ from r1, Option.bind_some, show f_M_rules_26 N N 0 τ1 = _ from r2]
    dsimp only
    rw [if_neg (nI_pos (by omega))]
    obtain ⟨σ3, g1, g2, g3, g4, g5, g6, g7⟩ := e_cpD (N := N) σ'
    rw [g1, Option.bind_some]
    unfold f_M_rules_51
    have y13 : (jx_w τ' 0 7 (0 : Int32)).1 0 13 = 1 := by
      rw [q_wI (by decide)]
      exact zM.2.2.1
    rw [y13, if_neg (show ¬ (1 : Int32) = 0 by decide)]
    have y16 : (jx_w (jx_w τ' 0 7 (0 : Int32)) 3 4 (nI L.length)).1 0 16 = nI (q_Fm L) := by
      rw [q_wC (by decide), q_wI (by decide)]
      exact zM.2.2.2.2.1
    have hFm : q_Fm L ≤ 200 := by
      rw [show (q_fl ([] : List q_I)).length = 0 from rfl] at z7
      omega
    have hE : q_E L ≤ 100 := by
      rw [List.length_nil] at z6
      omega
    obtain ⟨τ2, i1, i2, i3, i4, i5⟩ := e_r80 (N := N) hN hFm d2 (4 * L.length) 0 N (jx_w (jx_w τ' 0 7 (0 : Int32)) 3 4 (nI L.length)) (by omega) (by omega) y16
    rw [show f_M_rules_80 N N (nI L.length) 0 _ = _ from i1]
    have cC : ∀ c i, (c < 80 ∨ 92 ≤ c) → (c < 19 ∨ 26 < c) → σ3.1 c i = σC.1 c i := fun c i w1 w2 => by
      rw [g6 c i w2, fC σ' e4 c i w1]
    have cM : ∀ c i, ¬ (c = 0 ∧ 7 ≤ i ∧ i ≤ 17) → c ≠ 7 → c ≠ 8 → ¬ (c = 3 ∧ (i = 4 ∨ 94 ≤ i)) → τ2.1 c i = σM.1 c i := fun c i w1 w2 w3 w4 => by
      rw [i4 c i (by omega), q_w, if_neg (by omega), q_w, if_neg (by omega), fM τ' zM.2.2.2.2.2.2.2 c i (by omega) w2 w3]
    have S4 : τ2.1 3 4 = nI L.length := by
      rw [i4 3 4 (by omega), q_wS]
    have S7 : ∀ j, j < 4 * L.length → τ2.1 3 (94 + j) = τ'.1 7 j := fun j hj => by
      rw [i2 j (by omega) hj, q_wC (by decide), q_wC (by decide)]
    have S8 : ∀ j, j < 2 * q_Fm L → τ2.1 3 (126 + j) = τ'.1 8 j := fun j hj => by
      rw [i3 j hj, q_wC (by decide), q_wC (by decide)]
    refine ⟨_, σ3, τ2, rfl, rfl, ⟨L, n, m, d, h, t, ?_⟩, q_O_r hO (fun c i w => cC c i (by omega) (by omega)) (fun c i w => cM c i (by omega) (by omega) (by omega) (by omega)) (fun i => by rw [i5]; exact fL τ' zM.2.2.2.2.2.2.2 i) ?_ ?_⟩
    · obtain ⟨b1, b2, b3, b4, b5, b6, b7⟩ := H
      have row1 : τ2.1 1 = σM.1 1 := funext fun i => cM 1 i (by omega) (by omega) (by omega) (by omega)
      have g3' : ∀ k, k < 94 → k ≠ 4 → τ2.1 3 k = σM.1 3 k := fun k w1 w2 => cM 3 k (by omega) (by omega) (by omega) (by omega)
      have hm : m ≤ 8 := b1.2.1
      rw [row1]
      refine ⟨q_wf_k b1 (fun k w1 _ w2 _ => g3' k (by omega) w2), q_wq_k b2 (fun k w1 w2 => g3' k (by omega) (by omega)), q_wt_k b3 (g3' 5 (by decide) (by decide)) (fun k w1 w2 => g3' k (by omega) (by omega)), ⟨S4, d2, ?_, r3⟩, q_wr_k b5 (fun l hl => g3' _ (by omega) (by omega)), ⟨fun c i k hk => ?_, fun hh w1 l w2 => ?_, ?_⟩, q_PC_k b7 (fun c i hc => cC _ _ (by omega) (by omega))⟩
      · refine q_rM_t (X := q_Fm L) (Y := L.length) (fun k w1 w2 => ?_) (fun k w1 w2 => ?_) L 0 0 (by omega) (by omega) zM.2.2.2.2.2.1
        · have := S7 (k - 94) (by omega)
          rw [show 94 + (k - 94) = k by omega] at this
          rw [this]
          unfold q_Ss
          rw [if_pos (by omega)]
        · have := S8 (k - 126) (by omega)
          rw [show 126 + (k - 126) = k by omega] at this
          rw [this]
          unfold q_Ss
          rw [if_neg (by omega)]
      · have hj := q_jsv hk
        by_cases e : k = 4
        · subst e
          have e' := hj.1
          have ec : c = 18 ∧ i = 0 := ⟨(congrArg Prod.fst e').symm, (congrArg Prod.snd e').symm⟩
          rw [ec.1, ec.2, S4, show 1 + 18 = 19 from rfl, g2, d1]
        · have hc := (q_jsr hk).1
          have ec : c ≠ 18 := fun z => by
            subst z
            unfold q_js at hk
            simp at hk
            omega
          rw [cC _ _ (by omega) (by omega), g3' k hj.2 e]
          exact b6.1 c i k hk
      · rw [cC _ _ (by omega) (by omega), b6.2.1 hh w1 l w2]
        by_cases z : l < m
        · rw [g3' _ (by omega) (by omega), g3' _ (by omega) (by omega)]
        · rw [decide_eq_false z, Bool.false_and, Bool.false_and]
      · refine q_r0_b (rb := 84) (σ := σ') (fun c i w1 w2 w3 => g3 c i w1 w2 w3) (fun c i w1 w2 w3 => g4 c i w1 w2 w3) (fun i w1 w2 => g5 i w2) L 0 0 (by omega) (q_rB_0 (V := 5 + V) (by omega) L 0 0 (by omega) d5)
    · rw [g6 _ _ (by decide), e4.1 80 0 rfl]
      exact s80
    · rw [i4 _ _ (by decide), q_wC (by decide), q_wS]
  · rw [show f_D_readAll_23 N N 0 σ2 = _ from r1, Option.bind_some, show f_M_rules_26 N N 0 τ1 = _ from r2]
    have pT := q_p_T G r3.2.2.1
    have eT : E.T = T := rfl
    dsimp only
    rw [if_pos (q_m100 _ (by omega))]
    unfold f_M_rules_51
    rw [q_wI (by decide), r4.1, if_pos rfl, q_wI (by decide), r4.2.1]
    have cM : ∀ c i, ¬ (c = 0 ∧ 7 ≤ i ∧ i ≤ 17) → c ≠ 7 → c ≠ 8 → (jx_w τ' 0 7 (0 : Int32)).1 c i = σM.1 c i := fun c i w1 w2 w3 => by
      rw [q_w, if_neg (by omega), fM τ' r4.2.2 c i (by omega) w2 w3]
    refine ⟨_, σ', _, rfl, rfl, ⟨L0, n, m, d, h, t, ?_⟩, q_O_r hO (fun c i w => fC σ' r3.2.2.2 c i (by omega)) (fun c i w => cM c i (by omega) (by omega) (by omega)) (fun i => fL τ' r4.2.2 i) ?_ q_wS⟩
    · rw [show (jx_w τ' 0 7 (0 : Int32)).1 3 = σM.1 3 from funext fun i => cM 3 i (by omega) (by omega) (by omega), show (jx_w τ' 0 7 (0 : Int32)).1 1 = σM.1 1 from funext fun i => cM 1 i (by omega) (by omega) (by omega)]
      exact q_AA_k H (fun c i w1 w2 => fC σ' r3.2.2.2 _ _ (by omega))
    · rw [r3.2.2.2.1 80 0 rfl]
      exact s80
