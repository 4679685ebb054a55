/-! ===== pure: reading: a rule ===== -/
theorem C_rule {E : q_En} {N k V a b : Nat} {σ : jw_M} {L : q_L} {c : List q_I} (Z : q_ZC E k L c V σ) (h8 : L.length < 8) : ∃ σ', f_R_addRule N (nI a) (nI b) σ = some σ' ∧ q_ZC E k (L ++ [(a, b, c)]) [] V σ' := by
  obtain ⟨hT, h1, h2, h3, h4, h5, h6⟩ := Z
  unfold f_R_addRule
  generalize hn : L.length = n at *
  rw [h1, if_neg (show ¬ (8 : Int32) ≤ nI n from nI_ge (b := 8) (by omega) (by decide)), q_in h8 (by decide), cond_true, nI_clamp (by omega), q_wC (show (84 : Nat) ≠ 85 by decide), h1, q_in h8 (by decide), cond_true, nI_clamp (by omega), q_wC (show (84 : Nat) ≠ 86 by decide), q_wC (show (84 : Nat) ≠ 85 by decide), h1, q_in h8 (by decide), cond_true, nI_clamp (by omega), q_wC (show (84 : Nat) ≠ 87 by decide), q_wC (show (84 : Nat) ≠ 86 by decide), q_wC (show (84 : Nat) ≠ 85 by decide), q_wC (show (84 : Nat) ≠ 86 by decide), q_wC (show (84 : Nat) ≠ 85 by decide), h1, h3, nI_1]
  have gB : ∀ d i, 88 ≤ d → d ≤ 90 → (jx_w (jx_w (jx_w (jx_w σ 85 n (nI a)) 86 n (nI b)) 87 n (nI (q_E L + c.length))) 84 0 (nI (n + 1))).1 d i = σ.1 d i := fun d i _ _ => by
    rw [q_wC (by omega), q_wC (by omega), q_wC (by omega), q_wC (by omega)]
  have gV : ∀ i, (jx_w (jx_w (jx_w (jx_w σ 85 n (nI a)) 86 n (nI b)) 87 n (nI (q_E L + c.length))) 84 0 (nI (n + 1))).1 91 i = σ.1 91 i := fun i => by
    rw [q_wC (by decide), q_wC (by decide), q_wC (by decide), q_wC (by decide)]
  refine ⟨_, rfl, q_CT_w (q_CT_w (q_CT_w (q_CT_w hT (by decide) (by decide)) (by decide) (by decide)) (by decide) (by decide)) (by decide) (by decide), ?_, ?_, ?_, ?_, ?_, trivial⟩
  · rw [q_wS, List.length_append, List.length_singleton, hn]
  · rw [List.length_append, List.length_singleton]
    omega
  · rw [q_wI (by decide), q_wC (by decide), q_wC (by decide), q_wC (by decide), h3, q_E_a, List.length_nil, Nat.add_zero]
  · rw [q_wI (by decide), q_wC (by decide), q_wC (by decide), q_wC (by decide)]
    exact h4
  · refine q_rB_a L 0 0 (q_rB_k (X := 0 + q_E L) (Y := n) (fun d i y1 y2 y3 => by rw [q_wC (by omega), q_wI (by omega), q_wI (by omega), q_wI (by omega)]) (fun d i y1 y2 _ => gB d i y1 y2) (fun i _ _ => gV i) (Nat.le_refl _) L 0 0 (by omega) (Nat.le_refl _) h5) ?_
    rw [Nat.zero_add, Nat.zero_add, hn]
    refine ⟨?_, ?_, ?_, q_cB_k (X := q_E L + c.length) (fun d i y1 y2 _ => gB d i y1 y2) (fun i _ _ => gV i) (Nat.le_refl _) c _ (Nat.le_refl _) h6, trivial⟩
    · rw [q_wC (by decide), q_wC (by decide), q_wC (by decide), q_wS]
    · rw [q_wC (by decide), q_wC (by decide), q_wS]
    · rw [q_wC (by decide), q_wS]
theorem q_i4 (n w : Nat) : (4 : Int32) * nI n + nI w = nI (4 * n + w) := by
  show nI 4 * nI n + nI w = _
  rw [pk_mul, nI_add]
theorem q_4x (n : Nat) : (4 : Int32) * nI n = nI (4 * n) := by
  show nI 4 * nI n = _
  rw [pk_mul]
/-- what the reference lays down for a rule -/
def q_lay (τ : jw_M) (n a b e w : Nat) : jw_M := jx_w (jx_w (jx_w (jx_w τ 7 (4 * n) (nI a)) 7 (4 * n + 1) (nI b)) 7 (4 * n + 2) (nI e)) 7 (4 * n + 3) (nI w)
theorem M_rule {E : q_En} {k a b : Nat} {τ : jw_M} {L : q_L} {c : List q_I} (h8 : L.length < 8) (hB : q_Fm L + (q_fl c).length ≤ 200) (Z : q_ZM E k 0 L c [] τ) : q_ZM E k 0 (L ++ [(a, b, c)]) [] [] (q_lay τ L.length a b (q_Fm L) (q_fl c).length) := by
  obtain ⟨z1, z2, z3, z4, z5, z6, z7, z8⟩ := Z
  unfold q_lay
  have g8 : ∀ i, (jx_w (jx_w (jx_w (jx_w τ 7 (4 * L.length) (nI a)) 7 (4 * L.length + 1) (nI b)) 7 (4 * L.length + 2) (nI (q_Fm L))) 7 (4 * L.length + 3) (nI (q_fl c).length)).1 8 i = τ.1 8 i := fun i => by
    rw [q_wC (by decide), q_wC (by decide), q_wC (by decide), q_wC (by decide)]
  have g0 : ∀ i, (jx_w (jx_w (jx_w (jx_w τ 7 (4 * L.length) (nI a)) 7 (4 * L.length + 1) (nI b)) 7 (4 * L.length + 2) (nI (q_Fm L))) 7 (4 * L.length + 3) (nI (q_fl c).length)).1 0 i = τ.1 0 i := fun i => by
    rw [q_wC (by decide), q_wC (by decide), q_wC (by decide), q_wC (by decide)]
  refine ⟨q_ty'_w (q_ty'_w (q_ty'_w (q_ty'_w z1 (by decide) (Or.inl (by decide))) (by decide) (Or.inl (by decide))) (by decide) (Or.inl (by decide))) (by decide) (Or.inl (by decide)), q_cur_k z2 (fun i _ _ => g0 i) rfl, by rw [g0]; exact z3, by rw [g0]; exact z4, ?_, ?_, trivial, q_fm_w (q_fm_w (q_fm_w (q_fm_w z8 rfl) rfl) rfl) rfl⟩
  · rw [g0, z5, q_Fm_a]
    rfl
  · refine q_rM_a L 0 0 (q_rM_o (X := 0 + q_Fm L) (Y := L.length) (by omega) (fun i hi => by rw [q_wI (by omega), q_wI (by omega), q_wI (by omega), q_wI (by omega)]) (fun i _ => g8 i) L 0 0 (by omega) (Nat.le_refl _) z6) ?_
    rw [Nat.zero_add, Nat.zero_add]
    refine ⟨?_, ?_, ?_, ?_, hB, ?_, trivial⟩
    · unfold q_Ss
      rw [if_pos (by omega), show 94 + 4 * L.length + 0 - 94 = 4 * L.length by omega, q_wI (by omega), q_wI (by omega), q_wI (by omega), q_wS]
    · unfold q_Ss
      rw [if_pos (by omega), show 94 + 4 * L.length + 1 - 94 = 4 * L.length + 1 by omega, q_wI (by omega), q_wI (by omega), q_wS]
    · unfold q_Ss
      rw [if_pos (by omega), show 94 + 4 * L.length + 2 - 94 = 4 * L.length + 2 by omega, q_wI (by omega), q_wS]
    · unfold q_Ss
      rw [if_pos (by omega), show 94 + 4 * L.length + 3 - 94 = 4 * L.length + 3 by omega, q_wS]
    · rw [List.append_nil] at z7
      exact q_cM_o (X := q_Fm L + (q_fl c).length) (fun i _ => g8 i) _ _ (Nat.le_refl _) z7
/-! ===== kinds and deeds ===== -/
theorem q_kc {E : q_En} {k : Nat} (G : q_G E) (h : k ≤ E.nt) : (∃ j, j < 6 ∧ q_t E k = nI j) ∨ ((q_t E k < 0 ∨ 5 < q_t E k) ∧ ∀ j, j < 6 → q_t E k ≠ nI j) := by
  rcases q_t_c G h with ⟨_, e⟩ | ⟨_, e | ⟨j, hj, e⟩ | ⟨b, hb, e⟩ | ⟨v, hv, e⟩⟩
  · rw [e]
    exact Or.inr ⟨Or.inl (by decide), by decide⟩
  · rw [e]
    exact Or.inr ⟨Or.inl (by decide), by decide⟩
  · by_cases c : j < 6
    · exact Or.inl ⟨j, c, e⟩
    · exact Or.inr ⟨Or.inr (by rw [e]; exact nI_lt (a := 5) (by omega) (by omega)), fun i hi => q_tne e (by omega) (by omega) (by omega)⟩
  · exact Or.inr ⟨Or.inr (by rw [e]; exact nI_lt (a := 5) (by omega) (by omega)), fun i hi => q_tne e (by omega) (by omega) (by omega)⟩
  · exact Or.inr ⟨Or.inr (by rw [e]; exact nI_lt (a := 5) (by omega) (by omega)), fun i hi => q_tne e (by omega) (by omega) (by omega)⟩
theorem q_dc {E : q_En} {k : Nat} (G : q_G E) (h : k ≤ E.nt) : (∃ j, j < 3 ∧ q_t E k = nI (6 + j)) ∨ ((q_t E k - 6 < 0 ∨ 2 < q_t E k - 6) ∧ ∀ j, j < 3 → q_t E k ≠ nI (6 + j)) := by
  have big : ∀ j, 9 ≤ j → j < 20000 → q_t E k = nI j → 2 < q_t E k - 6 := fun j h1 h2 e => by
    rw [e, show nI j - 6 = nI (j - 6) from pk_sub (b := 6) (by omega)]
    exact nI_lt (a := 2) (by omega) (by omega)
  rcases q_t_c G h with ⟨_, e⟩ | ⟨_, e | ⟨j, hj, e⟩ | ⟨b, hb, e⟩ | ⟨v, hv, e⟩⟩
  · rw [e]
    exact Or.inr ⟨Or.inl (by decide), by decide⟩
  · rw [e]
    exact Or.inr ⟨Or.inl (by decide), by decide⟩
  · by_cases c : j < 6
    · exact Or.inr ⟨Or.inl (by rw [e]; exact q_lt6 j c), fun i hi => q_tne e (by omega) (by omega) (by omega)⟩
    · by_cases c2 : j < 9
      · exact Or.inl ⟨j - 6, by omega, by rw [e, show 6 + (j - 6) = j by omega]⟩
      · exact Or.inr ⟨Or.inr (big j (by omega) (by omega) e), fun i hi => q_tne e (by omega) (by omega) (by omega)⟩
  · exact Or.inr ⟨Or.inr (big b (by omega) (by omega) e), fun i hi => q_tne e (by omega) (by omega) (by omega)⟩
  · exact Or.inr ⟨Or.inr (big _ (by omega) (by omega) e), fun i hi => q_tne e (by omega) (by omega) (by omega)⟩
theorem M_kin {E : q_En} {N k op j : Nat} {L : q_L} {c : List q_I} {x : List (Nat × Nat)} {τ : jw_M} (Z : q_ZM E k op L c x τ) (hf : j < 6) (h : q_t E k = nI j) : f_M_kindSeen N τ = some (nI j, τ) := by
  unfold f_M_kindSeen
  by_cases c0 : j = 0
  · subst c0
    rw [(M_w Z (by decide) q_W0).1 h, q_bz1]
    rfl
  rw [(M_w Z (by decide) q_W0).2 (q_tne h (by omega) (by omega) (by decide)), q_bz0]
  by_cases c0 : j = 1
  · subst c0
    rw [(M_w Z (by decide) q_W1).1 h, q_bz1]
    rfl
  rw [(M_w Z (by decide) q_W1).2 (q_tne h (by omega) (by omega) (by decide)), q_bz0]
  by_cases c0 : j = 2
  · subst c0
    rw [(M_w Z (by decide) q_W2).1 h, q_bz1]
    rfl
  rw [(M_w Z (by decide) q_W2).2 (q_tne h (by omega) (by omega) (by decide)), q_bz0]
  by_cases c0 : j = 3
  · subst c0
    rw [(M_w Z (by decide) q_W3).1 h, q_bz1]
    rfl
  rw [(M_w Z (by decide) q_W3).2 (q_tne h (by omega) (by omega) (by decide)), q_bz0]
  by_cases c0 : j = 4
  · subst c0
    rw [(M_w Z (by decide) q_W4).1 h, q_bz1]
    rfl
  rw [(M_w Z (by decide) q_W4).2 (q_tne h (by omega) (by omega) (by decide)), q_bz0]
  have c5 : j = 5 := by omega
  subst c5
  rw [(M_w Z (by decide) q_W5).1 h, q_bz1]
  rfl
theorem M_kin0 {E : q_En} {N k op : Nat} {L : q_L} {c : List q_I} {x : List (Nat × Nat)} {τ : jw_M} (Z : q_ZM E k op L c x τ) (h : ∀ j, j < 6 → q_t E k ≠ nI j) : f_M_kindSeen N τ = some (-1, τ) := by
  unfold f_M_kindSeen
  rw [(M_w Z (by decide) q_W0).2 (h 0 (by decide)), q_bz0]
  rw [(M_w Z (by decide) q_W1).2 (h 1 (by decide)), q_bz0]
  rw [(M_w Z (by decide) q_W2).2 (h 2 (by decide)), q_bz0]
  rw [(M_w Z (by decide) q_W3).2 (h 3 (by decide)), q_bz0]
  rw [(M_w Z (by decide) q_W4).2 (h 4 (by decide)), q_bz0]
  rw [(M_w Z (by decide) q_W5).2 (h 5 (by decide)), q_bz0]
theorem M_f163 {N : Nat} {x1 x2 x3 x4 : Int32} {τ : jw_M} : f_M_readRule_163 N x1 x2 x3 x4 τ = some (jx_w τ 0 13 0) := by
  unfold f_M_readRule_163 f_M_readRule_164
  rw [if_pos (Or.inl rfl), q_wS, if_pos rfl]
theorem M_f127 {N : Nat} {x1 x2 x3 x4 : Int32} {τ : jw_M} : f_M_readRule_127 N x1 x2 x3 x4 τ = some (jx_w τ 0 13 0) := by
  unfold f_M_readRule_127 f_M_readRule_128
  rw [if_pos (Or.inl rfl), q_wS, if_pos rfl]
  unfold f_M_readRule_142
  rw [q_wS, if_pos rfl, M_f163, q_wId q_wS]
theorem M_f65 {N : Nat} {x1 x2 x3 : Int32} {τ : jw_M} (h : τ.1 0 13 = 0) : f_M_readRule_65 N x1 x2 x3 τ = some τ := by
  have k : ∀ y0, f_M_readRule_108 N x1 x2 x3 y0 τ = some τ := fun y0 => by
    unfold f_M_readRule_108
    rw [if_pos h, M_f127, q_wId h]
  unfold f_M_readRule_65
  rcases q_w01 (N := N) (y := 237458) (τ := τ) with e | e <;> rw [e]
  · rw [q_y1]; exact k _
  rw [q_y0]
  dsimp only
  rcases q_w01 (N := N) (y := 99682) (τ := τ) with e | e <;> rw [e]
  · rw [q_y1]; exact k _
  rw [q_y0]
  dsimp only
  rcases q_w01 (N := N) (y := 323728) (τ := τ) with e | e <;> rw [e]
  · rw [q_y1]; exact k _
  rw [q_y0]
  exact k _
theorem M_f20 {N : Nat} {x1 x2 : Int32} {τ : jw_M} : f_M_readRule_20 N x1 x2 τ = some (jx_w τ 0 13 0) := by
  unfold f_M_readRule_20 f_M_readRule_21
  rw [if_pos (Or.inl rfl), q_wS, if_pos rfl]
  unfold f_M_readRule_40
  rw [q_wS, if_pos rfl, M_f65 q_wS]
def q_OutR (E : q_En) (L : q_L) (k0 : Nat) (r : Option (Int32 × jw_M)) (s : Option jw_M) : Prop := (∃ k' x V' σ' τ', r = some (1, σ') ∧ s = some τ' ∧ k0 < k' ∧ q_xo x ∧ q_Z E k' 0 (L ++ [x]) [] V' 0 0 0 σ' τ') ∨ q_Bad E r s
theorem Z_53 {E : q_En} {N k k0 V a m : Nat} {L : q_L} {c : List q_I} {σ τ : jw_M} (hN : 300 ≤ N) (G : q_G E) (h8 : L.length < 8) (ha : a ≤ 5) (hk0 : k0 ≤ k) (hc : c = [] ∨ m = 1) (Z : q_Z E k 0 L c V m 0 0 σ τ) : q_OutR E L k0 (f_D_readRule_53 N (nI a) σ) (f_M_readRule_65 N (nI L.length) (nI a) (nI (q_Fm L)) τ) := by
  obtain ⟨a1, a2, _⟩ := C_at G Z.1.1
  have hk : k ≤ E.nt := Z.1.1.2.2.1
  have hT := G.1
  unfold f_D_readRule_53
  rw [a1, cond_true, a2]
  rcases q_dc G hk with ⟨d, hd, e⟩ | ⟨n1, n2⟩
  · have hk1 := q_t_lt G hk e (by omega)
    have w : f_M_readRule_65 N (nI L.length) (nI a) (nI (q_Fm L)) τ = f_M_readRule_108 N (nI L.length) (nI a) (nI (q_Fm L)) (nI d) τ := by
      unfold f_M_readRule_65
      by_cases d0 : d = 0
      · subst d0
        rw [(M_w Z.2.1 (by decide) q_W6).1 e, q_y1]
        rfl
      rw [(M_w Z.2.1 (by decide) q_W6).2 (q_tne e (by omega) (by omega) (by decide)), q_y0]
      dsimp only
      by_cases d1 : d = 1
      · subst d1
        rw [(M_w Z.2.1 (by decide) q_W7).1 e, q_y1]
        rfl
      rw [(M_w Z.2.1 (by decide) q_W7).2 (q_tne e (by omega) (by omega) (by decide)), q_y0]
      dsimp only
      have d2 : d = 2 := by omega
      subst d2
      rw [(M_w Z.2.1 (by decide) q_W8).1 e, q_y1]
      rfl
    obtain ⟨σ1, τ1, b1, b2, b3⟩ := Z_go (N := N) hN G Z hk1
    obtain ⟨σ2, c1, c2⟩ := C_rule (N := N) (a := a) (b := d) b3.1 h8
    rw [w, e, show nI (6 + d) - 6 = nI d from (pk_sub (a := 6 + d) (b := 6) (by omega)).trans (by rw [Nat.add_sub_cancel_left]), e_win1 (fun z => by
      rcases z with z | z
      · exact nI_pos (by omega) z
      · exact absurd z (Int32.not_lt.mpr (nI_le (b := 2) (by omega) (by decide)))), q_bz1]
    dsimp only
    rw [b1, Option.bind_some, c1, Option.bind_some]
    unfold f_D_readSign
    obtain ⟨d1, d2, _⟩ := C_at G c2.1
    rw [d1, cond_true, d2]
    unfold f_M_readRule_108
    rw [if_neg (Z_ne Z), if_neg (nI_pos (by omega))]
    unfold f_M_readRule_128
    rw [if_pos (Or.inr rfl), q_wId Z.2.1.2.2.1, if_neg (Z_ne Z), b2, Option.bind_some]
    unfold f_M_readRule_142
    rw [if_neg (Z_ne b3)]
    by_cases h59 : q_t E (k + 1) = nI 59
    · have hk2 := q_t_lt G b3.1.1.2.2.1 h59 (by decide)
      obtain ⟨σ3, e1, e2, _⟩ := C_go (N := N) G c2 hk2
      obtain ⟨τ2, g1, g2⟩ := M_adv (N := N) hN G b3.1.2.2.1 b3.2.1 hk2
      have p := q_p_1 G hk2
      obtain ⟨zC, zM, z3, z4, z5, z6, z7, z8⟩ := b3
      have g3 := M_rule (a := a) (b := d) h8 (by omega) g2
      rw [if_pos (show q_t E (k + 1) = 59 from h59), e1, show f_M_isMark N 59 τ1 = some (1, τ1) from (M_m (b := 59) G zM (by omega)).1 h59, q_y1]
      dsimp only
      unfold f_M_readRule_164
      have v16 : (jx_w (jx_w (jx_w τ2 7 (4 * L.length) (nI a)) 7 (4 * L.length + 1) (nI d)) 7 (4 * L.length + 2) (nI (q_Fm L))).1 0 16 - nI (q_Fm L) = nI (q_fl c).length := by
        rw [q_wC (by decide), q_wC (by decide), q_wC (by decide), g2.2.2.2.2.1, List.length_nil, Nat.add_zero, pk_sub (by omega), Nat.add_sub_cancel_left]
      rw [if_pos (Or.inr rfl), q_wId zM.2.2.1, if_neg (M_13 zM), g1, Option.bind_some, Option.bind_some, Option.bind_some, show (4 * nI L.length + 1) = nI (4 * L.length + 1) from q_i4 _ 1, show (4 * nI L.length + 2) = nI (4 * L.length + 2) from q_i4 _ 2, show (4 * nI L.length + 3) = nI (4 * L.length + 3) from q_i4 _ 3, q_4x, q_in (show 4 * L.length < 32 by omega) (by decide), cond_true, q_in (show 4 * L.length + 1 < 32 by omega) (by decide), cond_true, q_in (show 4 * L.length + 2 < 32 by omega) (by decide), cond_true, q_in (show 4 * L.length + 3 < 32 by omega) (by decide), cond_true, nI_clamp (show 4 * L.length < 2 ^ 31 by omega), nI_clamp (show 4 * L.length + 1 < 2 ^ 31 by omega), nI_clamp (show 4 * L.length + 2 < 2 ^ 31 by omega), nI_clamp (show 4 * L.length + 3 < 2 ^ 31 by omega), v16]
      dsimp only
      rw [if_pos (Or.inr rfl)]
      refine Or.inl ⟨k + 1 + 1, (a, d, c), V, σ3, _, rfl, rfl, by omega, ⟨ha, show d ≤ 2 by omega, z3, ?_, z5⟩, e2, g3, rfl, rfl, fun y hy => absurd hy (List.not_mem_nil), ?_, ?_, by omega⟩
      · rcases hc with y | y
        · exact Or.inl y
        · exact Or.inr (by rw [z4]; exact y)
      · rw [q_E_a]
        show 2 * (q_E L + c.length + 0 + 0) ≤ _
        omega
      · rw [q_Fm_a]
        show q_Fm L + (q_fl c).length + 0 + 0 ≤ _
        omega
    · rw [if_neg (show ¬ q_t E (k + 1) = 59 from h59), show f_M_isMark N 59 τ1 = some (0, τ1) from (M_m (b := 59) G b3.2.1 (by omega)).2 h59, q_y0, M_f163, Option.bind_some]
      dsimp only
      rw [if_pos (Or.inl rfl)]
      exact Or.inr ⟨_, _, _, rfl, rfl, c2.1, M_fl b3.2.1⟩
  · rw [e_win0 n1, q_bz0]
    unfold f_M_readRule_65
    rw [(M_w Z.2.1 (by decide) q_W6).2 (n2 0 (by decide)), q_y0]
    dsimp only
    rw [(M_w Z.2.1 (by decide) q_W7).2 (n2 1 (by decide)), q_y0]
    dsimp only
    rw [(M_w Z.2.1 (by decide) q_W8).2 (n2 2 (by decide)), q_y0]
    dsimp only
    unfold f_M_readRule_108
    rw [if_neg (Z_ne Z), if_pos (by decide), M_f127]
    exact Or.inr ⟨_, _, _, rfl, rfl, Z.1.1, M_fl Z.2.1⟩
theorem Z_rule {E : q_En} {N k V : Nat} {L : q_L} {σ τ : jw_M} (hN : 300 ≤ N) (G : q_G E) (h8 : L.length < 8) (Z : q_Z E k 0 L [] V 0 0 0 σ τ) : q_OutR E L k (f_D_readRule N σ) (f_M_readRule N (nI L.length) τ) := by
  obtain ⟨a1, a2, _⟩ := C_at G Z.1.1
  have hk : k ≤ E.nt := Z.1.1.2.2.1
  have hT := G.1
  have hnT := G.2.1
  unfold f_D_readRule f_M_readRule
  rw [a1, cond_true, a2]
  rcases q_kc G hk with ⟨j, hj, e⟩ | ⟨n1, n2⟩
  · have hk1 := q_t_lt G hk e (by omega)
    obtain ⟨σ1, τ1, b1, b2, b3⟩ := Z_go (N := N) hN G Z hk1
    rw [e, e_win1 (fun z => by
      rcases z with z | z
      · exact nI_pos (by omega) z
      · exact absurd z (Int32.not_lt.mpr (nI_le (b := 5) (by omega) (by decide)))), q_bz1]
    dsimp only
    rw [b1, Option.bind_some, M_kin Z.2.1 hj e, Option.bind_some]
    dsimp only
    rw [if_neg (nI_pos (by omega)), if_neg (show ¬ (8 : Int32) ≤ nI L.length from nI_ge (b := 8) (by omega) (by decide))]
    unfold f_M_readRule_21
    have v16 : τ.1 0 16 = nI (q_Fm L) := Z.2.1.2.2.2.2.1
    rw [if_pos (Or.inr rfl), q_wId Z.2.1.2.2.1, if_neg (Z_ne Z), b2, Option.bind_some, v16]
    unfold f_M_readRule_40
    rw [if_neg (Z_ne b3)]
    obtain ⟨d1, d2, _⟩ := C_at G b3.1.1
    rw [d1, cond_true, d2]
    by_cases h9 : q_t E (k + 1) = nI 9
    · have hk2 := q_t_lt G b3.1.1.2.2.1 h9 (by decide)
      obtain ⟨σ2, τ2, g1, g2, g3⟩ := Z_go (N := N) hN G b3 hk2
      rw [if_pos (show q_t E (k + 1) = 9 from h9), (M_w b3.2.1 (by decide) q_W9).1 h9, q_y1, g1, Option.bind_some]
      dsimp only
      rw [g2, Option.bind_some]
      rcases Z_cond (N := N) hN G 3 0 64 64 rfl (by decide) (by decide) (k + 1 + 1) [] V 0 0 σ2 τ2 (by decide) (Z_pd g3 (by omega) (by omega)) with ⟨k', c', V', σ', τ', r1, r2, r3, r4⟩ | ⟨k', σ', τ', r1, r2, r3, r4⟩
      · rw [show f_D_readCondition N 64 0 σ2 = _ from r1, q_bz1, r2, Option.bind_some]
        exact Z_53 hN G h8 (by omega) (by omega) (Or.inr rfl) (Z_pd r4 (by omega) (by omega))
      · rw [show f_D_readCondition N 64 0 σ2 = _ from r1, q_bz0, r2, Option.bind_some, M_f65 r4.1]
        exact Or.inr ⟨k', σ', τ', rfl, rfl, r3, r4⟩
    · rw [if_neg (show ¬ q_t E (k + 1) = 9 from h9), (M_w b3.2.1 (by decide) q_W9).2 h9, q_y0]
      exact Z_53 hN G h8 (by omega) (by omega) (Or.inl rfl) (Z_pd b3 (by omega) (by omega))
  · rw [e_win0 n1, q_bz0, M_kin0 Z.2.1 n2, Option.bind_some]
    dsimp only
    rw [if_pos (by decide), M_f20]
    exact Or.inr ⟨k, σ, _, rfl, rfl, Z.1.1, M_fl Z.2.1⟩
