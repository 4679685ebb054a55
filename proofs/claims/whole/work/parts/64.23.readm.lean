/-! ===== pure: reading, the reference's small steps ===== -/
theorem q_wId {σ : jw_M} {a i : Nat} {v : Int32} (h : σ.1 a i = v) : jx_w σ a i v = σ := by
  have e : (jx_w σ a i v).1 = σ.1 := by
    funext c j
    rw [q_w]
    by_cases z : c = a ∧ j = i
    · rw [if_pos z, z.1, z.2, h]
    · rw [if_neg z]
  exact Prod.ext e rfl
theorem q_y0 {α : Type} {A B : Int32 × jw_M → Option α} {σ : jw_M} : ((some ((0 : Int32), σ)).bind fun z => if z.1 = 0 then A z else B z) = A (0, σ) := by
  rw [Option.bind_some]
  exact if_pos rfl
theorem q_y1 {α : Type} {A B : Int32 × jw_M → Option α} {σ : jw_M} : ((some ((1 : Int32), σ)).bind fun z => if z.1 = 0 then A z else B z) = B (1, σ) := by
  rw [Option.bind_some]
  exact if_neg (show ¬ (1 : Int32) = 0 by decide)
theorem q_cM_o {σ σ' : jw_M} {X : Nat} (g : ∀ i, i < 2 * X → σ'.1 8 i = σ.1 8 i) : ∀ (c : List (Nat × Nat)) (e : Nat), e + c.length ≤ X → q_cM (q_Ss σ) e c → q_cM (q_Ss σ') e c :=
  q_cM_t (fun k h1 h2 => by
    unfold q_Ss
    rw [if_neg (by omega), if_neg (by omega), g _ (by omega)])
theorem q_rM_o {σ σ' : jw_M} {X Y : Nat} (hY : Y ≤ 8) (g0 : ∀ i, i < 4 * Y → σ'.1 7 i = σ.1 7 i) (g : ∀ i, i < 2 * X → σ'.1 8 i = σ.1 8 i) : ∀ (L : q_L) (r e : Nat), r + L.length ≤ Y → e + q_Fm L ≤ X → q_rM (q_Ss σ) r e L → q_rM (q_Ss σ') r e L :=
  q_rM_t (fun k h1 h2 => by
    unfold q_Ss
    rw [if_pos (by omega), if_pos (by omega), g0 _ (by omega)]) (fun k h1 h2 => by
    unfold q_Ss
    rw [if_neg (by omega), if_neg (by omega), g _ (by omega)])
theorem q_cur_k {B : Nat → Nat} {T p : Nat} {σ σ' : jw_M} (h : q_cur B T p σ) (g : ∀ i, 8 ≤ i → i ≤ 12 → σ'.1 0 i = σ.1 0 i) (g2 : σ'.2 = σ.2) : q_cur B T p σ' := by
  obtain ⟨h1, h2, h3, h4, h5⟩ := h
  refine ⟨h1, by rw [g 9 (by decide) (by decide)]; exact h2, by rw [g 10 (by decide) (by decide)]; exact h3, by rw [g 8 (by decide) (by decide)]; exact h4, fun z => ?_⟩
  rw [g 12 (by decide) (by decide), g2]
  exact h5 z
theorem q_ty'_w {B : Nat → Nat} {T a i : Nat} {v : Int32} {σ : jw_M} (h : q_ty' B T σ) (ha : a ≠ 6) (hb : a ≠ 0 ∨ i ≠ 7) : q_ty' B T (jx_w σ a i v) := by
  refine ⟨h.1, ?_, fun j hj => by rw [q_wC (Ne.symm ha)]; exact h.2.2 j hj⟩
  rcases hb with z | z
  · rw [q_wC (Ne.symm z)]; exact h.2.1
  · rw [q_wI (Ne.symm z)]; exact h.2.1
def q_Fl (E : q_En) (k : Nat) (τ : jw_M) : Prop := τ.1 0 13 = 0 ∧ τ.1 0 9 = nI (q_p E k) ∧ q_fm q_rdM E.t τ
theorem M_fl {E : q_En} {k op : Nat} {L : q_L} {c : List q_I} {x : List (Nat × Nat)} {τ : jw_M} (Z : q_ZM E k op L c x τ) : q_Fl E k (jx_w τ 0 13 0) :=
  ⟨q_wS, by rw [q_wI (by decide)]; exact Z.2.1.2.1, q_fm_w Z.2.2.2.2.2.2.2 rfl⟩
theorem M_13 {E : q_En} {k op : Nat} {L : q_L} {c : List q_I} {x : List (Nat × Nat)} {τ : jw_M} (Z : q_ZM E k op L c x τ) : ¬ τ.1 0 13 = 0 := by
  rw [Z.2.2.1]
  decide
theorem M_op {E : q_En} {k op op' : Nat} {L : q_L} {c : List q_I} {x : List (Nat × Nat)} {τ : jw_M} (hL : L.length ≤ 8) (Z : q_ZM E k op L c x τ) : q_ZM E k op' L c x (jx_w τ 0 17 (nI op')) := by
  obtain ⟨z1, z2, z3, z4, z5, z6, z7, z8⟩ := Z
  exact ⟨q_ty'_w z1 (by decide) (Or.inr (by decide)), q_cur_k z2 (fun i _ _ => q_wI (by omega)) rfl, by rw [q_wI (by decide)]; exact z3, q_wS, by rw [q_wI (by decide)]; exact z5, q_rM_o (X := 0 + q_Fm L) (Y := 8) (by decide) (fun i _ => q_wC (by decide)) (fun i _ => q_wC (by decide)) L 0 0 (by omega) (Nat.le_refl _) z6, q_cM_o (X := q_Fm L + (q_fl c ++ x).length) (fun i _ => q_wC (by decide)) _ _ (Nat.le_refl _) z7, q_fm_w z8 rfl⟩
theorem M_adv {E : q_En} {N k op : Nat} {L : q_L} {c : List q_I} {x : List (Nat × Nat)} {τ : jw_M} (hN : 300 ≤ N) (G : q_G E) (hL : L.length ≤ 8) (Z : q_ZM E k op L c x τ) (h : k < E.nt) : ∃ τ', f_M_advance N τ = some τ' ∧ q_ZM E (k + 1) op L c x τ' := by
  obtain ⟨z1, z2, z3, z4, z5, z6, z7, z8⟩ := Z
  have e := q_ed_b (B := E.B) (G.2.2.1 k h)
  obtain ⟨τ', g1, g2, g3⟩ := e_adv (N := N) hN e.2.1 z1 z2.2.2.1
  refine ⟨τ', g1, q_ty'_k z1 g3, g2, by rw [g3.1 0 13 rfl]; exact z3, by rw [g3.1 0 17 rfl]; exact z4, by rw [g3.1 0 16 rfl]; exact z5, q_rM_o (X := 0 + q_Fm L) (Y := 8) (by decide) (fun i _ => g3.1 7 i rfl) (fun i _ => g3.1 8 i rfl) L 0 0 (by omega) (Nat.le_refl _) z6, q_cM_o (X := q_Fm L + (q_fl c ++ x).length) (fun i _ => g3.1 8 i rfl) _ _ (Nat.le_refl _) z7, q_fm_t z8 (q_fm_m g3 (fun a i y => ?_))⟩
  by_cases ha : a = 0
  · subst ha
    unfold q_rdM at y
    unfold q_ad
    simp at y ⊢
    omega
  · unfold q_ad
    rw [show (a == 0) = false by simpa using ha]
    rfl
theorem q_2x (n : Nat) : (2 : Int32) * nI n = nI (2 * n) := by
  show nI 2 * nI n = _
  rw [pk_mul]
theorem M_step {E : q_En} {N k op a b : Nat} {L : q_L} {c : List q_I} {x : List (Nat × Nat)} {τ : jw_M} (hL : L.length ≤ 8) (Z : q_ZM E k op L c x τ) (hn : q_Fm L + (q_fl c).length + x.length < 200) : ∃ τ', f_M_step N (nI a) (nI b) τ = some τ' ∧ q_ZM E k op L c (x ++ [(a, b)]) τ' := by
  obtain ⟨z1, z2, z3, z4, z5, z6, z7, z8⟩ := Z
  unfold f_M_step
  generalize hn' : q_Fm L + (q_fl c).length + x.length = n at *
  rw [z5, q_2x, q_in (show 2 * n < 400 by omega) (by decide), cond_true, nI_clamp (by omega), q_wC (show (0 : Nat) ≠ 8 by decide), z5, q_2x, nI_1, q_in (show 2 * n + 1 < 400 by omega) (by decide), cond_true, nI_clamp (by omega), q_wC (show (0 : Nat) ≠ 8 by decide), q_wC (show (0 : Nat) ≠ 8 by decide), z5, nI_1]
  have g8 : ∀ i, i < 2 * n → (jx_w (jx_w (jx_w τ 8 (2 * n) (nI a)) 8 (2 * n + 1) (nI b)) 0 16 (nI (n + 1))).1 8 i = τ.1 8 i := fun i hi => by
    rw [q_wC (by decide), q_wI (by omega), q_wI (by omega)]
  refine ⟨_, rfl, q_ty'_w (q_ty'_w (q_ty'_w z1 (by decide) (Or.inl (by decide))) (by decide) (Or.inl (by decide))) (by decide) (Or.inr (by decide)), q_cur_k z2 (fun i _ _ => by rw [q_wI (by omega), q_wC (by decide), q_wC (by decide)]) rfl, ?_, ?_, ?_, ?_, ?_, q_fm_w (q_fm_w (q_fm_w z8 rfl) rfl) rfl⟩
  · rw [q_wI (by decide), q_wC (by decide), q_wC (by decide)]; exact z3
  · rw [q_wI (by decide), q_wC (by decide), q_wC (by decide)]; exact z4
  · rw [q_wS, List.length_append, List.length_singleton, show q_Fm L + (q_fl c).length + (x.length + 1) = n + 1 by omega]
  · exact q_rM_o (X := n) (Y := 8) (by decide) (fun i _ => by rw [q_wC (by decide), q_wC (by decide), q_wC (by decide)]) g8 L 0 0 (by omega) (by omega) z6
  · rw [← List.append_assoc]
    refine q_cM_a _ _ (q_cM_o (X := n) g8 _ _ (by rw [List.length_append]; omega) z7) ?_
    rw [List.length_append, show q_Fm L + ((q_fl c).length + x.length) = n by omega]
    refine ⟨?_, ?_, trivial⟩
    · unfold q_Ss
      rw [if_neg (by omega), show 126 + 2 * n - 126 = 2 * n by omega, q_wC (by decide), q_wI (by omega), q_wS]
    · unfold q_Ss
      rw [if_neg (by omega), show 126 + 2 * n + 1 - 126 = 2 * n + 1 by omega, q_wC (by decide), q_wS]
theorem M_cl {E : q_En} {k op : Nat} {L : q_L} {c : List q_I} {x : List (Nat × Nat)} {I : q_I} {τ : jw_M} (Z : q_ZM E k op L c x τ) (h : q_fl1 I = x) : q_ZM E k op L (c ++ [I]) [] τ := by
  obtain ⟨z1, z2, z3, z4, z5, z6, z7, z8⟩ := Z
  refine ⟨z1, z2, z3, z4, ?_, z6, ?_, z8⟩
  · rw [z5, q_fl_a, h, List.length_append, List.length_nil, Nat.add_zero, Nat.add_assoc]
  · rw [q_fl_a, h, List.append_nil]
    exact z7
/-! ===== the reference's tests of the token ===== -/
theorem M_w {E : q_En} {N k op j : Nat} {L : q_L} {c : List q_I} {x : List (Nat × Nat)} {τ : jw_M} {y : Int64} (Z : q_ZM E k op L c x τ) (hj : j < 18) (hy : y = lN (q_wn 0 (q_nms.getD j []))) : (q_t E k = nI j → f_M_isWord N y τ = some (1, τ)) ∧ (q_t E k ≠ nI j → f_M_isWord N y τ = some (0, τ)) := by
  have e := e_isWord (N := N) Z.2.1 hj hy
  refine ⟨fun h => ?_, fun h => ?_⟩
  · rw [e, decide_eq_true (show q_cod E.B E.T (q_p E k) = nI j from h), cond_true]
  · rw [e, decide_eq_false (show ¬ q_cod E.B E.T (q_p E k) = nI j from h), cond_false]
theorem M_m {E : q_En} {N k op b : Nat} {L : q_L} {c : List q_I} {x : List (Nat × Nat)} {τ : jw_M} (G : q_G E) (Z : q_ZM E k op L c x τ) (hb : b = 40 ∨ b = 41 ∨ b = 59 ∨ b = 60 ∨ b = 61 ∨ b = 62) : (q_t E k = nI b → f_M_isMark N (nI b) τ = some (1, τ)) ∧ (q_t E k ≠ nI b → f_M_isMark N (nI b) τ = some (0, τ)) := by
  have e := e_isMark (N := N) Z.2.1 (fun h => G.2.2.2.2 _ h) hb
  refine ⟨fun h => ?_, fun h => ?_⟩
  · rw [e, decide_eq_true (show q_cod E.B E.T (q_p E k) = nI b from h), cond_true]
  · rw [e, decide_eq_false (show ¬ q_cod E.B E.T (q_p E k) = nI b from h), cond_false]
theorem q_w01 {N : Nat} {y : Int64} {τ : jw_M} : f_M_isWord N y τ = some (1, τ) ∨ f_M_isWord N y τ = some (0, τ) := by
  unfold f_M_isWord
  by_cases c : τ.1 0 8 = 1
  · rw [if_pos c]
    by_cases d : lg_cmp (τ.2 0 11) y = 0
    · rw [if_pos d]
      exact Or.inl rfl
    · rw [if_neg d]
      exact Or.inr rfl
  · rw [if_neg c]
    exact Or.inr rfl
theorem M_fa {N : Nat} {τ : jw_M} : ∃ r, f_M_factSeen N τ = some (r, τ) := by
  unfold f_M_factSeen
  rcases q_w01 (N := N) (y := 168984) (τ := τ) with e | e <;> rw [e]
  · rw [q_bz1]; exact ⟨_, rfl⟩
  rw [q_bz0]
  rcases q_w01 (N := N) (y := 174877292) (τ := τ) with e | e <;> rw [e]
  · rw [q_bz1]; exact ⟨_, rfl⟩
  rw [q_bz0]
  rcases q_w01 (N := N) (y := 9454493) (τ := τ) with e | e <;> rw [e]
  · rw [q_bz1]; exact ⟨_, rfl⟩
  rw [q_bz0]
  rcases q_w01 (N := N) (y := 394725) (τ := τ) with e | e <;> rw [e]
  · rw [q_bz1]; exact ⟨_, rfl⟩
  rw [q_bz0]
  rcases q_w01 (N := N) (y := 212302449) (τ := τ) with e | e <;> rw [e]
  · rw [q_bz1]; exact ⟨_, rfl⟩
  rw [q_bz0]
  exact ⟨_, rfl⟩
theorem q_tne {d : Int32} {i j : Nat} (h : d = nI i) (n : i ≠ j) (hi : i < 2 ^ 31) (hj : j < 2 ^ 31) : d ≠ nI j := fun z => n ((nI_eq hi hj).mp (h.symm.trans z))
theorem M_fac {E : q_En} {N k op f : Nat} {L : q_L} {c : List q_I} {x : List (Nat × Nat)} {τ : jw_M} (Z : q_ZM E k op L c x τ) (hf : f < 5) (h : q_t E k = nI (13 + f)) : f_M_factSeen N τ = some (nI f, τ) := by
  unfold f_M_factSeen
  by_cases c0 : f = 0
  · subst c0
    rw [(M_w Z (by decide) q_W13).1 h, q_bz1]
    rfl
  rw [(M_w Z (by decide) q_W13).2 (q_tne h (by omega) (by omega) (by decide)), q_bz0]
  by_cases c0 : f = 1
  · subst c0
    rw [(M_w Z (by decide) q_W14).1 h, q_bz1]
    rfl
  rw [(M_w Z (by decide) q_W14).2 (q_tne h (by omega) (by omega) (by decide)), q_bz0]
  by_cases c0 : f = 2
  · subst c0
    rw [(M_w Z (by decide) q_W15).1 h, q_bz1]
    rfl
  rw [(M_w Z (by decide) q_W15).2 (q_tne h (by omega) (by omega) (by decide)), q_bz0]
  by_cases c0 : f = 3
  · subst c0
    rw [(M_w Z (by decide) q_W16).1 h, q_bz1]
    rfl
  rw [(M_w Z (by decide) q_W16).2 (q_tne h (by omega) (by omega) (by decide)), q_bz0]
  have c4 : f = 4 := by omega
  subst c4
  rw [(M_w Z (by decide) q_W17).1 h, q_bz1]
  rfl
theorem M_fac0 {E : q_En} {N k op : Nat} {L : q_L} {c : List q_I} {x : List (Nat × Nat)} {τ : jw_M} (Z : q_ZM E k op L c x τ) (h : ∀ f, f < 5 → q_t E k ≠ nI (13 + f)) : f_M_factSeen N τ = some (-1, τ) := by
  unfold f_M_factSeen
  rw [(M_w Z (by decide) q_W13).2 (h 0 (by decide)), q_bz0]
  rw [(M_w Z (by decide) q_W14).2 (h 1 (by decide)), q_bz0]
  rw [(M_w Z (by decide) q_W15).2 (h 2 (by decide)), q_bz0]
  rw [(M_w Z (by decide) q_W16).2 (h 3 (by decide)), q_bz0]
  rw [(M_w Z (by decide) q_W17).2 (h 4 (by decide)), q_bz0]
theorem M_rv0 {N : Nat} {x1 : Int32} {τ : jw_M} : f_M_readValue_36 N x1 τ = some (jx_w τ 0 13 0) := by
  unfold f_M_readValue_36 f_M_readValue_37
  rw [if_pos (Or.inl rfl), q_wS, if_pos rfl]
theorem M_failv {N : Nat} {τ : jw_M} (h : τ.1 0 13 = 0) : f_M_readValue N τ = some τ := by
  unfold f_M_readValue
  obtain ⟨r, e⟩ := M_fa (N := N) (τ := τ)
  rw [e, Option.bind_some]
  dsimp only
  rw [if_pos h, M_rv0, q_wId h]
theorem M_nov {E : q_En} {N k op : Nat} {L : q_L} {c : List q_I} {x : List (Nat × Nat)} {τ : jw_M} (Z : q_ZM E k op L c x τ) (h : q_nov (q_t E k)) : f_M_readValue N τ = some (jx_w τ 0 13 0) := by
  unfold f_M_readValue
  rw [M_fac0 Z (fun f hf z => ?_), Option.bind_some]
  · dsimp only
    rw [if_neg (M_13 Z), if_neg (show ¬ (0 : Int32) ≤ -1 by decide)]
    by_cases c2 : τ.1 0 8 = 2
    · rw [if_pos c2]
      rcases (e_numb Z.2.1).1 c2 with ⟨a, _⟩ | ⟨v, hv, _, a⟩
      · rw [a, if_pos (by decide), M_rv0]
      · exact absurd (show (1000 : Int32) ≤ q_t E k by rw [show q_t E k = nI (1000 + v) from a]; exact nI_le (a := 1000) (by omega) (by omega)) h.1
    · rw [if_neg c2, M_rv0]
  · rw [z] at h
    rcases h.2 with y | y
    · exact absurd y (Int32.not_lt.mpr (nI_le (a := 13) (by omega) (by omega)))
    · exact absurd y (Int32.not_lt.mpr (nI_le (b := 17) (by omega) (by decide)))
theorem M_val {E : q_En} {N k op : Nat} {L : q_L} {c : List q_I} {x : List (Nat × Nat)} {v : Bool × Nat} {τ : jw_M} (hN : 300 ≤ N) (G : q_G E) (hL : L.length ≤ 8) (Z : q_ZM E k op L c x τ) (h : q_isv (q_t E k) v) (hk : k < E.nt) (hn : q_Fm L + (q_fl c).length + x.length < 200) : ∃ τ', f_M_readValue N τ = some τ' ∧ q_ZM E (k + 1) op L c (x ++ [q_fv v]) τ' := by
  obtain ⟨v1, v2⟩ := v
  rcases h with ⟨h1, h2, h3⟩ | ⟨h1, h2, h3⟩
  · dsimp only at h1 h2 h3
    subst h1
    obtain ⟨τ1, s1, s2⟩ := M_step (N := N) (a := 1) (b := v2) hL Z hn
    obtain ⟨τ2, a1, a2⟩ := M_adv (N := N) hN G hL s2 hk
    refine ⟨τ2, ?_, a2⟩
    unfold f_M_readValue
    rw [M_fac Z h2 h3, Option.bind_some]
    dsimp only
    rw [if_neg (M_13 Z), if_pos (show (0 : Int32) ≤ nI v2 from nI_le (a := 0) (by omega) (by omega))]
    unfold f_M_readValue_32 f_M_readValue_37
    rw [if_pos (Or.inr rfl), q_wId Z.2.2.1, if_neg (M_13 Z), if_neg (nI_pos (by omega))]
    unfold f_M_readValue_57 f_M_readValue_69
    rw [if_neg (nI_pos (by omega)), show f_M_step N 1 (nI v2) τ = some τ1 from s1, Option.bind_some, a1, Option.bind_some]
  · dsimp only at h1 h2 h3
    subst h1
    obtain ⟨τ1, s1, s2⟩ := M_step (N := N) (a := 0) (b := v2) hL Z hn
    obtain ⟨τ2, a1, a2⟩ := M_adv (N := N) hN G hL s2 hk
    refine ⟨τ2, ?_, a2⟩
    obtain ⟨n1, n2⟩ := (e_numb Z.2.1).2 v2 h2 h3
    unfold f_M_readValue
    rw [M_fac0 Z (fun f hf => q_tne h3 (by omega) (by omega) (by omega)), Option.bind_some]
    dsimp only
    rw [if_neg (M_13 Z), if_neg (show ¬ (0 : Int32) ≤ -1 by decide), if_pos n1, n2, if_neg (nI_pos (by omega))]
    unfold f_M_readValue_32 f_M_readValue_37
    rw [if_pos (Or.inr rfl), q_wId Z.2.2.1, if_neg (M_13 Z), if_pos (show (-1 : Int32) < 0 by decide)]
    unfold f_M_readValue_57 f_M_readValue_69
    rw [if_pos (show (-1 : Int32) < 0 by decide), n2, show f_M_step N 0 (nI v2) τ = some τ1 from s1, Option.bind_some, a1, Option.bind_some]
