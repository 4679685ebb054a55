/-! ===== pure: reading: how both stand ===== -/
def q_Ss (σ : jw_M) : q_f := fun i => if i < 126 then σ.1 7 (i - 94) else σ.1 8 (i - 126)
def q_E : q_L → Nat
  | [] => 0
  | x :: L => x.2.2.length + q_E L
def q_Fm : q_L → Nat
  | [] => 0
  | x :: L => (q_fl x.2.2).length + q_Fm L
theorem q_E_a : ∀ (L : q_L) (x : Nat × Nat × List q_I), q_E (L ++ [x]) = q_E L + x.2.2.length
  | [], x => by
    show x.2.2.length + 0 = 0 + x.2.2.length
    omega
  | y :: L, x => by rw [List.cons_append, q_E, q_E, q_E_a L x]; omega
theorem q_Fm_a : ∀ (L : q_L) (x : Nat × Nat × List q_I), q_Fm (L ++ [x]) = q_Fm L + (q_fl x.2.2).length
  | [], x => by
    show (q_fl x.2.2).length + 0 = 0 + (q_fl x.2.2).length
    omega
  | y :: L, x => by rw [List.cons_append, q_Fm, q_Fm, q_Fm_a L x]; omega
theorem q_fl_a : ∀ (c : List q_I) (x : q_I), q_fl (c ++ [x]) = q_fl c ++ q_fl1 x
  | [], x => by
    show q_fl1 x ++ [] = [] ++ q_fl1 x
    rw [List.append_nil, List.nil_append]
  | y :: c, x => by rw [List.cons_append, q_fl, q_fl, q_fl_a c x, List.append_assoc]
def q_cB (V : Nat) (τ : jw_M) : Nat → List q_I → Prop
  | _, [] => True
  | e, x :: c => τ.1 88 e = nI x.1 ∧ (x.1 < 3 → ∃ a b, a < V ∧ b < V ∧ τ.1 89 e = nI a ∧ τ.1 90 e = nI b ∧ q_vl 84 τ a x.2.1 ∧ q_vl 84 τ b x.2.2) ∧ q_cB V τ (e + 1) c
def q_rB (V : Nat) (τ : jw_M) : Nat → Nat → q_L → Prop
  | _, _, [] => True
  | r, e, x :: L => τ.1 85 r = nI x.1 ∧ τ.1 86 r = nI x.2.1 ∧ τ.1 87 r = nI (e + x.2.2.length) ∧ q_cB V τ e x.2.2 ∧ q_rB V τ (r + 1) (e + x.2.2.length) L
theorem q_vl_k {τ τ' : jw_M} {V a : Nat} {v : Bool × Nat} (g : ∀ i, 5 ≤ i → i < V → τ'.1 91 i = τ.1 91 i) (ha : a < V) (h : q_vl 84 τ a v) : q_vl 84 τ' a v :=
  ⟨h.1, fun y => ⟨(h.2 y).1, by rw [show 84 + 7 = 91 from rfl, g a (h.2 y).1 ha]; exact (h.2 y).2⟩⟩
theorem q_cB_k {τ τ' : jw_M} {V V' X : Nat} (g1 : ∀ c i, 88 ≤ c → c ≤ 90 → i < X → τ'.1 c i = τ.1 c i) (g2 : ∀ i, 5 ≤ i → i < V → τ'.1 91 i = τ.1 91 i) (hV : V ≤ V') : ∀ (c : List q_I) (e : Nat), e + c.length ≤ X → q_cB V τ e c → q_cB V' τ' e c
  | [], _, _, _ => trivial
  | x :: c, e, hl, h => by
    obtain ⟨h1, h2, h3⟩ := h
    rw [List.length_cons] at hl
    refine ⟨by rw [g1 88 e (by decide) (by decide) (by omega)]; exact h1, fun z => ?_, q_cB_k g1 g2 hV c (e + 1) (by omega) h3⟩
    obtain ⟨a, b, ha, hb, e1, e2, v1, v2⟩ := h2 z
    exact ⟨a, b, by omega, by omega, by rw [g1 89 e (by decide) (by decide) (by omega)]; exact e1, by rw [g1 90 e (by decide) (by decide) (by omega)]; exact e2, q_vl_k g2 ha v1, q_vl_k g2 hb v2⟩
theorem q_rB_k {τ τ' : jw_M} {V V' X Y : Nat} (g0 : ∀ c i, 85 ≤ c → c ≤ 87 → i < Y → τ'.1 c i = τ.1 c i) (g1 : ∀ c i, 88 ≤ c → c ≤ 90 → i < X → τ'.1 c i = τ.1 c i) (g2 : ∀ i, 5 ≤ i → i < V → τ'.1 91 i = τ.1 91 i) (hV : V ≤ V') : ∀ (L : q_L) (r e : Nat), r + L.length ≤ Y → e + q_E L ≤ X → q_rB V τ r e L → q_rB V' τ' r e L
  | [], _, _, _, _, _ => trivial
  | x :: L, r, e, hl, hx, h => by
    obtain ⟨h1, h2, h3, h4, h5⟩ := h
    rw [List.length_cons] at hl
    rw [q_E] at hx
    exact ⟨by rw [g0 85 r (by decide) (by decide) (by omega)]; exact h1, by rw [g0 86 r (by decide) (by decide) (by omega)]; exact h2, by rw [g0 87 r (by decide) (by decide) (by omega)]; exact h3, q_cB_k g1 g2 hV _ _ (by omega) h4, q_rB_k g0 g1 g2 hV L (r + 1) _ (by omega) (by omega) h5⟩
theorem q_cB_a {τ : jw_M} {V : Nat} {x : q_I} : ∀ (c : List q_I) (e : Nat), q_cB V τ e c → q_cB V τ (e + c.length) [x] → q_cB V τ e (c ++ [x])
  | [], e, _, h => h
  | y :: c, e, h1, h2 => by
    rw [List.length_cons] at h2
    exact ⟨h1.1, h1.2.1, q_cB_a c (e + 1) h1.2.2 (by rw [show e + 1 + c.length = e + (c.length + 1) by omega]; exact h2)⟩
theorem q_rB_a {τ : jw_M} {V : Nat} {x : Nat × Nat × List q_I} : ∀ (L : q_L) (r e : Nat), q_rB V τ r e L → q_rB V τ (r + L.length) (e + q_E L) [x] → q_rB V τ r e (L ++ [x])
  | [], r, e, _, h => h
  | y :: L, r, e, h1, h2 => by
    rw [List.length_cons, q_E] at h2
    exact ⟨h1.1, h1.2.1, h1.2.2.1, h1.2.2.2.1, q_rB_a L (r + 1) _ h1.2.2.2.2 (by rw [show r + 1 + L.length = r + (L.length + 1) by omega, show e + y.2.2.length + q_E L = e + (y.2.2.length + q_E L) by omega]; exact h2)⟩
theorem q_cB_0 {τ : jw_M} {V : Nat} (hV : V ≤ 105) : ∀ (c : List q_I) (e : Nat), q_cB V τ e c → q_c0 84 τ e c
  | [], _, _ => trivial
  | x :: c, e, h => ⟨h.1, fun z => by
      obtain ⟨a, b, ha, hb, r⟩ := h.2.1 z
      exact ⟨a, b, by omega, by omega, r⟩, q_cB_0 hV c (e + 1) h.2.2⟩
theorem q_rB_0 {τ : jw_M} {V : Nat} (hV : V ≤ 105) : ∀ (L : q_L) (r e : Nat), e + q_E L ≤ 100 → q_rB V τ r e L → q_r0 84 τ r e L
  | [], _, _, _, _ => trivial
  | x :: L, r, e, hE, h => by
    rw [q_E] at hE
    exact ⟨h.1, h.2.1, h.2.2.1, by omega, q_cB_0 hV _ _ h.2.2.2.1, q_rB_0 hV L (r + 1) _ (by omega) h.2.2.2.2⟩
theorem q_cM_t {S S' : q_f} {X : Nat} (g : ∀ k, 126 ≤ k → k < 126 + 2 * X → S' k = S k) : ∀ (c : List (Nat × Nat)) (e : Nat), e + c.length ≤ X → q_cM S e c → q_cM S' e c
  | [], _, _, _ => trivial
  | y :: c, e, hl, h => by
    rw [List.length_cons] at hl
    exact ⟨by rw [g _ (by omega) (by omega)]; exact h.1, by rw [g _ (by omega) (by omega)]; exact h.2.1, q_cM_t g c (e + 1) (by omega) h.2.2⟩
theorem q_rM_t {S S' : q_f} {X Y : Nat} (g0 : ∀ k, 94 ≤ k → k < 94 + 4 * Y → S' k = S k) (g : ∀ k, 126 ≤ k → k < 126 + 2 * X → S' k = S k) : ∀ (L : q_L) (r e : Nat), r + L.length ≤ Y → e + q_Fm L ≤ X → q_rM S r e L → q_rM S' r e L
  | [], _, _, _, _, _ => trivial
  | x :: L, r, e, hl, hx, h => by
    obtain ⟨h1, h2, h3, h4, h5, h6, h7⟩ := h
    rw [List.length_cons] at hl
    rw [q_Fm] at hx
    exact ⟨by rw [g0 _ (by omega) (by omega)]; exact h1, by rw [g0 _ (by omega) (by omega)]; exact h2, by rw [g0 _ (by omega) (by omega)]; exact h3, by rw [g0 _ (by omega) (by omega)]; exact h4, h5, q_cM_t g _ _ (by omega) h6, q_rM_t g0 g L (r + 1) _ (by omega) (by omega) h7⟩
theorem q_cM_a {S : q_f} {d : List (Nat × Nat)} : ∀ (c : List (Nat × Nat)) (e : Nat), q_cM S e c → q_cM S (e + c.length) d → q_cM S e (c ++ d)
  | [], e, _, h => h
  | y :: c, e, h1, h2 => by
    rw [List.length_cons] at h2
    exact ⟨h1.1, h1.2.1, q_cM_a c (e + 1) h1.2.2 (by rw [show e + 1 + c.length = e + (c.length + 1) by omega]; exact h2)⟩
theorem q_rM_a {S : q_f} {x : Nat × Nat × List q_I} : ∀ (L : q_L) (r e : Nat), q_rM S r e L → q_rM S (r + L.length) (e + q_Fm L) [x] → q_rM S r e (L ++ [x])
  | [], r, e, _, h => h
  | y :: L, r, e, h1, h2 => by
    rw [List.length_cons, q_Fm] at h2
    obtain ⟨a1, a2, a3, a4, a5, a6, a7⟩ := h1
    exact ⟨a1, a2, a3, a4, a5, a6, q_rM_a L (r + 1) _ a7 (by rw [show r + 1 + L.length = r + (L.length + 1) by omega, show e + (q_fl y.2.2).length + q_Fm L = e + ((q_fl y.2.2).length + q_Fm L) by omega]; exact h2)⟩
/-- the text as a whole, and both memories at the beginning -/
def q_En : Type := (Nat → Nat) × Nat × Nat × jw_M × jw_M
def q_En.B (E : q_En) : Nat → Nat := E.1
def q_En.T (E : q_En) : Nat := E.2.1
def q_En.nt (E : q_En) : Nat := E.2.2.1
def q_En.s (E : q_En) : jw_M := E.2.2.2.1
def q_En.t (E : q_En) : jw_M := E.2.2.2.2
def q_p (E : q_En) (k : Nat) : Nat := q_ps E.B E.T k
def q_t (E : q_En) (k : Nat) : Int32 := q_cod E.B E.T (q_p E k)
def q_G (E : q_En) : Prop := E.T ≤ 200 ∧ E.nt ≤ E.T ∧ (∀ j, j < E.nt → q_p E j < E.T) ∧ q_p E E.nt = E.T ∧ ∀ i, i < E.T → E.B i < 256
def q_rdC (c i : Nat) : Bool := (c == 80 && i == 4) || (decide (84 ≤ c) && decide (c ≤ 91))
def q_rdM (c i : Nat) : Bool := (c == 0 && decide (8 ≤ i) && decide (i ≤ 17)) || c == 7 || c == 8
def q_Dr (L : q_L) (c : List q_I) (V : Nat) (σ : jw_M) : Prop := σ.1 84 0 = nI L.length ∧ L.length ≤ 8 ∧ σ.1 84 1 = nI (q_E L + c.length) ∧ σ.1 84 9 = nI (5 + V) ∧ q_rB (5 + V) σ 0 0 L ∧ q_cB (5 + V) σ (q_E L) c
theorem q_Dr_k {L : q_L} {c : List q_I} {V : Nat} {σ σ' : jw_M} (g : ∀ c i, 84 ≤ c → c ≤ 91 → σ'.1 c i = σ.1 c i) (h : q_Dr L c V σ) : q_Dr L c V σ' := by
  obtain ⟨h1, h2, h3, h4, h5, h6⟩ := h
  exact ⟨by rw [g _ _ (by decide) (by decide)]; exact h1, h2, by rw [g _ _ (by decide) (by decide)]; exact h3, by rw [g _ _ (by decide) (by decide)]; exact h4, q_rB_k (X := 0 + q_E L) (Y := 0 + L.length) (fun c i a b _ => g c i (by omega) (by omega)) (fun c i a b _ => g c i (by omega) (by omega)) (fun i _ _ => g 91 i (by decide) (by decide)) (Nat.le_refl _) L 0 0 (Nat.le_refl _) (Nat.le_refl _) h5, q_cB_k (X := q_E L + c.length) (fun c i a b _ => g c i (by omega) (by omega)) (fun i _ _ => g 91 i (by decide) (by decide)) (Nat.le_refl _) c _ (Nat.le_refl _) h6⟩
def q_CT (E : q_En) (k : Nat) (σ : jw_M) : Prop := q_tk E.B E.T E.nt σ ∧ σ.1 80 4 = nI k ∧ k ≤ E.nt ∧ q_fr q_rdC E.s σ
def q_ZC (E : q_En) (k : Nat) (L : q_L) (c : List q_I) (V : Nat) (σ : jw_M) : Prop := q_CT E k σ ∧ q_Dr L c V σ
def q_ZM (E : q_En) (k op : Nat) (L : q_L) (c : List q_I) (x : List (Nat × Nat)) (σ : jw_M) : Prop := q_ty' E.B E.T σ ∧ q_cur E.B E.T (q_p E k) σ ∧ σ.1 0 13 = 1 ∧ σ.1 0 17 = nI op ∧ σ.1 0 16 = nI (q_Fm L + (q_fl c).length + x.length) ∧ q_rM (q_Ss σ) 0 0 L ∧ q_cM (q_Ss σ) (q_Fm L) (q_fl c ++ x) ∧ q_fm q_rdM E.t σ
theorem q_p_1 {E : q_En} {k : Nat} (G : q_G E) (h : k < E.nt) : q_ed E.B E.T (q_p E k) ≤ q_p E (k + 1) ∧ q_p E k + 1 ≤ q_p E (k + 1) ∧ q_p E (k + 1) ≤ E.T := by
  have e := q_ed_b (B := E.B) (G.2.2.1 k h)
  unfold q_p at e ⊢
  rw [q_ps]
  have z := q_skp_b (B := E.B) (T := E.T) (p := q_ed E.B E.T (q_ps E.B E.T k)) (by omega)
  exact ⟨z.1, by omega, z.2.1⟩
theorem q_p_T {E : q_En} {k : Nat} (G : q_G E) (h : k ≤ E.nt) : q_p E k ≤ E.T := by
  by_cases e : k = E.nt
  · rw [e, G.2.2.2.1]
    exact Nat.le_refl _
  · exact Nat.le_of_lt (G.2.2.1 k (by omega))
theorem q_t_n {E : q_En} (G : q_G E) : q_t E E.nt = -2 := by
  unfold q_t
  rw [G.2.2.2.1]
  exact q_cod_T
theorem q_t_lt {E : q_En} {k j : Nat} (G : q_G E) (h : k ≤ E.nt) (e : q_t E k = nI j) (hj : j < 2 ^ 31) : k < E.nt := by
  by_cases z : k = E.nt
  · exfalso
    rw [z, q_t_n G] at e
    exact absurd (show nI j < 0 by rw [← e]; decide) (nI_pos hj)
  · omega
theorem q_t_c {E : q_En} {k : Nat} (G : q_G E) (h : k ≤ E.nt) : (k = E.nt ∧ q_t E k = -2) ∨ (k < E.nt ∧ q_cd (q_t E k)) := by
  by_cases z : k = E.nt
  · exact Or.inl ⟨z, by rw [z, q_t_n G]⟩
  · exact Or.inr ⟨by omega, q_cod_c (G.2.2.1 k (by omega))⟩
theorem q_p_2 {E : q_En} {k j : Nat} (G : q_G E) (h : k < E.nt) (hj : j < 18) (e : q_t E k = nI j) : q_p E k + 2 ≤ q_p E (k + 1) :=
  Nat.le_trans (q_cod_len (G.2.2.1 k h) hj e) (q_p_1 G h).1
/-! ===== the class's small steps ===== -/
theorem C_at {E : q_En} {k : Nat} {σ : jw_M} (G : q_G E) (Z : q_CT E k σ) : jx_in (σ.1 80 4) 201 = true ∧ σ.1 82 (σ.1 80 4).toNatClampNeg = q_t E k ∧ σ.1 83 (σ.1 80 4).toNatClampNeg = nI (q_p E k) := by
  obtain ⟨z1, z2, z3, _⟩ := Z
  have h1 := G.1
  have h2 := G.2.1
  rw [z2, nI_clamp (by omega)]
  exact ⟨q_in (by omega) (by decide), (z1 k z3).1, (z1 k z3).2⟩
theorem C_go {E : q_En} {N k V : Nat} {σ : jw_M} {L : q_L} {c : List q_I} (G : q_G E) (Z : q_ZC E k L c V σ) (h : k < E.nt) : ∃ σ', f_D_goOn N σ = some σ' ∧ q_ZC E (k + 1) L c V σ' ∧ ∀ a v, q_vl 84 σ a v → q_vl 84 σ' a v := by
  obtain ⟨⟨z1, z2, z3, z4⟩, z5⟩ := Z
  have h1 := G.1
  have h2 := G.2.1
  unfold f_D_goOn
  rw [z2, if_neg (show ¬ (200 : Int32) ≤ nI k from nI_ge (b := 200) (by omega) (by decide)), nI_1]
  refine ⟨_, rfl, ⟨⟨fun j hj => ?_, q_wS, h, q_fr_w z4 rfl⟩, q_Dr_k (fun c i a b => q_wC (by omega)) z5⟩, fun a v y => ⟨y.1, fun w => ⟨(y.2 w).1, by rw [q_wC (by decide)]; exact (y.2 w).2⟩⟩⟩
  rw [q_wC (by decide), q_wC (by decide)]
  exact z1 j hj
theorem q_CT_w {E : q_En} {k a i : Nat} {σ : jw_M} {v : Int32} (h : q_CT E k σ) (ha : 84 ≤ a) (hb : a ≤ 91) : q_CT E k (jx_w σ a i v) := by
  obtain ⟨z1, z2, z3, z4⟩ := h
  refine ⟨fun j hj => ?_, by rw [q_wC (by omega)]; exact z2, z3, q_fr_w z4 ?_⟩
  · rw [q_wC (by omega), q_wC (by omega)]
    exact z1 j hj
  · unfold q_rdC
    rw [decide_eq_true ha, decide_eq_true hb]
    exact Bool.or_true _
theorem C_step {E : q_En} {N k V o : Nat} {x2 x3 : Int32} {σ : jw_M} {L : q_L} {c : List q_I} {v w : Bool × Nat} (Z : q_ZC E k L c V σ) (hn : q_E L + c.length < 100) (hI : o < 3 → ∃ a b, a < 5 + V ∧ b < 5 + V ∧ x2 = nI a ∧ x3 = nI b ∧ q_vl 84 σ a v ∧ q_vl 84 σ b w) : ∃ σ', f_R_addStep N (nI o) x2 x3 σ = some σ' ∧ q_ZC E k L (c ++ [(o, v, w)]) V σ' := by
  obtain ⟨hT, h1, h2, h3, h4, h5, h6⟩ := Z
  unfold f_R_addStep
  generalize hn' : q_E L + c.length = n at *
  rw [h3, if_neg (show ¬ (100 : Int32) ≤ nI n from nI_ge (b := 100) (by omega) (by decide)), q_in hn (by decide), cond_true, nI_clamp (by omega), q_wC (show (84 : Nat) ≠ 88 by decide), h3, q_in hn (by decide), cond_true, nI_clamp (by omega), q_wC (show (84 : Nat) ≠ 89 by decide), q_wC (show (84 : Nat) ≠ 88 by decide), h3, q_in hn (by decide), cond_true, nI_clamp (by omega), q_wC (show (84 : Nat) ≠ 90 by decide), q_wC (show (84 : Nat) ≠ 89 by decide), q_wC (show (84 : Nat) ≠ 88 by decide), h3, nI_1]
  have gB : ∀ d i, 88 ≤ d → d ≤ 90 → i < n → (jx_w (jx_w (jx_w (jx_w σ 88 n (nI o)) 89 n x2) 90 n x3) 84 1 (nI (n + 1))).1 d i = σ.1 d i := fun d i a b e => by
    rw [q_wC (by omega), q_wI (by omega), q_wI (by omega), q_wI (by omega)]
  have gV : ∀ i, (jx_w (jx_w (jx_w (jx_w σ 88 n (nI o)) 89 n x2) 90 n x3) 84 1 (nI (n + 1))).1 91 i = σ.1 91 i := fun i => by
    rw [q_wC (by decide), q_wC (by decide), q_wC (by decide), q_wC (by decide)]
  refine ⟨_, rfl, q_CT_w (q_CT_w (q_CT_w (q_CT_w hT (by decide) (by decide)) (by decide) (by decide)) (by decide) (by decide)) (by decide) (by decide), ?_, h2, ?_, ?_, ?_, ?_⟩
  · rw [q_wI (by decide), q_wC (by decide), q_wC (by decide), q_wC (by decide)]
    exact h1
  · rw [q_wS, List.length_append, show q_E L + (c.length + [(o, v, w)].length) = n + 1 by rw [List.length_singleton]; omega]
  · rw [q_wI (by decide), q_wC (by decide), q_wC (by decide), q_wC (by decide)]
    exact h4
  · exact q_rB_k (X := n) (Y := 0 + L.length) (fun d i a b _ => by rw [q_wC (by omega), q_wC (by omega), q_wC (by omega), q_wC (by omega)]) gB (fun i _ _ => gV i) (Nat.le_refl _) L 0 0 (Nat.le_refl _) (by omega) h5
  · refine q_cB_a c _ (q_cB_k (X := n) gB (fun i _ _ => gV i) (Nat.le_refl _) c _ (by omega) h6) ?_
    rw [hn']
    refine ⟨?_, fun z => ?_, trivial⟩
    · rw [q_wC (by decide), q_wC (by decide), q_wC (by decide), q_wS]
    · obtain ⟨a, b, ha, hb, e1, e2, v1, v2⟩ := hI z
      refine ⟨a, b, ha, hb, ?_, ?_, q_vl_k (V := 5 + V) (fun i _ _ => gV i) ha v1, q_vl_k (V := 5 + V) (fun i _ _ => gV i) hb v2⟩
      · rw [q_wC (by decide), q_wC (by decide), q_wS]
        exact e1
      · rw [q_wC (by decide), q_wS]
        exact e2
/-! ===== values ===== -/
def q_isv (d : Int32) (v : Bool × Nat) : Prop := (v.1 = true ∧ v.2 < 5 ∧ d = nI (13 + v.2)) ∨ (v.1 = false ∧ v.2 < 10000 ∧ d = nI (1000 + v.2))
def q_nov (d : Int32) : Prop := ¬ (1000 : Int32) ≤ d ∧ (d < 13 ∨ 17 < d)
theorem q_isv_c {E : q_En} {k : Nat} (G : q_G E) (h : k ≤ E.nt) : (∃ v, q_isv (q_t E k) v) ∨ q_nov (q_t E k) := by
  rcases q_t_c G h with ⟨_, e⟩ | ⟨_, e | ⟨j, hj, e⟩ | ⟨b, hb, e⟩ | ⟨v, hv, e⟩⟩
  · rw [e]
    exact Or.inr ⟨by decide, Or.inl (by decide)⟩
  · rw [e]
    exact Or.inr ⟨by decide, Or.inl (by decide)⟩
  · by_cases c : 13 ≤ j
    · exact Or.inl ⟨(true, j - 13), Or.inl ⟨rfl, by show j - 13 < 5; omega, by rw [e, show 13 + (j - 13) = j by omega]⟩⟩
    · rw [e]
      exact Or.inr ⟨nI_ge (b := 1000) (by omega) (by decide), Or.inl (nI_lt (b := 13) (by omega) (by decide))⟩
  · rw [e]
    exact Or.inr ⟨nI_ge (b := 1000) (by omega) (by decide), Or.inr (nI_lt (a := 17) (by omega) (by omega))⟩
  · exact Or.inl ⟨(false, v), Or.inr ⟨rfl, hv, e⟩⟩
theorem C_nov {N : Nat} {d : Int32} {σ : jw_M} (h : q_nov d) : f_D_isValue N d σ = some (0, σ) := by
  unfold f_D_isValue
  rw [if_neg h.1, e_win0 h.2, q_bz0]
theorem C_isv {N : Nat} {d : Int32} {v : Bool × Nat} {σ : jw_M} (h : q_isv d v) : f_D_isValue N d σ = some (1, σ) := by
  unfold f_D_isValue f_D_isValue_18
  rcases h with ⟨_, h2, rfl⟩ | ⟨_, h2, rfl⟩
  · rw [if_neg (show ¬ (1000 : Int32) ≤ nI (13 + v.2) from nI_ge (b := 1000) (by omega) (by decide)), e_win1 (fun z => ?_), q_bz1]
    rcases z with z | z
    · exact absurd z (Int32.not_lt.mpr (nI_le (a := 13) (by omega) (by omega)))
    · exact absurd z (Int32.not_lt.mpr (nI_le (b := 17) (by omega) (by decide)))
  · rw [if_pos (show (1000 : Int32) ≤ nI (1000 + v.2) from nI_le (a := 1000) (by omega) (by omega))]
theorem C_val {E : q_En} {N k V : Nat} {d : Int32} {v : Bool × Nat} {σ : jw_M} {L : q_L} {c : List q_I} (Z : q_ZC E k L c V σ) (h : q_isv d v) (hV : V < 100) : ∃ a V' σ', f_D_placeOfValue N d σ = some (nI a, σ') ∧ q_ZC E k L c V' σ' ∧ V ≤ V' ∧ V' ≤ V + 1 ∧ a < 5 + V' ∧ q_vl 84 σ' a v ∧ ∀ b w, b < 5 + V → q_vl 84 σ b w → q_vl 84 σ' b w := by
  unfold f_D_placeOfValue f_R_addValue
  rcases h with ⟨h1, h2, rfl⟩ | ⟨h1, h2, rfl⟩
  · refine ⟨v.2, V, σ, ?_, Z, Nat.le_refl _, by omega, by omega, ⟨fun _ => ⟨rfl, h2⟩, fun w => by rw [h1] at w; exact absurd w (by decide)⟩, fun b w _ y => y⟩
    rw [if_pos (show nI (13 + v.2) < 1000 from nI_lt (b := 1000) (by omega) (by decide)), show nI (13 + v.2) - 13 = nI v.2 from (pk_sub (a := 13 + v.2) (b := 13) (by omega)).trans (by rw [Nat.add_sub_cancel_left])]
  · obtain ⟨hT, g1, g2, g3, g4, g5, g6⟩ := Z
    rw [if_neg (show ¬ nI (1000 + v.2) < 1000 from Int32.not_lt.mpr (nI_le (a := 1000) (by omega) (by omega))), show nI (1000 + v.2) - 1000 = nI v.2 from (pk_sub (a := 1000 + v.2) (b := 1000) (by omega)).trans (by rw [Nat.add_sub_cancel_left]), g4, if_pos (show nI (5 + V) < 105 from nI_lt (b := 105) (by omega) (by decide)), q_in (show 5 + V < 105 by omega) (by decide), cond_true, nI_clamp (by omega), nI_1, Option.bind_some]
    have gk : ∀ i, 5 ≤ i → i < 5 + V → (jx_w (jx_w σ 84 9 (nI (5 + V + 1))) 91 (5 + V) (nI v.2)).1 91 i = σ.1 91 i := fun i _ y => by
      rw [q_wI (by omega), q_wC (by decide)]
    refine ⟨5 + V, V + 1, _, rfl, ⟨q_CT_w (q_CT_w hT (by decide) (by decide)) (by decide) (by decide), ?_, g2, ?_, ?_, ?_, ?_⟩, by omega, by omega, by omega, ⟨fun w => by rw [h1] at w; exact absurd w (by decide), fun _ => ⟨by omega, q_wS⟩⟩, fun b w hb y => q_vl_k (V := 5 + V) gk hb y⟩
    · rw [q_wC (by decide), q_wI (by decide)]; exact g1
    · rw [q_wC (by decide), q_wI (by decide)]; exact g3
    · rw [q_wC (by decide), q_wS, Nat.add_assoc]
    · exact q_rB_k (X := 0 + q_E L) (Y := 0 + L.length) (fun d i a b _ => by rw [q_wC (by omega), q_wC (by omega)]) (fun d i a b _ => by rw [q_wC (by omega), q_wC (by omega)]) gk (by omega) L 0 0 (Nat.le_refl _) (Nat.le_refl _) g5
    · exact q_cB_k (X := q_E L + c.length) (fun d i a b _ => by rw [q_wC (by omega), q_wC (by omega)]) gk (by omega) c _ (Nat.le_refl _) g6
