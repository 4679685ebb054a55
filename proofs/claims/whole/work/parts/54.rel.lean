/-! ===== pure: what ties the class's memory to the reference's ===== -/
def q_wq (S : q_f) (n : Nat) : Prop := ∀ p, p < 6 → (∀ i, n ≤ i → i < 32 → bt (S (64 + p)) i = false) ∧ (n ≤ p → S (64 + p) = 0)
def q_wt (S : q_f) (t : Nat) : Prop := t ≤ 6 ∧ S 5 = nI t ∧ ∀ r, r < t → (∃ k, 1 ≤ k ∧ k ≤ 5 ∧ S (70 + 4 * r + 0) = nI k) ∧ ∃ w, 1 ≤ w ∧ w ≤ 9 ∧ S (70 + 4 * r + 1) = nI w
def q_AA (b : Nat) (σ : jw_M) (S row : q_f) (L : q_L) (n m d h t : Nat) : Prop := q_wf S n m d ∧ q_wq S n ∧ q_wt S t ∧ q_RM S L ∧ q_wr S n m d row h ∧ q_SC b σ S L m ∧ q_PC (b + 26) σ row
def q_K (σC σM : jw_M) : Prop := (σC.1 0 2 = 0 ∧ σM.1 0 5 = 0) ∨ (σC.1 0 2 = 1 ∧ σM.1 0 5 = 1 ∧ ∃ L n m d h t, q_AA 38 σC (σM.1 5) (σM.1 4) L n m d h t)
def q_T (σC σM : jw_M) : Prop := ∃ t, t ≤ 200 ∧ σC.1 80 0 = nI t ∧ σM.1 0 7 = nI t ∧ ∀ i, i < t → ∃ b, b < 256 ∧ σC.1 81 i = nI b ∧ σM.1 6 i = nI b
def q_W (σC σM : jw_M) : Prop := ∃ r, r ≤ 4 ∧ σC.1 92 10 = nI r ∧ σM.1 0 29 = nI r ∧ ∀ k w, k < r → w < 3 → σC.1 (117 + k) w = σM.1 13 (3 * k + w)
def q_H (σC σM : jw_M) : Prop := ∀ s, s < 4 → ∃ z, z ≤ 40 ∧ σC.1 123 s = nI z ∧ σM.1 15 s = nI z ∧ σC.1 122 s = σM.1 14 s ∧ (σM.1 14 s = -1 ∨ ∃ k, k ≤ 4 ∧ σM.1 14 s = nI k) ∧ ∀ i, i < 40 → σM.2 16 (40 * s + i) = (σC.1 (125 + s) i).toInt64 ∧ (σM.1 14 s = 0 → -128 ≤ (σC.1 (125 + s) i).toInt ∧ (σC.1 (125 + s) i).toInt ≤ 127)
def q_V (σC σM : jw_M) : Prop := ∀ s, s < 4 → (σC.1 129 s = 2 ∧ σM.1 17 s = -1) ∨ (σC.1 129 s = 0 ∧ σM.1 17 s = 0 ∧ σC.1 130 s = σM.1 18 s) ∨ (σC.1 129 s = 1 ∧ σM.1 17 s = 1 ∧ σC.1 130 s = σM.1 19 s ∧ σC.1 131 s = σM.1 18 s ∧ ∃ k, k ≤ 4 ∧ σM.1 18 s = nI k)
def q_X (σC σM : jw_M) : Prop := ∃ b, b ≤ 30 ∧ σC.1 121 7 = nI b ∧ σM.1 0 40 = nI b ∧ ∀ i, i < b → σC.1 132 i = σM.1 20 i
def q_O (σC σM : jw_M) : Prop := q_K σC σM ∧ q_T σC σM ∧ q_W σC σM ∧ q_H σC σM ∧ q_V σC σM ∧ q_X σC σM
def q_R (σC σM : jw_M) : Prop := (∃ L n m d h t, q_AA 1 σC (σM.1 3) (σM.1 1) L n m d h t) ∧ q_O σC σM
def q_U (f g : jw_M → Option (Int32 × jw_M)) : Prop := ∀ σC σM, q_R σC σM → ∃ r σC' σM', f σC = some (r, σC') ∧ g σM = some (r, σM') ∧ q_R σC' σM'
/-! ===== what keeps it ===== -/
theorem q_AA_k {b : Nat} {σ σ' : jw_M} {S row : q_f} {L : q_L} {n m d h t : Nat} (H : q_AA b σ S row L n m d h t) (g : ∀ c i, c ≤ 28 → (c ≠ 25 ∨ 5 ≤ i) → σ'.1 (b + c) i = σ.1 (b + c) i) : q_AA b σ' S row L n m d h t := by
  obtain ⟨a1, a2, a3, a4, a5, a6, a7⟩ := H
  refine ⟨a1, a2, a3, a4, a5, q_SC_k a6 (fun c i h1 h2 => g c i (by omega) (by omega)), q_PC_k a7 (fun c i hc => ?_)⟩
  rw [show b + 26 + c = b + (26 + c) by omega]
  exact g (26 + c) i (by omega) (Or.inl (by omega))
def q_cO (c i : Nat) : Prop := c = 0 ∨ (38 ≤ c ∧ c ≤ 66) ∨ (c = 80 ∧ i = 0) ∨ c = 81 ∨ (c = 92 ∧ i = 10) ∨ (117 ≤ c ∧ c ≤ 120) ∨ (121 = c ∧ i = 7) ∨ (122 ≤ c ∧ c ≤ 132)
def q_mO (c i : Nat) : Prop := (c = 0 ∧ (i = 5 ∨ i = 7 ∨ i = 29 ∨ i = 40)) ∨ (4 ≤ c ∧ c ≤ 6) ∨ (13 ≤ c ∧ c ≤ 15) ∨ (17 ≤ c ∧ c ≤ 20)
theorem q_K_k {σC σM σC' σM' : jw_M} (H : q_K σC σM) (gC : ∀ c i, (c = 0 ∨ (38 ≤ c ∧ c ≤ 66)) → σC'.1 c i = σC.1 c i) (gM : ∀ c i, ((c = 0 ∧ i = 5) ∨ c = 4 ∨ c = 5) → σM'.1 c i = σM.1 c i) : q_K σC' σM' := by
  rcases H with ⟨a, b⟩ | ⟨a, b, L, n, m, d, h, t, c⟩
  · exact Or.inl ⟨by rw [gC 0 2 (Or.inl rfl)]; exact a, by rw [gM 0 5 (Or.inl ⟨rfl, rfl⟩)]; exact b⟩
  · refine Or.inr ⟨by rw [gC 0 2 (Or.inl rfl)]; exact a, by rw [gM 0 5 (Or.inl ⟨rfl, rfl⟩)]; exact b, L, n, m, d, h, t, ?_⟩
    rw [show σM'.1 5 = σM.1 5 from funext fun i => gM 5 i (Or.inr (Or.inr rfl)), show σM'.1 4 = σM.1 4 from funext fun i => gM 4 i (Or.inr (Or.inl rfl))]
    exact q_AA_k c (fun c i h1 h2 => gC _ _ (Or.inr ⟨by omega, by omega⟩))
theorem q_T_k {σC σM σC' σM' : jw_M} (H : q_T σC σM) (gC : ∀ c i, ((c = 80 ∧ i = 0) ∨ c = 81) → σC'.1 c i = σC.1 c i) (gM : ∀ c i, ((c = 0 ∧ i = 7) ∨ c = 6) → σM'.1 c i = σM.1 c i) : q_T σC' σM' := by
  obtain ⟨t, h1, h2, h3, h4⟩ := H
  refine ⟨t, h1, by rw [gC 80 0 (Or.inl ⟨rfl, rfl⟩)]; exact h2, by rw [gM 0 7 (Or.inl ⟨rfl, rfl⟩)]; exact h3, fun i hi => ?_⟩
  rw [gC 81 i (Or.inr rfl), gM 6 i (Or.inr rfl)]
  exact h4 i hi
theorem q_W_k {σC σM σC' σM' : jw_M} (H : q_W σC σM) (gC : ∀ c i, ((c = 92 ∧ i = 10) ∨ (117 ≤ c ∧ c ≤ 120)) → σC'.1 c i = σC.1 c i) (gM : ∀ c i, ((c = 0 ∧ i = 29) ∨ c = 13) → σM'.1 c i = σM.1 c i) : q_W σC' σM' := by
  obtain ⟨r, h1, h2, h3, h4⟩ := H
  refine ⟨r, h1, by rw [gC 92 10 (Or.inl ⟨rfl, rfl⟩)]; exact h2, by rw [gM 0 29 (Or.inl ⟨rfl, rfl⟩)]; exact h3, fun k w hk hw => ?_⟩
  rw [gC (117 + k) w (Or.inr ⟨by omega, by omega⟩), gM 13 _ (Or.inr rfl)]
  exact h4 k w hk hw
theorem q_H_k {σC σM σC' σM' : jw_M} (H : q_H σC σM) (gC : ∀ c i, (122 ≤ c ∧ c ≤ 128) → σC'.1 c i = σC.1 c i) (gM : ∀ c i, (c = 14 ∨ c = 15) → σM'.1 c i = σM.1 c i) (gL : ∀ i, σM'.2 16 i = σM.2 16 i) : q_H σC' σM' := by
  intro s hs
  obtain ⟨z, h1, h2, h3, h4, h5, h6⟩ := H s hs
  refine ⟨z, h1, by rw [gC _ _ (by omega)]; exact h2, by rw [gM _ _ (by omega)]; exact h3, by rw [gC _ _ (by omega), gM _ _ (by omega)]; exact h4, by rw [gM _ _ (by omega)]; exact h5, fun i hi => ?_⟩
  rw [gL, gC _ _ (by omega), gM _ _ (by omega)]
  exact h6 i hi
theorem q_V_k {σC σM σC' σM' : jw_M} (H : q_V σC σM) (gC : ∀ c i, (129 ≤ c ∧ c ≤ 131) → σC'.1 c i = σC.1 c i) (gM : ∀ c i, (17 ≤ c ∧ c ≤ 19) → σM'.1 c i = σM.1 c i) : q_V σC' σM' := by
  intro s hs
  rw [gC 129 s (by omega), gC 130 s (by omega), gC 131 s (by omega), gM 17 s (by omega), gM 18 s (by omega), gM 19 s (by omega)]
  exact H s hs
theorem q_X_k {σC σM σC' σM' : jw_M} (H : q_X σC σM) (gC : ∀ c i, ((c = 121 ∧ i = 7) ∨ c = 132) → σC'.1 c i = σC.1 c i) (gM : ∀ c i, ((c = 0 ∧ i = 40) ∨ c = 20) → σM'.1 c i = σM.1 c i) : q_X σC' σM' := by
  obtain ⟨b, h1, h2, h3, h4⟩ := H
  refine ⟨b, h1, by rw [gC _ _ (Or.inl ⟨rfl, rfl⟩)]; exact h2, by rw [gM _ _ (Or.inl ⟨rfl, rfl⟩)]; exact h3, fun i hi => ?_⟩
  rw [gC _ _ (Or.inr rfl), gM _ _ (Or.inr rfl)]
  exact h4 i hi
theorem q_O_k {σC σM σC' σM' : jw_M} (H : q_O σC σM) (gC : ∀ c i, q_cO c i → σC'.1 c i = σC.1 c i) (gM : ∀ c i, q_mO c i → σM'.1 c i = σM.1 c i) (gL : ∀ i, σM'.2 16 i = σM.2 16 i) : q_O σC' σM' := by
  obtain ⟨h1, h2, h3, h4, h5, h6⟩ := H
  refine ⟨q_K_k h1 (fun c i h => gC c i ?_) (fun c i h => gM c i ?_), q_T_k h2 (fun c i h => gC c i ?_) (fun c i h => gM c i ?_), q_W_k h3 (fun c i h => gC c i ?_) (fun c i h => gM c i ?_), q_H_k h4 (fun c i h => gC c i ?_) (fun c i h => gM c i ?_) gL, q_V_k h5 (fun c i h => gC c i ?_) (fun c i h => gM c i ?_), q_X_k h6 (fun c i h => gC c i ?_) (fun c i h => gM c i ?_)⟩ <;> (first | unfold q_cO | unfold q_mO) <;> omega
theorem q_O_f {PC PM : Nat → Nat → Bool} {σC σM σC' σM' : jw_M} (H : q_O σC σM) (fC : q_fr PC σC σC') (fM : q_fr PM σM σM') (hC : ∀ c i, q_cO c i → PC c i = false) (hM : ∀ c i, q_mO c i → PM c i = false) : q_O σC' σM' :=
  q_O_k H (fun c i h => fC.1 c i (hC c i h)) (fun c i h => fM.1 c i (hM c i h)) (fun i => by rw [fM.2])
theorem q_O_pg {p1 : Nat} (h : 27 ≤ p1) (h2 : p1 + 3 ≤ 37 ∨ (67 ≤ p1 ∧ p1 + 3 ≤ 79) ∨ (93 ≤ p1 ∧ p1 + 3 ≤ 116)) (c i : Nat) (z : q_cO c i) : q_pg p1 c i = false := by
  unfold q_pg
  unfold q_cO at z
  rw [show (decide (p1 ≤ c) && decide (c ≤ p1 + 3)) = false by simp; omega, show (c == 26) = false by simp; omega]
  rfl
theorem q_O_p1 (c i : Nat) (z : q_mO c i) : q_p1 c i = false := by
  unfold q_mO at z
  unfold q_p1
  simp
  omega
/-! ===== small steps ===== -/
theorem q_bz0 {A B : Int32 × jw_M → Option (Int32 × jw_M)} {σ : jw_M} : ((some ((0 : Int32), σ)).bind fun z => if z.1 = 0 then A z else B z) = A (0, σ) := by
  rw [Option.bind_some]
  exact if_pos rfl
theorem q_bz1 {A B : Int32 × jw_M → Option (Int32 × jw_M)} {σ : jw_M} : ((some ((1 : Int32), σ)).bind fun z => if z.1 = 0 then A z else B z) = B (1, σ) := by
  rw [Option.bind_some]
  exact if_neg (show ¬ (1 : Int32) = 0 by decide)
theorem e_win0 {N : Nat} {x lo hi : Int32} {σ : jw_M} (h : x < lo ∨ hi < x) : f_F_isWithin N x lo hi σ = some (0, σ) := by
  unfold f_F_isWithin
  by_cases c : x < lo
  · rw [if_pos c]
  · rw [if_neg c, if_pos (h.resolve_left c)]
theorem e_win1 {N : Nat} {x lo hi : Int32} {σ : jw_M} (h : ¬ (x < lo ∨ hi < x)) : f_F_isWithin N x lo hi σ = some (1, σ) := by
  unfold f_F_isWithin
  rw [if_neg (fun z => h (Or.inl z)), if_neg (fun z => h (Or.inr z))]
theorem e_in0 {N : Nat} {x lo hi : Int32} {σ : jw_M} (h : x < lo ∨ hi < x) : f_M_in N x lo hi σ = some (0, σ) := e_win0 (N := N) h
theorem e_in1 {N : Nat} {x lo hi : Int32} {σ : jw_M} (h : ¬ (x < lo ∨ hi < x)) : f_M_in N x lo hi σ = some (1, σ) := e_win1 (N := N) h
/-- a number between two -/
theorem q_num {x : Int32} {lo hi : Int32} (a b : Nat) (h : ¬ (x < lo ∨ hi < x)) (hlo : lo = nI a := by rfl) (hhi : hi = nI b := by rfl) (ha : a < 2 ^ 31 := by decide) (hb : b < 2 ^ 31 := by decide) : ∃ j : Nat, a ≤ j ∧ j ≤ b ∧ x = nI j :=
  q_wi a b hlo hhi ha hb (fun z => h (Or.inl z)) (fun z => h (Or.inr z))
theorem q_lt1 {n j : Nat} (hn : n < 2 ^ 30) (hj : j < 2 ^ 31) : nI n - 1 < nI j ↔ n ≤ j := by
  rw [Int32.lt_iff_toInt_lt, nI_toInt hj, show (nI n - 1).toInt = (n : Int) - (1 : Nat) from pk_sub_toInt (a := n) (b := 1) hn (by decide)]
  omega
theorem q_shD {N n : Nat} {x : Int32} {σC σM : jw_M} (hC : σC.1 1 0 = nI n) (hM : σM.1 3 2 = nI n) (hn : n ≤ 6) : (f_S_isShadow N x σC = some (0, σC) ∧ f_M_isShadow N x σM = some (0, σM)) ∨ ∃ p, p < n ∧ x = nI p ∧ f_S_isShadow N x σC = some (1, σC) ∧ f_M_isShadow N x σM = some (1, σM) := by
  unfold f_S_isShadow f_M_isShadow f_M_in
  rw [hC, hM]
  by_cases c : x < 0
  · exact Or.inl ⟨by rw [if_pos c], by rw [if_pos c]; rfl⟩
  · obtain ⟨j, hj, rfl⟩ := nI_of c
    rw [if_neg c, if_neg c]
    by_cases e : n ≤ j
    · exact Or.inl ⟨by rw [if_pos (nI_le e hj)], by rw [if_pos ((q_lt1 (by omega) hj).mpr e)]; rfl⟩
    · exact Or.inr ⟨j, by omega, rfl, by rw [if_neg (nI_ge (by omega) (by omega))], by rw [if_neg (fun z => e ((q_lt1 (by omega) hj).mp z))]; rfl⟩
theorem q_leD {N m : Nat} {x : Int32} {σC σM : jw_M} (hC : σC.1 1 5 = nI m) (hM : σM.1 3 3 = nI m) (hm : m ≤ 8) : (f_S_isLesson N x σC = some (0, σC) ∧ f_M_isLesson N x σM = some (0, σM)) ∨ ∃ l, l < m ∧ x = nI l ∧ f_S_isLesson N x σC = some (1, σC) ∧ f_M_isLesson N x σM = some (1, σM) := by
  unfold f_S_isLesson f_M_isLesson f_M_in
  rw [hC, hM]
  by_cases c : x < 0
  · exact Or.inl ⟨by rw [if_pos c], by rw [if_pos c]; rfl⟩
  · obtain ⟨j, hj, rfl⟩ := nI_of c
    rw [if_neg c, if_neg c]
    by_cases e : m ≤ j
    · exact Or.inl ⟨by rw [if_pos (nI_le e hj)], by rw [if_pos ((q_lt1 (by omega) hj).mpr e)]; rfl⟩
    · exact Or.inr ⟨j, by omega, rfl, by rw [if_neg (nI_ge (by omega) (by omega))], by rw [if_neg (fun z => e ((q_lt1 (by omega) hj).mp z))]; rfl⟩
/-! ===== congruences of the good order ===== -/
theorem q_wf_k {S S' : q_f} {n m d : Nat} (h : q_wf S n m d) (g : ∀ k, k < 64 → k ≠ 1 → k ≠ 4 → k ≠ 5 → S' k = S k) : q_wf S' n m d := by
  obtain ⟨a1, a2, a3, a4, a5, a6, a7, a8, a9⟩ := h
  refine ⟨a1, a2, a3, a4, by rw [g 2 (by decide) (by decide) (by decide) (by decide)]; exact a5, by rw [g 3 (by decide) (by decide) (by decide) (by decide)]; exact a6, by rw [g 0 (by decide) (by decide) (by decide) (by decide)]; exact a7, fun p hp => ?_, fun l hl => ?_⟩
  · rw [g _ (by omega) (by omega) (by omega) (by omega), g _ (by omega) (by omega) (by omega) (by omega), g _ (by omega) (by omega) (by omega) (by omega)]
    exact a8 p hp
  · rw [g _ (by omega) (by omega) (by omega) (by omega), g _ (by omega) (by omega) (by omega) (by omega), g _ (by omega) (by omega) (by omega) (by omega), g _ (by omega) (by omega) (by omega) (by omega), g _ (by omega) (by omega) (by omega) (by omega)]
    exact a9 l hl
theorem q_wq_k {S S' : q_f} {n : Nat} (h : q_wq S n) (g : ∀ k, 64 ≤ k → k < 70 → S' k = S k) : q_wq S' n := by
  intro p hp
  rw [g _ (by omega) (by omega)]
  exact h p hp
theorem q_wt_k {S S' : q_f} {t : Nat} (h : q_wt S t) (g5 : S' 5 = S 5) (g : ∀ k, 70 ≤ k → k < 94 → S' k = S k) : q_wt S' t := by
  obtain ⟨a1, a2, a3⟩ := h
  refine ⟨a1, by rw [g5]; exact a2, fun r hr => ?_⟩
  rw [g _ (by omega) (by omega), g _ (by omega) (by omega)]
  exact a3 r hr
theorem q_cM_k {S S' : q_f} (g : ∀ k, 94 ≤ k → S' k = S k) : ∀ (c : List (Nat × Nat)) (e : Nat), q_cM S e c → q_cM S' e c
  | [], _, _ => trivial
  | y :: c, e, h => ⟨by rw [g _ (by omega)]; exact h.1, by rw [g _ (by omega)]; exact h.2.1, q_cM_k g c (e + 1) h.2.2⟩
theorem q_rM_k {S S' : q_f} (g : ∀ k, 94 ≤ k → S' k = S k) : ∀ (L : q_L) (r e : Nat), q_rM S r e L → q_rM S' r e L
  | [], _, _, _ => trivial
  | x :: L, r, e, h => by
    obtain ⟨g1, g2, g3, g4, g5, g6, g7⟩ := h
    exact ⟨by rw [g _ (by omega)]; exact g1, by rw [g _ (by omega)]; exact g2, by rw [g _ (by omega)]; exact g3, by rw [g _ (by omega)]; exact g4, g5, q_cM_k g _ _ g6, q_rM_k g L _ _ g7⟩
theorem q_RM_k {S S' : q_f} {L : q_L} (h : q_RM S L) (g4 : S' 4 = S 4) (g : ∀ k, 94 ≤ k → S' k = S k) : q_RM S' L :=
  ⟨by rw [g4]; exact h.1, h.2.1, q_rM_k g L 0 0 h.2.2.1, h.2.2.2⟩
theorem q_wr_k {S S' row : q_f} {n m d h : Nat} (H : q_wr S n m d row h) (g : ∀ l, l < m → S' (24 + 5 * l + 0) = S (24 + 5 * l + 0)) : q_wr S' n m d row h := by
  obtain ⟨a1, a2, a3, a4, a5⟩ := H
  refine ⟨a1, a2, a3, a4, fun p l hp hl hb => ?_⟩
  rw [g l hl]
  exact a5 p l hp hl hb
/-- one number of the school is written on both sides -/
theorem q_SC_w {b c i k : Nat} {σ : jw_M} {S : q_f} {L : q_L} {m : Nat} {v : Int32} (h : q_SC b σ S L m) (hk : q_js c i = some k) (hn : ∀ l, l < m → k ≠ 24 + 5 * l + 2 ∧ k ≠ 24 + 5 * l + 3) : q_SC b (jx_w σ (b + c) i v) (va_up S k v) L m := by
  have hc := (q_jsr hk).1
  have hc10 : c ≠ 10 := by
    intro e
    subst e
    unfold q_js at hk
    simp at hk
  refine ⟨fun c' i' k' h' => ?_, fun h' hh l hl => ?_, q_r0_k (rb := b + 18) (σ := σ) (fun c' i' h1 h2 h3 => q_wC (by omega)) L 0 0 h.2.2⟩
  · rw [q_w, q_up]
    by_cases e : c' = c ∧ i' = i
    · obtain ⟨rfl, rfl⟩ := e
      rw [hk] at h'
      cases h'
      rw [if_pos ⟨rfl, rfl⟩, if_pos rfl]
    · rw [if_neg (fun w => e ⟨by omega, w.2⟩), if_neg (fun w => by
        rw [w] at h'
        exact e (q_jsJ _ _ _ _ _ h' hk))]
      exact h.1 c' i' k' h'
  · rw [q_wC (by omega), h.2.1 h' hh l hl]
    by_cases z : l < m
    · obtain ⟨z1, z2⟩ := hn l z
      rw [q_upN (Ne.symm z1), q_upN (Ne.symm z2)]
    · rw [decide_eq_false z, Bool.false_and, Bool.false_and]
