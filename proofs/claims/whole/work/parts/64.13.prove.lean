/-! ===== pure: prove ===== -/
def q_vC (c i : Nat) : Bool := q_pg 94 c i || (decide (117 ≤ c) && decide (c ≤ 120))
def q_vM (c i : Nat) : Bool := q_p1 c i || c == 13
theorem q_vC_0 {c i : Nat} (h : q_vC c i = false) : q_pg 94 c i = false := by
  unfold q_vC at h
  rw [Bool.or_eq_false_iff] at h
  exact h.1
theorem q_vM_0 {c i : Nat} (h : q_vM c i = false) : q_p1 c i = false := by
  unfold q_vM at h
  rw [Bool.or_eq_false_iff] at h
  exact h.1
theorem e_prove {N n m d h H F : Nat} {S : q_f} {L : q_L} (hN : 300 ≤ N) (h4 : H ≤ 4) (hd : h + H ≤ d) (hF : F < 2 ^ 31) : ∀ (r k f f2 : Nat) (row : q_f) (σC σM : jw_M), k + r = H → r < f → r < f2 → q_Y 94 S L n m d row (h + k) σC σM → σC.1 92 10 = nI H → σM.1 0 23 = nI F → (∀ j, j < H → σC.1 115 j = nI (F / (n + 1) ^ (H - 1 - j) % (n + 1))) → (∀ j w, j < k → w < 3 → σC.1 (117 + j) w = σM.1 13 (3 * j + w)) → ∃ σC' σM', f_L_makeRows_17 N f (nI k) σC = some (nI H, σC') ∧ f_M_prove_24 N f2 (nI H) (nI k) σM = ((f_M_load N 0 σM').bind fun z => some (nI H, jx_w z 0 29 (nI H))) ∧ (∀ j w, j < H → w < 3 → σC'.1 (117 + j) w = σM'.1 13 (3 * j + w)) ∧ q_fr q_vC σC σC' ∧ q_fr q_vM σM σM' ∧ ∀ i, 56 ≤ i → σM'.1 1 i = row i := by
  intro r
  induction r with
  | zero =>
    intro k f f2 row σC σM hk hf hf2 Y w10 w23 hc hrow
    obtain ⟨f, rfl⟩ : ∃ j, f = j + 1 := ⟨f - 1, by omega⟩
    obtain ⟨f2, rfl⟩ : ∃ j, f2 = j + 1 := ⟨f2 - 1, by omega⟩
    refine ⟨σC, σM, ?_, ?_, fun j w hj hw => hrow j w (by omega) hw, q_fr_r _ _, q_fr_r _ _, fun i hi => by rw [Y.2.2.2.2.2.2]⟩
    · rw [f_L_makeRows_17, w10, if_pos (nI_le (by omega) (by omega))]
    · rw [f_M_prove_24, if_pos (nI_le (by omega) (by omega))]
  | succ r ih =>
    intro k f f2 row σC σM hk hf hf2 Y w10 w23 hc hrow
    obtain ⟨f, rfl⟩ : ∃ j, f = j + 1 := ⟨f - 1, by omega⟩
    obtain ⟨f2, rfl⟩ : ∃ j, f2 = j + 1 := ⟨f2 - 1, by omega⟩
    have hn := Y.1.1
    obtain ⟨a, ha⟩ : ∃ a, a = nI (F / (n + 1) ^ (H - 1 - k) % (n + 1)) := ⟨_, rfl⟩
    have i0 : (3 : Int32) * nI k = nI (3 * k + 0) := by
      show nI 3 * nI k = _
      rw [pk_mul]
      rfl
    rw [f_L_makeRows_17, w10, if_neg (nI_ge (by omega) (by omega)), f_M_prove_24, if_neg (nI_ge (by omega) (by omega)), w23, e_actIn hN hn (by rw [Y.2.2.2.2.2.1]; exact Y.1.2.2.2.2.1) h4 (by omega) hF, Option.bind_some, ← ha]
    unfold f_L_makeRows_30 f_L_makeRows_31 f_L_makeRows_44 f_L_makeRows_45 f_L_makeRows_63 f_L_makeRows_64
    dsimp only
    rw [q_in (show k < 4 by omega) (by decide), nI_clamp (show k < 2 ^ 31 by omega), show (3 * nI k) + (1 : Int32) = nI (3 * k + 1) from q_i3' k 1, show (3 * nI k) + (2 : Int32) = nI (3 * k + 2) from q_i3' k 2, i0, q_in (show 3 * k + 0 < 12 by omega) (by decide), q_in (show 3 * k + 1 < 12 by omega) (by decide), q_in (show 3 * k + 2 < 12 by omega) (by decide), nI_clamp (show 3 * k + 0 < 2 ^ 31 by omega), nI_clamp (show 3 * k + 1 < 2 ^ 31 by omega), nI_clamp (show 3 * k + 2 < 2 ^ 31 by omega), hc k (by omega), ← ha]
    simp only [cond_true]
    rw [q_wC (show (115 : Nat) ≠ 117 + k by omega), hc k (by omega), ← ha, q_wS]
    have Y1 : q_Y 94 S L n m d row (h + k) (jx_w σC (117 + k) 0 a) (jx_w σM 13 (3 * k + 0) a) := by
      obtain ⟨y1, y2, y3, y4, y5, y6, y7⟩ := Y
      exact ⟨y1, y2, y3, q_SC_k y4 (fun c i h1 h2 => q_wC (by omega)), q_PC_k y5 (fun c i hc => q_wC (by omega)), by rw [q_w0 (by decide)]; exact y6, by rw [q_w0 (by decide)]; exact y7⟩
    obtain ⟨τ, υ, t1, v1, Y2, _, fC, fM⟩ := e_two (N := N) (a := a) hN (by decide) Y1 (by omega)
    rw [t1, v1, Option.bind_some, Option.bind_some]
    dsimp only
    obtain ⟨w, hw⟩ : ∃ w, w = (q_go S L a row).1 := ⟨_, rfl⟩
    rw [← hw]
    have Y3 : q_Y 94 S L n m d (q_go S L a row).2.1 (h + k + 1) (jx_w τ (117 + k) 1 w) (jx_w υ 13 (3 * k + 1) w) := by
      obtain ⟨y1, y2, y3, y4, y5, y6, y7⟩ := Y2
      exact ⟨y1, y2, y3, q_SC_k y4 (fun c i h1 h2 => q_wC (by omega)), q_PC_k y5 (fun c i hc => q_wC (by omega)), by rw [q_w0 (by decide)]; exact y6, by rw [q_w0 (by decide)]; exact y7⟩
    rw [e_someC hN Y3.2.2.2.2.1, e_someM hN Y3.1 Y3.2.2.1 Y3.2.2.2.2.2.1 Y3.2.2.2.2.2.2, Option.bind_some, Option.bind_some, nI_1]
    dsimp only
    obtain ⟨v, hv⟩ : ∃ v, v = q_some (q_go S L a row).2.1 := ⟨_, rfl⟩
    rw [← hv]
    have Y4 : q_Y 94 S L n m d (q_go S L a row).2.1 (h + (k + 1)) (jx_w (jx_w τ (117 + k) 1 w) (117 + k) 2 v) (jx_w (jx_w υ 13 (3 * k + 1) w) 13 (3 * k + 2) v) := by
      obtain ⟨y1, y2, y3, y4, y5, y6, y7⟩ := Y3
      exact ⟨y1, y2, y3, q_SC_k y4 (fun c i h1 h2 => q_wC (by omega)), q_PC_k y5 (fun c i hc => q_wC (by omega)), by rw [q_w0 (by decide)]; exact y6, by rw [q_w0 (by decide)]; exact y7⟩
    have p1 : ∀ j, j ≤ 3 → q_vC (117 + k) j = true := fun j hj => by unfold q_vC; simp; omega
    have gC : q_fr q_vC σC (jx_w (jx_w τ (117 + k) 1 w) (117 + k) 2 v) := q_fr_w (q_fr_w (q_fr_t (q_fr_w (q_fr_r _ _) (p1 0 (by decide))) (q_fr_m fC (fun c i z => q_vC_0 z))) (p1 1 (by decide))) (p1 2 (by decide))
    have gM : q_fr q_vM σM (jx_w (jx_w υ 13 (3 * k + 1) w) 13 (3 * k + 2) v) := q_fr_w (q_fr_w (q_fr_t (q_fr_w (q_fr_r _ _) rfl) (q_fr_m fM (fun c i z => q_vM_0 z))) rfl) rfl
    have c1 : ∀ j i, τ.1 (117 + j) i = (jx_w σC (117 + k) 0 a).1 (117 + j) i := fun j i => fC.1 _ _ (by unfold q_pg; simp; omega)
    have c2 : ∀ i, υ.1 13 i = (jx_w σM 13 (3 * k + 0) a).1 13 i := fun i => fM.1 13 i rfl
    obtain ⟨ψ, ω, g1, g2, g3, g4, g5, g6⟩ := ih (k + 1) f f2 _ _ _ (by omega) (by omega) (by omega) Y4 (by rw [gC.1 92 10 rfl]; exact w10) (by rw [gM.1 0 23 rfl]; exact w23) (fun j hj => by rw [gC.1 115 j rfl]; exact hc j hj) (fun j x hj hx => by
      rw [q_w, q_w, q_w, q_w, c1, c2, q_w, q_w]
      by_cases ej : j = k
      · subst ej
        rcases (show x = 0 ∨ x = 1 ∨ x = 2 by omega) with rfl | rfl | rfl
        · rw [if_neg (by omega), if_neg (by omega), if_pos ⟨rfl, rfl⟩, if_neg (by omega), if_neg (by omega), if_pos ⟨rfl, rfl⟩]
        · rw [if_neg (by omega), if_pos ⟨rfl, rfl⟩, if_neg (by omega), if_pos ⟨rfl, rfl⟩]
        · rw [if_pos ⟨rfl, rfl⟩, if_pos ⟨rfl, rfl⟩]
      · rw [if_neg (by omega), if_neg (by omega), if_neg (by omega), if_neg (by omega), if_neg (by omega), if_neg (by omega)]
        exact hrow j x (by omega) hx)
    exact ⟨ψ, ω, g1, g2, g3, q_fr_t gC g4, q_fr_t gM g5, fun i z => by rw [g6 i z, q_go_hi Y.1 z]⟩
theorem u_prove {N : Nat} (hN : 3000 ≤ N) {x : Int32} : q_U (f_F_prove N x) (f_M_prove N x) := by
  intro σC σM hR
  obtain ⟨⟨L, n, m, d, h, t, H⟩, hK, hT, hW, hH, hV, hX⟩ := id hR
  obtain ⟨hw, hq, ht, hRM, hr, hS, hP⟩ := id H
  unfold f_F_prove f_M_prove
  by_cases c : x < 0 ∨ 4 < x
  · rw [e_win0 c, e_in0 c, q_bz0, q_bz0]
    exact ⟨_, σC, σM, rfl, rfl, hR⟩
  · rw [e_win1 c, e_in1 c, q_bz1, q_bz1]
    dsimp only
    obtain ⟨j, _, j4, rfl⟩ := q_num 0 4 c
    obtain ⟨h4, hd⟩ := q_hr_4 (x := j) j4 hr.2.1
    have hbH := q_bH hw.1 h4
    obtain ⟨τ, t1, t2, t3, t4, t5, t6⟩ := e_walkAll (N := N) (wanted := 0) (by omega) j4 hw hRM hr hS hP
    rw [t1, Option.bind_some, e_planHours j4 hw hr rfl rfl, Option.bind_some]
    dsimp only
    obtain ⟨ω, o1, o2, o3, o4, o5, o6, o7, o8, o9⟩ := e_findBest (L := L) hN h4 hw hRM hr hd (rfl : σM.1 3 = _) rfl
    rw [o1, Option.bind_some]
    unfold f_L_makeRows
    rw [t2.1]
    have Y : q_Y 94 (σM.1 3) L n m d (σM.1 1) (h + 0) (jx_w τ 92 10 (nI (q_hr j d h))) ω := ⟨hw, hRM, hr, q_SC_k t4 (fun c i h1 h2 => q_wC (by omega)), q_PC_k t5 (fun c i hc => q_wC (by omega)), o6, o7⟩
    obtain ⟨ψ, φ, g1, g2, g3, g4, g5, g6⟩ := e_prove (N := N) (by omega) h4 hd (by omega) (q_hr j d h) 0 N N _ _ ω (by omega) (by omega) (by omega) Y q_wS o4 (fun i hi => by rw [q_wC (by decide)]; exact t3.2 i hi) (fun i w hi _ => absurd hi (by omega))
    rw [show f_L_makeRows_17 N N 0 _ = _ from g1, show f_M_prove_24 N N _ 0 ω = _ from g2, Option.bind_some]
    obtain ⟨χ, x1, x2, x3, x4⟩ := e_load0 (N := N) (row := σM.1 1) (σ := φ) (by omega) (fun i hi => by rw [g5.1 2 i rfl]; exact o8 i hi) g6
    rw [x1, Option.bind_some]
    have gC : ∀ c i, (c < 92 ∨ 120 < c) → (c ≠ 26 ∨ 5 ≤ i) → ψ.1 c i = σC.1 c i := fun c i z z2 => by
      rw [g4.1 c i (by unfold q_vC q_pg; simp; omega), q_wC (by omega), t6.1 c i (by unfold q_wA; simp; omega)]
    have gM : ∀ c i, c ≠ 1 → c ≠ 2 → c ≠ 9 → c ≠ 10 → c ≠ 13 → (c ≠ 0 ∨ i < 22 ∨ (27 < i ∧ i ≠ 29)) → (jx_w χ 0 29 (nI (q_hr j d h))).1 c i = σM.1 c i := fun c i a1 a2 a3 a4 a5 a6 => by
      rw [q_w, if_neg (by omega), x3 c a1, g5.1 c i (by unfold q_vM q_p1; simp; omega), o9.1 c i (by unfold q_pm; simp; omega)]
    refine ⟨_, ψ, _, rfl, rfl, ⟨L, n, m, d, h, t, ?_⟩, q_K_k hK (fun c i z => gC _ _ (by omega) (by omega)) (fun c i z => gM _ _ (by omega) (by omega) (by omega) (by omega) (by omega) (by omega)), q_T_k hT (fun c i z => gC _ _ (by omega) (by omega)) (fun c i z => gM _ _ (by omega) (by omega) (by omega) (by omega) (by omega) (by omega)), ⟨q_hr j d h, h4, ?_, q_wS, fun k w hk hw => ?_⟩, q_H_k hH (fun c i z => gC _ _ (by omega) (by omega)) (fun c i z => gM _ _ (by omega) (by omega) (by omega) (by omega) (by omega) (by omega)) (fun i => by rw [q_w2, x4, g5.2, o9.2]), q_V_k hV (fun c i z => gC _ _ (by omega) (by omega)) (fun c i z => gM _ _ (by omega) (by omega) (by omega) (by omega) (by omega) (by omega)), q_X_k hX (fun c i z => gC _ _ (by omega) (by omega)) (fun c i z => gM _ _ (by omega) (by omega) (by omega) (by omega) (by omega) (by omega))⟩
    · rw [show (jx_w χ 0 29 (nI (q_hr j d h))).1 3 = σM.1 3 from funext fun i => gM 3 i (by omega) (by omega) (by omega) (by omega) (by omega) (by omega), q_w0 (by decide), x2]
      exact q_AA_k H (fun c i h1 h2 => gC _ _ (by omega) (by omega))
    · rw [g4.1 92 10 rfl, q_wS]
    · rw [q_wC (by decide), x3 13 (by decide)]
      exact g3 k w hk hw
