/-! ===== pure: lot, often ===== -/
def q_pgz (p1 c i : Nat) : Bool := q_pg p1 c i || (c == 1 && i == 15)
def q_p1z (c i : Nat) : Bool := q_p1 c i || (c == 3 && i == 1)
theorem q_pgz_0 {p1 c i : Nat} (h : q_pgz p1 c i = false) : q_pg p1 c i = false := by
  unfold q_pgz at h
  rw [Bool.or_eq_false_iff] at h
  exact h.1
theorem q_p1z_0 {c i : Nat} (h : q_p1z c i = false) : q_p1 c i = false := by
  unfold q_p1z at h
  rw [Bool.or_eq_false_iff] at h
  exact h.1
theorem e_lot {N p1 n m d h : Nat} {S : q_f} {L : q_L} {row : q_f} {σC σM : jw_M} (hN : 300 ≤ N) (hp1 : 27 ≤ p1) (H : q_Y p1 S L n m d row h σC σM) (hd : h < d) : ∃ w row' z σC' σM', f_S_goByLot N p1 σC = some (w, σC') ∧ f_M_lotGoes N σM = some (w, σM') ∧ q_Y p1 (va_up S 1 z) L n m d row' (h + 1) σC' σM' ∧ (∀ i, 56 ≤ i → row' i = row i) ∧ q_fr (q_pgz p1) σC σC' ∧ q_fr q_p1z σM σM' := by
  obtain ⟨hw, hR, hr, hS, hP, h3, h1⟩ := id H
  have hn := hw.1
  obtain ⟨z, hz⟩ : ∃ z, z = S 1 * 1103515245 + 12345 := ⟨_, rfl⟩
  have Y : q_Y p1 (va_up S 1 z) L n m d row h (jx_w σC 1 15 z) (jx_w σM 3 1 z) := ⟨q_wf_k hw (fun k _ h1 _ _ => q_upN h1), q_RM_k hR (q_upN (by decide)) (fun k hk => q_upN (by omega)), q_wr_k hr (fun l hl => q_upN (by omega)), q_SC_w (c := 0) hS rfl (fun l hl => by omega), q_PC_k hP (fun c i hc => q_wC (by omega)), by rw [q_w1, h3], by rw [q_w0 (by decide), h1]⟩
  have en : σC.1 1 0 = nI n := by rw [show σC.1 1 0 = _ from hS.1 0 0 2 rfl]; exact hw.2.2.2.2.1
  have en' : σM.1 3 2 = nI n := by rw [h3]; exact hw.2.2.2.2.1
  unfold f_S_goByLot f_M_lotGoes
  rw [show σC.1 1 15 = S 1 from hS.1 0 15 1 rfl, show σM.1 3 1 = S 1 by rw [h3], ← hz]
  rw [q_wI (show (0 : Nat) ≠ 15 by decide), q_wI (show (2 : Nat) ≠ 1 by decide), q_wS, q_wS, en, en', nI_1, if_neg (nI_ne0 (by omega) (by omega)), if_neg (nI_ne0 (by omega) (by omega))]
  obtain ⟨τ, υ, t1, v1, Y', _, fC, fM⟩ := e_two (N := N) (a := ((Int32.toUInt32 z >>> (Int32.toUInt32 16 &&& Int32.toUInt32 31)).toInt32 - (Int32.toUInt32 z >>> (Int32.toUInt32 16 &&& Int32.toUInt32 31)).toInt32 / nI (n + 1) * nI (n + 1))) hN hp1 Y hd
  rw [t1, v1, Option.bind_some, Option.bind_some]
  exact ⟨_, _, z, τ, υ, rfl, rfl, Y', fun i hi => q_go_hi Y.1 hi, q_fr_t (q_fr_w (q_fr_r _ _) (by unfold q_pgz; simp)) (q_fr_m fC (fun c i z => q_pgz_0 z)), q_fr_t (q_fr_w (q_fr_r _ _) (by unfold q_p1z; simp)) (q_fr_m fM (fun c i z => q_p1z_0 z))⟩
theorem u_lot {N : Nat} (hN : 300 ≤ N) : q_U (f_F_lot N) (f_M_lot N) := by
  intro σC σM hR
  obtain ⟨⟨L, n, m, d, h, t, hw, hq, ht, hRM, hr, hS, hP⟩, hO⟩ := id hR
  have hP : q_PC 27 σC (σM.1 1) := hP
  have Y : q_Y 27 (σM.1 3) L n m d (σM.1 1) h σC σM := ⟨hw, hRM, hr, hS, hP, rfl, rfl⟩
  unfold f_F_lot f_M_lot
  by_cases c : h < d
  · rw [((e_over Y).1 c).1, ((e_over Y).1 c).2, q_bz0, q_bz0]
    dsimp only
    obtain ⟨w, row', z, τ, υ, t1, v1, Y', _, fC, fM⟩ := e_lot hN (by decide) Y c
    rw [t1, v1, Option.bind_some, Option.bind_some]
    refine ⟨_, τ, υ, rfl, rfl, ⟨L, n, m, d, h + 1, t, ?_⟩, q_O_f hO fC fM (fun c i z => ?_) (fun c i z => ?_)⟩
    · rw [Y'.2.2.2.2.2.1, Y'.2.2.2.2.2.2]
      exact ⟨Y'.1, q_wq_k hq (fun k h1 h2 => q_upN (by omega)), q_wt_k ht (q_upN (by decide)) (fun k h1 h2 => q_upN (by omega)), Y'.2.1, Y'.2.2.1, Y'.2.2.2.1, Y'.2.2.2.2.1⟩
    · unfold q_pgz
      rw [q_O_pg (by decide) (Or.inl (by decide)) c i z]
      unfold q_cO at z
      simp
      omega
    · unfold q_p1z
      rw [q_O_p1 c i z]
      unfold q_mO at z
      simp
      omega
  · rw [((e_over Y).2 c).1, ((e_over Y).2 c).2, q_bz1, q_bz1]
    exact ⟨_, σC, σM, rfl, rfl, hR⟩
theorem e_oft69 {N n m d : Nat} {S : q_f} {L : q_L} {KC KM : Int32 → Int32 → Int32 → Int32 → Int32 → jw_M → Option (Int32 × jw_M)} {x1 x2 x3 x4 x5 : Int32} (hN : 300 ≤ N) : ∀ (r h k k2 : Nat) (w0 z : Int32) (row : q_f) (σC σM : jw_M), h + r = d → r < k → r < k2 → q_Y 75 (va_up S 1 z) L n m d row h σC σM → ∃ w row' z' σC' σM', f_F_often_69 N KC k x1 x2 x3 x4 x5 w0 (nI h) σC = (if w < x2 then f_F_often_112 N KC x1 x2 x3 x4 x5 σC' else f_F_often_112 N KC x1 x2 x3 (x4 + 1) x5 σC') ∧ f_M_often_50 N KM k2 x1 x2 x3 x4 x5 w0 σM = ((f_M_load N 0 σM').bind fun z15 => if w < x2 then f_M_often_87 N KM x1 x2 x3 x5 x4 0 z15 else f_M_often_87 N KM x1 x2 x3 x5 x4 1 z15) ∧ q_Y 75 (va_up S 1 z') L n m d row' d σC' σM' ∧ (∀ i, 56 ≤ i → row' i = row i) ∧ q_fr (q_pgz 75) σC σC' ∧ q_fr q_p1z σM σM' := by
  intro r
  induction r with
  | zero =>
    intro h k k2 w0 z row σC σM hd hk hk2 H
    obtain ⟨k, rfl⟩ : ∃ j, k = j + 1 := ⟨k - 1, by omega⟩
    obtain ⟨k2, rfl⟩ : ∃ j, k2 = j + 1 := ⟨k2 - 1, by omega⟩
    have d16 := H.1.2.2.2.1
    have hd : h = d := by omega
    subst hd
    refine ⟨w0, row, z, σC, σM, ?_, ?_, H, fun _ _ => rfl, q_fr_r _ _, q_fr_r _ _⟩
    · rw [f_F_often_69, q_Yd H, if_pos (nI_le (by omega) (by omega))]
    · rw [f_M_often_50, ((e_over H).2 (by omega)).2, q_bz1]
  | succ r ih =>
    intro h k k2 w0 z row σC σM hd hk hk2 H
    obtain ⟨k, rfl⟩ : ∃ j, k = j + 1 := ⟨k - 1, by omega⟩
    obtain ⟨k2, rfl⟩ : ∃ j, k2 = j + 1 := ⟨k2 - 1, by omega⟩
    have d16 := H.1.2.2.2.1
    have hlt : h < d := by omega
    obtain ⟨w, row', z', τ, υ, t1, v1, Y, hi, fC, fM⟩ := e_lot hN (show 27 ≤ 75 by decide) H hlt
    rw [q_up_up] at Y
    rw [f_F_often_69, q_Yd H, if_neg (nI_ge hlt (by omega)), t1, Option.bind_some, f_M_often_50, ((e_over H).1 hlt).2, q_bz0]
    dsimp only
    rw [v1, Option.bind_some, nI_1]
    dsimp only
    obtain ⟨w2, row2, z2, τ2, υ2, g1, g2, g3, g4, g5, g6⟩ := ih (h + 1) k k2 (w0 + w) z' row' τ υ (by omega) (by omega) (by omega) Y
    exact ⟨w2, row2, z2, τ2, υ2, g1, g2, g3, fun i z => by rw [g4 i z, hi i z], q_fr_t fC g5, q_fr_t fM g6⟩
theorem e_oft {N n m d h c : Nat} {S : q_f} {L : q_L} {row : q_f} {x2 x3 : Int32} (hN : 300 ≤ N) (hc : c ≤ 40) (hw : q_wf S n m d) (hR : q_RM S L) (hr : q_wr S n m d row h) : ∀ (r i k k2 : Nat) (x4 z : Int32) (σC σM : jw_M), i + r = c → r < k → r < k2 → q_SC 1 σC (va_up S 1 z) L m → q_PC 27 σC row → σM.1 3 = va_up S 1 z → σM.1 1 = row → (∀ j, j < 56 → σM.1 2 j = row j) → ∃ x σC' σM', f_F_often_37 N k (nI c) x2 x3 x4 (nI i) σC = some (x, jx_w σC' 1 15 x3) ∧ f_M_often_41 N k2 (nI c) x2 x3 x4 (nI i) σM = some (x, jx_w σM' 3 1 x3) ∧ q_fr (q_pgx 0 15) σC σC' ∧ q_fr (q_p2x 1) σM σM' ∧ σM'.1 1 = row := by
  intro r
  induction r with
  | zero =>
    intro i k k2 x4 z σC σM hi hk hk2 hS hP h3 h1 h2
    obtain ⟨k, rfl⟩ : ∃ j, k = j + 1 := ⟨k - 1, by omega⟩
    obtain ⟨k2, rfl⟩ : ∃ j, k2 = j + 1 := ⟨k2 - 1, by omega⟩
    refine ⟨x4, σC, σM, ?_, ?_, q_fr_r _ _, q_fr_r _ _, h1⟩
    · rw [f_F_often_37, if_pos (nI_le (by omega) (by omega))]
    · rw [f_M_often_41, if_pos (nI_le (by omega) (by omega))]
  | succ r ih =>
    intro i k k2 x4 z σC σM hi hk hk2 hS hP h3 h1 h2
    obtain ⟨k, rfl⟩ : ∃ j, k = j + 1 := ⟨k - 1, by omega⟩
    obtain ⟨k2, rfl⟩ : ∃ j, k2 = j + 1 := ⟨k2 - 1, by omega⟩
    obtain ⟨τ, t1, t2, t3⟩ := e_copyP (N := N) (p0 := 75) hP (by omega)
    have d16 := hw.2.2.2.1
    have hhd := hr.2.1
    have Y : q_Y 75 (va_up S 1 z) L n m d row h τ σM := ⟨q_wf_k hw (fun k _ h1 _ _ => q_upN h1), q_RM_k hR (q_upN (by decide)) (fun k hk => q_upN (by omega)), q_wr_k hr (fun l hl => q_upN (by omega)), q_SC_g hS (by decide) (q_pp_g t3), t2, h3, h1⟩
    obtain ⟨w, row2, z2, τ2, υ2, g1, g2, g3, g4, g5, g6⟩ := e_oft69 (KC := f_F_often_37 N k) (KM := f_M_often_41 N k2) (x1 := nI c) (x2 := x2) (x3 := x3) (x4 := x4) (x5 := nI i) hN (d - h) h N N 0 z row τ σM (by omega) (by omega) (by omega) Y
    rw [f_F_often_37, if_neg (nI_ge (by omega) (by omega)), t1, Option.bind_some, q_PC0 t2, hr.1, g1, f_M_often_41, if_neg (nI_ge (by omega) (by omega)), g2]
    obtain ⟨ω, o1, o2, o3, o4, o5⟩ := e_load (N := N) (lv := 0) hN (by decide) υ2
    rw [show f_M_load N 0 υ2 = _ from o1, Option.bind_some]
    unfold f_F_often_112 f_M_often_87
    have q2 : ∀ j, υ2.1 2 j = σM.1 2 j := fun j => g6.1 2 j (by unfold q_p1z q_p1; simp)
    have e1 : ω.1 1 = row := by
      funext j
      by_cases c : j < 56
      · rw [o2 j c, q2, show 56 * 0 + j = j by omega, h2 j c]
      · rw [o3 j (by omega), g3.2.2.2.2.2.2, g4 j (by omega)]
    have e3 : ω.1 3 = va_up S 1 z2 := by rw [o4 3 (by decide), g3.2.2.2.2.2.1]
    have e2 : ∀ j, j < 56 → ω.1 2 j = row j := fun j hj => by rw [o4 2 (by decide), q2, h2 j hj]
    have eP : q_PC 27 τ2 row := q_PC_k (q_PC_k hP (fun c j hc => t3.1 _ _ (by unfold q_pp; simp; omega))) (fun c j hc => g5.1 _ _ (by unfold q_pgz q_pg; simp; omega))
    have fC : q_fr (q_pgx 0 15) σC τ2 := q_fr_t (q_fr_m (q_pp_g t3) (fun c j z => q_pgx_0 z)) (q_fr_m g5 (fun c j z => z))
    have fM : q_fr (q_p2x 1) σM ω := ⟨fun c j y => by
      by_cases c1 : c = 1
      · rw [c1, e1, h1]
      · rw [o4 c c1]
        refine g6.1 c j ?_
        unfold q_p2x q_p2 at y
        unfold q_p1z q_p1
        simp at y ⊢
        omega, by rw [o5, g6.2]⟩
    by_cases cw : w < x2
    · rw [if_pos cw, if_pos cw, nI_1, Int32.add_zero]
      obtain ⟨x, τ3, υ3, f1, f2, f3, f4, f5⟩ := ih (i + 1) k k2 x4 z2 τ2 ω (by omega) (by omega) (by omega) g3.2.2.2.1 eP e3 e1 e2
      exact ⟨x, τ3, υ3, f1, f2, q_fr_t fC f3, q_fr_t fM f4, f5⟩
    · rw [if_neg cw, if_neg cw, nI_1]
      obtain ⟨x, τ3, υ3, f1, f2, f3, f4, f5⟩ := ih (i + 1) k k2 (x4 + 1) z2 τ2 ω (by omega) (by omega) (by omega) g3.2.2.2.1 eP e3 e1 e2
      exact ⟨x, τ3, υ3, f1, f2, q_fr_t fC f3, q_fr_t fM f4, f5⟩
theorem u_often {N : Nat} (hN : 300 ≤ N) {x y : Int32} : q_U (f_F_often N x y) (f_M_often N x y) := by
  intro σC σM hR
  obtain ⟨⟨L, n, m, d, h, t, hw, hq, ht, hRM, hr, hS, hP⟩, hO⟩ := id hR
  have hP : q_PC 27 σC (σM.1 1) := hP
  unfold f_F_often f_M_often
  by_cases c : x < 1 ∨ 40 < x
  · rw [e_win0 c, e_in0 c, q_bz0, q_bz0]
    exact ⟨_, σC, σM, rfl, rfl, hR⟩
  · rw [e_win1 c, e_in1 c, q_bz1, q_bz1]
    dsimp only
    by_cases c2 : y < 0 ∨ 999 < y
    · rw [e_win0 c2, e_in0 c2, q_bz0, q_bz0]
      exact ⟨_, σC, σM, rfl, rfl, hR⟩
    · rw [e_win1 c2, e_in1 c2, q_bz1, q_bz1]
      dsimp only
      obtain ⟨j, j1, j40, rfl⟩ := q_num 1 40 c
      obtain ⟨υ, s1, s2, s3, s4, s5⟩ := e_save (N := N) (lv := 0) hN (by decide) σM
      rw [show f_M_save N 0 σM = _ from s1, Option.bind_some]
      have e0 : va_up (σM.1 3) 1 (σM.1 3 1) = σM.1 3 := q_up_id
      obtain ⟨r, τ, ω, g1, g2, g3, g4, g5⟩ := e_oft (x2 := y) (x3 := σM.1 3 1) hN j40 hw hRM hr j 0 N N 0 (σM.1 3 1) σC υ (by omega) (by omega) (by omega) (by rw [e0]; exact hS) hP (by rw [e0, s4 3 (by decide)]) (s4 1 (by decide)) (fun i hi => by have z := s2 i hi; rw [show 56 * 0 + i = i by omega] at z; exact z)
      have ez : σC.1 1 15 = σM.1 3 1 := hS.1 0 15 1 rfl
      rw [ez, show f_F_often_37 N N (nI j) y (σM.1 3 1) 0 0 σC = _ from g1, show f_M_often_41 N N (nI j) y (σM.1 3 1) 0 0 υ = _ from g2]
      have b1 := q_bkC (cc := 0) (i := 15) (by unfold q_pg; simp) g3
      rw [show σC.1 (1 + 0) 15 = σM.1 3 1 from ez] at b1
      have g6 : q_fr (q_p2x 1) σM ω := q_fr_t ⟨fun c i z => by rw [s4 c (fun w => by rw [w] at z; unfold q_p2x q_p2 at z; simp at z)], s5⟩ g4
      exact ⟨r, _, _, rfl, rfl, q_R_t hR b1 (by rw [q_w0 (by decide)]; exact g5) (q_bkM g6)⟩
