/-! ===== pure: methods that only look ===== -/
theorem u_state {N : Nat} {x : Int32} : q_U (f_F_state N x) (f_M_state N x) := by
  intro σC σM hR
  obtain ⟨⟨L, n, m, d, h, t, hw, hq, ht, hRM, hr, hS, hP⟩, hO⟩ := id hR
  have e0 : σC.1 27 0 = σM.1 1 0 := q_PC0 hP
  have e1 : σC.1 27 1 = σM.1 1 1 := q_PC1 hP
  have e2 : σC.1 1 14 = σM.1 3 0 := hS.1 0 14 0 rfl
  unfold f_F_state f_M_state f_S_isOver f_M_isOver
  rw [e0, e1, e2]
  by_cases c0 : x = 0
  · exact ⟨_, σC, σM, if_pos c0, if_pos c0, hR⟩
  · rw [if_neg c0, if_neg c0]
    by_cases c1 : x = 1
    · exact ⟨_, σC, σM, if_pos c1, if_pos c1, hR⟩
    · rw [if_neg c1, if_neg c1]
      by_cases c2 : x = 2
      · exact ⟨_, σC, σM, if_pos c2, if_pos c2, hR⟩
      · rw [if_neg c2, if_neg c2]
        by_cases c3 : x = 3
        · rw [if_pos c3, if_pos c3]
          by_cases c4 : σM.1 1 0 < σM.1 3 0
          · rw [if_pos c4, if_pos c4, q_bz0, q_bz0]
            exact ⟨_, σC, σM, rfl, rfl, hR⟩
          · rw [if_neg c4, if_neg c4, q_bz1, q_bz1]
            exact ⟨_, σC, σM, rfl, rfl, hR⟩
        · exact ⟨_, σC, σM, if_neg c3, if_neg c3, hR⟩
theorem u_learnt {N : Nat} {x : Int32} : q_U (f_F_learnt N x) (f_M_learnt N x) := by
  intro σC σM hR
  obtain ⟨⟨L, n, m, d, h, t, hw, hq, ht, hRM, hr, hS, hP⟩, hO⟩ := id hR
  have en : σC.1 1 0 = nI n := by rw [show σC.1 1 0 = _ from hS.1 0 0 2 rfl]; exact hw.2.2.2.2.1
  have hn := hw.1
  unfold f_F_learnt f_M_learnt
  rcases q_shD (N := N) (x := x) en hw.2.2.2.2.1 hw.1 with ⟨a, b⟩ | ⟨p, hp, rfl, a, b⟩
  · rw [a, b, q_bz0, q_bz0]
    exact ⟨_, σC, σM, rfl, rfl, hR⟩
  · rw [a, b, q_bz1, q_bz1, q_in (show p < 6 by omega) (by decide), cond_true, q_i2, q_in (show 2 + p < 56 by omega) (by decide), cond_true, nI_clamp (show p < 2 ^ 31 by omega), nI_clamp (show 2 + p < 2 ^ 31 by omega)]
    exact ⟨_, σC, σM, by rw [show σC.1 29 p = _ from q_PCl hP (show p < 6 by omega)], rfl, hR⟩
theorem u_points {N : Nat} {x y : Int32} : q_U (f_F_points N x y) (f_M_points N x y) := by
  intro σC σM hR
  obtain ⟨⟨L, n, m, d, h, t, hw, hq, ht, hRM, hr, hS, hP⟩, hO⟩ := id hR
  have en : σC.1 1 0 = nI n := by rw [show σC.1 1 0 = _ from hS.1 0 0 2 rfl]; exact hw.2.2.2.2.1
  have em : σC.1 1 5 = nI m := by rw [show σC.1 1 5 = _ from hS.1 0 5 3 rfl]; exact hw.2.2.2.2.2.1
  have hn := hw.1
  have hm := hw.2.1
  unfold f_F_points f_M_points
  rcases q_shD (N := N) (x := x) en hw.2.2.2.2.1 hw.1 with ⟨a, b⟩ | ⟨p, hp, rfl, a, b⟩
  · rw [a, b, q_bz0, q_bz0]
    exact ⟨_, σC, σM, rfl, rfl, hR⟩
  · rw [a, b, q_bz1, q_bz1]
    rcases q_leD (N := N) (x := y) em hw.2.2.2.2.2.1 hw.2.1 with ⟨a, b⟩ | ⟨l, hl, rfl, a, b⟩
    · rw [a, b, q_bz0, q_bz0]
      exact ⟨_, σC, σM, rfl, rfl, hR⟩
    · rw [a, b, q_bz1, q_bz1, q_ix8, q_in (show p * 8 + l < 48 by omega) (by decide), cond_true, nI_clamp (show p * 8 + l < 2 ^ 31 by omega), e_pts (show p < 6 by omega) (show l < 8 by omega), Option.bind_some]
      exact ⟨_, σC, σM, by rw [show σC.1 28 (p * 8 + l) = _ from q_PCp hP (show p < 6 by omega) (show l < 8 by omega)], rfl, hR⟩
theorem u_quarrels {N : Nat} {x : Int32} : q_U (f_F_quarrels N x) (f_M_quarrels N x) := by
  intro σC σM hR
  obtain ⟨⟨L, n, m, d, h, t, hw, hq, ht, hRM, hr, hS, hP⟩, hO⟩ := id hR
  have en : σC.1 1 0 = nI n := by rw [show σC.1 1 0 = _ from hS.1 0 0 2 rfl]; exact hw.2.2.2.2.1
  have hn := hw.1
  unfold f_F_quarrels f_M_quarrels
  rcases q_shD (N := N) (x := x) en hw.2.2.2.2.1 hw.1 with ⟨a, b⟩ | ⟨p, hp, rfl, a, b⟩
  · rw [a, b, q_bz0, q_bz0]
    exact ⟨_, σC, σM, rfl, rfl, hR⟩
  · rw [a, b, q_bz1, q_bz1, q_in (show p < 6 by omega) (by decide), cond_true, show (64 : Int32) + nI p = nI (64 + p) from nI_add 64 p, q_in (show 64 + p < 526 by omega) (by decide), cond_true, nI_clamp (show p < 2 ^ 31 by omega), nI_clamp (show 64 + p < 2 ^ 31 by omega)]
    exact ⟨_, σC, σM, by rw [show σC.1 5 p = _ from hS.1 4 p _ (q_js_q (show p < 6 by omega))], rfl, hR⟩
/-! ===== one number is written ===== -/
theorem u_dusk {N : Nat} {x : Int32} : q_U (f_F_dusk N x) (f_M_dusk N x) := by
  intro σC σM hR
  obtain ⟨⟨L, n, m, d, h, t, hw, hq, ht, hRM, hr, hS, hP⟩, hO⟩ := id hR
  unfold f_F_dusk f_M_dusk
  by_cases c : x < 1 ∨ 16 < x
  · rw [e_win0 c, e_in0 c, q_bz0, q_bz0]
    exact ⟨_, σC, σM, rfl, rfl, hR⟩
  · rw [e_win1 c, e_in1 c, q_bz1, q_bz1]
    dsimp only
    have e0 : σC.1 27 0 = σM.1 1 0 := q_PC0 hP
    rw [e0]
    by_cases c2 : σM.1 1 0 ≤ x
    · rw [if_pos c2, if_pos c2]
      unfold f_M_becomes
      rw [show jx_in 0 526 = true from rfl, cond_true, Option.bind_some]
      refine ⟨_, jx_w σC 1 14 x, jx_w σM 3 0 x, by rw [show σC.1 1 14 = _ from hS.1 0 14 0 rfl]; rfl, rfl, ⟨L, n, m, ?_⟩, ?_⟩
      · obtain ⟨j, j1, j2, rfl⟩ := q_num 1 16 c
        rw [q_w1, q_w0 (show (1 : Nat) ≠ 3 by decide)]
        refine ⟨j, h, t, ?_, q_wq_k hq (fun k h1 h2 => q_upN (by omega)), q_wt_k ht (q_upN (by decide)) (fun k h1 h2 => q_upN (by omega)), q_RM_k hRM (q_upN (by decide)) (fun k h1 => q_upN (by omega)), ?_, q_SC_w (c := 0) hS rfl (fun l hl => by omega), q_PC_k hP (fun c i hc => q_wC (by omega))⟩
        · obtain ⟨a1, a2, a3, a4, a5, a6, a7, a8, a9⟩ := hw
          refine ⟨a1, a2, j1, j2, by rw [q_upN (by decide)]; exact a5, by rw [q_upN (by decide)]; exact a6, q_upS, fun p hp => ?_, fun l hl => ?_⟩
          · rw [q_upN (by omega), q_upN (by omega), q_upN (by omega)]
            exact a8 p hp
          · rw [q_upN (by omega), q_upN (by omega), q_upN (by omega), q_upN (by omega), q_upN (by omega)]
            exact a9 l hl
        · have z := q_wr_k (S' := va_up (σM.1 3) 0 (nI j)) hr (fun l hl => q_upN (by omega))
          refine ⟨z.1, ?_, z.2.2⟩
          rw [z.1] at c2
          have h16 := hw.2.2.2.1
          have hd := hr.2.1
          exact (nI_leI (by omega) (by omega)).mp c2
      · exact q_O_k hO (fun c i z => q_wC (by unfold q_cO at z; omega)) (fun c i z => q_wC (by unfold q_mO at z; omega)) (fun i => rfl)
    · rw [if_neg c2, if_neg c2]
      exact ⟨_, σC, σM, rfl, rfl, hR⟩
/-- a number of the school that has no bearing on the counts -/
theorem q_R_w {σC σM : jw_M} {L : q_L} {n m d h t c i k : Nat} {v : Int32} (H : q_AA 1 σC (σM.1 3) (σM.1 1) L n m d h t) (hO : q_O σC σM) (hk : q_js c i = some k) (hn : ∀ l, l < m → k ≠ 24 + 5 * l + 2 ∧ k ≠ 24 + 5 * l + 3) (w1 : q_wf (va_up (σM.1 3) k v) n m d) (w2 : q_wq (va_up (σM.1 3) k v) n) (w3 : ∃ t', q_wt (va_up (σM.1 3) k v) t') (h4 : k ≠ 4) (hh : ∀ l, l < m → k ≠ 24 + 5 * l + 0) : q_R (jx_w σC (1 + c) i v) (jx_w σM 3 k v) := by
  obtain ⟨hw, hq, ht, hRM, hr, hS, hP⟩ := H
  obtain ⟨t', w3⟩ := w3
  have hc := (q_jsr hk).1
  have hk94 := (q_jsv hk).2
  refine ⟨⟨L, n, m, d, h, t', ?_⟩, q_O_k hO (fun c i z => q_wC (by unfold q_cO at z; omega)) (fun c i z => q_wC (by unfold q_mO at z; omega)) (fun i => rfl)⟩
  rw [q_w1, q_w0 (show (1 : Nat) ≠ 3 by decide)]
  exact ⟨w1, w2, w3, q_RM_k hRM (q_upN (Ne.symm h4)) (fun k' h1 => q_upN (by omega)), q_wr_k hr (fun l hl => q_upN (Ne.symm (hh l hl))), q_SC_w hS hk hn, q_PC_k hP (fun c' i' hc' => q_wC (by omega))⟩
theorem u_seed' {N : Nat} {x : Int32} : q_U (f_F_seed N x) (f_M_seed N x) := by
  intro σC σM hR
  obtain ⟨⟨L, n, m, d, h, t, H⟩, hO⟩ := hR
  obtain ⟨hw, hq, ht, hRM, hr, hS, hP⟩ := id H
  obtain ⟨a, b⟩ := u_seed (N := N) (x := x) (σC := σC) (σM := σM) hS.1
  exact ⟨_, _, _, a, b, q_R_w (c := 0) H hO rfl (fun l hl => by omega) (q_wf_k hw (fun k _ h1 _ _ => q_upN h1)) (q_wq_k hq (fun k h1 h2 => q_upN (by omega))) ⟨t, q_wt_k ht (q_upN (by decide)) (fun k h1 h2 => q_upN (by omega))⟩ (by decide) (fun l hl => by omega)⟩
theorem u_forget' {N : Nat} : q_U (f_F_forget N) (f_M_forget N) := by
  intro σC σM hR
  obtain ⟨⟨L, n, m, d, h, t, H⟩, hO⟩ := hR
  obtain ⟨hw, hq, ht, hRM, hr, hS, hP⟩ := id H
  obtain ⟨a, b⟩ := u_forget (N := N) (σC := σC) (σM := σM) hS.1
  exact ⟨_, _, _, a, b, q_R_w (c := 0) H hO rfl (fun l hl => by omega) (q_wf_k hw (fun k _ _ _ h1 => q_upN h1)) (q_wq_k hq (fun k h1 h2 => q_upN (by omega))) ⟨0, ⟨by decide, q_upS, fun r hr => absurd hr (by omega)⟩⟩ (by decide) (fun l hl => by omega)⟩
theorem q_wf_s {S : q_f} {n m d p w : Nat} {v : Int32} (h : q_wf S n m d) (hp : p < n) (hw : w < 3) (hv : ∃ k, 1 ≤ k ∧ k ≤ (if w = 0 then 5 else 9) ∧ v = nI k) : q_wf (va_up S (6 + 3 * p + w) v) n m d := by
  obtain ⟨k, k1, k2, ev⟩ := hv
  obtain ⟨a1, a2, a3, a4, a5, a6, a7, a8, a9⟩ := h
  refine ⟨a1, a2, a3, a4, by rw [q_upN (by omega)]; exact a5, by rw [q_upN (by omega)]; exact a6, by rw [q_upN (by omega)]; exact a7, fun p' hp' => ⟨?_, ?_, ?_⟩, fun l hl => ?_⟩
  · by_cases e : 6 + 3 * p' + 0 = 6 + 3 * p + w
    · rw [e, q_upS]
      rw [if_pos (by omega)] at k2
      exact ⟨k, k1, k2, ev⟩
    · rw [q_upN e]
      exact (a8 p' hp').1
  · by_cases e : 6 + 3 * p' + 1 = 6 + 3 * p + w
    · rw [e, q_upS]
      rw [if_neg (by omega)] at k2
      exact ⟨k, k1, k2, ev⟩
    · rw [q_upN e]
      exact (a8 p' hp').2.1
  · by_cases e : 6 + 3 * p' + 2 = 6 + 3 * p + w
    · rw [e, q_upS]
      rw [if_neg (by omega)] at k2
      exact ⟨k, k1, k2, ev⟩
    · rw [q_upN e]
      exact (a8 p' hp').2.2
  · rw [q_upN (by omega), q_upN (by omega), q_upN (by omega), q_upN (by omega), q_upN (by omega)]
    exact a9 l hl
/-- a shadow's number is changed -/
theorem q_R_s {σC σM : jw_M} {L : q_L} {n m d h t p w : Nat} {v : Int32} (H : q_AA 1 σC (σM.1 3) (σM.1 1) L n m d h t) (hO : q_O σC σM) (hp : p < n) (hw : w < 3) (hv : ∃ k, 1 ≤ k ∧ k ≤ (if w = 0 then 5 else 9) ∧ v = nI k) : q_R (jx_w σC (1 + (1 + w)) p v) (jx_w σM 3 (6 + 3 * p + w) v) := by
  have hn := H.1.1
  refine q_R_w H hO ?_ (fun l hl => by omega) (q_wf_s H.1 hp hw hv) (q_wq_k H.2.1 (fun k h1 h2 => q_upN (by omega))) ⟨t, q_wt_k H.2.2.1 (q_upN (by omega)) (fun k h1 h2 => q_upN (by omega))⟩ (by omega) (fun l hl => by omega)
  rw [q_js_s (c := 1 + w) (by omega) (by omega) (by omega), show 5 + (1 + w) + 3 * p = 6 + 3 * p + w by omega]
theorem u_change {N : Nat} {x y v : Int32} : q_U (f_F_change N x y v) (f_M_change N x y v) := by
  intro σC σM hR
  obtain ⟨⟨L, n, m, d, h, t, H⟩, hO⟩ := id hR
  obtain ⟨hw, hq, ht, hRM, hr, hS, hP⟩ := id H
  have en : σC.1 1 0 = nI n := by rw [show σC.1 1 0 = _ from hS.1 0 0 2 rfl]; exact hw.2.2.2.2.1
  have hn := hw.1
  unfold f_F_change f_M_change
  rcases q_shD (N := N) (x := x) en hw.2.2.2.2.1 hw.1 with ⟨a, b⟩ | ⟨p, hp, rfl, a, b⟩
  · rw [a, b, q_bz0, q_bz0]
    exact ⟨_, σC, σM, rfl, rfl, hR⟩
  · rw [a, b, q_bz1, q_bz1]
    dsimp only
    by_cases c : y < 1 ∨ 2 < y
    · rw [e_win0 c, e_in0 c, q_bz0, q_bz0]
      exact ⟨_, σC, σM, rfl, rfl, hR⟩
    · rw [e_win1 c, e_in1 c, q_bz1, q_bz1, ite_self]
      dsimp only
      unfold f_F_change_34
      by_cases c2 : v < 1 ∨ 9 < v
      · rw [e_win0 c2, e_in0 c2, q_bz0, q_bz0]
        exact ⟨_, σC, σM, rfl, rfl, hR⟩
      · rw [e_win1 c2, e_in1 c2, q_bz1, q_bz1, q_in (show p < 6 by omega) (by decide), cond_true, cond_true, nI_clamp (show p < 2 ^ 31 by omega)]
        dsimp only
        obtain ⟨w, w1, w2, rfl⟩ := q_num 1 2 c
        unfold f_M_becomes
        rw [q_i3, q_in (show 6 + 3 * p + w < 526 by omega) (by decide), cond_true, Option.bind_some, nI_clamp (show 6 + 3 * p + w < 2 ^ 31 by omega)]
        have hv : ∃ k, 1 ≤ k ∧ k ≤ (if w = 0 then 5 else 9) ∧ v = nI k := by
          obtain ⟨k, k1, k2, e⟩ := q_num 1 9 c2
          exact ⟨k, k1, by rw [if_neg (by omega)]; exact k2, e⟩
        have z := q_R_s H hO hp (show w < 3 by omega) hv
        rcases (show w = 1 ∨ w = 2 by omega) with rfl | rfl
        · rw [if_pos (show nI 1 = 1 from rfl)]
          exact ⟨_, _, _, by rw [show σC.1 3 p = _ from q_SCs hS (w := 1) (by decide) (show p < 6 by omega)], rfl, z⟩
        · rw [if_neg (show ¬ nI 2 = 1 by decide)]
          exact ⟨_, _, _, by rw [show σC.1 4 p = _ from q_SCs hS (w := 2) (by decide) (show p < 6 by omega)], rfl, z⟩
theorem u_remake {N : Nat} {x v : Int32} : q_U (f_F_remake N x v) (f_M_remake N x v) := by
  intro σC σM hR
  obtain ⟨⟨L, n, m, d, h, t, H⟩, hO⟩ := id hR
  obtain ⟨hw, hq, ht, hRM, hr, hS, hP⟩ := id H
  have en : σC.1 1 0 = nI n := by rw [show σC.1 1 0 = _ from hS.1 0 0 2 rfl]; exact hw.2.2.2.2.1
  have hn := hw.1
  unfold f_F_remake f_M_remake
  rcases q_shD (N := N) (x := x) en hw.2.2.2.2.1 hw.1 with ⟨a, b⟩ | ⟨p, hp, rfl, a, b⟩
  · rw [a, b, q_bz0, q_bz0]
    exact ⟨_, σC, σM, rfl, rfl, hR⟩
  · rw [a, b, q_bz1, q_bz1]
    dsimp only
    by_cases c2 : v < 1 ∨ 5 < v
    · rw [e_win0 c2, e_in0 c2, q_bz0, q_bz0]
      exact ⟨_, σC, σM, rfl, rfl, hR⟩
    · rw [e_win1 c2, e_in1 c2, q_bz1, q_bz1, q_in (show p < 6 by omega) (by decide), cond_true, nI_clamp (show p < 2 ^ 31 by omega)]
      dsimp only
      unfold f_M_becomes
      have hi : (6 : Int32) + (3 * nI p) = nI (6 + 3 * p + 0) := by
        show nI 6 + (nI 3 * nI p) = _
        rw [pk_mul, nI_add]
        rfl
      rw [hi, q_in (show 6 + 3 * p + 0 < 526 by omega) (by decide), cond_true, Option.bind_some, nI_clamp (show 6 + 3 * p + 0 < 2 ^ 31 by omega)]
      have z := q_R_s H hO hp (show 0 < 3 by omega) (q_num 1 5 c2)
      exact ⟨_, _, _, by rw [show σC.1 2 p = _ from q_SCs hS (w := 0) (by decide) (show p < 6 by omega)], rfl, z⟩
