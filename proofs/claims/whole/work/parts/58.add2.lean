/-! ===== pure: lesson, report, quarrel, anew, many ===== -/
theorem u_lesson {N : Nat} (hN : 300 ≤ N) {x1 x2 x3 x4 x5 : Int32} : q_U (f_F_lesson N x1 x2 x3 x4 x5) (f_M_lesson N x1 x2 x3 x4 x5) := by
  intro σC σM hR
  obtain ⟨⟨L, n, m, d, h, t, H⟩, hO⟩ := id hR
  obtain ⟨hw, hq, ht, hRM, hr, hS, hP⟩ := id H
  have em : σC.1 1 5 = nI m := by rw [show σC.1 1 5 = _ from hS.1 0 5 3 rfl]; exact hw.2.2.2.2.2.1
  have hn := hw.1
  have hm := hw.2.1
  have eM := hw.2.2.2.2.2.1
  unfold f_F_lesson f_M_lesson
  by_cases c : x1 < 1 ∨ 20 < x1
  · rw [e_win0 c, e_in0 c, q_bz0, q_bz0]
    exact ⟨_, σC, σM, rfl, rfl, hR⟩
  · rw [e_win1 c, e_in1 c, q_bz1, q_bz1]
    dsimp only
    rw [em, eM]
    by_cases c2 : x2 < -1 ∨ nI m - 1 < x2
    · rw [e_win0 c2, e_in0 c2, q_bz0, q_bz0]
      exact ⟨_, σC, σM, rfl, rfl, hR⟩
    · rw [e_win1 c2, e_in1 c2, q_bz1, q_bz1]
      dsimp only
      by_cases c3 : x3 < 0 ∨ 15 < x3
      · rw [e_win0 c3, e_in0 c3, q_bz0, q_bz0]
        exact ⟨_, σC, σM, rfl, rfl, hR⟩
      · rw [e_win1 c3, e_in1 c3, q_bz1, q_bz1]
        dsimp only
        obtain ⟨f, _, hf, rfl⟩ := q_num 0 15 c3
        by_cases c4 : x4 < nI f ∨ 15 < x4
        · rw [e_win0 c4, e_in0 c4, q_bz0, q_bz0]
          exact ⟨_, σC, σM, rfl, rfl, hR⟩
        · rw [e_win1 c4, e_in1 c4, q_bz1, q_bz1]
          dsimp only
          obtain ⟨e, fe, he, rfl⟩ := q_num f 15 c4 rfl rfl (by omega) (by decide)
          by_cases c5 : x5 < 1 ∨ 6 < x5
          · rw [e_win0 c5, e_in0 c5, q_bz0, q_bz0]
            exact ⟨_, σC, σM, rfl, rfl, hR⟩
          · rw [e_win1 c5, e_in1 c5, q_bz1, q_bz1]
            dsimp only
            rw [em, eM]
            by_cases g : m = 8
            · rw [if_neg (show ¬ nI m < 8 by rw [g]; decide), if_pos (show nI m = 8 by rw [g]; rfl)]
              exact ⟨_, σC, σM, rfl, rfl, hR⟩
            · have hm8 : m < 8 := by omega
              rw [if_pos (show nI m < 8 from nI_lt (b := 8) hm8 (by decide)), if_neg (show ¬ nI m = 8 from fun w => g ((nI_eq (b := 8) (by omega) (by decide)).mp w))]
              unfold f_S_addLesson
              have i0 : (24 : Int32) + (5 * nI m) = nI (24 + 5 * m + 0) := by
                show nI 24 + (nI 5 * nI m) = _
                rw [pk_mul, nI_add]
                rfl
              rw [em, q_in hm8 (by decide), cond_true, nI_clamp (show m < 2 ^ 31 by omega), show (24 : Int32) + (5 * nI m) + 1 = nI (24 + 5 * m + 1) from q_i5 m 1, show (24 : Int32) + (5 * nI m) + 2 = nI (24 + 5 * m + 2) from q_i5 m 2, show (24 : Int32) + (5 * nI m) + 3 = nI (24 + 5 * m + 3) from q_i5 m 3, show (24 : Int32) + (5 * nI m) + 4 = nI (24 + 5 * m + 4) from q_i5 m 4, i0, q_in (show 24 + 5 * m + 0 < 526 by omega) (by decide), cond_true, q_in (show 24 + 5 * m + 1 < 526 by omega) (by decide), cond_true, q_in (show 24 + 5 * m + 2 < 526 by omega) (by decide), cond_true, q_in (show 24 + 5 * m + 3 < 526 by omega) (by decide), cond_true, q_in (show 24 + 5 * m + 4 < 526 by omega) (by decide), cond_true, nI_clamp (show 24 + 5 * m + 0 < 2 ^ 31 by omega), nI_clamp (show 24 + 5 * m + 1 < 2 ^ 31 by omega), nI_clamp (show 24 + 5 * m + 2 < 2 ^ 31 by omega), nI_clamp (show 24 + 5 * m + 3 < 2 ^ 31 by omega), nI_clamp (show 24 + 5 * m + 4 < 2 ^ 31 by omega)]
              rw [q_wS, q_wI (show 3 ≠ 24 + 5 * m + 4 by omega), q_wI (show 3 ≠ 24 + 5 * m + 3 by omega), q_wI (show 3 ≠ 24 + 5 * m + 2 by omega), q_wI (show 3 ≠ 24 + 5 * m + 1 by omega), q_wI (show 3 ≠ 24 + 5 * m + 0 by omega), eM, nI_1, nI_pred]
              obtain ⟨ρ, r1, r2, r3, r4⟩ := e_al58 (N := N) (m := m) he (e + 1 - f) f N (jx_w (jx_w (jx_w (jx_w (jx_w (jx_w σC 1 5 (nI (m + 1))) 6 m x1) 7 m x2) 8 m (nI f)) 9 m (nI e)) 10 m x5) (by omega) (by omega)
              rw [r1, Option.bind_some]
              have eS : va_up (va_up (va_up (va_up (va_up (va_up (σM.1 3) (24 + 5 * m + 0) x1) (24 + 5 * m + 1) x2) (24 + 5 * m + 2) (nI f)) (24 + 5 * m + 3) (nI e)) (24 + 5 * m + 4) x5) 3 (nI (m + 1)) = va_up (va_up (va_up (va_up (va_up (va_up (σM.1 3) 3 (nI (m + 1))) (24 + 5 * m + 0) x1) (24 + 5 * m + 1) x2) (24 + 5 * m + 2) (nI f)) (24 + 5 * m + 3) (nI e)) (24 + 5 * m + 4) x5 := by
                rw [q_up_c (show 24 + 5 * m + 4 ≠ 3 by omega), q_up_c (show 24 + 5 * m + 3 ≠ 3 by omega), q_up_c (show 24 + 5 * m + 2 ≠ 3 by omega), q_up_c (show 24 + 5 * m + 1 ≠ 3 by omega), q_up_c (show 24 + 5 * m + 0 ≠ 3 by omega)]
              have hk : ∀ k, k ≠ 3 → (k < 24 + 5 * m ∨ 24 + 5 * m + 5 ≤ k) → va_up (va_up (va_up (va_up (va_up (va_up (σM.1 3) 3 (nI (m + 1))) (24 + 5 * m + 0) x1) (24 + 5 * m + 1) x2) (24 + 5 * m + 2) (nI f)) (24 + 5 * m + 3) (nI e)) (24 + 5 * m + 4) x5 k = σM.1 3 k := by
                intro k k1 k2
                rw [q_upN (by omega), q_upN (by omega), q_upN (by omega), q_upN (by omega), q_upN (by omega), q_upN k1]
              have v0 : va_up (va_up (va_up (va_up (va_up (va_up (σM.1 3) 3 (nI (m + 1))) (24 + 5 * m + 0) x1) (24 + 5 * m + 1) x2) (24 + 5 * m + 2) (nI f)) (24 + 5 * m + 3) (nI e)) (24 + 5 * m + 4) x5 (24 + 5 * m + 0) = x1 := by
                rw [q_upN (by omega), q_upN (by omega), q_upN (by omega), q_upN (by omega), q_upS]
              have v1 : va_up (va_up (va_up (va_up (va_up (va_up (σM.1 3) 3 (nI (m + 1))) (24 + 5 * m + 0) x1) (24 + 5 * m + 1) x2) (24 + 5 * m + 2) (nI f)) (24 + 5 * m + 3) (nI e)) (24 + 5 * m + 4) x5 (24 + 5 * m + 1) = x2 := by
                rw [q_upN (by omega), q_upN (by omega), q_upN (by omega), q_upS]
              have v2 : va_up (va_up (va_up (va_up (va_up (va_up (σM.1 3) 3 (nI (m + 1))) (24 + 5 * m + 0) x1) (24 + 5 * m + 1) x2) (24 + 5 * m + 2) (nI f)) (24 + 5 * m + 3) (nI e)) (24 + 5 * m + 4) x5 (24 + 5 * m + 2) = nI f := by
                rw [q_upN (by omega), q_upN (by omega), q_upS]
              have v3 : va_up (va_up (va_up (va_up (va_up (va_up (σM.1 3) 3 (nI (m + 1))) (24 + 5 * m + 0) x1) (24 + 5 * m + 1) x2) (24 + 5 * m + 2) (nI f)) (24 + 5 * m + 3) (nI e)) (24 + 5 * m + 4) x5 (24 + 5 * m + 3) = nI e := by
                rw [q_upN (by omega), q_upS]
              have v4 : va_up (va_up (va_up (va_up (va_up (va_up (σM.1 3) 3 (nI (m + 1))) (24 + 5 * m + 0) x1) (24 + 5 * m + 1) x2) (24 + 5 * m + 2) (nI f)) (24 + 5 * m + 3) (nI e)) (24 + 5 * m + 4) x5 (24 + 5 * m + 4) = x5 := q_upS
              have v5 : va_up (va_up (va_up (va_up (va_up (va_up (σM.1 3) 3 (nI (m + 1))) (24 + 5 * m + 0) x1) (24 + 5 * m + 1) x2) (24 + 5 * m + 2) (nI f)) (24 + 5 * m + 3) (nI e)) (24 + 5 * m + 4) x5 3 = nI (m + 1) := by
                rw [q_upN (by omega), q_upN (by omega), q_upN (by omega), q_upN (by omega), q_upN (by omega), q_upS]
              have s0 := q_SC_w (c := 0) (i := 5) (k := 3) (v := nI (m + 1)) hS rfl (fun l hl => by omega)
              have s1 := q_SC_w (c := 5) (i := m) (k := 24 + 5 * m + 0) (v := x1) s0 (by rw [q_js_l (by decide) (by decide) hm8]; rfl) (fun l hl => by omega)
              have s2 := q_SC_w (c := 6) (i := m) (k := 24 + 5 * m + 1) (v := x2) s1 (by rw [q_js_l (by decide) (by decide) hm8, show 19 + 6 + 5 * m = 24 + 5 * m + 1 by omega]) (fun l hl => by omega)
              have s3 := q_SC_w (c := 7) (i := m) (k := 24 + 5 * m + 2) (v := nI f) s2 (by rw [q_js_l (by decide) (by decide) hm8, show 19 + 7 + 5 * m = 24 + 5 * m + 2 by omega]) (fun l hl => by omega)
              have s4 := q_SC_w (c := 8) (i := m) (k := 24 + 5 * m + 3) (v := nI e) s3 (by rw [q_js_l (by decide) (by decide) hm8, show 19 + 8 + 5 * m = 24 + 5 * m + 3 by omega]) (fun l hl => by omega)
              have s5 := q_SC_w (c := 9) (i := m) (k := 24 + 5 * m + 4) (v := x5) s4 (by rw [q_js_l (by decide) (by decide) hm8, show 19 + 9 + 5 * m = 24 + 5 * m + 4 by omega]) (fun l hl => by omega)
              refine ⟨_, ρ, _, rfl, rfl, ⟨L, n, m + 1, d, h, t, ?_⟩, ?_⟩
              · rw [q_w0 (show (1 : Nat) ≠ 3 by decide), q_w0 (show (1 : Nat) ≠ 3 by decide), q_w0 (show (1 : Nat) ≠ 3 by decide), q_w0 (show (1 : Nat) ≠ 3 by decide), q_w0 (show (1 : Nat) ≠ 3 by decide), q_w0 (show (1 : Nat) ≠ 3 by decide), q_w1, q_w1, q_w1, q_w1, q_w1, q_w1, eS]
                generalize va_up (va_up (va_up (va_up (va_up (va_up (σM.1 3) 3 (nI (m + 1))) (24 + 5 * m + 0) x1) (24 + 5 * m + 1) x2) (24 + 5 * m + 2) (nI f)) (24 + 5 * m + 3) (nI e)) (24 + 5 * m + 4) x5 = S' at hk v0 v1 v2 v3 v4 v5 s5
                refine ⟨?_, q_wq_k hq (fun k h1 h2 => hk k (by omega) (by omega)), q_wt_k ht (hk 5 (by omega) (by omega)) (fun k h1 h2 => hk k (by omega) (by omega)), q_RM_k hRM (hk 4 (by omega) (by omega)) (fun k h1 => hk k (by omega) (by omega)), ?_, ?_, ?_⟩
                · obtain ⟨a1, a2, a3, a4, a5, a6, a7, a8, a9⟩ := hw
                  refine ⟨a1, by omega, a3, a4, by rw [hk 2 (by omega) (by omega)]; exact a5, v5, by rw [hk 0 (by omega) (by omega)]; exact a7, fun p hp => ?_, fun l hl => ?_⟩
                  · rw [hk _ (by omega) (by omega), hk _ (by omega) (by omega), hk _ (by omega) (by omega)]
                    exact a8 p hp
                  · by_cases z : l = m
                    · subst z
                      rw [v0, v1, v2, v3, v4]
                      exact ⟨q_num 1 20 c, q_need_n hm c2, ⟨f, e, fe, he, rfl, rfl⟩, q_num 1 6 c5⟩
                    · rw [hk _ (by omega) (by omega), hk _ (by omega) (by omega), hk _ (by omega) (by omega), hk _ (by omega) (by omega), hk _ (by omega) (by omega)]
                      exact a9 l (by omega)
                · obtain ⟨a1, a2, a3, a4, a5⟩ := hr
                  refine ⟨a1, a2, fun p hp => ⟨fun i h1 h2 => (a3 p hp).1 i (by omega) h2, fun l h1 h2 => (a3 p hp).2 l (by omega) h2⟩, a4, fun p l hp hl hb => ?_⟩
                  by_cases z : l = m
                  · subst z
                    rw [v0]
                    obtain ⟨hd', y1, y2, y3⟩ := q_num 1 20 c
                    exact ⟨0, hd', by omega, y2, (a3 p (by omega)).2 l (Nat.le_refl l) hm8, y3⟩
                  · rw [hk _ (by omega) (by omega)]
                    exact a5 p l hp (by omega) hb
                · refine ⟨fun c i k hk' => ?_, fun h' hh i hi => ?_, q_r0_k (rb := 1 + 18) (fun c i h1 h2 h3 => by rw [r3 _ (by omega)]) L 0 0 s5.2.2⟩
                  · rw [r3 (1 + c) (by
                      intro z
                      have : c = 10 := by omega
                      subst this
                      unfold q_js at hk'
                      simp at hk')]
                    exact s5.1 c i k hk'
                  · have z5 := s5.2.1 h' hh i hi
                    rw [show ρ.1 (1 + 10) h' = _ from r2 h']
                    by_cases z : i = m
                    · subst z
                      rw [decide_eq_true (show i < i + 1 by omega), Bool.true_and, v2, v3]
                      rw [decide_eq_false (show ¬ i < i by omega), Bool.false_and] at z5
                      by_cases y : f ≤ h' ∧ h' ≤ e
                      · rw [if_pos y, b_or, q_sh1 (by omega) hi, decide_eq_true rfl, Bool.or_true, decide_eq_false (nI_nlt (by omega) (by omega)), decide_eq_false (nI_nlt (by omega) (by omega))]
                        rfl
                      · rw [if_neg y]
                        rw [show (jx_w (jx_w (jx_w (jx_w (jx_w (jx_w σC 1 5 (nI (i + 1))) 6 i x1) 7 i x2) 8 i (nI f)) 9 i (nI e)) 10 i x5).1 11 h' = (jx_w (jx_w (jx_w (jx_w (jx_w (jx_w σC (1 + 0) 5 (nI (i + 1))) (1 + 5) i x1) (1 + 6) i x2) (1 + 7) i (nI f)) (1 + 8) i (nI e)) (1 + 9) i x5).1 (1 + 10) h' from rfl, z5]
                        by_cases y2 : h' < f
                        · rw [decide_eq_true (nI_lt y2 (by omega))]
                          rfl
                        · rw [decide_eq_true (nI_lt (show e < h' by omega) (by omega)), Bool.not_true, Bool.and_false]
                    · rw [show decide (i < m + 1) = decide (i < m) from decide_eq_decide.mpr (by omega), ← z5]
                      by_cases y : f ≤ h' ∧ h' ≤ e
                      · rw [if_pos y, b_or, q_sh1 (by omega) hi, decide_eq_false z, Bool.or_false]
                      · rw [if_neg y]
                · exact q_PC_k hP (fun c i hc => by rw [r3 _ (by omega), q_wC (by omega), q_wC (by omega), q_wC (by omega), q_wC (by omega), q_wC (by omega), q_wC (by omega)])
              · refine q_O_k hO (fun c i z => ?_) (fun c i z => ?_) (fun i => rfl)
                · unfold q_cO at z
                  rw [r3 _ (by omega), q_wC (by omega), q_wC (by omega), q_wC (by omega), q_wC (by omega), q_wC (by omega), q_wC (by omega)]
                · unfold q_mO at z
                  rw [q_wC (by omega), q_wC (by omega), q_wC (by omega), q_wC (by omega), q_wC (by omega), q_wC (by omega)]
