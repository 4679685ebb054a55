/-! ===== pure: report, quarrel, anew, many, lessonOf ===== -/
theorem q_i70 (r w : Nat) : (70 + (4 * nI r)) + nI w = nI (70 + 4 * r + w) := by
  show (nI 70 + (nI 4 * nI r)) + nI w = _
  rw [pk_mul, nI_add, nI_add]
theorem u_report {N : Nat} {x1 x2 x3 x4 : Int32} : q_U (f_F_report N x1 x2 x3 x4) (f_M_report N x1 x2 x3 x4) := by
  intro σC σM hR
  obtain ⟨⟨L, n, m, d, h, t, H⟩, hO⟩ := id hR
  obtain ⟨hw, hq, ht, hRM, hr, hS, hP⟩ := id H
  have et : σC.1 1 12 = nI t := by rw [show σC.1 1 12 = _ from hS.1 0 12 5 rfl]; exact ht.2.1
  have hn := hw.1
  have hm := hw.2.1
  have ht6 := ht.1
  have eM := ht.2.1
  unfold f_F_report f_M_report
  by_cases c : x1 < 1 ∨ 5 < x1
  · rw [e_win0 c, e_in0 c, q_bz0, q_bz0]
    exact ⟨_, σC, σM, rfl, rfl, hR⟩
  · rw [e_win1 c, e_in1 c, q_bz1, q_bz1]
    dsimp only
    by_cases c2 : x2 < 1 ∨ 9 < x2
    · rw [e_win0 c2, e_in0 c2, q_bz0, q_bz0]
      exact ⟨_, σC, σM, rfl, rfl, hR⟩
    · rw [e_win1 c2, e_in1 c2, q_bz1, q_bz1]
      dsimp only
      by_cases c3 : x3 < 0 ∨ 999 < x3
      · rw [e_win0 c3, e_in0 c3, q_bz0, q_bz0]
        exact ⟨_, σC, σM, rfl, rfl, hR⟩
      · rw [e_win1 c3, e_in1 c3, q_bz1, q_bz1]
        dsimp only
        by_cases c4 : x4 < x3 ∨ 999 < x4
        · rw [e_win0 c4, e_in0 c4, q_bz0, q_bz0]
          exact ⟨_, σC, σM, rfl, rfl, hR⟩
        · rw [e_win1 c4, e_in1 c4, q_bz1, q_bz1]
          dsimp only
          rw [et, eM]
          by_cases g : t = 6
          · rw [if_neg (show ¬ nI t < 6 by rw [g]; decide), if_pos (show nI t = 6 by rw [g]; rfl)]
            exact ⟨_, σC, σM, rfl, rfl, hR⟩
          · have ht6' : t < 6 := by omega
            rw [if_pos (show nI t < 6 from nI_lt (b := 6) ht6' (by decide)), if_neg (show ¬ nI t = 6 from fun w => g ((nI_eq (b := 6) (by omega) (by decide)).mp w))]
            unfold f_S_addReport f_S_addReport_19 f_S_addReport_20 f_S_addReport_29 f_S_addReport_30 f_S_addReport_39 f_S_addReport_40 f_S_addReport_49 f_S_addReport_50
            have i0 : (70 : Int32) + (4 * nI t) = nI (70 + 4 * t + 0) := by
              show nI 70 + (nI 4 * nI t) = _
              rw [pk_mul, nI_add]
              rfl
            rw [et, q_in ht6' (by decide), cond_true, cond_true, cond_true, cond_true, nI_clamp (show t < 2 ^ 31 by omega), Option.bind_some, show (70 : Int32) + (4 * nI t) + 1 = nI (70 + 4 * t + 1) from q_i70 t 1, show (70 : Int32) + (4 * nI t) + 2 = nI (70 + 4 * t + 2) from q_i70 t 2, show (70 : Int32) + (4 * nI t) + 3 = nI (70 + 4 * t + 3) from q_i70 t 3, i0, q_in (show 70 + 4 * t + 0 < 526 by omega) (by decide), cond_true, q_in (show 70 + 4 * t + 1 < 526 by omega) (by decide), cond_true, q_in (show 70 + 4 * t + 2 < 526 by omega) (by decide), cond_true, q_in (show 70 + 4 * t + 3 < 526 by omega) (by decide), cond_true, nI_clamp (show 70 + 4 * t + 0 < 2 ^ 31 by omega), nI_clamp (show 70 + 4 * t + 1 < 2 ^ 31 by omega), nI_clamp (show 70 + 4 * t + 2 < 2 ^ 31 by omega), nI_clamp (show 70 + 4 * t + 3 < 2 ^ 31 by omega)]
            rw [q_wS, q_wI (show 5 ≠ 70 + 4 * t + 3 by omega), q_wI (show 5 ≠ 70 + 4 * t + 2 by omega), q_wI (show 5 ≠ 70 + 4 * t + 1 by omega), q_wI (show 5 ≠ 70 + 4 * t + 0 by omega), eM, nI_1, nI_pred]
            have eS : va_up (va_up (va_up (va_up (va_up (σM.1 3) (70 + 4 * t + 0) x1) (70 + 4 * t + 1) x2) (70 + 4 * t + 2) x3) (70 + 4 * t + 3) x4) 5 (nI (t + 1)) = va_up (va_up (va_up (va_up (va_up (σM.1 3) 5 (nI (t + 1))) (70 + 4 * t + 0) x1) (70 + 4 * t + 1) x2) (70 + 4 * t + 2) x3) (70 + 4 * t + 3) x4 := by
              rw [q_up_c (show 70 + 4 * t + 3 ≠ 5 by omega), q_up_c (show 70 + 4 * t + 2 ≠ 5 by omega), q_up_c (show 70 + 4 * t + 1 ≠ 5 by omega), q_up_c (show 70 + 4 * t + 0 ≠ 5 by omega)]
            have hk : ∀ k, k ≠ 5 → (k < 70 + 4 * t ∨ 70 + 4 * t + 4 ≤ k) → va_up (va_up (va_up (va_up (va_up (σM.1 3) 5 (nI (t + 1))) (70 + 4 * t + 0) x1) (70 + 4 * t + 1) x2) (70 + 4 * t + 2) x3) (70 + 4 * t + 3) x4 k = σM.1 3 k := by
              intro k k1 k2
              rw [q_upN (by omega), q_upN (by omega), q_upN (by omega), q_upN (by omega), q_upN k1]
            have s0 := q_SC_w (c := 0) (i := 12) (k := 5) (v := nI (t + 1)) hS rfl (fun l hl => by omega)
            have s1 := q_SC_w (c := 12 + t) (i := 0) (k := 70 + 4 * t + 0) (v := x1) s0 (by rw [q_js_t (by omega) (by omega) (by decide), show 12 + t - 12 = t by omega]) (fun l hl => by omega)
            have s2 := q_SC_w (c := 12 + t) (i := 1) (k := 70 + 4 * t + 1) (v := x2) s1 (by rw [q_js_t (by omega) (by omega) (by decide), show 12 + t - 12 = t by omega]) (fun l hl => by omega)
            have s3 := q_SC_w (c := 12 + t) (i := 2) (k := 70 + 4 * t + 2) (v := x3) s2 (by rw [q_js_t (by omega) (by omega) (by decide), show 12 + t - 12 = t by omega]) (fun l hl => by omega)
            have s4 := q_SC_w (c := 12 + t) (i := 3) (k := 70 + 4 * t + 3) (v := x4) s3 (by rw [q_js_t (by omega) (by omega) (by decide), show 12 + t - 12 = t by omega]) (fun l hl => by omega)
            refine ⟨_, _, _, rfl, rfl, ⟨L, n, m, d, h, t + 1, ?_⟩, ?_⟩
            · rw [q_w0 (show (1 : Nat) ≠ 3 by decide), q_w0 (show (1 : Nat) ≠ 3 by decide), q_w0 (show (1 : Nat) ≠ 3 by decide), q_w0 (show (1 : Nat) ≠ 3 by decide), q_w0 (show (1 : Nat) ≠ 3 by decide), q_w1, q_w1, q_w1, q_w1, q_w1, eS]
              refine ⟨q_wf_k hw (fun k h1 _ _ h2 => hk k h2 (by omega)), q_wq_k hq (fun k h1 h2 => hk k (by omega) (by omega)), ?_, q_RM_k hRM (hk 4 (by omega) (by omega)) (fun k h1 => hk k (by omega) (by omega)), q_wr_k hr (fun l hl => hk _ (by omega) (by omega)), ?_, q_PC_k hP (fun c i hc => by rw [q_wC (by omega), q_wC (by omega), q_wC (by omega), q_wC (by omega), q_wC (by omega)])⟩
              · refine ⟨by omega, by rw [q_upN (by omega), q_upN (by omega), q_upN (by omega), q_upN (by omega), q_upS], fun r hr' => ?_⟩
                by_cases e : r = t
                · subst e
                  rw [q_upN (show 70 + 4 * r + 0 ≠ 70 + 4 * r + 3 by omega), q_upN (show 70 + 4 * r + 0 ≠ 70 + 4 * r + 2 by omega), q_upN (show 70 + 4 * r + 0 ≠ 70 + 4 * r + 1 by omega), q_upS, q_upN (show 70 + 4 * r + 1 ≠ 70 + 4 * r + 3 by omega), q_upN (show 70 + 4 * r + 1 ≠ 70 + 4 * r + 2 by omega), q_upS]
                  exact ⟨q_num 1 5 c, q_num 1 9 c2⟩
                · rw [hk _ (by omega) (by omega), hk _ (by omega) (by omega)]
                  exact ht.2.2 r (by omega)
              · rw [show 13 + t = 1 + (12 + t) by omega]
                exact s4
            · refine q_O_k hO (fun c i z => ?_) (fun c i z => ?_) (fun i => rfl)
              · unfold q_cO at z
                rw [q_wC (by omega), q_wC (by omega), q_wC (by omega), q_wC (by omega), q_wC (by omega)]
              · unfold q_mO at z
                rw [q_wC (by omega), q_wC (by omega), q_wC (by omega), q_wC (by omega), q_wC (by omega)]
/-! ===== a quarrel ===== -/
def q_qv (x v : Int32) (q : Nat) : Int32 := (x &&& (((1 : Int32) <<< (nI q &&& 31)) ^^^ (-1))) ||| (v <<< (nI q &&& 31))
theorem q_qvB {x v : Int32} {q n i : Nat} (hv : v = 0 ∨ v = 1) (hq : q < n) (hn : n ≤ 6) (hi : n ≤ i) (h32 : i < 32) (hx : bt x i = false) : bt (q_qv x v q) i = false := by
  unfold q_qv
  rw [b_or, q_bn _ _ h32, hx, Bool.false_and, Bool.false_or, b_shl q (by omega) v h32]
  rcases hv with rfl | rfl
  · rw [b_0, Bool.and_false]
  · rw [q_one _ (by omega), decide_eq_false (show ¬ i - q = 0 by omega), Bool.and_false]
theorem q_wq_w {S : q_f} {n p : Nat} {v : Int32} (h : q_wq S n) (hp : p < n) (hb : ∀ i, n ≤ i → i < 32 → bt v i = false) : q_wq (va_up S (64 + p) v) n := by
  intro p' hp'
  rw [q_up]
  by_cases e : 64 + p' = 64 + p
  · rw [if_pos e]
    exact ⟨hb, fun z => absurd z (by omega)⟩
  · rw [if_neg e]
    exact h p' hp'
theorem u_quarrel {N : Nat} {x y v : Int32} : q_U (f_F_quarrel N x y v) (f_M_quarrel N x y v) := by
  intro σC σM hR
  obtain ⟨⟨L, n, m, d, h, t, H⟩, hO⟩ := id hR
  obtain ⟨hw, hq, ht, hRM, hr, hS, hP⟩ := id H
  have en : σC.1 1 0 = nI n := by rw [show σC.1 1 0 = _ from hS.1 0 0 2 rfl]; exact hw.2.2.2.2.1
  have hn := hw.1
  have hm := hw.2.1
  unfold f_F_quarrel f_M_quarrel
  rcases q_shD (N := N) (x := x) en hw.2.2.2.2.1 hw.1 with ⟨a, b⟩ | ⟨p, hp, rfl, a, b⟩
  · rw [a, b, q_bz0, q_bz0]
    exact ⟨_, σC, σM, rfl, rfl, hR⟩
  · rw [a, b, q_bz1, q_bz1]
    dsimp only
    rcases q_shD (N := N) (x := y) en hw.2.2.2.2.1 hw.1 with ⟨a, b⟩ | ⟨q, hq', rfl, a, b⟩
    · rw [a, b, q_bz0, q_bz0]
      exact ⟨_, σC, σM, rfl, rfl, hR⟩
    · rw [a, b, q_bz1, q_bz1]
      dsimp only
      by_cases c : nI p = nI q
      · rw [if_pos c, if_pos c]
        exact ⟨_, σC, σM, rfl, rfl, hR⟩
      · rw [if_neg c, if_neg c]
        by_cases c2 : v < 0 ∨ 1 < v
        · rw [e_win0 c2, e_in0 c2, q_bz0, q_bz0]
          exact ⟨_, σC, σM, rfl, rfl, hR⟩
        · rw [e_win1 c2, e_in1 c2, q_bz1, q_bz1]
          dsimp only
          have hv : v = 0 ∨ v = 1 := by
            obtain ⟨j, _, j1, e⟩ := q_num 0 1 c2
            rcases (show j = 0 ∨ j = 1 by omega) with rfl | rfl
            · exact Or.inl e
            · exact Or.inr e
          unfold f_S_setQuarrel
          rw [q_in (show p < 6 by omega) (by decide), cond_true, cond_true, q_in (show q < 6 by omega) (by decide), cond_true, Option.bind_some, show (64 : Int32) + nI p = nI (64 + p) from nI_add 64 p, show (64 : Int32) + nI q = nI (64 + q) from nI_add 64 q, q_in (show 64 + p < 526 by omega) (by decide), cond_true, q_in (show 64 + q < 526 by omega) (by decide), cond_true, nI_clamp (show p < 2 ^ 31 by omega), nI_clamp (show q < 2 ^ 31 by omega), nI_clamp (show 64 + p < 2 ^ 31 by omega), nI_clamp (show 64 + q < 2 ^ 31 by omega)]
          have ep : σC.1 5 p = σM.1 3 (64 + p) := hS.1 4 p _ (q_js_q (show p < 6 by omega))
          have eq : σC.1 5 q = σM.1 3 (64 + q) := hS.1 4 q _ (q_js_q (show q < 6 by omega))
          have hne : q ≠ p := fun e => c (by rw [e])
          rw [q_wI hne, q_wI (show 64 + q ≠ 64 + p by omega), ep, eq]
          have w1 := q_R_w (c := 4) (i := p) (k := 64 + p) (v := q_qv (σM.1 3 (64 + p)) v q) H hO (q_js_q (by omega)) (fun l hl => by omega) (q_wf_k hw (fun k h1 _ _ _ => q_upN (by omega))) (q_wq_w hq hp (fun i h1 h2 => q_qvB hv hq' hn h1 h2 ((hq p (by omega)).1 i h1 h2))) ⟨t, q_wt_k ht (q_upN (by omega)) (fun k h1 h2 => q_upN (by omega))⟩ (by omega) (fun l hl => by omega)
          obtain ⟨⟨L', n', m', d', h', t', H'⟩, hO'⟩ := w1
          have hn' : n' = n := by
            have z := H'.1.2.2.2.2.1
            rw [q_w1, q_upN (by omega), hw.2.2.2.2.1] at z
            have z1 := H'.1.1
            exact ((nI_eq (by omega) (by omega)).mp z).symm
          subst hn'
          obtain ⟨hw', hq2, ht', hRM', hr', hS', hP'⟩ := id H'
          have hm' := hw'.2.1
          have w2 := q_R_w (c := 4) (i := q) (k := 64 + q) (v := q_qv (σM.1 3 (64 + q)) v p) H' hO' (q_js_q (by omega)) (fun l hl => by omega) (q_wf_k hw' (fun k h1 _ _ _ => q_upN (by omega))) (q_wq_w hq2 hq' (fun i h1 h2 => q_qvB hv hp hn h1 h2 ((hq q (by omega)).1 i h1 h2))) ⟨t', q_wt_k ht' (q_upN (by omega)) (fun k h1 h2 => q_upN (by omega))⟩ (by omega) (fun l hl => by omega)
          exact ⟨_, _, _, rfl, rfl, w2⟩
/-! ===== anew ===== -/
theorem e_anew9 {N : Nat} {x : Int32} : ∀ (r l k : Nat) (σ : jw_M), l + r = 56 → r < k → ∃ σ', f_M_anew_9 N k x (nI l) σ = some (x, σ') ∧ (∀ i, σ'.1 1 i = if l ≤ i ∧ i < 56 then 0 else σ.1 1 i) ∧ (∀ c, c ≠ 1 → σ'.1 c = σ.1 c) ∧ σ'.2 = σ.2
  | 0, l, 0, _, _, h => absurd h (by omega)
  | r + 1, l, 0, _, _, h => absurd h (by omega)
  | 0, l, k + 1, σ, hl, _ => by
    refine ⟨σ, ?_, fun i => ?_, fun _ _ => rfl, rfl⟩
    · rw [f_M_anew_9, if_pos (show (56 : Int32) ≤ nI l from nI_le (a := 56) (by omega) (by omega))]
    · rw [if_neg (by omega)]
  | r + 1, l, k + 1, σ, hl, hk => by
    obtain ⟨σ', g1, g2, g3, g4⟩ := e_anew9 (N := N) (x := x) r (l + 1) k (jx_w σ 1 l 0) (by omega) (by omega)
    refine ⟨σ', ?_, fun i => ?_, fun c hc => ?_, ?_⟩
    · rw [f_M_anew_9, if_neg (show ¬ (56 : Int32) ≤ nI l from nI_ge (b := 56) (by omega) (by omega)), q_in (show l < 56 by omega) (by decide), cond_true, nI_clamp (show l < 2 ^ 31 by omega), nI_1]
      exact g1
    · rw [g2 i]
      by_cases c : i = l
      · subst c
        rw [if_neg (by omega), if_pos (by omega), q_wS]
      · rw [q_wI c]
        by_cases c2 : l + 1 ≤ i ∧ i < 56
        · rw [if_pos c2, if_pos (by omega)]
        · rw [if_neg c2, if_neg (by omega)]
    · rw [g3 c hc, q_w0 hc]
    · rw [g4]
      rfl
theorem u_anew {N : Nat} (hN : 300 ≤ N) : q_U (f_F_anew N) (f_M_anew N) := by
  intro σC σM hR
  obtain ⟨⟨L, n, m, d, h, t, H⟩, hO⟩ := id hR
  obtain ⟨hw, hq, ht, hRM, hr, hS, hP⟩ := id H
  unfold f_F_anew f_M_anew f_P_clear f_J_fill
  obtain ⟨υ, v1, v2, v3, v4⟩ := e_anew9 (N := N) (x := σM.1 1 0) 56 0 N σM (by omega) (by omega)
  rw [show f_M_anew_9 N N (σM.1 1 0) 0 σM = _ from v1, show Nat.ble 48 1000 = true from rfl, cond_true, Option.bind_some, show Nat.ble 6 1000 = true from rfl, cond_true, Option.bind_some, Option.bind_some, show σC.1 27 0 = _ from q_PC0 hP]
  have hn := hw.1
  have hm := hw.2.1
  refine ⟨_, _, υ, rfl, rfl, ⟨L, n, m, d, 0, t, ?_⟩, ?_⟩
  · rw [v3 3 (by decide)]
    refine ⟨hw, hq, ht, hRM, ⟨?_, by omega, fun p hp => ⟨fun i h1 h2 => ?_, fun l h1 h2 => ?_⟩, fun p h1 h2 => ⟨?_, fun l hl => ?_⟩, fun p l hp hl hb => ?_⟩, q_SC_k hS (fun c i h1 h2 => ?_), fun c i k hk => ?_⟩
    · rw [v2, if_pos (by omega)]
      rfl
    · rw [v2, if_pos (by omega), b_0]
    · rw [v2, if_pos (by omega)]
    · rw [v2, if_pos (by omega)]
    · rw [v2, if_pos (by omega)]
    · rw [v2, if_pos (by omega)]
      obtain ⟨⟨hd', y1, y2, y3⟩, _⟩ := hw.2.2.2.2.2.2.2.2 l hl
      exact ⟨0, hd', by omega, y2, rfl, y3⟩
    · show jw_lay (jw_lay _ 28 _) 29 _ (1 + c) i = _
      unfold jw_lay
      rw [if_neg (by omega), if_neg (by omega), q_wC (by omega), q_wC (by omega)]
    · have hk56 := (q_jpr hk).2.2
      rw [v2, if_pos (by omega)]
      show jw_lay (jw_lay _ 28 _) 29 _ (27 + c) i = 0
      unfold jw_lay
      unfold q_jp at hk
      by_cases c0 : c = 0
      · subst c0
        rw [if_pos rfl] at hk
        by_cases i2 : i < 2
        · rw [if_neg (by omega), if_neg (by omega)]
          rcases (show i = 0 ∨ i = 1 by omega) with rfl | rfl
          · rw [q_wI (by decide), q_wS]
          · rw [q_wS]
        · rw [if_neg i2] at hk
          cases hk
      · rw [if_neg c0] at hk
        by_cases c1 : c = 1
        · subst c1
          rw [if_pos rfl] at hk
          by_cases i2 : i < 48
          · rw [if_neg (by omega), if_pos rfl, if_pos i2]
          · rw [if_neg i2] at hk
            cases hk
        · rw [if_neg c1] at hk
          by_cases c2 : c = 2
          · subst c2
            rw [if_pos rfl] at hk
            by_cases i2 : i < 6
            · rw [if_pos rfl, if_pos i2]
            · rw [if_neg i2] at hk
              cases hk
          · rw [if_neg c2] at hk
            cases hk
  · refine q_O_k hO (fun c i z => ?_) (fun c i z => ?_) (fun i => by rw [v4])
    · unfold q_cO at z
      show jw_lay (jw_lay _ 28 _) 29 _ c i = _
      unfold jw_lay
      rw [if_neg (by omega), if_neg (by omega), q_wC (by omega), q_wC (by omega)]
    · unfold q_mO at z
      rw [v3 c (by omega)]
