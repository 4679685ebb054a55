/-! ===== pure: shadows, lessons, reports, quarrels are added ===== -/
theorem q_w_id {σ : jw_M} {a i : Nat} {v : Int32} (h : σ.1 a i = v) : jx_w σ a i v = σ := by
  refine Prod.ext (funext fun c => funext fun j => ?_) rfl
  rw [q_w]
  by_cases e : c = a ∧ j = i
  · rw [if_pos e, e.1, e.2, h]
  · rw [if_neg e]
theorem q_up_c {f : q_f} {k j : Nat} {v w : Int32} (h : k ≠ j) : va_up (va_up f k v) j w = va_up (va_up f j w) k v := by
  funext i
  rw [q_up, q_up, q_up, q_up]
  by_cases a : i = j
  · rw [if_pos a, if_neg (by omega), if_pos a]
  · rw [if_neg a]
    by_cases b : i = k
    · rw [if_pos b, if_pos b]
    · rw [if_neg b, if_neg b, if_neg a]
theorem e_sh120 {N p : Nat} {σ : jw_M} (hp : p < 6) (hz : ∀ l, l < 8 → σ.1 1 (8 + 8 * p + l) = 0) : ∀ (r l k : Nat), l + r = 8 → r < k → f_M_shadow_120 N k (nI p) (nI l) σ = some (nI p, jx_w σ 3 2 (σ.1 3 2 + 1))
  | 0, l, 0, _, h => absurd h (by omega)
  | r + 1, l, 0, _, h => absurd h (by omega)
  | 0, l, k + 1, hl, _ => by
    rw [f_M_shadow_120, if_pos (show (8 : Int32) ≤ nI l from nI_le (a := 8) (by omega) (by omega))]
  | r + 1, l, k + 1, hl, hk => by
    rw [f_M_shadow_120, if_neg (show ¬ (8 : Int32) ≤ nI l from nI_ge (b := 8) (by omega) (by omega)), q_i8, q_in (show 8 + 8 * p + l < 56 by omega) (by decide), cond_true, nI_clamp (show 8 + 8 * p + l < 2 ^ 31 by omega), q_w_id (hz l (by omega)), nI_1]
    exact e_sh120 hp hz r (l + 1) k (by omega) (by omega)
theorem u_shadow {N : Nat} (hN : 300 ≤ N) {x y z : Int32} : q_U (f_F_shadow N x y z) (f_M_shadow N x y z) := by
  intro σC σM hR
  obtain ⟨⟨L, n, m, d, h, t, H⟩, hO⟩ := id hR
  obtain ⟨hw, hq, ht, hRM, hr, hS, hP⟩ := id H
  have en : σC.1 1 0 = nI n := by rw [show σC.1 1 0 = _ from hS.1 0 0 2 rfl]; exact hw.2.2.2.2.1
  have hn := hw.1
  have hm := hw.2.1
  unfold f_F_shadow f_M_shadow
  by_cases c : x < 1 ∨ 5 < x
  · rw [e_win0 c, e_in0 c, q_bz0, q_bz0]
    exact ⟨_, σC, σM, rfl, rfl, hR⟩
  · rw [e_win1 c, e_in1 c, q_bz1, q_bz1]
    dsimp only
    by_cases c2 : y < 1 ∨ 9 < y
    · rw [e_win0 c2, e_in0 c2, q_bz0, q_bz0]
      exact ⟨_, σC, σM, rfl, rfl, hR⟩
    · rw [e_win1 c2, e_in1 c2, q_bz1, q_bz1]
      dsimp only
      by_cases c3 : z < 1 ∨ 9 < z
      · rw [e_win0 c3, e_in0 c3, q_bz0, q_bz0]
        exact ⟨_, σC, σM, rfl, rfl, hR⟩
      · rw [e_win1 c3, e_in1 c3, q_bz1, q_bz1]
        dsimp only
        have eM := hw.2.2.2.2.1
        rw [en, eM]
        by_cases g : n = 6
        · rw [if_neg (show ¬ nI n < 6 by rw [g]; decide), if_pos (show nI n = 6 by rw [g]; rfl)]
          exact ⟨_, σC, σM, rfl, rfl, hR⟩
        · have hn6 : n < 6 := by omega
          rw [if_pos (show nI n < 6 from nI_lt (b := 6) hn6 (by decide)), if_neg (show ¬ nI n = 6 from fun w => g ((nI_eq (b := 6) (by omega) (by decide)).mp w))]
          unfold f_S_addShadow
          have i0 : (6 : Int32) + (3 * nI n) = nI (6 + 3 * n + 0) := by
            show nI 6 + (nI 3 * nI n) = _
            rw [pk_mul, nI_add]
            rfl
          rw [en, q_in hn6 (by decide), cond_true, Option.bind_some, nI_clamp (show n < 2 ^ 31 by omega), show (6 : Int32) + (3 * nI n) + 1 = nI (6 + 3 * n + 1) from q_i3 n 1, show (6 : Int32) + (3 * nI n) + 2 = nI (6 + 3 * n + 2) from q_i3 n 2, i0, q_in (show 6 + 3 * n + 0 < 526 by omega) (by decide), cond_true, q_in (show 6 + 3 * n + 1 < 526 by omega) (by decide), cond_true, q_in (show 6 + 3 * n + 2 < 526 by omega) (by decide), cond_true, show (64 : Int32) + nI n = nI (64 + n) from nI_add 64 n, q_in (show 64 + n < 526 by omega) (by decide), cond_true, q_i2, q_in (show 2 + n < 56 by omega) (by decide), cond_true, nI_clamp (show 6 + 3 * n + 0 < 2 ^ 31 by omega), nI_clamp (show 6 + 3 * n + 1 < 2 ^ 31 by omega), nI_clamp (show 6 + 3 * n + 2 < 2 ^ 31 by omega), nI_clamp (show 64 + n < 2 ^ 31 by omega), nI_clamp (show 2 + n < 2 ^ 31 by omega)]
          have id1 : jx_w (jx_w (jx_w (jx_w σM 3 (6 + 3 * n + 0) x) 3 (6 + 3 * n + 1) y) 3 (6 + 3 * n + 2) z) 3 (64 + n) 0 = jx_w (jx_w (jx_w σM 3 (6 + 3 * n + 0) x) 3 (6 + 3 * n + 1) y) 3 (6 + 3 * n + 2) z := by
            apply q_w_id
            rw [q_wI (by omega), q_wI (by omega), q_wI (by omega)]
            exact (hq n hn6).2 (Nat.le_refl n)
          have id2 : jx_w (jx_w (jx_w (jx_w σM 3 (6 + 3 * n + 0) x) 3 (6 + 3 * n + 1) y) 3 (6 + 3 * n + 2) z) 1 (2 + n) 0 = jx_w (jx_w (jx_w σM 3 (6 + 3 * n + 0) x) 3 (6 + 3 * n + 1) y) 3 (6 + 3 * n + 2) z := by
            apply q_w_id
            rw [q_wC (by decide), q_wC (by decide), q_wC (by decide)]
            exact (hr.2.2.2.1 n (Nat.le_refl n) hn6).1
          rw [id1, id2]
          rw [show f_M_shadow_120 N N (nI n) 0 (jx_w (jx_w (jx_w σM 3 (6 + 3 * n + 0) x) 3 (6 + 3 * n + 1) y) 3 (6 + 3 * n + 2) z) = _ from e_sh120 hn6 (fun l hl => by
            rw [q_wC (by decide), q_wC (by decide), q_wC (by decide)]
            exact (hr.2.2.2.1 n (Nat.le_refl n) hn6).2 l hl) 8 0 N (by omega) (by omega)]
          rw [q_wI (show 2 ≠ 6 + 3 * n + 2 by omega), q_wI (show 2 ≠ 6 + 3 * n + 1 by omega), q_wI (show 2 ≠ 6 + 3 * n + 0 by omega), eM, nI_1]
          refine ⟨_, _, _, rfl, rfl, ⟨L, n + 1, m, d, h, t, ?_⟩, ?_⟩
          · rw [q_w0 (show (1 : Nat) ≠ 3 by decide), q_w0 (show (1 : Nat) ≠ 3 by decide), q_w0 (show (1 : Nat) ≠ 3 by decide), q_w0 (show (1 : Nat) ≠ 3 by decide), q_w1, q_w1, q_w1, q_w1]
            have eS : va_up (va_up (va_up (va_up (σM.1 3) (6 + 3 * n + 0) x) (6 + 3 * n + 1) y) (6 + 3 * n + 2) z) 2 (nI (n + 1)) = va_up (va_up (va_up (va_up (σM.1 3) 2 (nI (n + 1))) (6 + 3 * n + 0) x) (6 + 3 * n + 1) y) (6 + 3 * n + 2) z := by
              rw [q_up_c (show 6 + 3 * n + 2 ≠ 2 by omega), q_up_c (show 6 + 3 * n + 1 ≠ 2 by omega), q_up_c (show 6 + 3 * n + 0 ≠ 2 by omega)]
            rw [eS]
            have hk : ∀ k, k ≠ 2 → k ≠ 6 + 3 * n + 0 → k ≠ 6 + 3 * n + 1 → k ≠ 6 + 3 * n + 2 → va_up (va_up (va_up (va_up (σM.1 3) 2 (nI (n + 1))) (6 + 3 * n + 0) x) (6 + 3 * n + 1) y) (6 + 3 * n + 2) z k = σM.1 3 k := by
              intro k k1 k2 k3 k4
              rw [q_upN k4, q_upN k3, q_upN k2, q_upN k1]
            refine ⟨?_, ?_, q_wt_k ht (hk 5 (by decide) (by omega) (by omega) (by omega)) (fun k h1 h2 => hk k (by omega) (by omega) (by omega) (by omega)), q_RM_k hRM (hk 4 (by decide) (by omega) (by omega) (by omega)) (fun k h1 => hk k (by omega) (by omega) (by omega) (by omega)), ?_, ?_, ?_⟩
            · obtain ⟨a1, a2, a3, a4, a5, a6, a7, a8, a9⟩ := hw
              refine ⟨by omega, a2, a3, a4, ?_, by rw [hk 3 (by decide) (by omega) (by omega) (by omega)]; exact a6, by rw [hk 0 (by decide) (by omega) (by omega) (by omega)]; exact a7, fun p hp => ?_, fun l hl => ?_⟩
              · rw [q_upN (by omega), q_upN (by omega), q_upN (by omega), q_upS]
              · by_cases e : p = n
                · subst e
                  rw [q_upN (show 6 + 3 * p + 0 ≠ 6 + 3 * p + 2 by omega), q_upN (show 6 + 3 * p + 0 ≠ 6 + 3 * p + 1 by omega), q_upS, q_upN (show 6 + 3 * p + 1 ≠ 6 + 3 * p + 2 by omega), q_upS, q_upS]
                  exact ⟨q_num 1 5 c, q_num 1 9 c2, q_num 1 9 c3⟩
                · rw [hk _ (by omega) (by omega) (by omega) (by omega), hk _ (by omega) (by omega) (by omega) (by omega), hk _ (by omega) (by omega) (by omega) (by omega)]
                  exact a8 p (by omega)
              · rw [hk _ (by omega) (by omega) (by omega) (by omega), hk _ (by omega) (by omega) (by omega) (by omega), hk _ (by omega) (by omega) (by omega) (by omega), hk _ (by omega) (by omega) (by omega) (by omega), hk _ (by omega) (by omega) (by omega) (by omega)]
                exact a9 l hl
            · intro p hp
              rw [hk _ (by omega) (by omega) (by omega) (by omega)]
              exact ⟨fun i h1 h2 => (hq p hp).1 i (by omega) h2, fun h1 => (hq p hp).2 (by omega)⟩
            · obtain ⟨a1, a2, a3, a4, a5⟩ := hr
              refine ⟨a1, a2, a3, fun p h1 h2 => a4 p (by omega) h2, fun p l hp hl hb => ?_⟩
              rw [hk _ (by omega) (by omega) (by omega) (by omega)]
              by_cases e : p = n
              · obtain ⟨⟨hd', y1, y2, y3⟩, _⟩ := hw.2.2.2.2.2.2.2.2 l hl
                refine ⟨0, hd', by omega, y2, ?_, y3⟩
                rw [e]
                exact (a4 n (Nat.le_refl n) hn6).2 l (by omega)
              · exact a5 p l (by omega) hl hb
            · have s0 := q_SC_w (c := 0) (i := 0) (k := 2) (v := nI (n + 1)) hS rfl (fun l hl => by omega)
              have s1 := q_SC_w (c := 1) (i := n) (k := 6 + 3 * n + 0) (v := x) s0 (by rw [q_js_s (by decide) (by decide) hn6]; rfl) (fun l hl => by omega)
              have s2 := q_SC_w (c := 2) (i := n) (k := 6 + 3 * n + 1) (v := y) s1 (by rw [q_js_s (by decide) (by decide) hn6, show 5 + 2 + 3 * n = 6 + 3 * n + 1 by omega]) (fun l hl => by omega)
              exact q_SC_w (c := 3) (i := n) (k := 6 + 3 * n + 2) (v := z) s2 (by rw [q_js_s (by decide) (by decide) hn6, show 5 + 3 + 3 * n = 6 + 3 * n + 2 by omega]) (fun l hl => by omega)
            · exact q_PC_k hP (fun c i hc => by rw [q_wC (by omega), q_wC (by omega), q_wC (by omega), q_wC (by omega)])
          · refine q_O_k hO (fun c i z => ?_) (fun c i z => ?_) (fun i => rfl)
            · rw [q_wC (by unfold q_cO at z; omega), q_wC (by unfold q_cO at z; omega), q_wC (by unfold q_cO at z; omega), q_wC (by unfold q_cO at z; omega)]
            · rw [q_wC (by unfold q_mO at z; omega), q_wC (by unfold q_mO at z; omega), q_wC (by unfold q_mO at z; omega), q_wC (by unfold q_mO at z; omega)]
/-! ===== a lesson ===== -/
theorem e_al58 {N e m : Nat} (he : e ≤ 15) : ∀ (r f k : Nat) (σ : jw_M), f + r = e + 1 → r < k → ∃ σ', f_S_addLesson_58 N k (nI e) (nI m) (nI f) σ = some (nI m, σ') ∧ (∀ h, σ'.1 11 h = if f ≤ h ∧ h ≤ e then σ.1 11 h ||| ((1 : Int32) <<< (nI m &&& 31)) else σ.1 11 h) ∧ (∀ c, c ≠ 11 → σ'.1 c = σ.1 c) ∧ σ'.2 = σ.2
  | 0, f, 0, _, _, h => absurd h (by omega)
  | r + 1, f, 0, _, _, h => absurd h (by omega)
  | 0, f, k + 1, σ, hf, _ => by
    refine ⟨σ, ?_, fun h => ?_, fun _ _ => rfl, rfl⟩
    · rw [f_S_addLesson_58, if_pos (nI_lt (by omega) (by omega))]
    · rw [if_neg (by omega)]
  | r + 1, f, k + 1, σ, hf, hk => by
    obtain ⟨σ', g1, g2, g3, g4⟩ := e_al58 (N := N) (m := m) he r (f + 1) k (jx_w σ 11 f (σ.1 11 f ||| ((1 : Int32) <<< (nI m &&& 31)))) (by omega) (by omega)
    refine ⟨σ', ?_, fun h => ?_, fun c hc => ?_, ?_⟩
    · rw [f_S_addLesson_58, if_neg (nI_nlt (by omega) (by omega)), q_in (show f < 17 by omega) (by decide), cond_true, nI_clamp (show f < 2 ^ 31 by omega), nI_1]
      exact g1
    · rw [g2 h]
      by_cases c : h = f
      · subst c
        rw [if_neg (by omega), if_pos (by omega), q_wS]
      · rw [q_wI c]
        by_cases c2 : f + 1 ≤ h ∧ h ≤ e
        · rw [if_pos c2, if_pos (by omega)]
        · rw [if_neg c2, if_neg (by omega)]
    · rw [g3 c hc, q_w0 hc]
    · rw [g4]
      rfl
theorem q_need_n {x : Int32} {m : Nat} (hm : m ≤ 8) (h : ¬ (x < -1 ∨ nI m - 1 < x)) : x = -1 ∨ ∃ j, j < m ∧ x = nI j := by
  by_cases c : x < 0
  · refine Or.inl (Int32.toInt_inj.mp ?_)
    have h1 : ¬ x < -1 := fun z => h (Or.inl z)
    rw [Int32.lt_iff_toInt_lt] at c h1
    have z : (0 : Int32).toInt = 0 := by decide
    have z1 : (-1 : Int32).toInt = -1 := by decide
    rw [z1] at h1 ⊢
    omega
  · obtain ⟨j, hj, rfl⟩ := nI_of c
    refine Or.inr ⟨j, ?_, rfl⟩
    have h1 : ¬ nI m - 1 < nI j := fun z => h (Or.inr z)
    rw [q_lt1 (by omega) hj] at h1
    omega
