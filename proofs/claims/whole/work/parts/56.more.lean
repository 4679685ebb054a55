/-! ===== pure: lengths, an hour, a shadow, a lesson ===== -/
def q_ln (k w h : Int32) : Int32 := if k = 3 then (if 0 ≤ w * (if 6 ≤ h then h - 6 else 6 - h) - 2 then w * (if 6 ≤ h then h - 6 else 6 - h) - 2 else 0) else if k = 4 then w * (if 7 ≤ h then h - 7 else 7 - h) else if k = 5 then w * (if 7 ≤ h then h - 7 else 7 - h) + 3 else w * (if 6 ≤ h then h - 6 else 6 - h)
theorem e_far (N : Nat) (a b : Int32) (σ : jw_M) : f_M_far N a b σ = some (if b ≤ a then a - b else b - a, σ) := by
  unfold f_M_far
  by_cases c : b ≤ a
  · rw [if_pos c, if_pos c]
  · rw [if_neg c, if_neg c]
theorem e_lengthBy (N : Nat) (k w h : Int32) (σ : jw_M) : f_M_lengthBy N k w h σ = some (q_ln k w h, σ) := by
  unfold f_M_lengthBy q_ln
  simp only [e_far, Option.bind_some]
  by_cases a : k = 3
  · rw [if_pos a, if_pos a]
    by_cases b : 0 ≤ w * (if 6 ≤ h then h - 6 else 6 - h) - 2
    · rw [if_pos b, if_pos b]
    · rw [if_neg b, if_neg b]
  · rw [if_neg a, if_neg a]
    by_cases b : k = 4
    · rw [if_pos b, if_pos b]
    · rw [if_neg b, if_neg b]
      by_cases c : k = 5
      · rw [if_pos c, if_pos c]
      · rw [if_neg c, if_neg c]
def q_lenIn (N r : Nat) (y1 y2 : Int32) (σ : jw_M) : Option (Int32 × jw_M) := if r = 32 then f_Z_Shade_lengthIn N r y1 y2 σ else if r = 33 then f_Z_Shade_lengthIn N r y1 y2 σ else if r = 34 then f_Z_Shade_lengthIn N r y1 y2 σ else if r = 35 then f_Z_Coloured_lengthIn N y1 y2 σ else if r = 36 then f_Z_Slow_lengthIn N r y1 y2 σ else if r = 37 then f_Z_Borrowed_lengthIn N y1 y2 σ else none
def q_len0 (k : Nat) (y1 y2 : Int32) : Int32 := match q_lenIn 0 (32 + k) y1 y2 q_z0 with | some z => z.1 | none => 0
theorem q_lenT : ∀ k, k < 6 → 0 < k → ∀ h, h < 17 → ∀ w, w < 10 → q_len0 k (nI h) (nI w) = q_ln (nI k) (nI w) (nI h) := by decide +kernel
theorem e_abs (N : Nat) (x : Int32) (σ : jw_M) : f_J_abs N x σ = some (if 0 ≤ x then x else -x, σ) := by
  unfold f_J_abs
  by_cases c : 0 ≤ x
  · rw [if_pos c, if_pos c]
  · rw [if_neg c, if_neg c]
theorem e_max (N : Nat) (x y : Int32) (σ : jw_M) : f_J_max N x y σ = some (if x < y then y else x, σ) := by
  unfold f_J_max
  by_cases c : x < y
  · rw [if_pos c, if_pos c]
  · rw [if_neg c, if_neg c]
theorem q_lenP {k : Nat} (hk : k < 6) (h0 : 0 < k) (N M : Nat) (y1 y2 : Int32) (σ τ : jw_M) : (q_lenIn N (32 + k) y1 y2 σ).map (·.1) = (q_lenIn M (32 + k) y1 y2 τ).map (·.1) ∧ ∃ v, q_lenIn N (32 + k) y1 y2 σ = some (v, σ) := by
  unfold q_lenIn f_Z_Shade_lengthIn f_Z_Coloured_lengthIn f_Z_Slow_lengthIn f_Z_Borrowed_lengthIn f_Z_Slow_lengthIn f_Z_Shade_lengthIn
  simp only [e_abs, e_max, Option.bind_some]
  rcases (show k = 1 ∨ k = 2 ∨ k = 3 ∨ k = 4 ∨ k = 5 by omega) with rfl | rfl | rfl | rfl | rfl <;> simp
theorem e_lenIn {N k h w : Nat} {σ : jw_M} (h0 : 0 < k) (hk : k < 6) (hh : h < 17) (hw : w < 10) : q_lenIn N (32 + k) (nI h) (nI w) σ = some (q_ln (nI k) (nI w) (nI h), σ) := by
  obtain ⟨e, v, hv⟩ := q_lenP hk h0 N 0 (nI h) (nI w) σ q_z0
  rw [← q_lenT k hk h0 h hh w hw]
  unfold q_len0
  rw [hv] at e ⊢
  cases z : q_lenIn 0 (32 + k) (nI h) (nI w) q_z0 with
  | none => rw [z] at e; cases e
  | some y =>
    rw [z] at e
    have e' := Option.some.inj e
    dsimp only at e' ⊢
    rw [e']
theorem e_lengthOf {N p k w h : Nat} {σ : jw_M} (hp : p < 6) (h0 : 0 < k) (hk : k < 6) (hh : h < 17) (hw : w < 10) (ek : σ.1 2 p = nI k) (ew : σ.1 4 p = nI w) (eh : σ.1 27 0 = nI h) : f_S_lengthOf N (nI p) σ = some (q_ln (nI k) (nI w) (nI h), σ) := by
  unfold f_S_lengthOf
  rw [e_thing hp (show k ≤ 5 by omega) ek, Option.bind_some, q_in hp (by decide), cond_true, nI_clamp (show p < 2 ^ 31 by omega)]
  dsimp only
  rw [ew, eh]
  unfold f_S_lengthOf_18 f_S_lengthOf_21
  rw [show (if 32 + k = 32 then f_Z_Shade_lengthIn N (32 + k) (nI h) (nI w) σ else if 32 + k = 33 then f_Z_Shade_lengthIn N (32 + k) (nI h) (nI w) σ else if 32 + k = 34 then f_Z_Shade_lengthIn N (32 + k) (nI h) (nI w) σ else if 32 + k = 35 then f_Z_Coloured_lengthIn N (nI h) (nI w) σ else if 32 + k = 36 then f_Z_Slow_lengthIn N (32 + k) (nI h) (nI w) σ else if 32 + k = 37 then f_Z_Borrowed_lengthIn N (nI h) (nI w) σ else none) = _ from e_lenIn h0 hk hh hw, Option.bind_some]
theorem u_shadowOf {N : Nat} (hN : 300 ≤ N) {x y : Int32} : q_U (f_F_shadowOf N x y) (f_M_shadowOf N x y) := by
  intro σC σM hR
  obtain ⟨⟨L, n, m, d, h, t, H⟩, hO⟩ := id hR
  obtain ⟨hw, hq, ht, hRM, hr, hS, hP⟩ := id H
  have en : σC.1 1 0 = nI n := by rw [show σC.1 1 0 = _ from hS.1 0 0 2 rfl]; exact hw.2.2.2.2.1
  have hn := hw.1
  have hm := hw.2.1
  have hd16 := hw.2.2.2.1
  have hhd := hr.2.1
  unfold f_F_shadowOf f_M_shadowOf
  rcases q_shD (N := N) (x := x) en hw.2.2.2.2.1 hw.1 with ⟨a, b⟩ | ⟨p, hp, rfl, a, b⟩
  · rw [a, b, q_bz0, q_bz0]
    exact ⟨_, σC, σM, rfl, rfl, hR⟩
  · have hp6 : p < 6 := by omega
    obtain ⟨⟨k, k1, k5, ek⟩, ⟨q, q1, q9, eq⟩, ⟨w, w1, w9, ew⟩⟩ := hw.2.2.2.2.2.2.2.1 p hp
    have c2 : σC.1 2 p = σM.1 3 (6 + 3 * p + 0) := q_SCs hS (w := 0) (by decide) hp6
    have c3 : σC.1 3 p = σM.1 3 (6 + 3 * p + 1) := q_SCs hS (w := 1) (by decide) hp6
    have c4 : σC.1 4 p = σM.1 3 (6 + 3 * p + 2) := q_SCs hS (w := 2) (by decide) hp6
    rw [a, b, q_bz1, q_bz1]
    dsimp only
    rw [q_in hp6 (by decide), cond_true, cond_true, cond_true, cond_true, nI_clamp (show p < 2 ^ 31 by omega)]
    by_cases c : y < 0 ∨ 6 < y
    · rw [e_in0 c, q_bz0]
      have hne : ∀ j, j ≤ 6 → ¬ y = nI j := by
        intro j hj e
        rw [e] at c
        rcases c with c | c
        · exact absurd c (nI_pos (by omega))
        · exact absurd c (nI_nlt (b := j) (a := 6) hj (by decide))
      rw [if_neg (show ¬ y = 0 from hne 0 (by decide)), if_neg (show ¬ y = 1 from hne 1 (by decide)), if_neg (show ¬ y = 2 from hne 2 (by decide)), if_neg (show ¬ y = 3 from hne 3 (by decide)), if_neg (show ¬ y = 4 from hne 4 (by decide)), if_neg (show ¬ y = 5 from hne 5 (by decide)), if_neg (show ¬ y = 6 from hne 6 (by decide))]
      exact ⟨_, σC, σM, rfl, rfl, hR⟩
    · rw [e_in1 c, q_bz1]
      dsimp only
      obtain ⟨j, _, j6, rfl⟩ := q_num 0 6 c
      rcases (show j = 0 ∨ j = 1 ∨ j = 2 ∨ j = 3 ∨ j = 4 ∨ j = 5 ∨ j = 6 by omega) with rfl | rfl | rfl | rfl | rfl | rfl | rfl
      · rw [if_pos (show nI 0 = 0 from rfl), if_neg (show ¬ nI 0 = 3 by decide), if_neg (show ¬ nI 0 = 4 by decide), if_neg (show ¬ nI 0 = 5 by decide), if_neg (show ¬ nI 0 = 6 by decide), e_of hp6 (by decide), Option.bind_some]
        exact ⟨_, σC, σM, by rw [c2], rfl, hR⟩
      · rw [if_neg (show ¬ nI 1 = 0 by decide), if_pos (show nI 1 = 1 from rfl), if_neg (show ¬ nI 1 = 3 by decide), if_neg (show ¬ nI 1 = 4 by decide), if_neg (show ¬ nI 1 = 5 by decide), if_neg (show ¬ nI 1 = 6 by decide), e_of hp6 (by decide), Option.bind_some]
        exact ⟨_, σC, σM, by rw [c3], rfl, hR⟩
      · rw [if_neg (show ¬ nI 2 = 0 by decide), if_neg (show ¬ nI 2 = 1 by decide), if_pos (show nI 2 = 2 from rfl), if_neg (show ¬ nI 2 = 3 by decide), if_neg (show ¬ nI 2 = 4 by decide), if_neg (show ¬ nI 2 = 5 by decide), if_neg (show ¬ nI 2 = 6 by decide), e_of hp6 (by decide), Option.bind_some]
        exact ⟨_, σC, σM, by rw [c4], rfl, hR⟩
      · rw [if_neg (show ¬ nI 3 = 0 by decide), if_neg (show ¬ nI 3 = 1 by decide), if_neg (show ¬ nI 3 = 2 by decide), if_pos (show nI 3 = 3 from rfl), if_pos (show nI 3 = 3 from rfl), e_bitCount, Option.bind_some, q_i2, q_in (show 2 + p < 56 by omega) (by decide), cond_true, nI_clamp (show 2 + p < 2 ^ 31 by omega)]
        obtain ⟨b', hb, eb⟩ := q_wr_sm hm hp6 hr
        rw [eb, e_ones (by omega) hb, Option.bind_some, show σC.1 29 p = _ from q_PCl hP hp6, eb]
        exact ⟨_, σC, σM, rfl, rfl, hR⟩
      · rw [if_neg (show ¬ nI 4 = 0 by decide), if_neg (show ¬ nI 4 = 1 by decide), if_neg (show ¬ nI 4 = 2 by decide), if_neg (show ¬ nI 4 = 3 by decide), if_neg (show ¬ nI 4 = 3 by decide), if_pos (show nI 4 = 4 from rfl), if_pos (show nI 4 = 4 from rfl), e_thing hp6 k5 (by rw [c2]; exact ek), Option.bind_some, show f_M_of N (nI p) 0 σM = _ from e_of (w := 0) hp6 (by decide), Option.bind_some]
        dsimp only
        rw [show f_M_of N (nI p) 1 σM = _ from e_of (w := 1) hp6 (by decide), Option.bind_some]
        dsimp only
        rw [e_paceBy, Option.bind_some]
        unfold f_F_shadowOf_125 f_F_shadowOf_128
        rw [show (if 32 + k = 32 then f_Z_Shade_paceIn N (32 + k) (σC.1 27 0) (σC.1 3 p) σC else if 32 + k = 33 then f_Z_Joined_paceIn N (σC.1 27 0) (σC.1 3 p) σC else if 32 + k = 34 then f_Z_Gifted_paceIn N (32 + k) (σC.1 27 0) (σC.1 3 p) σC else if 32 + k = 35 then f_Z_Coloured_paceIn N (σC.1 27 0) (σC.1 3 p) σC else if 32 + k = 36 then f_Z_Slow_paceIn N (32 + k) (σC.1 27 0) (σC.1 3 p) σC else if 32 + k = 37 then f_Z_Borrowed_paceIn N (σC.1 27 0) (σC.1 3 p) σC else none) = _ from e_paceIn k1 k5 _ _ σC, Option.bind_some]
        exact ⟨_, σC, σM, by rw [c3, ← ek, show σC.1 27 0 = _ from q_PC0 hP]; rfl, rfl, hR⟩
      · rw [if_neg (show ¬ nI 5 = 0 by decide), if_neg (show ¬ nI 5 = 1 by decide), if_neg (show ¬ nI 5 = 2 by decide), if_neg (show ¬ nI 5 = 3 by decide), if_neg (show ¬ nI 5 = 3 by decide), if_neg (show ¬ nI 5 = 4 by decide), if_neg (show ¬ nI 5 = 4 by decide), if_pos (show nI 5 = 5 from rfl), if_pos (show nI 5 = 5 from rfl)]
        unfold f_M_emptySeats
        obtain ⟨τ, t1, t2, t3, t4, t5⟩ := e_empty (N := N) 8 0 N σM (by omega) (by omega)
        rw [show f_M_emptySeats_2 N N 0 σM = some τ from t1, Option.bind_some]
        obtain ⟨υ, v1, v2⟩ := e_Mcho (N := N) (L := L) (seats := fun _ => 0) hN hw hRM hr hp (t4 3 (by decide)) (t4 1 (by decide)) (fun l hl => t2 l (by omega) hl)
        obtain ⟨ρ, r1, r2⟩ := e_Ccho (N := N) (p1 := 27) (seats := fun _ => 0) (full := 0) hN (by decide) hw hRM hr hp hS hP (fun l hl => by
          obtain ⟨_, _, _, r, z1, z6, er⟩ := hw.2.2.2.2.2.2.2.2 l hl
          rw [b_0, er]
          exact (decide_eq_false (nI_nle (by omega) (by omega))).symm)
        rw [v1, r1, Option.bind_some, Option.bind_some]
        refine ⟨_, ρ, υ, rfl, rfl, ⟨L, n, m, d, h, t, ?_⟩, ?_⟩
        · rw [show υ.1 3 = σM.1 3 by rw [← t4 3 (by decide)]; exact funext fun i => v2.1 3 i (by decide), show υ.1 1 = σM.1 1 by rw [← t4 1 (by decide)]; exact funext fun i => v2.1 1 i (by decide)]
          refine q_AA_k H (fun c i h1 h2 => r2.1 _ _ ?_)
          show (1 + c == 26 && decide (i < 5)) = false
          rcases h2 with h2 | h2
          · rw [show (1 + c == 26) = false by simp; omega, Bool.false_and]
          · rw [decide_eq_false (by omega), Bool.and_false]
        · refine q_O_k hO (fun c i z => r2.1 _ _ (q_n26 (by unfold q_cO at z; omega))) (fun c i z => ?_) (fun i => by rw [v2.2, t5])
          rw [v2.1 c i (by unfold q_mO at z; omega), t4 c (by unfold q_mO at z; omega)]
      · rw [if_neg (show ¬ nI 6 = 0 by decide), if_neg (show ¬ nI 6 = 1 by decide), if_neg (show ¬ nI 6 = 2 by decide), if_neg (show ¬ nI 6 = 3 by decide), if_neg (show ¬ nI 6 = 3 by decide), if_neg (show ¬ nI 6 = 4 by decide), if_neg (show ¬ nI 6 = 4 by decide), if_neg (show ¬ nI 6 = 5 by decide), if_neg (show ¬ nI 6 = 5 by decide), if_pos (show nI 6 = 6 from rfl), if_pos (show nI 6 = 6 from rfl), show f_M_of N (nI p) 0 σM = _ from e_of (w := 0) hp6 (by decide), Option.bind_some]
        dsimp only
        rw [show f_M_of N (nI p) 2 σM = _ from e_of (w := 2) hp6 (by decide), Option.bind_some]
        dsimp only
        rw [e_lengthBy, Option.bind_some, e_lengthOf (k := k) (w := w) (h := h) hp6 (by omega) (by omega) (by omega) (by omega) (by rw [c2]; exact ek) (by rw [c4]; exact ew) (by rw [show σC.1 27 0 = _ from q_PC0 hP]; exact hr.1), Option.bind_some]
        exact ⟨_, σC, σM, by rw [ek, ew, hr.1], rfl, hR⟩
theorem u_hour {N : Nat} (hN : 300 ≤ N) : q_U (f_F_hour N) (f_M_hour N) := by
  intro σC σM hR
  obtain ⟨⟨L, n, m, d, h, t, H⟩, hO⟩ := id hR
  obtain ⟨hw, hq, ht, hRM, hr, hS, hP⟩ := id H
  unfold f_F_hour f_M_hour f_S_isOver f_M_isOver
  rw [show σC.1 27 0 = _ from q_PC0 hP, show σC.1 1 14 = _ from hS.1 0 14 0 rfl]
  by_cases c : σM.1 1 0 < σM.1 3 0
  · rw [if_pos c, if_pos c, q_bz0, q_bz0]
    obtain ⟨ρ, r1, r2, r3, r4⟩ := e_goBy (N := N) (p1 := 27) (a := 0) hN (by decide) hw hRM hr hS hP
    obtain ⟨υ, v1, v2, v3, v4⟩ := e_goes (N := N) (a := 0) hN hw hRM hr (rfl : σM.1 3 = σM.1 3) rfl
    dsimp only
    rw [r1, v1, Option.bind_some, Option.bind_some]
    refine ⟨_, ρ, υ, rfl, rfl, ⟨L, n, m, d, h + 1, t, ?_⟩, q_O_f hO r4 v4 (q_O_pg (by decide) (Or.inl (by decide))) q_O_p1⟩
    have h3 : υ.1 3 = σM.1 3 := funext fun i => v4.1 3 i rfl
    rw [h3, v2]
    have hd16 := hw.2.2.2.1
    have hhd := hr.2.1
    rw [hr.1, hw.2.2.2.2.2.2.1, nI_ltI (by omega) (by omega)] at c
    exact ⟨hw, hq, ht, hRM, q_wr_go hw hr c, q_SC_g hS (by decide) r4, r2⟩
  · rw [if_neg c, if_neg c, q_bz1, q_bz1]
    exact ⟨_, σC, σM, rfl, rfl, hR⟩
