/-! ===== pure: lessonOf, row, alterRow, trace, many ===== -/
def q_hm (row : q_f) (l : Nat) : Nat → Nat → Int32 → Int32
  | 0, _, x => x
  | r + 1, p, x => q_hm row l r (p + 1) (x + bif bt (row (2 + p)) l then 1 else 0)
theorem q_hm_z {row : q_f} {l : Nat} : ∀ (r p : Nat) (x : Int32), (∀ q, p ≤ q → q < p + r → row (2 + q) = 0) → q_hm row l r p x = x
  | 0, _, _, _ => rfl
  | r + 1, p, x, h => by
    rw [q_hm, h p (by omega) (by omega), b_0, cond_false, Int32.add_zero]
    exact q_hm_z r (p + 1) x (fun q h1 h2 => h q (by omega) (by omega))
theorem q_hm_add {row : q_f} {l : Nat} : ∀ (r j p : Nat) (x : Int32), q_hm row l (r + j) p x = q_hm row l j (p + r) (q_hm row l r p x)
  | 0, j, p, x => by rw [Nat.zero_add]; rfl
  | r + 1, j, p, x => by
    rw [show r + 1 + j = (r + j) + 1 by omega, q_hm, q_hm, q_hm_add r j (p + 1), show p + 1 + r = p + (r + 1) by omega]
theorem e_hmC {N l : Nat} {row : q_f} {σ : jw_M} (hl : l < 32) (hP : q_PC 27 σ row) : ∀ (r p k : Nat) (x : Int32), p + r = 6 → r < k → f_P_howManyLearnt_4 N k (nI l) x (nI p) σ = some (q_hm row l r p x, σ)
  | 0, p, k, x, hp, hk => by
    obtain ⟨k, rfl⟩ : ∃ j, k = j + 1 := ⟨k - 1, by omega⟩
    rw [f_P_howManyLearnt_4, if_pos (show (6 : Int32) ≤ nI p from nI_le (a := 6) (by omega) (by omega))]
    rfl
  | r + 1, p, k, x, hp, hk => by
    obtain ⟨k, rfl⟩ : ∃ j, k = j + 1 := ⟨k - 1, by omega⟩
    rw [f_P_howManyLearnt_4, if_neg (show ¬ (6 : Int32) ≤ nI p from nI_ge (b := 6) (by omega) (by omega)), q_in (show p < 6 by omega) (by decide), cond_true, nI_clamp (by omega), show σ.1 29 p = _ from q_PCl hP (show p < 6 by omega), q_bx _ hl, nI_1, e_hmC hl hP r (p + 1) k _ (by omega) (by omega), q_hm]
theorem e_hmM {N l n : Nat} {row : q_f} {σ : jw_M} (hn : n ≤ 6) (hl : l < 32) (h1 : σ.1 1 = row) (h2 : σ.1 3 2 = nI n) : ∀ (r p k : Nat) (x : Int32), p + r = n → r < k → f_M_learntBy_4 N k (nI l) x (nI p) σ = some (q_hm row l r p x, σ)
  | 0, p, k, x, hp, hk => by
    obtain ⟨k, rfl⟩ : ∃ j, k = j + 1 := ⟨k - 1, by omega⟩
    rw [f_M_learntBy_4, h2, if_pos (nI_le (by omega) (by omega))]
    rfl
  | r + 1, p, k, x, hp, hk => by
    obtain ⟨k, rfl⟩ : ∃ j, k = j + 1 := ⟨k - 1, by omega⟩
    rw [f_M_learntBy_4, h2, if_neg (nI_ge (by omega) (by omega)), e_has (by omega) hl, h1, q_hm]
    unfold f_M_learntBy_29
    cases bt (row (2 + p)) l
    · rw [cond_false, q_bz0, nI_1]
      exact e_hmM hn hl h1 h2 r (p + 1) k _ (by omega) (by omega)
    · rw [cond_true, q_bz1, nI_1]
      exact e_hmM hn hl h1 h2 r (p + 1) k _ (by omega) (by omega)
theorem u_lessonOf {N : Nat} (hN : 300 ≤ N) {x y : Int32} : q_U (f_F_lessonOf N x y) (f_M_lessonOf N x y) := by
  intro σC σM hR
  obtain ⟨⟨L, n, m, d, h, t, hw, hq, ht, hRM, hr, hS, hP⟩, hO⟩ := id hR
  have hP : q_PC 27 σC (σM.1 1) := hP
  have em : σC.1 1 5 = nI m := by rw [show σC.1 1 5 = _ from hS.1 0 5 3 rfl]; exact hw.2.2.2.2.2.1
  have hn := hw.1
  have hm := hw.2.1
  unfold f_F_lessonOf f_M_lessonOf
  rcases q_leD (N := N) (x := x) em hw.2.2.2.2.2.1 hw.2.1 with ⟨a, b⟩ | ⟨l, hl, rfl, a, b⟩
  · rw [a, b, q_bz0, q_bz0]
    exact ⟨_, σC, σM, rfl, rfl, hR⟩
  · rw [a, b, q_bz1, q_bz1]
    dsimp only
    rw [q_in (show l < 8 by omega) (by decide), cond_true, cond_true, cond_true, cond_true, cond_true, nI_clamp (show l < 2 ^ 31 by omega)]
    by_cases c : y < 0 ∨ 5 < y
    · rw [e_in0 c, q_bz0]
      have hne : ∀ j, j ≤ 5 → ¬ y = nI j := by
        intro j hj e
        rw [e] at c
        rcases c with c | c
        · exact absurd c (nI_pos (by omega))
        · exact absurd c (nI_nlt (b := j) (a := 5) hj (by decide))
      rw [if_neg (show ¬ y = 0 from hne 0 (by decide)), if_neg (show ¬ y = 1 from hne 1 (by decide)), if_neg (show ¬ y = 2 from hne 2 (by decide)), if_neg (show ¬ y = 3 from hne 3 (by decide)), if_neg (show ¬ y = 4 from hne 4 (by decide)), if_neg (show ¬ y = 5 from hne 5 (by decide))]
      exact ⟨_, σC, σM, rfl, rfl, hR⟩
    · rw [e_in1 c, q_bz1]
      dsimp only
      obtain ⟨j, _, j5, rfl⟩ := q_num 0 5 c
      have hl8 : l < 8 := by omega
      rcases (show j = 0 ∨ j = 1 ∨ j = 2 ∨ j = 3 ∨ j = 4 ∨ j = 5 by omega) with rfl | rfl | rfl | rfl | rfl | rfl
      · rw [if_pos (show nI 0 = 0 from rfl), if_neg (show ¬ (5 : Int32) ≤ nI 0 by decide), e_ln hl8 (by decide), Option.bind_some]
        exact ⟨_, σC, σM, by rw [show σC.1 6 l = _ from q_SCl hS (w := 0) (by decide) hl8], rfl, hR⟩
      · rw [if_neg (show ¬ nI 1 = 0 by decide), if_pos (show nI 1 = 1 from rfl), if_neg (show ¬ (5 : Int32) ≤ nI 1 by decide), e_ln hl8 (by decide), Option.bind_some]
        exact ⟨_, σC, σM, by rw [show σC.1 7 l = _ from q_SCl hS (w := 1) (by decide) hl8], rfl, hR⟩
      · rw [if_neg (show ¬ nI 2 = 0 by decide), if_neg (show ¬ nI 2 = 1 by decide), if_pos (show nI 2 = 2 from rfl), if_neg (show ¬ (5 : Int32) ≤ nI 2 by decide), e_ln hl8 (by decide), Option.bind_some]
        exact ⟨_, σC, σM, by rw [show σC.1 8 l = _ from q_SCl hS (w := 2) (by decide) hl8], rfl, hR⟩
      · rw [if_neg (show ¬ nI 3 = 0 by decide), if_neg (show ¬ nI 3 = 1 by decide), if_neg (show ¬ nI 3 = 2 by decide), if_pos (show nI 3 = 3 from rfl), if_neg (show ¬ (5 : Int32) ≤ nI 3 by decide), e_ln hl8 (by decide), Option.bind_some]
        exact ⟨_, σC, σM, by rw [show σC.1 9 l = _ from q_SCl hS (w := 3) (by decide) hl8], rfl, hR⟩
      · rw [if_neg (show ¬ nI 4 = 0 by decide), if_neg (show ¬ nI 4 = 1 by decide), if_neg (show ¬ nI 4 = 2 by decide), if_neg (show ¬ nI 4 = 3 by decide), if_pos (show nI 4 = 4 from rfl), if_neg (show ¬ (5 : Int32) ≤ nI 4 by decide), e_ln hl8 (by decide), Option.bind_some]
        exact ⟨_, σC, σM, by rw [show σC.1 10 l = _ from q_SCl hS (w := 4) (by decide) hl8], rfl, hR⟩
      · rw [if_neg (show ¬ nI 5 = 0 by decide), if_neg (show ¬ nI 5 = 1 by decide), if_neg (show ¬ nI 5 = 2 by decide), if_neg (show ¬ nI 5 = 3 by decide), if_neg (show ¬ nI 5 = 4 by decide), if_pos (show nI 5 = 5 from rfl), if_pos (show (5 : Int32) ≤ nI 5 by decide)]
        unfold f_P_howManyLearnt f_M_learntBy
        rw [show f_P_howManyLearnt_4 N N (nI l) 0 0 σC = _ from e_hmC (by omega) hP 6 0 N 0 (by omega) (by omega), show f_M_learntBy_4 N N (nI l) 0 0 σM = _ from e_hmM hn (by omega) rfl hw.2.2.2.2.1 n 0 N 0 (by omega) (by omega), Option.bind_some, Option.bind_some]
        refine ⟨_, σC, σM, rfl, ?_, hR⟩
        rw [show q_hm (σM.1 1) l 6 0 0 = q_hm (σM.1 1) l (n + (6 - n)) 0 0 by rw [show n + (6 - n) = 6 by omega], q_hm_add, q_hm_z (6 - n) (0 + n) _ (fun q h1 h2 => (hr.2.2.2.1 q (by omega) (by omega)).1)]
/-! ===== rows ===== -/
theorem q_rowD {N r : Nat} {x y : Int32} {σC σM : jw_M} (hC : σC.1 92 10 = nI r) (hM : σM.1 0 29 = nI r) (hr : r ≤ 4) : (f_L_hasRowPart N x y σC = some (0, σC) ∧ f_M_isCell N x y σM = some (0, σM)) ∨ ∃ k w, k < r ∧ w < 3 ∧ x = nI k ∧ y = nI w ∧ f_L_hasRowPart N x y σC = some (1, σC) ∧ f_M_isCell N x y σM = some (1, σM) := by
  unfold f_L_hasRowPart f_M_isCell
  rw [hC, hM]
  by_cases c : x < 0
  · exact Or.inl ⟨by rw [if_pos c], by rw [e_in0 (Or.inl c), q_bz0]⟩
  · obtain ⟨j, hj, rfl⟩ := nI_of c
    rw [if_neg c]
    by_cases e : r ≤ j
    · exact Or.inl ⟨by rw [if_pos (nI_le e hj)], by rw [e_in0 (Or.inr ((q_lt1 (by omega) hj).mpr e)), q_bz0]⟩
    · rw [if_neg (nI_ge (by omega) (by omega)), e_in1 (fun z => z.elim c (fun z => e ((q_lt1 (by omega) hj).mp z))), q_bz1]
      dsimp only
      by_cases g : y < 0 ∨ 2 < y
      · refine Or.inl ⟨?_, by rw [e_in0 g, q_bz0]⟩
        by_cases g1 : y < 0
        · rw [if_pos g1]
        · have g2 := g.resolve_left g1
          obtain ⟨w, hw, rfl⟩ := nI_of g1
          rw [if_neg g1, if_pos (show (3 : Int32) ≤ nI w from nI_le (a := 3) (by have := (nI_ltI (a := 2) (by decide) hw).mp g2; omega) hw)]
      · obtain ⟨w, _, w2, rfl⟩ := q_num 0 2 g
        refine Or.inr ⟨j, w, by omega, by omega, rfl, rfl, ?_, by rw [e_in1 g, q_bz1]⟩
        rw [if_neg (fun z => g (Or.inl z)), if_neg (show ¬ (3 : Int32) ≤ nI w from nI_ge (b := 3) (by omega) (by decide))]
theorem q_i3' (k w : Nat) : (3 * nI k) + nI w = nI (3 * k + w) := by
  show (nI 3 * nI k) + nI w = _
  rw [pk_mul, nI_add]
theorem u_row {N : Nat} {x y : Int32} : q_U (f_F_row N x y) (f_M_row N x y) := by
  intro σC σM hR
  obtain ⟨hA, hK, hT, hW, hO⟩ := id hR
  obtain ⟨r, r4, w1, w2, w3⟩ := hW
  unfold f_F_row f_M_row
  rcases q_rowD (N := N) (x := x) (y := y) w1 w2 r4 with ⟨a, b⟩ | ⟨k, w, hk, hw, rfl, rfl, a, b⟩
  · rw [a, b, q_bz0, q_bz0]
    exact ⟨_, σC, σM, rfl, rfl, hR⟩
  · rw [a, b, q_bz1, q_bz1]
    unfold f_F_row_20 f_F_row_21
    dsimp only
    rw [q_in (show k < 4 by omega) (by decide), cond_true, q_in hw (by decide), cond_true, q_i3', q_in (show 3 * k + w < 12 by omega) (by decide), cond_true, nI_clamp (by omega), nI_clamp (by omega), nI_clamp (by omega), w3 k w hk hw]
    exact ⟨_, σC, σM, rfl, rfl, hR⟩
theorem u_alterRow {N : Nat} {x y v : Int32} : q_U (f_F_alterRow N x y v) (f_M_alterRow N x y v) := by
  intro σC σM hR
  obtain ⟨⟨L, n, m, d, h, t, H⟩, hK, hT, hW, hH, hV, hX⟩ := id hR
  obtain ⟨r, r4, w1, w2, w3⟩ := hW
  unfold f_F_alterRow f_M_alterRow
  rcases q_rowD (N := N) (x := x) (y := y) w1 w2 r4 with ⟨a, b⟩ | ⟨k, w, hk, hw, rfl, rfl, a, b⟩
  · rw [a, b, q_bz0, q_bz0]
    exact ⟨_, σC, σM, rfl, rfl, hR⟩
  · rw [a, b, q_bz1, q_bz1]
    unfold f_F_alterRow_23 f_F_alterRow_24 f_F_alterRow_36 f_F_alterRow_37
    dsimp only
    rw [q_in (show k < 4 by omega) (by decide), cond_true, q_in hw (by decide), cond_true, cond_true, cond_true, q_i3', q_in (show 3 * k + w < 12 by omega) (by decide), cond_true, nI_clamp (by omega), nI_clamp (by omega), nI_clamp (by omega), w3 k w hk hw]
    refine ⟨_, _, _, rfl, rfl, ⟨L, n, m, d, h, t, ?_⟩, q_K_k hK (fun c i z => q_wC (by omega)) (fun c i z => q_wC (by omega)), q_T_k hT (fun c i z => q_wC (by omega)) (fun c i z => q_wC (by omega)), ⟨r, r4, by rw [q_wC (by omega)]; exact w1, by rw [q_wC (by decide)]; exact w2, fun k' w' hk' hw' => ?_⟩, q_H_k hH (fun c i z => q_wC (by omega)) (fun c i z => q_wC (by omega)) (fun i => rfl), q_V_k hV (fun c i z => q_wC (by omega)) (fun c i z => q_wC (by omega)), q_X_k hX (fun c i z => q_wC (by omega)) (fun c i z => q_wC (by omega))⟩
    · rw [q_w0 (show (3 : Nat) ≠ 13 by decide), q_w0 (show (1 : Nat) ≠ 13 by decide)]
      exact q_AA_k H (fun c i h1 h2 => q_wC (by omega))
    · rw [q_w, q_w]
      by_cases e : k' = k ∧ w' = w
      · rw [if_pos (by omega), if_pos (by omega)]
      · rw [if_neg (by omega), if_neg (by omega)]
        exact w3 k' w' hk' hw'
theorem u_trace {N : Nat} {x : Int32} : q_U (f_F_trace N x) (f_M_trace N x) := by
  intro σC σM hR
  obtain ⟨hA, hK, hT, hW, hH, hV, hX⟩ := id hR
  obtain ⟨b, b30, x1, x2, x3⟩ := hX
  unfold f_F_trace f_M_trace
  rw [x1, x2]
  by_cases c : x < 0 ∨ nI b - 1 < x
  · rw [e_win0 c, e_in0 c, q_bz0, q_bz0]
    exact ⟨_, σC, σM, rfl, rfl, hR⟩
  · obtain ⟨j, hj, rfl⟩ := nI_of (fun z => c (Or.inl z))
    have hjb : j < b := by
      by_cases e : b ≤ j
      · exact absurd (Or.inr ((q_lt1 (by omega) hj).mpr e)) c
      · omega
    rw [e_win1 c, e_in1 c, q_bz1, q_bz1]
    dsimp only
    rw [q_in (show j < 30 by omega) (by decide), cond_true, cond_true, nI_clamp hj, x3 j hjb]
    exact ⟨_, σC, σM, rfl, rfl, hR⟩
theorem e_qr {N n : Nat} {S : q_f} {σC σM : jw_M} (hN : 9 ≤ N) (hn : n ≤ 6) (hq : q_wq S n) (hC : ∀ p, p < 6 → σC.1 5 p = S (64 + p)) (hM : σM.1 3 = S) (h0 : σC.1 1 0 = nI n) (h2 : S 2 = nI n) : ∀ (r p k k2 : Nat) (x : Int32), p + r = n → r < k → r < k2 → ∃ y, f_S_howManyQuarrel_4 N k x (nI p) σC = some (y, σC) ∧ f_M_pairsThatQuarrel_4 N k2 x (nI p) σM = some (y, σM)
  | 0, p, k, k2, x, hp, hk, hk2 => by
    obtain ⟨k, rfl⟩ : ∃ j, k = j + 1 := ⟨k - 1, by omega⟩
    obtain ⟨k2, rfl⟩ : ∃ j, k2 = j + 1 := ⟨k2 - 1, by omega⟩
    rw [f_S_howManyQuarrel_4, f_M_pairsThatQuarrel_4, h0, hM, h2, if_pos (nI_le (by omega) (by omega)), if_pos (nI_le (by omega) (by omega))]
    exact ⟨_, rfl, rfl⟩
  | r + 1, p, k, k2, x, hp, hk, hk2 => by
    obtain ⟨k, rfl⟩ : ∃ j, k = j + 1 := ⟨k - 1, by omega⟩
    obtain ⟨k2, rfl⟩ : ∃ j, k2 = j + 1 := ⟨k2 - 1, by omega⟩
    obtain ⟨b, b1, b2, _⟩ := q_sm (S (64 + p)) (fun i h1 h2 => (hq p (by omega)).1 i (by omega) h2)
    rw [f_S_howManyQuarrel_4, f_M_pairsThatQuarrel_4, h0, hM, h2, if_neg (nI_ge (by omega) (by omega)), if_neg (nI_ge (by omega) (by omega)), q_in (show p < 6 by omega) (by decide), cond_true, show (64 : Int32) + nI p = nI (64 + p) from nI_add 64 p, q_in (show 64 + p < 526 by omega) (by decide), cond_true, nI_clamp (by omega), nI_clamp (by omega), hC p (by omega), e_bitCount, b2, e_ones hN b1, Option.bind_some, Option.bind_some, nI_1]
    exact e_qr hN hn hq hC hM h0 h2 r (p + 1) k k2 _ (by omega) (by omega) (by omega)
theorem u_many {N : Nat} (hN : 300 ≤ N) {x : Int32} : q_U (f_F_many N x) (f_M_many N x) := by
  intro σC σM hR
  obtain ⟨⟨L, n, m, d, h, t, hw, hq, ht, hRM, hr, hS, hP⟩, hK, hT, hW, hH, hV, hX⟩ := id hR
  have hn := hw.1
  obtain ⟨tt, _, t1, t2, _⟩ := hT
  obtain ⟨r, _, w1, w2, _⟩ := hW
  obtain ⟨b, _, x1, x2, _⟩ := hX
  have e0 : σC.1 1 0 = σM.1 3 2 := hS.1 0 0 2 rfl
  obtain ⟨y, y1, y2⟩ := e_qr (N := N) (σC := σC) (σM := σM) (by omega) hn hq (fun p hp => hS.1 4 p _ (q_js_q hp)) rfl (by rw [e0]; exact hw.2.2.2.2.1) hw.2.2.2.2.1 n 0 N N 0 (by omega) (by omega) (by omega)
  unfold f_F_many f_M_many f_S_howManyQuarrel f_M_pairsThatQuarrel
  rw [e0, show σC.1 19 0 = _ from hS.1 18 0 4 rfl, show σC.1 1 5 = _ from hS.1 0 5 3 rfl, show σC.1 1 12 = _ from hS.1 0 12 5 rfl, t1, t2, w1, w2, x1, x2, show f_S_howManyQuarrel_4 N N 0 0 σC = _ from y1, show f_M_pairsThatQuarrel_4 N N 0 0 σM = _ from y2, Option.bind_some, Option.bind_some]
  by_cases c0 : x = 0
  · exact ⟨_, σC, σM, if_pos c0, if_pos c0, hR⟩
  rw [if_neg c0, if_neg c0]
  by_cases c0 : x = 1
  · exact ⟨_, σC, σM, if_pos c0, if_pos c0, hR⟩
  rw [if_neg c0, if_neg c0]
  by_cases c0 : x = 2
  · exact ⟨_, σC, σM, if_pos c0, if_pos c0, hR⟩
  rw [if_neg c0, if_neg c0]
  by_cases c0 : x = 3
  · exact ⟨_, σC, σM, if_pos c0, if_pos c0, hR⟩
  rw [if_neg c0, if_neg c0]
  by_cases c0 : x = 4
  · exact ⟨_, σC, σM, if_pos c0, if_pos c0, hR⟩
  rw [if_neg c0, if_neg c0]
  by_cases c0 : x = 5
  · exact ⟨_, σC, σM, if_pos c0, if_pos c0, hR⟩
  rw [if_neg c0, if_neg c0]
  by_cases c0 : x = 6
  · exact ⟨_, σC, σM, if_pos c0, if_pos c0, hR⟩
  rw [if_neg c0, if_neg c0]
  by_cases c0 : x = 7
  · exact ⟨_, σC, σM, if_pos c0, if_pos c0, hR⟩
  exact ⟨_, σC, σM, if_neg c0, if_neg c0, hR⟩
