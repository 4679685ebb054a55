/-! ===== pure: goAll, wouldBe, judge ===== -/
theorem q_R_tf {PC PM : Nat → Nat → Bool} {σC σM σC' σM' : jw_M} (hR : q_R σC σM) (fC : q_fr PC σC σC') (h1 : σM'.1 1 = σM.1 1) (fM : q_fr PM σM σM') (hC : ∀ c i, (q_cO c i ∨ (1 ≤ c ∧ c ≤ 29 ∧ (c ≠ 26 ∨ 5 ≤ i))) → PC c i = false) (hM : ∀ c i, (q_mO c i ∨ c = 3) → PM c i = false) : q_R σC' σM' := by
  obtain ⟨⟨L, n, m, d, h, t, H⟩, hO⟩ := hR
  refine ⟨⟨L, n, m, d, h, t, ?_⟩, q_O_f hO fC fM (fun c i z => hC c i (Or.inl z)) (fun c i z => hM c i (Or.inl z))⟩
  rw [h1, show σM'.1 3 = σM.1 3 from funext fun i => fM.1 3 i (hM 3 i (Or.inr rfl))]
  exact q_AA_k H (fun c i h1 h2 => fC.1 _ _ (hC _ _ (Or.inr ⟨by omega, by omega, by omega⟩)))
theorem q_pg_t {p1 : Nat} (h2 : (67 ≤ p1 ∧ p1 + 3 ≤ 79) ∨ (93 ≤ p1 ∧ p1 + 3 ≤ 116)) (c i : Nat) (z : q_cO c i ∨ (1 ≤ c ∧ c ≤ 29 ∧ (c ≠ 26 ∨ 5 ≤ i))) : q_pg p1 c i = false := by
  rcases z with z | z
  · exact q_O_pg (by omega) (Or.inr h2) c i z
  · unfold q_pg
    simp
    omega
theorem q_p2_t (c i : Nat) (z : q_mO c i ∨ c = 3) : q_p2 c i = false := by
  rcases z with z | z
  · exact q_O_p2 c i z
  · rw [z]
    rfl
theorem e_isAct {N n : Nat} {v : Int32} {σC σM : jw_M} (hC : σC.1 1 0 = nI n) (hM : σM.1 3 2 = nI n) : (f_S_isAct N v σC = some (0, σC) ∧ f_M_in N v 0 (σM.1 3 2) σM = some (0, σM)) ∨ (f_S_isAct N v σC = some (1, σC) ∧ f_M_in N v 0 (σM.1 3 2) σM = some (1, σM)) := by
  unfold f_S_isAct f_M_in
  rw [hC, hM]
  by_cases c : v < 0
  · rw [if_pos c, if_pos c]
    exact Or.inl ⟨rfl, rfl⟩
  · rw [if_neg c, if_neg c]
    by_cases c2 : nI n < v
    · rw [if_pos c2, if_pos c2]
      exact Or.inl ⟨rfl, rfl⟩
    · rw [if_neg c2, if_neg c2]
      exact Or.inr ⟨rfl, rfl⟩
theorem q_lg0 {a j : Nat} (ha : a < 2 ^ 31) (hj : j < 100) : ¬ lg_cmp ((nI a).toInt64 + (nI j).toInt64) 0 < 0 := by
  rw [lg_cmp_lt, nI_l ha, nI_l (by omega), show lN a + lN j = lN (a + j) from (Int64.ofNat_add a j).symm]
  intro z
  have z : lN (a + j) < lN 0 := z
  rw [pk_lLT (by omega) (by decide)] at z
  omega
theorem q_lgz {a j z : Nat} (ha : a < 2 ^ 31) (hj : j < 100) (hz : z < 100) : lg_cmp ((nI a).toInt64 + (nI j).toInt64) (nI z).toInt64 < 0 ↔ a + j < z := by
  rw [lg_cmp_lt, nI_l ha, nI_l (by omega), nI_l (by omega), show lN a + lN j = lN (a + j) from (Int64.ofNat_add a j).symm]
  show lN (a + j) < lN z ↔ _
  rw [pk_lLT (by omega) (by omega)]
theorem q_i40' (s a j : Nat) : ((40 * nI s) + nI a) + nI j = nI (40 * s + a + j) := by
  rw [q_i40, nI_add]
/-- one item is looked at, on both sides -/
theorem e_itm {N s a j : Nat} {σC σM : jw_M} (hH : q_H σC σM) (hs : s < 4) (ha : a < 2 ^ 31) (hj : j < 100) (h0 : j = 0 ∨ a < 40) : (f_H_hasItem N (nI s) (nI a + nI j) σC = some (0, σC) ∧ ¬ lg_cmp ((nI a).toInt64 + (nI j).toInt64) (σM.1 15 s).toInt64 < 0) ∨ (a < 40 ∧ f_H_hasItem N (nI s) (nI a + nI j) σC = some (1, σC) ∧ lg_cmp ((nI a).toInt64 + (nI j).toInt64) (σM.1 15 s).toInt64 < 0 ∧ f_H_itemAt N (nI s) (nI a + nI j) σC = some (σC.1 (125 + s) (a + j), σC) ∧ jx_in (((40 * nI s) + nI a) + nI j) 160 = true ∧ (σM.2 16 (((40 * nI s) + nI a) + nI j).toNatClampNeg).toInt32 = σC.1 (125 + s) (a + j)) := by
  obtain ⟨z, z40, h2, h3, h4, h5, h6⟩ := hH s hs
  rw [h3, q_lgz ha hj (by omega), nI_add]
  rcases q_itD (N := N) (y := nI (a + j)) (σM := σM) hs z40 h2 with ⟨g, _⟩ | ⟨i, hi, e, g, _⟩
  · left
    refine ⟨g, fun c => ?_⟩
    unfold f_H_hasItem at g
    rw [q_in hs (by decide), cond_true, nI_clamp (show s < 2 ^ 31 by omega), h2, if_neg (nI_pos (by omega)), if_neg (nI_ge c (by omega))] at g
    have g' := congrArg (fun o => o.map (·.1)) g
    exact absurd (show (1 : Int32) = 0 from Option.some.inj g') (by decide)
  · right
    have e : a + j = i := (nI_eq (by omega) (by omega)).mp e
    rw [q_i40', show 40 * s + a + j = 40 * s + (a + j) by omega, nI_clamp (by omega), (h6 (a + j) (by omega)).1, Int32.toInt32_toInt64]
    exact ⟨by omega, g, by omega, e_itemAt hs (by omega), q_in (by omega) (by decide), rfl⟩
theorem e_goAll {N n m d s a c : Nat} {S : q_f} {L : q_L} (hN : 300 ≤ N) (hs : s < 4) (ha : a < 2 ^ 31) (hc : c ≤ 20) : ∀ (r j k k2 h : Nat) (w : Int32) (row : q_f) (σC σM : jw_M), j + r = c → r < k → r < k2 → (j = 0 ∨ a < 40) → q_Y 27 S L n m d row h σC σM → q_H σC σM → ∃ x h' row' σC' σM', f_F_goAll_48 N k (nI s) (nI a) (nI c) w (nI j) σC = some (x, σC') ∧ f_M_goAll_41 N k2 (nI s) (nI a) (nI c) w (nI j) σM = some (x, σM') ∧ q_Y 27 S L n m d row' h' σC' σM' ∧ q_fr (q_pg 27) σC σC' ∧ q_fr q_p1 σM σM' := by
  intro r
  induction r with
  | zero =>
    intro j k k2 h w row σC σM hj hk hk2 h0 Y hH
    obtain ⟨k, rfl⟩ : ∃ j, k = j + 1 := ⟨k - 1, by omega⟩
    obtain ⟨k2, rfl⟩ : ∃ j, k2 = j + 1 := ⟨k2 - 1, by omega⟩
    refine ⟨w, h, row, σC, σM, ?_, ?_, Y, q_fr_r _ _, q_fr_r _ _⟩
    · rw [f_F_goAll_48, if_pos (nI_le (by omega) (by omega))]
    · rw [f_M_goAll_41, if_pos (nI_le (by omega) (by omega))]
  | succ r ih =>
    intro j k k2 h w row σC σM hj hk hk2 h0 Y hH
    obtain ⟨k, rfl⟩ : ∃ j, k = j + 1 := ⟨k - 1, by omega⟩
    obtain ⟨k2, rfl⟩ : ∃ j, k2 = j + 1 := ⟨k2 - 1, by omega⟩
    have en : σC.1 1 0 = nI n := by rw [show σC.1 1 0 = _ from Y.2.2.2.1.1 0 0 2 rfl]; exact Y.1.2.2.2.2.1
    have en' : σM.1 3 2 = nI n := by rw [Y.2.2.2.2.2.1]; exact Y.1.2.2.2.2.1
    rw [f_F_goAll_48, if_neg (nI_ge (by omega) (by omega)), f_M_goAll_41, if_neg (nI_ge (by omega) (by omega)), if_neg (q_lg0 ha (by omega)), q_in hs (by decide), cond_true, nI_clamp (show s < 2 ^ 31 by omega)]
    unfold f_F_goAll_136 f_M_goAll_128 f_M_goAll_129
    rcases e_itm (N := N) (j := j) hH hs ha (by omega) h0 with ⟨g1, g2⟩ | ⟨a40, g1, g2, g3, g4, g5⟩
    · rw [g1, q_bz0, if_neg g2]
      exact ⟨_, h, row, σC, σM, rfl, rfl, Y, q_fr_r _ _, q_fr_r _ _⟩
    · rw [g1, q_bz1, if_pos g2, g4, cond_true, g5]
      dsimp only
      rw [g3, Option.bind_some, nI_1]
      dsimp only
      rcases e_isAct (N := N) (v := σC.1 (125 + s) (a + j)) en en' with ⟨i1, i2⟩ | ⟨i1, i2⟩
      · rw [i1, i2, q_bz0, q_bz0, Int32.add_zero]
        exact ih (j + 1) k k2 h w row σC σM (by omega) (by omega) (by omega) (Or.inr a40) Y hH
      · rw [i1, i2, q_bz1, q_bz1]
        dsimp only
        by_cases cd : h < d
        · rw [((e_over Y).1 cd).1, ((e_over Y).1 cd).2, q_bz0, q_bz0]
          dsimp only
          obtain ⟨τ, υ, t1, v1, Y', _, fC, fM⟩ := e_two (N := N) (a := σC.1 (125 + s) (a + j)) hN (by decide) Y cd
          rw [t1, v1, Option.bind_some, Option.bind_some]
          have hH' : q_H τ υ := q_H_k hH (fun c i z => fC.1 c i (by unfold q_pg; simp; omega)) (fun c i z => fM.1 c i (by unfold q_p1; simp; omega)) (fun i => by rw [fM.2])
          obtain ⟨x, h', row', τ2, υ2, f1, f2, f3, f4, f5⟩ := ih (j + 1) k k2 (h + 1) (w + (q_go S L (σC.1 (125 + s) (a + j)) row).1) _ τ υ (by omega) (by omega) (by omega) (Or.inr a40) Y' hH'
          exact ⟨x, h', row', τ2, υ2, f1, f2, f3, q_fr_t fC f4, q_fr_t fM f5⟩
        · rw [((e_over Y).2 cd).1, ((e_over Y).2 cd).2, q_bz1, q_bz1, Int32.add_zero]
          exact ih (j + 1) k k2 h w row σC σM (by omega) (by omega) (by omega) (Or.inr a40) Y hH
theorem u_goAll {N : Nat} (hN : 300 ≤ N) {x y v : Int32} : q_U (f_F_goAll N x y v) (f_M_goAll N x y v) := by
  intro σC σM hR
  obtain ⟨⟨L, n, m, d, h, t, hw, hq, ht, hRM, hr, hS, hP⟩, hO⟩ := id hR
  have hP : q_PC 27 σC (σM.1 1) := hP
  have hH := hO.2.2.2.1
  have Y : q_Y 27 (σM.1 3) L n m d (σM.1 1) h σC σM := ⟨hw, hRM, hr, hS, hP, rfl, rfl⟩
  unfold f_F_goAll f_M_goAll
  rcases q_shtD (N := N) (x := x) (σC := σC) (σM := σM) with ⟨a, b⟩ | ⟨s, hs, rfl, a, b⟩
  · rw [a, b, q_bz0, q_bz0]
    exact ⟨_, σC, σM, rfl, rfl, hR⟩
  · rw [a, b, q_bz1, q_bz1]
    dsimp only
    by_cases c : v < 0 ∨ 20 < v
    · rw [e_win0 c, e_in0 c, q_bz0, q_bz0]
      exact ⟨_, σC, σM, rfl, rfl, hR⟩
    · rw [e_win1 c, e_in1 c, q_bz1, q_bz1]
      dsimp only
      rcases e_ref (N := N) (y := 0) hs hH with ⟨w, w0, a, b⟩ | ⟨a, b, e⟩
      · rw [a, b, Option.bind_some, Option.bind_some, if_neg w0, if_neg w0]
        exact ⟨_, σC, σM, rfl, rfl, hR⟩
      · rw [a, b, q_bz0, q_bz0]
        dsimp only
        obtain ⟨j, _, j20, rfl⟩ := q_num 0 20 c
        by_cases cy : y < 0
        · obtain ⟨M, rfl⟩ : ∃ M, N = M + 1 := ⟨N - 1, by omega⟩
          rw [f_F_goAll_48, f_M_goAll_41]
          by_cases cj : j = 0
          · subst cj
            rw [if_pos (show nI 0 ≤ 0 by decide), if_pos (show nI 0 ≤ 0 by decide)]
            exact ⟨_, σC, σM, rfl, rfl, hR⟩
          · rw [if_neg (nI_nle (by omega) (by omega)), if_neg (nI_nle (by omega) (by omega)), Int32.add_zero]
            have e1 : f_H_hasItem (M + 1) (nI s) y σC = some (0, σC) := by
              unfold f_H_hasItem
              rw [if_pos cy]
            have e2 : lg_cmp (y.toInt64 + (0 : Int32).toInt64) 0 < 0 := by
              rw [lg_cmp_lt, show (0 : Int32).toInt64 = 0 from rfl, Int64.add_zero, Int64.lt_iff_toInt_lt, Int32.toInt_toInt64]
              exact Int32.lt_iff_toInt_lt.mp cy
            rw [e1, q_bz0, if_pos e2]
            exact ⟨_, σC, σM, rfl, rfl, hR⟩
        · obtain ⟨a, ha, rfl⟩ := nI_of cy
          obtain ⟨x, h', row', τ, υ, f1, f2, f3, f4, f5⟩ := e_goAll hN hs ha j20 j 0 N N h 0 _ σC σM (by omega) (by omega) (by omega) (Or.inl rfl) Y hH
          rw [show f_F_goAll_48 N N (nI s) (nI a) (nI j) 0 0 σC = _ from f1, show f_M_goAll_41 N N (nI s) (nI a) (nI j) 0 0 σM = _ from f2]
          refine ⟨x, τ, υ, rfl, rfl, ⟨L, n, m, d, h', t, ?_⟩, q_O_f hO f4 f5 (q_O_pg (by decide) (Or.inl (by decide))) q_O_p1⟩
          rw [f3.2.2.2.2.2.1, f3.2.2.2.2.2.2]
          exact ⟨hw, hq, ht, hRM, f3.2.2.1, f3.2.2.2.1, f3.2.2.2.2.1⟩
theorem e_wouldBe {N n m d s a c : Nat} {S : q_f} {L : q_L} (hN : 300 ≤ N) (hs : s < 4) (ha : a < 2 ^ 31) (hc : c ≤ 20) : ∀ (r j k k2 h : Nat) (w : Int32) (row : q_f) (σC σM : jw_M), j + r = c → r < k → r < k2 → (j = 0 ∨ a < 40) → q_Y 75 S L n m d row h σC σM → q_H σC σM → ∃ x σC' σM', f_F_wouldBe_62 N k (nI s) (nI a) (nI c) w (nI j) σC = some (x, σC') ∧ f_M_wouldGo_6 N k2 (nI s) (nI a) (nI c) w (nI j) σM = some (x, σM') ∧ q_fr (q_pg 75) σC σC' ∧ q_fr q_p1 σM σM' ∧ ∀ i, 56 ≤ i → σM'.1 1 i = row i := by
  intro r
  induction r with
  | zero =>
    intro j k k2 h w row σC σM hj hk hk2 h0 Y hH
    obtain ⟨k, rfl⟩ : ∃ j, k = j + 1 := ⟨k - 1, by omega⟩
    obtain ⟨k2, rfl⟩ : ∃ j, k2 = j + 1 := ⟨k2 - 1, by omega⟩
    refine ⟨w, σC, σM, ?_, ?_, q_fr_r _ _, q_fr_r _ _, fun i hi => by rw [Y.2.2.2.2.2.2]⟩
    · rw [f_F_wouldBe_62, if_pos (nI_le (by omega) (by omega))]
    · rw [f_M_wouldGo_6, if_pos (nI_le (by omega) (by omega))]
  | succ r ih =>
    intro j k k2 h w row σC σM hj hk hk2 h0 Y hH
    obtain ⟨k, rfl⟩ : ∃ j, k = j + 1 := ⟨k - 1, by omega⟩
    obtain ⟨k2, rfl⟩ : ∃ j, k2 = j + 1 := ⟨k2 - 1, by omega⟩
    have en : σC.1 1 0 = nI n := by rw [show σC.1 1 0 = _ from Y.2.2.2.1.1 0 0 2 rfl]; exact Y.1.2.2.2.2.1
    have en' : σM.1 3 2 = nI n := by rw [Y.2.2.2.2.2.1]; exact Y.1.2.2.2.2.1
    have same : ∀ i, 56 ≤ i → σM.1 1 i = row i := fun i hi => by rw [Y.2.2.2.2.2.2]
    rw [f_F_wouldBe_62, if_neg (nI_ge (by omega) (by omega)), f_M_wouldGo_6, if_neg (nI_ge (by omega) (by omega)), if_neg (q_lg0 ha (by omega)), q_in hs (by decide), cond_true, nI_clamp (show s < 2 ^ 31 by omega)]
    rcases e_itm (N := N) (j := j) hH hs ha (by omega) h0 with ⟨g1, g2⟩ | ⟨a40, g1, g2, g3, g4, g5⟩
    · rw [g1, q_bz0, if_neg g2]
      exact ⟨_, σC, σM, rfl, rfl, q_fr_r _ _, q_fr_r _ _, same⟩
    · rw [g1, q_bz1, if_pos g2, g4, cond_true, g5]
      dsimp only
      rw [g3, Option.bind_some, nI_1]
      dsimp only
      rcases e_isAct (N := N) (v := σC.1 (125 + s) (a + j)) en en' with ⟨i1, i2⟩ | ⟨i1, i2⟩
      · rw [i1, i2, q_bz0, q_bz0]
        exact ⟨_, σC, σM, rfl, rfl, q_fr_r _ _, q_fr_r _ _, same⟩
      · rw [i1, i2, q_bz1, q_bz1]
        dsimp only
        by_cases cd : h < d
        · rw [((e_over Y).1 cd).1, ((e_over Y).1 cd).2, q_bz0, q_bz0]
          dsimp only
          obtain ⟨τ, υ, t1, v1, Y', _, fC, fM⟩ := e_two (N := N) (a := σC.1 (125 + s) (a + j)) hN (by decide) Y cd
          rw [t1, v1, Option.bind_some, Option.bind_some]
          have hH' : q_H τ υ := q_H_k hH (fun c i z => fC.1 c i (by unfold q_pg; simp; omega)) (fun c i z => fM.1 c i (by unfold q_p1; simp; omega)) (fun i => by rw [fM.2])
          obtain ⟨x, τ2, υ2, f1, f2, f4, f5, f6⟩ := ih (j + 1) k k2 (h + 1) (w + (q_go S L (σC.1 (125 + s) (a + j)) row).1) _ τ υ (by omega) (by omega) (by omega) (Or.inr a40) Y' hH'
          exact ⟨x, τ2, υ2, f1, f2, q_fr_t fC f4, q_fr_t fM f5, fun i hi => by rw [f6 i hi, q_go_hi Y.1 hi]⟩
        · rw [((e_over Y).2 cd).1, ((e_over Y).2 cd).2, q_bz1, q_bz1]
          exact ⟨_, σC, σM, rfl, rfl, q_fr_r _ _, q_fr_r _ _, same⟩
theorem u_wouldBe {N : Nat} (hN : 300 ≤ N) {x y v : Int32} : q_U (f_F_wouldBe N x y v) (f_M_wouldBe N x y v) := by
  intro σC σM hR
  obtain ⟨⟨L, n, m, d, h, t, H⟩, hO⟩ := id hR
  obtain ⟨hw, hq, ht, hRM, hr, hS, hP⟩ := id H
  have hP : q_PC 27 σC (σM.1 1) := hP
  have hH := hO.2.2.2.1
  unfold f_F_wouldBe f_M_wouldBe
  rcases q_shtD (N := N) (x := x) (σC := σC) (σM := σM) with ⟨a, b⟩ | ⟨s, hs, rfl, a, b⟩
  · rw [a, b, q_bz0, q_bz0]
    exact ⟨_, σC, σM, rfl, rfl, hR⟩
  · rw [a, b, q_bz1, q_bz1]
    dsimp only
    by_cases c : v < 0 ∨ 20 < v
    · rw [e_win0 c, e_in0 c, q_bz0, q_bz0]
      exact ⟨_, σC, σM, rfl, rfl, hR⟩
    · rw [e_win1 c, e_in1 c, q_bz1, q_bz1]
      dsimp only
      rcases e_ref (N := N) (y := 0) hs hH with ⟨w, w0, a, b⟩ | ⟨a, b, e⟩
      · rw [a, b, Option.bind_some, Option.bind_some, if_neg w0, if_neg w0]
        exact ⟨_, σC, σM, rfl, rfl, hR⟩
      · rw [a, b, q_bz0, q_bz0]
        dsimp only
        obtain ⟨j, _, j20, rfl⟩ := q_num 0 20 c
        obtain ⟨τ, t1, t2, t3⟩ := e_copyP (N := N) (p0 := 75) hP (by omega)
        obtain ⟨υ, s1, s2, s3, s4, s5⟩ := e_save (N := N) (lv := 0) hN (by decide) σM
        rw [t1, show f_M_save N 0 σM = _ from s1, Option.bind_some, Option.bind_some]
        have Y := q_R_Y (by decide) H t2 t3 s4
        have hH' : q_H τ υ := q_H_k hH (fun c i z => t3.1 c i (by unfold q_pp; simp; omega)) (fun c i z => by rw [s4 c (by omega)]) (fun i => by rw [s5])
        unfold f_M_wouldGo
        have fin : ∀ {x : Int32} {τ2 υ2 : jw_M}, q_fr (q_pg 75) τ τ2 → q_fr q_p1 υ υ2 → (∀ i, 56 ≤ i → υ2.1 1 i = σM.1 1 i) → ∃ r σC' σM', some (x, τ2) = some (r, σC') ∧ ((f_M_load N 0 υ2).bind fun z14 => some (x, z14)) = some (r, σM') ∧ q_R σC' σM' := by
          intro x τ2 υ2 g3 g4 g5
          obtain ⟨ω, o1, o2, o3⟩ := e_undo hN s2 s4 s5 g4 g5
          rw [o1, Option.bind_some]
          exact ⟨_, τ2, ω, rfl, rfl, q_R_t hR (q_fr_t (q_pp_g t3) g3) o2 o3⟩
        by_cases cy : y < 0
        · obtain ⟨M, rfl⟩ : ∃ M, N = M + 1 := ⟨N - 1, by omega⟩
          rw [f_F_wouldBe_62, f_M_wouldGo_6]
          by_cases cj : j = 0
          · subst cj
            rw [if_pos (show nI 0 ≤ 0 by decide), if_pos (show nI 0 ≤ 0 by decide), Option.bind_some]
            exact fin (q_fr_r _ _) (q_fr_r _ _) (fun i hi => by rw [s4 1 (by decide)])
          · rw [if_neg (nI_nle (by omega) (by omega)), if_neg (nI_nle (by omega) (by omega)), Int32.add_zero]
            have e1 : f_H_hasItem (M + 1) (nI s) y τ = some (0, τ) := by
              unfold f_H_hasItem
              rw [if_pos cy]
            have e2 : lg_cmp (y.toInt64 + (0 : Int32).toInt64) 0 < 0 := by
              rw [lg_cmp_lt, show (0 : Int32).toInt64 = 0 from rfl, Int64.add_zero, Int64.lt_iff_toInt_lt, Int32.toInt_toInt64]
              exact Int32.lt_iff_toInt_lt.mp cy
            rw [e1, q_bz0, if_pos e2, Option.bind_some]
            exact fin (q_fr_r _ _) (q_fr_r _ _) (fun i hi => by rw [s4 1 (by decide)])
        · obtain ⟨a, ha, rfl⟩ := nI_of cy
          obtain ⟨x, τ2, υ2, f1, f2, f4, f5, f6⟩ := e_wouldBe hN hs ha j20 j 0 N N h 0 _ τ υ (by omega) (by omega) (by omega) (Or.inl rfl) Y hH'
          rw [show f_F_wouldBe_62 N N (nI s) (nI a) (nI j) 0 0 τ = _ from f1, show f_M_wouldGo_6 N N (nI s) (nI a) (nI j) 0 0 υ = _ from f2, Option.bind_some]
          exact fin f4 f5 f6
/-! ===== what some have learnt ===== -/
def q_so (row : q_f) : Nat → Nat → Int32 → Int32
  | 0, _, x => x
  | r + 1, p, x => q_so row r (p + 1) (x ||| row (2 + p))
theorem q_so_z {row : q_f} : ∀ (r p : Nat) (x : Int32), (∀ q, p ≤ q → q < p + r → row (2 + q) = 0) → q_so row r p x = x
  | 0, _, _, _ => rfl
  | r + 1, p, x, h => by
    rw [q_so, h p (by omega) (by omega), Int32.or_zero]
    exact q_so_z r (p + 1) x (fun q h1 h2 => h q (by omega) (by omega))
theorem q_so_add {row : q_f} : ∀ (r j p : Nat) (x : Int32), q_so row (r + j) p x = q_so row j (p + r) (q_so row r p x)
  | 0, j, p, x => by rw [Nat.zero_add]; rfl
  | r + 1, j, p, x => by
    rw [show r + 1 + j = (r + j) + 1 by omega, q_so, q_so, q_so_add r j (p + 1), show p + 1 + r = p + (r + 1) by omega]
def q_some (row : q_f) : Int32 := q_so row 6 0 0
theorem e_soC {N p1 : Nat} {row : q_f} {σ : jw_M} (hP : q_PC p1 σ row) : ∀ (r p k : Nat) (x : Int32), p + r = 6 → r < k → f_P_learntBySome_4 N p1 k x (nI p) σ = some (q_so row r p x, σ)
  | 0, p, k, x, hp, hk => by
    obtain ⟨k, rfl⟩ : ∃ j, k = j + 1 := ⟨k - 1, by omega⟩
    rw [f_P_learntBySome_4, if_pos (show (6 : Int32) ≤ nI p from nI_le (a := 6) (by omega) (by omega))]
    rfl
  | r + 1, p, k, x, hp, hk => by
    obtain ⟨k, rfl⟩ : ∃ j, k = j + 1 := ⟨k - 1, by omega⟩
    rw [f_P_learntBySome_4, if_neg (show ¬ (6 : Int32) ≤ nI p from nI_ge (b := 6) (by omega) (by omega)), q_in (show p < 6 by omega) (by decide), cond_true, nI_clamp (by omega), q_PCl hP (show p < 6 by omega), nI_1, e_soC hP r (p + 1) k _ (by omega) (by omega), q_so]
theorem e_someC {N p1 : Nat} {row : q_f} {σ : jw_M} (hN : 300 ≤ N) (hP : q_PC p1 σ row) : f_P_learntBySome N p1 σ = some (q_some row, σ) := e_soC hP 6 0 N 0 (by omega) (by omega)
theorem e_soM {N n : Nat} {row : q_f} {σ : jw_M} (hn : n ≤ 6) (h1 : σ.1 1 = row) (h2 : σ.1 3 2 = nI n) : ∀ (r p k : Nat) (x : Int32), p + r = n → r < k → f_M_someLearnt_4 N k x (nI p) σ = some (q_so row r p x, σ)
  | 0, p, k, x, hp, hk => by
    obtain ⟨k, rfl⟩ : ∃ j, k = j + 1 := ⟨k - 1, by omega⟩
    rw [f_M_someLearnt_4, h2, if_pos (nI_le (by omega) (by omega))]
    rfl
  | r + 1, p, k, x, hp, hk => by
    obtain ⟨k, rfl⟩ : ∃ j, k = j + 1 := ⟨k - 1, by omega⟩
    rw [f_M_someLearnt_4, h2, if_neg (nI_ge (by omega) (by omega)), q_i2, q_in (show 2 + p < 56 by omega) (by decide), cond_true, nI_clamp (by omega), h1, nI_1, e_soM hn h1 h2 r (p + 1) k _ (by omega) (by omega), q_so]
theorem e_someM {N n m d h : Nat} {S row : q_f} {σ : jw_M} (hN : 300 ≤ N) (hw : q_wf S n m d) (hr : q_wr S n m d row h) (h3 : σ.1 3 = S) (h1 : σ.1 1 = row) : f_M_someLearnt N σ = some (q_some row, σ) := by
  have hn := hw.1
  unfold f_M_someLearnt q_some
  rw [show q_so row 6 0 0 = q_so row (n + (6 - n)) 0 0 by rw [show n + (6 - n) = 6 by omega], q_so_add, q_so_z (6 - n) (0 + n) _ (fun q h1 h2 => (hr.2.2.2.1 q (by omega) (by omega)).1)]
  exact e_soM hn h1 (by rw [h3]; exact hw.2.2.2.2.1) n 0 N 0 (by omega) (by omega)
theorem e_judge {N n m d r0 : Nat} {S : q_f} {L : q_L} (hN : 300 ≤ N) (hr0 : r0 ≤ 4) : ∀ (r j k k2 h : Nat) (row : q_f) (σC σM : jw_M), j + r = r0 → r < k → r < k2 → q_Y 94 S L n m d row h σC σM → σC.1 92 10 = nI r0 → σM.1 0 29 = nI r0 → (∀ k w, k < r0 → w < 3 → σC.1 (117 + k) w = σM.1 13 (3 * k + w)) → ∃ x σC' σM', f_L_firstWrongRow_17 N k (nI j) σC = some (x, σC') ∧ f_M_judge_7 N k2 (nI j) σM = ((f_M_load N 0 σM').bind fun z => some (x, z)) ∧ q_fr (q_pg 94) σC σC' ∧ q_fr q_p1 σM σM' ∧ ∀ i, 56 ≤ i → σM'.1 1 i = row i := by
  have e29 : ∀ {j : Nat} {σM : jw_M}, j ≤ 4 → σM.1 0 29 = nI r0 → f_M_judge_29 N (nI j) σM = (f_M_load N 0 σM).bind fun z => some ((if j = r0 then 0 else nI (j + 1)), z) := by
    intro j σM hj h29
    unfold f_M_judge_29
    obtain ⟨ω, o1, o2, o3, o4, o5⟩ := e_load (N := N) (lv := 0) hN (by decide) σM
    rw [show f_M_load N 0 σM = _ from o1, Option.bind_some, Option.bind_some, o4 0 (by decide), h29, nI_1]
    by_cases c : j = r0
    · rw [if_pos (by rw [c]), if_pos c]
    · rw [if_neg (fun z => c ((nI_eq (by omega) (by omega)).mp z)), if_neg c]
  intro r
  induction r with
  | zero =>
    intro j k k2 h row σC σM hj hk hk2 Y w1 w2 w3
    obtain ⟨k, rfl⟩ : ∃ j, k = j + 1 := ⟨k - 1, by omega⟩
    obtain ⟨k2, rfl⟩ : ∃ j, k2 = j + 1 := ⟨k2 - 1, by omega⟩
    refine ⟨0, σC, σM, ?_, ?_, q_fr_r _ _, q_fr_r _ _, fun i hi => by rw [Y.2.2.2.2.2.2]⟩
    · rw [f_L_firstWrongRow_17, w1, if_pos (nI_le (by omega) (by omega))]
    · rw [f_M_judge_7, w2, if_pos (nI_le (by omega) (by omega)), e29 (by omega) w2, if_pos (by omega)]
  | succ r ih =>
    intro j k k2 h row σC σM hj hk hk2 Y w1 w2 w3
    obtain ⟨k, rfl⟩ : ∃ j, k = j + 1 := ⟨k - 1, by omega⟩
    obtain ⟨k2, rfl⟩ : ∃ j, k2 = j + 1 := ⟨k2 - 1, by omega⟩
    have en : σC.1 1 0 = nI n := by rw [show σC.1 1 0 = _ from Y.2.2.2.1.1 0 0 2 rfl]; exact Y.1.2.2.2.2.1
    have en' : σM.1 3 2 = nI n := by rw [Y.2.2.2.2.2.1]; exact Y.1.2.2.2.2.1
    have same : ∀ i, 56 ≤ i → σM.1 1 i = row i := fun i hi => by rw [Y.2.2.2.2.2.2]
    have i0 : (3 : Int32) * nI j = nI (3 * j + 0) := by
      show nI 3 * nI j = _
      rw [pk_mul]
      rfl
    rw [f_L_firstWrongRow_17, w1, if_neg (nI_ge (by omega) (by omega)), f_M_judge_7, w2, if_neg (nI_ge (by omega) (by omega))]
    unfold f_L_firstWrongRow_30 f_L_firstWrongRow_31 f_M_isRight
    rw [q_in (show j < 4 by omega) (by decide), cond_true, nI_clamp (show j < 2 ^ 31 by omega), show (3 * nI j) + (1 : Int32) = nI (3 * j + 1) from q_i3' j 1, show (3 * nI j) + (2 : Int32) = nI (3 * j + 2) from q_i3' j 2, i0, q_in (show 3 * j + 0 < 12 by omega) (by decide), cond_true, q_in (show 3 * j + 1 < 12 by omega) (by decide), q_in (show 3 * j + 2 < 12 by omega) (by decide), nI_clamp (show 3 * j + 0 < 2 ^ 31 by omega), nI_clamp (show 3 * j + 1 < 2 ^ 31 by omega), nI_clamp (show 3 * j + 2 < 2 ^ 31 by omega), w3 j 0 (by omega) (by decide), nI_1]
    simp only [cond_true]
    rcases e_isAct (N := N) (v := σM.1 13 (3 * j + 0)) en en' with ⟨i1, i2⟩ | ⟨i1, i2⟩
    · rw [i1, i2, q_bz0, q_bz0, Option.bind_some]
      dsimp only
      rw [if_pos rfl, e29 (by omega) w2, if_neg (by omega)]
      exact ⟨_, σC, σM, rfl, rfl, q_fr_r _ _, q_fr_r _ _, same⟩
    · rw [i1, i2, q_bz1, q_bz1]
      dsimp only
      by_cases cd : h < d
      · rw [((e_over Y).1 cd).1, ((e_over Y).1 cd).2, q_bz0, q_bz0]
        dsimp only
        rw [w3 j 0 (by omega) (by decide)]
        obtain ⟨τ, υ, t1, v1, Y', _, fC, fM⟩ := e_two (N := N) (a := σM.1 13 (3 * j + 0)) hN (by decide) Y cd
        have hi : ∀ i, 56 ≤ i → υ.1 1 i = row i := fun i z => by rw [Y'.2.2.2.2.2.2, q_go_hi Y.1 z]
        have w1' : τ.1 92 10 = nI r0 := by rw [fC.1 92 10 rfl]; exact w1
        have w2' : υ.1 0 29 = nI r0 := by rw [fM.1 0 29 rfl]; exact w2
        have w3' : ∀ k w, k < r0 → w < 3 → τ.1 (117 + k) w = υ.1 13 (3 * k + w) := fun k w hk hw => by
          rw [fC.1 (117 + k) w (by unfold q_pg; simp; omega), fM.1 13 _ rfl]
          exact w3 k w hk hw
        rw [t1, v1, Option.bind_some, Option.bind_some]
        dsimp only
        rw [w3' j 1 (by omega) (by decide)]
        by_cases c1 : (q_go S L (σM.1 13 (3 * j + 0)) row).1 = υ.1 13 (3 * j + 1)
        · rw [if_pos c1, if_pos c1, e_someC hN Y'.2.2.2.2.1, e_someM hN Y'.1 Y'.2.2.1 Y'.2.2.2.2.2.1 Y'.2.2.2.2.2.2, Option.bind_some, Option.bind_some]
          dsimp only
          rw [w3' j 2 (by omega) (by decide)]
          by_cases c2 : q_some (q_go S L (σM.1 13 (3 * j + 0)) row).2.1 = υ.1 13 (3 * j + 2)
          · rw [if_pos c2, if_pos c2, q_bz1]
            obtain ⟨x, τ2, υ2, f1, f2, f3, f4, f5⟩ := ih (j + 1) k k2 (h + 1) _ τ υ (by omega) (by omega) (by omega) Y' w1' w2' w3'
            exact ⟨x, τ2, υ2, f1, f2, q_fr_t fC f3, q_fr_t fM f4, fun i z => by rw [f5 i z, q_go_hi Y.1 z]⟩
          · rw [if_neg c2, if_neg c2, q_bz0]
            dsimp only
            rw [e29 (by omega) w2', if_neg (by omega)]
            exact ⟨_, τ, υ, rfl, rfl, fC, fM, hi⟩
        · rw [if_neg c1, if_neg c1, q_bz0]
          dsimp only
          rw [e29 (by omega) w2', if_neg (by omega)]
          exact ⟨_, τ, υ, rfl, rfl, fC, fM, hi⟩
      · rw [((e_over Y).2 cd).1, ((e_over Y).2 cd).2, q_bz1, q_bz1, q_bz0]
        dsimp only
        rw [e29 (by omega) w2, if_neg (by omega)]
        exact ⟨_, σC, σM, rfl, rfl, q_fr_r _ _, q_fr_r _ _, same⟩
theorem u_judge {N : Nat} (hN : 300 ≤ N) : q_U (f_F_judge N) (f_M_judge N) := by
  intro σC σM hR
  obtain ⟨⟨L, n, m, d, h, t, H⟩, hO⟩ := id hR
  obtain ⟨hw, hq, ht, hRM, hr, hS, hP⟩ := id H
  have hP : q_PC 27 σC (σM.1 1) := hP
  obtain ⟨r0, r4, w1, w2, w3⟩ := hO.2.2.1
  unfold f_F_judge f_M_judge f_L_firstWrongRow
  obtain ⟨τ, t1, t2, t3⟩ := e_copyP (N := N) (p0 := 94) hP (by omega)
  obtain ⟨υ, s1, s2, s3, s4, s5⟩ := e_save (N := N) (lv := 0) hN (by decide) σM
  rw [t1, show f_M_save N 0 σM = _ from s1, Option.bind_some, Option.bind_some]
  have Y : q_Y 94 (σM.1 3) L n m d (σM.1 1) h τ υ := ⟨hw, hRM, hr, q_SC_g hS (by decide) (q_pp_g t3), t2, s4 3 (by decide), s4 1 (by decide)⟩
  obtain ⟨x, τ2, υ2, f1, f2, f3, f4, f5⟩ := e_judge hN r4 r0 0 N N h _ τ υ (by omega) (by omega) (by omega) Y (by rw [t3.1 92 10 rfl]; exact w1) (by rw [s4 0 (by decide)]; exact w2) (fun k w hk hw => by rw [t3.1 (117 + k) w (by unfold q_pp; simp; omega), s4 13 (by decide)]; exact w3 k w hk hw)
  rw [show f_L_firstWrongRow_17 N N 0 τ = _ from f1, show f_M_judge_7 N N 0 υ = _ from f2, Option.bind_some]
  obtain ⟨ω, o1, o2, o3⟩ := e_undo hN s2 s4 s5 f4 f5
  rw [o1, Option.bind_some]
  exact ⟨_, τ2, ω, rfl, rfl, q_R_tf hR (q_fr_t (q_pp_g t3) f3) o2 o3 (q_pg_t (Or.inr (by decide))) q_p2_t⟩
