/-! ===== pure: one hour on both sides at once; when, letGo, crowd ===== -/
def q_Y (p1 : Nat) (S : q_f) (L : q_L) (n m d : Nat) (row : q_f) (h : Nat) (σC σM : jw_M) : Prop := q_wf S n m d ∧ q_RM S L ∧ q_wr S n m d row h ∧ q_SC 1 σC S L m ∧ q_PC p1 σC row ∧ σM.1 3 = S ∧ σM.1 1 = row
theorem e_two {N p1 n m d h : Nat} {S : q_f} {L : q_L} {a : Int32} {row : q_f} {σC σM : jw_M} (hN : 300 ≤ N) (hp1 : 27 ≤ p1) (H : q_Y p1 S L n m d row h σC σM) (hd : h < d) : ∃ σC' σM', f_S_goBy N p1 a σC = some ((q_go S L a row).1, σC') ∧ f_M_goes N a σM = some ((q_go S L a row).1, σM') ∧ q_Y p1 S L n m d (q_go S L a row).2.1 (h + 1) σC' σM' ∧ (∀ l, l < 8 → σC'.1 (p1 + 3) l = (q_go S L a row).2.2 l ∧ σM'.1 10 l = (q_go S L a row).2.2 l) ∧ q_fr (q_pg p1) σC σC' ∧ q_fr q_p1 σM σM' := by
  obtain ⟨hw, hR, hr, hS, hP, h3, h1⟩ := H
  obtain ⟨τ, t1, t2, t3, t4⟩ := e_goBy (p1 := p1) (a := a) hN hp1 hw hR hr hS hP
  obtain ⟨υ, v1, v2, v3, v4⟩ := e_goes (a := a) hN hw hR hr h3 h1
  exact ⟨τ, υ, t1, v1, ⟨hw, hR, q_wr_go hw hr hd, q_SC_g hS hp1 t4, t2, by rw [← h3]; exact funext fun j => v4.1 3 j rfl, v2⟩, fun l hl => ⟨t3 l hl, v3 l hl⟩, t4, v4⟩
theorem q_Yd {p1 n m d h : Nat} {S : q_f} {L : q_L} {row : q_f} {σC σM : jw_M} (H : q_Y p1 S L n m d row h σC σM) : σC.1 1 14 = nI d := by
  rw [show σC.1 1 14 = _ from H.2.2.2.1.1 0 14 0 rfl]
  exact H.1.2.2.2.2.2.2.1
theorem e_over {N p1 n m d h : Nat} {S : q_f} {L : q_L} {row : q_f} {σC σM : jw_M} (H : q_Y p1 S L n m d row h σC σM) : (h < d → f_S_isOver N p1 σC = some (0, σC) ∧ f_M_isOver N σM = some (0, σM)) ∧ (¬ h < d → f_S_isOver N p1 σC = some (1, σC) ∧ f_M_isOver N σM = some (1, σM)) := by
  obtain ⟨hw, hR, hr, hS, hP, h3, h1⟩ := H
  unfold f_S_isOver f_M_isOver
  rw [show σC.1 1 14 = _ from hS.1 0 14 0 rfl, q_PC0 hP, h3, h1]
  refine ⟨fun z => ?_, fun z => ?_⟩
  · rw [if_pos ((q_lt_d hw hr).mpr z), if_pos ((q_lt_d hw hr).mpr z)]
    exact ⟨rfl, rfl⟩
  · rw [if_neg (fun y => z ((q_lt_d hw hr).mp y)), if_neg (fun y => z ((q_lt_d hw hr).mp y))]
    exact ⟨rfl, rfl⟩
theorem e_hasC {N p l : Nat} {row : q_f} {σ : jw_M} (hP : q_PC 75 σ row) (hp : p < 6) (hl : l < 32) : f_P_hasLearnt N (nI p) (nI l) σ = some (bif bt (row (2 + p)) l then 1 else 0, σ) := by
  unfold f_P_hasLearnt
  rw [q_in hp (by decide), cond_true, nI_clamp (by omega), show σ.1 77 p = _ from q_PCl hP hp]
  cases e : bt (row (2 + p)) l
  · rw [if_neg (fun z => by rw [q_bit1 _ hl, e] at z; cases z), cond_false]
  · rw [if_pos ((q_bit1 _ hl).mpr e), cond_true]
theorem e_when60 {N p l n m d h : Nat} {S : q_f} {L : q_L} {row : q_f} {σC σM : jw_M} (hp : p < 6) (hl : l < 8) (H : q_Y 75 S L n m d row h σC σM) : f_M_when_60 N (nI p) (nI l) σM = (f_M_load N 0 σM).bind fun z => some ((bif bt (row (2 + p)) l then nI h - 1 else -3), z) := by
  unfold f_M_when_60 f_M_when_82
  rw [e_has hp (by omega), H.2.2.2.2.2.2]
  cases e : bt (row (2 + p)) l
  · rw [cond_false, cond_false, q_bz0]
  · rw [cond_true, cond_true, q_bz1]
    dsimp only
    rw [H.2.2.2.2.2.2, H.2.2.1.1]
theorem e_when {N p l n m d : Nat} {S : q_f} {L : q_L} (hN : 300 ≤ N) (hp : p < 6) (hl : l < 8) : ∀ (r h k k2 : Nat) (row : q_f) (σC σM : jw_M), h + r = d → r < k → r < k2 → q_Y 75 S L n m d row h σC σM → bt (row (2 + p)) l = false → ∃ x σC' σM', f_F_when_61 N k (nI p) (nI l) (nI h) σC = some (x, σC') ∧ f_M_when_35 N k2 (nI p) (nI l) σM = ((f_M_load N 0 σM').bind fun z => some (x, z)) ∧ q_fr (q_pg 75) σC σC' ∧ q_fr q_p1 σM σM' ∧ ∀ i, 56 ≤ i → σM'.1 1 i = σM.1 1 i := by
  intro r
  induction r with
  | zero =>
    intro h k k2 row σC σM hd hk hk2 H hb
    obtain ⟨k, rfl⟩ : ∃ j, k = j + 1 := ⟨k - 1, by omega⟩
    obtain ⟨k2, rfl⟩ : ∃ j, k2 = j + 1 := ⟨k2 - 1, by omega⟩
    have d16 := H.1.2.2.2.1
    refine ⟨-3, σC, σM, ?_, ?_, q_fr_r _ _, q_fr_r _ _, fun _ _ => rfl⟩
    · rw [f_F_when_61, q_Yd H, if_pos (nI_le (by omega) (by omega))]
    · rw [f_M_when_35, ((e_over H).2 (by omega)).2, q_bz1]
      dsimp only
      rw [e_when60 hp hl H, hb]
      rfl
  | succ r ih =>
    intro h k k2 row σC σM hd hk hk2 H hb
    obtain ⟨k, rfl⟩ : ∃ j, k = j + 1 := ⟨k - 1, by omega⟩
    obtain ⟨k2, rfl⟩ : ∃ j, k2 = j + 1 := ⟨k2 - 1, by omega⟩
    have d16 := H.1.2.2.2.1
    have hlt : h < d := by omega
    obtain ⟨τ, υ, t1, v1, Y, _, fC, fM⟩ := e_two (a := 0) hN (show 27 ≤ 75 by decide) H hlt
    have hi : ∀ i, 56 ≤ i → υ.1 1 i = row i := fun i z => by rw [Y.2.2.2.2.2.2, q_go_hi H.1 z]
    rw [f_F_when_61, q_Yd H, if_neg (nI_ge hlt (by omega)), t1, Option.bind_some, f_M_when_35, ((e_over H).1 hlt).2, q_bz0]
    dsimp only
    rw [e_hasC Y.2.2.2.2.1 hp (by omega), e_has hp (by omega), H.2.2.2.2.2.2, hb, cond_false, q_bz0]
    dsimp only
    rw [v1, Option.bind_some, Option.bind_some]
    dsimp only
    cases e : bt ((q_go S L 0 row).2.1 (2 + p)) l
    · rw [cond_false, if_pos rfl, nI_1]
      obtain ⟨x, τ2, υ2, g1, g2, g3, g4, g5⟩ := ih (h + 1) k k2 _ τ υ (by omega) (by omega) (by omega) Y e
      exact ⟨x, τ2, υ2, g1, g2, q_fr_t fC g3, q_fr_t fM g4, fun i z => by rw [g5 i z, hi i z]⟩
    · rw [cond_true, if_neg (by decide)]
      refine ⟨nI h, τ, υ, rfl, ?_, fC, fM, hi⟩
      obtain ⟨k2, rfl⟩ : ∃ j, k2 = j + 1 := ⟨k2 - 1, by omega⟩
      rw [f_M_when_35]
      by_cases c : h + 1 < d
      · rw [((e_over Y).1 c).2, q_bz0]
        dsimp only
        rw [e_has hp (by omega), Y.2.2.2.2.2.2, e, cond_true, q_bz1]
        dsimp only
        rw [e_when60 hp hl Y, e, cond_true, nI_pred]
      · rw [((e_over Y).2 c).2, q_bz1]
        dsimp only
        rw [e_when60 hp hl Y, e, cond_true, nI_pred]
theorem q_R_Y {σC σM τ υ : jw_M} {L : q_L} {n m d h t : Nat} (hN : 300 ≤ 300) (H : q_AA 1 σC (σM.1 3) (σM.1 1) L n m d h t) (hP : q_PC 75 τ (σM.1 1)) (fC : q_fr (q_pp 75) σC τ) (s4 : ∀ c, c ≠ 2 → υ.1 c = σM.1 c) : q_Y 75 (σM.1 3) L n m d (σM.1 1) h τ υ := by
  obtain ⟨hw, hq, ht, hRM, hr, hS, hP'⟩ := H
  exact ⟨hw, hRM, hr, q_SC_g hS (by decide) (q_pp_g fC), hP, s4 3 (by decide), s4 1 (by decide)⟩
theorem u_when {N : Nat} (hN : 300 ≤ N) {x y : Int32} : q_U (f_F_when N x y) (f_M_when N x y) := by
  intro σC σM hR
  obtain ⟨⟨L, n, m, d, h, t, H⟩, hO⟩ := id hR
  obtain ⟨hw, hq, ht, hRM, hr, hS, hP⟩ := id H
  have hP : q_PC 27 σC (σM.1 1) := hP
  have en : σC.1 1 0 = nI n := by rw [show σC.1 1 0 = _ from hS.1 0 0 2 rfl]; exact hw.2.2.2.2.1
  have em : σC.1 1 5 = nI m := by rw [show σC.1 1 5 = _ from hS.1 0 5 3 rfl]; exact hw.2.2.2.2.2.1
  have hn := hw.1
  have hm := hw.2.1
  have d16 := hw.2.2.2.1
  unfold f_F_when f_M_when
  rcases q_shD (N := N) (x := x) en hw.2.2.2.2.1 hw.1 with ⟨a, b⟩ | ⟨p, hp, rfl, a, b⟩
  · rw [a, b, q_bz0, q_bz0]
    exact ⟨_, σC, σM, rfl, rfl, hR⟩
  · rw [a, b, q_bz1, q_bz1]
    rcases q_leD (N := N) (x := y) em hw.2.2.2.2.2.1 hw.2.1 with ⟨a, b⟩ | ⟨l, hl, rfl, a, b⟩
    · rw [a, b, q_bz0, q_bz0]
      exact ⟨_, σC, σM, rfl, rfl, hR⟩
    · rw [a, b, q_bz1, q_bz1]
      dsimp only
      obtain ⟨τ, t1, t2, t3⟩ := e_copyP (N := N) (p0 := 75) hP (by omega)
      rw [t1, Option.bind_some, e_hasC t2 (by omega) (by omega), e_has (by omega) (by omega)]
      cases hb : bt (σM.1 1 (2 + p)) l
      · rw [cond_false, q_bz0, q_bz0]
        dsimp only
        obtain ⟨υ, s1, s2, s3, s4, s5⟩ := e_save (N := N) (lv := 0) hN (by decide) σM
        rw [show f_M_save N 0 σM = _ from s1, Option.bind_some]
        have Y := q_R_Y (by decide) H t2 t3 s4
        obtain ⟨x, τ2, υ2, g1, g2, g3, g4, g5⟩ := e_when hN (show p < 6 by omega) (show l < 8 by omega) (d - h) h N N _ τ υ (by have := hr.2.1; omega) (by omega) (by omega) Y hb
        rw [q_PC0 t2, hr.1, g1, g2]
        obtain ⟨ω, o1, o2, o3⟩ := e_undo hN s2 s4 s5 g4 (fun i hi => by rw [g5 i hi, s4 1 (by decide)])
        rw [o1, Option.bind_some]
        exact ⟨_, τ2, ω, rfl, rfl, q_R_t hR (q_fr_t (q_pp_g t3) g3) o2 o3⟩
      · rw [cond_true, q_bz1, q_bz1]
        exact ⟨_, τ, σM, rfl, rfl, q_R_t hR (q_pp_g t3) rfl (q_fr_r _ _)⟩
/-! ===== letGo ===== -/
def q_lg (row : q_f) (all : Int32) : Nat → Nat → Int32 → Int32
  | 0, _, x => x
  | r + 1, p, x => q_lg row all r (p + 1) (if row (2 + p) = all then x ||| ((1 : Int32) <<< (nI p &&& 31)) else x)
def q_all (m : Nat) : Int32 := ((1 : Int32) <<< (nI m &&& 31)) - 1
theorem q_lg_b {row : q_f} {all : Int32} {q : Nat} (hq : q < 6) : ∀ (r p : Nat) (x : Int32), p + r ≤ 6 → bt (q_lg row all r p x) q = (bt x q || (decide (p ≤ q) && decide (q < p + r) && decide (row (2 + q) = all)))
  | 0, p, x, _ => by
    rw [q_lg]
    by_cases c : p ≤ q
    · rw [decide_eq_false (show ¬ q < p + 0 by omega), Bool.and_false, Bool.false_and, Bool.or_false]
    · rw [decide_eq_false c, Bool.false_and, Bool.false_and, Bool.or_false]
  | r + 1, p, x, h => by
    rw [q_lg, q_lg_b hq r (p + 1) _ (by omega)]
    by_cases e : q = p
    · subst e
      rw [decide_eq_false (show ¬ q + 1 ≤ q by omega), Bool.false_and, Bool.false_and, Bool.or_false, decide_eq_true (show q ≤ q by omega), decide_eq_true (show q < q + (r + 1) by omega), Bool.true_and, Bool.true_and]
      by_cases c : row (2 + q) = all
      · rw [if_pos c, b_or, q_sh1 (by omega) (by omega), decide_eq_true rfl, decide_eq_true c]
      · rw [if_neg c, decide_eq_false c, Bool.or_false]
    · have e1 : bt (if row (2 + p) = all then x ||| ((1 : Int32) <<< (nI p &&& 31)) else x) q = bt x q := by
        by_cases c : row (2 + p) = all
        · rw [if_pos c, b_or, q_sh1 (by omega) (by omega), decide_eq_false e, Bool.or_false]
        · rw [if_neg c]
      rw [e1, show decide (p + 1 ≤ q) = decide (p ≤ q) from decide_eq_decide.mpr (by omega), show decide (q < p + 1 + r) = decide (q < p + (r + 1)) from decide_eq_decide.mpr (by omega)]
theorem e_allC {N m : Nat} {σ : jw_M} (h5 : σ.1 1 5 = nI m) : f_S_allLessons N σ = some (q_all m, σ) := by
  unfold f_S_allLessons
  rw [h5]
  rfl
theorem e_allM {N m : Nat} {σ : jw_M} (h5 : σ.1 3 3 = nI m) : f_M_allLessons N σ = some (q_all m, σ) := by
  unfold f_M_allLessons
  rw [h5]
  rfl
theorem e_lgC {N n m : Nat} {row : q_f} {σ : jw_M} (hn : n ≤ 6) (hP : q_PC 75 σ row) (h0 : σ.1 1 0 = nI n) (h5 : σ.1 1 5 = nI m) : ∀ (r p k : Nat) (x : Int32), p + r = n → r < k → f_F_letGo_11 N k x (nI p) σ = some (q_lg row (q_all m) r p x, σ)
  | 0, p, k, x, hp, hk => by
    obtain ⟨k, rfl⟩ : ∃ j, k = j + 1 := ⟨k - 1, by omega⟩
    rw [f_F_letGo_11, h0, if_pos (nI_le (by omega) (by omega))]
    rfl
  | r + 1, p, k, x, hp, hk => by
    obtain ⟨k, rfl⟩ : ∃ j, k = j + 1 := ⟨k - 1, by omega⟩
    rw [f_F_letGo_11, h0, if_neg (nI_ge (by omega) (by omega)), q_in (show p < 6 by omega) (by decide), cond_true]
    unfold f_F_letGo_47
    rw [e_allC h5, Option.bind_some, nI_clamp (show p < 2 ^ 31 by omega), show σ.1 77 p = _ from q_PCl hP (show p < 6 by omega), nI_1, e_lgC hn hP h0 h5 r (p + 1) k _ (by omega) (by omega), e_lgC hn hP h0 h5 r (p + 1) k _ (by omega) (by omega), q_lg]
    by_cases c : row (2 + p) = q_all m
    · rw [if_pos c, if_pos c]
    · rw [if_neg c, if_neg c]
theorem e_lgM {N n m : Nat} {row : q_f} {σ : jw_M} (hn : n ≤ 6) (h1 : σ.1 1 = row) (h0 : σ.1 3 2 = nI n) (h5 : σ.1 3 3 = nI m) : ∀ (r p k : Nat) (x : Int32), p + r = n → r < k → f_M_letGo_16 N k x (nI p) σ = (f_M_load N 0 σ).bind fun z => some (q_lg row (q_all m) r p x, z)
  | 0, p, k, x, hp, hk => by
    obtain ⟨k, rfl⟩ : ∃ j, k = j + 1 := ⟨k - 1, by omega⟩
    rw [f_M_letGo_16, h0, if_pos (nI_le (by omega) (by omega))]
    rfl
  | r + 1, p, k, x, hp, hk => by
    obtain ⟨k, rfl⟩ : ∃ j, k = j + 1 := ⟨k - 1, by omega⟩
    rw [f_M_letGo_16, h0, if_neg (nI_ge (by omega) (by omega)), q_i2, q_in (show 2 + p < 56 by omega) (by decide), cond_true]
    unfold f_M_letGo_49
    rw [e_allM h5, Option.bind_some, nI_clamp (show 2 + p < 2 ^ 31 by omega), h1, nI_1, e_lgM hn h1 h0 h5 r (p + 1) k _ (by omega) (by omega), e_lgM hn h1 h0 h5 r (p + 1) k _ (by omega) (by omega), q_lg]
    by_cases c : row (2 + p) = q_all m
    · rw [if_pos c, if_pos c]
    · rw [if_neg c, if_neg c, Int32.or_zero]
theorem e_letGoM {N n m d h : Nat} {S : q_f} {L : q_L} {row : q_f} {σ : jw_M} (hN : 300 ≤ N) (hw : q_wf S n m d) (hR : q_RM S L) (hr : q_wr S n m d row h) (h3 : σ.1 3 = S) (h1 : σ.1 1 = row) : ∃ σ', f_M_letGo N σ = some (q_lg (q_rs S L 16 0 row).2 (q_all m) n 0 0, σ') ∧ σ'.1 1 = σ.1 1 ∧ q_fr q_p2 σ σ' := by
  have hn := hw.1
  unfold f_M_letGo f_M_rest
  obtain ⟨τ, s1, s2, s3, s4, s5⟩ := e_save (N := N) (lv := 0) hN (by decide) σ
  rw [show f_M_save N 0 σ = _ from s1, Option.bind_some]
  obtain ⟨υ, g1, g2, g3⟩ := e_Mrest4 hN hw hR (show 16 ≤ 16 by decide) 16 0 N h 0 row τ (by omega) (by omega) (by rw [s4 3 (by decide), h3]) (by rw [s4 1 (by decide), h1]) hr
  rw [show f_M_rest_4 N N 16 0 0 τ = _ from g1, Option.bind_some]
  have e3 : υ.1 3 = S := by rw [← h3, ← s4 3 (by decide)]; exact funext fun i => g3.1 3 i rfl
  dsimp only
  rw [show f_M_letGo_16 N N 0 0 υ = _ from e_lgM hn g2 (by rw [e3]; exact hw.2.2.2.2.1) (by rw [e3]; exact hw.2.2.2.2.2.1) n 0 N 0 (by omega) (by omega)]
  obtain ⟨ω, o1, o2, o3⟩ := e_undo hN s2 s4 s5 g3 (fun i hi => by rw [g2, q_rs_hi hw hi, h1])
  rw [o1, Option.bind_some]
  exact ⟨ω, rfl, o2, o3⟩
theorem u_letGo {N : Nat} (hN : 300 ≤ N) : q_U (f_F_letGo N) (f_M_letGo N) := by
  intro σC σM hR
  obtain ⟨⟨L, n, m, d, h, t, hw, hq, ht, hRM, hr, hS, hP⟩, hO⟩ := id hR
  have hn := hw.1
  obtain ⟨υ, v1, v2, v3⟩ := e_letGoM hN hw hRM hr (rfl : σM.1 3 = σM.1 3) rfl
  obtain ⟨ρ, r1, r2, r3⟩ := e_Crest hN hw hRM (show 16 ≤ 16 by decide) hr hS hP
  have hS2 := q_SC_g hS (by decide) r3
  unfold f_F_letGo
  rw [show f_F_worthOfRest N 16 σC = _ from r1, Option.bind_some, v1]
  dsimp only
  rw [show f_F_letGo_11 N N 0 0 ρ = _ from e_lgC hn r2 (by rw [show ρ.1 1 0 = _ from hS2.1 0 0 2 rfl]; exact hw.2.2.2.2.1) (by rw [show ρ.1 1 5 = _ from hS2.1 0 5 3 rfl]; exact hw.2.2.2.2.2.1) n 0 N 0 (by omega) (by omega)]
  exact ⟨_, ρ, υ, rfl, rfl, q_R_t hR r3 v2 v3⟩
/-! ===== crowd ===== -/
theorem q_gL_s {S : q_f} {L : q_L} {a : Int32} : ∀ (r p : Nat) (z : q_st), p + r ≤ 6 → (∀ l, ∃ c, c ≤ p ∧ z.2.2 l = nI c) → ∀ l, ∃ c, c ≤ p + r ∧ (q_gL S L a r p z).2.2 l = nI c
  | 0, p, z, _, h => h
  | r + 1, p, z, hp, h => by
    rw [q_gL, show p + (r + 1) = p + 1 + r by omega]
    refine q_gL_s r (p + 1) _ (by omega) (fun l => ?_)
    obtain ⟨c, c1, c2⟩ := h l
    unfold q_g1
    by_cases e1 : nI p + 1 = a
    · rw [if_pos e1]
      exact ⟨c, by omega, c2⟩
    · rw [if_neg e1]
      by_cases e2 : q_cho S L z.2.1 z.2.2 p = 8
      · rw [if_pos e2]
        exact ⟨c, by omega, c2⟩
      · rw [if_neg e2]
        have e3 : (q_sit S p (q_cho S L z.2.1 z.2.2 p) z).2.2 = va_up z.2.2 (q_cho S L z.2.1 z.2.2 p) (z.2.2 (q_cho S L z.2.1 z.2.2 p) + 1) := by
          unfold q_sit
          split <;> rfl
        rw [e3, q_up]
        by_cases e4 : l = q_cho S L z.2.1 z.2.2 p
        · rw [if_pos e4, ← e4, c2, nI_1]
          exact ⟨c + 1, by omega, rfl⟩
        · rw [if_neg e4]
          exact ⟨c, by omega, c2⟩
theorem q_go_s {S : q_f} {L : q_L} {a : Int32} {n m d : Nat} {row : q_f} (hw : q_wf S n m d) (l : Nat) : ∃ c, c ≤ 6 ∧ (q_go S L a row).2.2 l = nI c := by
  have hn := hw.1
  unfold q_go q_end
  rw [hw.2.2.2.2.1, nI_clamp (by omega)]
  obtain ⟨c, c1, c2⟩ := q_gL_s (S := S) (L := L) (a := a) n 0 (0, row, fun _ => 0) (by omega) (fun l => ⟨0, by omega, rfl⟩) l
  exact ⟨c, by omega, c2⟩
theorem q_nm1 {c : Nat} (h : c < 2 ^ 31) : ¬ nI c ≤ -1 := by
  rw [Int32.le_iff_toInt_le, nI_toInt h, show (-1 : Int32).toInt = -1 by decide]
  omega
theorem e_crowd {N l n m d : Nat} {S : q_f} {L : q_L} (hN : 300 ≤ N) (hl : l < 8) : ∀ (r h k k2 : Nat) (x2 x3 y3 : Int32) (row : q_f) (σC σM : jw_M), h + r = d → r < k → r < k2 → (x3 = y3 ∨ (x2 = -1 ∧ 0 < r)) → q_Y 75 S L n m d row h σC σM → ∃ x σC' σM', f_F_crowd_41 N k (nI l) x2 x3 (nI h) σC = some (x, σC') ∧ f_M_crowd_29 N k2 (nI l) y3 x2 σM = ((f_M_load N 0 σM').bind fun z => some (x, z)) ∧ q_fr (q_pg 75) σC σC' ∧ q_fr q_p1 σM σM' ∧ ∀ i, 56 ≤ i → σM'.1 1 i = σM.1 1 i := by
  intro r
  induction r with
  | zero =>
    intro h k k2 x2 x3 y3 row σC σM hd hk hk2 hx H
    obtain ⟨k, rfl⟩ : ∃ j, k = j + 1 := ⟨k - 1, by omega⟩
    obtain ⟨k2, rfl⟩ : ∃ j, k2 = j + 1 := ⟨k2 - 1, by omega⟩
    have d16 := H.1.2.2.2.1
    have hx : x3 = y3 := hx.resolve_right (fun z => by omega)
    subst hx
    refine ⟨x3, σC, σM, ?_, ?_, q_fr_r _ _, q_fr_r _ _, fun _ _ => rfl⟩
    · rw [f_F_crowd_41, q_Yd H, if_pos (nI_le (by omega) (by omega))]
    · rw [f_M_crowd_29, ((e_over H).2 (by omega)).2, q_bz1]
  | succ r ih =>
    intro h k k2 x2 x3 y3 row σC σM hd hk hk2 hx H
    obtain ⟨k, rfl⟩ : ∃ j, k = j + 1 := ⟨k - 1, by omega⟩
    obtain ⟨k2, rfl⟩ : ∃ j, k2 = j + 1 := ⟨k2 - 1, by omega⟩
    have d16 := H.1.2.2.2.1
    have hlt : h < d := by omega
    obtain ⟨τ, υ, t1, v1, Y, st, fC, fM⟩ := e_two (a := 0) hN (show 27 ≤ 75 by decide) H hlt
    have hi : ∀ i, 56 ≤ i → υ.1 1 i = row i := fun i z => by rw [Y.2.2.2.2.2.2, q_go_hi H.1 z]
    obtain ⟨c, c6, ec⟩ := q_go_s (L := L) (a := 0) (row := row) H.1 l
    have s1 : τ.1 78 l = nI c := by rw [show τ.1 78 l = _ from (st l hl).1, ec]
    have s2 : υ.1 10 l = nI c := by rw [(st l hl).2, ec]
    rw [f_F_crowd_41, q_Yd H, if_neg (nI_ge hlt (by omega)), t1, Option.bind_some, f_M_crowd_29, ((e_over H).1 hlt).2, q_bz0]
    dsimp only
    rw [v1, Option.bind_some]
    dsimp only
    unfold f_F_crowd_92 f_M_crowd_67 f_M_crowd_88
    rw [q_in hl (by decide), cond_true, cond_true, cond_true, cond_true, nI_clamp (show l < 2 ^ 31 by omega), s1, s2, H.2.2.2.2.2.2, H.2.2.1.1, nI_1]
    by_cases e : nI c ≤ x2
    · rw [if_pos e, if_pos e, if_pos e]
      have hx' : x3 = y3 := hx.resolve_right (fun z => by rw [z.1] at e; exact q_nm1 (by omega) e)
      obtain ⟨x, τ2, υ2, g1, g2, g3, g4, g5⟩ := ih (h + 1) k k2 x2 x3 y3 _ τ υ (by omega) (by omega) (by omega) (Or.inl hx') Y
      exact ⟨x, τ2, υ2, g1, g2, q_fr_t fC g3, q_fr_t fM g4, fun i z => by rw [g5 i z, hi i z]⟩
    · rw [if_neg e, if_neg e, if_neg e]
      obtain ⟨x, τ2, υ2, g1, g2, g3, g4, g5⟩ := ih (h + 1) k k2 (nI c) (nI h) (nI h) _ τ υ (by omega) (by omega) (by omega) (Or.inl rfl) Y
      exact ⟨x, τ2, υ2, g1, g2, q_fr_t fC g3, q_fr_t fM g4, fun i z => by rw [g5 i z, hi i z]⟩
theorem u_crowd {N : Nat} (hN : 300 ≤ N) {x : Int32} : q_U (f_F_crowd N x) (f_M_crowd N x) := by
  intro σC σM hR
  obtain ⟨⟨L, n, m, d, h, t, H⟩, hO⟩ := id hR
  obtain ⟨hw, hq, ht, hRM, hr, hS, hP⟩ := id H
  have hP : q_PC 27 σC (σM.1 1) := hP
  have em : σC.1 1 5 = nI m := by rw [show σC.1 1 5 = _ from hS.1 0 5 3 rfl]; exact hw.2.2.2.2.2.1
  have hm := hw.2.1
  have d16 := hw.2.2.2.1
  have hhd := hr.2.1
  unfold f_F_crowd f_M_crowd
  rcases q_leD (N := N) (x := x) em hw.2.2.2.2.2.1 hw.2.1 with ⟨a, b⟩ | ⟨l, hl, rfl, a, b⟩
  · rw [a, b, q_bz0, q_bz0]
    exact ⟨_, σC, σM, rfl, rfl, hR⟩
  · rw [a, b, q_bz1, q_bz1]
    dsimp only
    obtain ⟨τ, t1, t2, t3⟩ := e_copyP (N := N) (p0 := 75) hP (by omega)
    rw [t1, Option.bind_some, q_PC0 t2, hr.1]
    by_cases c : h < d
    · obtain ⟨υ, s1, s2, s3, s4, s5⟩ := e_save (N := N) (lv := 0) hN (by decide) σM
      have Y0 : q_Y 27 (σM.1 3) L n m d (σM.1 1) h σC σM := ⟨hw, hRM, hr, hS, hP, rfl, rfl⟩
      rw [((e_over Y0).1 c).2, q_bz0]
      dsimp only
      rw [show f_M_save N 0 σM = _ from s1, Option.bind_some]
      have Y := q_R_Y (by decide) H t2 t3 s4
      obtain ⟨x, τ2, υ2, g1, g2, g3, g4, g5⟩ := e_crowd hN (show l < 8 by omega) (d - h) h N N (-1) (-3) (-1) _ τ υ (by omega) (by omega) (by omega) (Or.inr ⟨rfl, by omega⟩) Y
      rw [g1, g2]
      obtain ⟨ω, o1, o2, o3⟩ := e_undo hN s2 s4 s5 g4 (fun i hi => by rw [g5 i hi, s4 1 (by decide)])
      rw [o1, Option.bind_some]
      exact ⟨_, τ2, ω, rfl, rfl, q_R_t hR (q_fr_t (q_pp_g t3) g3) o2 o3⟩
    · have Y0 : q_Y 27 (σM.1 3) L n m d (σM.1 1) h σC σM := ⟨hw, hRM, hr, hS, hP, rfl, rfl⟩
      rw [((e_over Y0).2 c).2, q_bz1]
      obtain ⟨j, rfl⟩ : ∃ j, N = j + 1 := ⟨N - 1, by omega⟩
      have Y := q_R_Y (υ := σM) (by decide) H t2 t3 (fun _ _ => rfl)
      rw [f_F_crowd_41, q_Yd Y, if_pos (nI_le (by omega) (by omega))]
      exact ⟨_, τ, σM, rfl, rfl, q_R_t hR (q_pp_g t3) rfl (q_fr_r _ _)⟩
