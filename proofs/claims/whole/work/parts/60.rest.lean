/-! ===== pure: trials: copies, saves, the rest ===== -/
theorem q_jpc {c i k : Nat} (h : q_jp c i = some k) : (c = 0 ∧ i < 2 ∧ k = i) ∨ (c = 1 ∧ i < 48 ∧ k = 8 + i) ∨ (c = 2 ∧ i < 6 ∧ k = 2 + i) := by
  unfold q_jp at h
  repeat' split at h
  all_goals first
    | (cases h; done)
    | (cases h; omega)
def q_pp (p0 : Nat) (c _i : Nat) : Bool := decide (p0 ≤ c) && decide (c ≤ p0 + 2)
theorem q_pp_1 {p0 c i : Nat} (h : p0 ≤ c) (h2 : c ≤ p0 + 2) : q_pp p0 c i = true := by
  unfold q_pp
  rw [decide_eq_true h, decide_eq_true h2]
  rfl
theorem q_pp_0 {p0 c i : Nat} (h : q_pp p0 c i = false) : c < p0 ∨ p0 + 2 < c := by
  unfold q_pp at h
  simp at h
  omega
theorem q_pp_g {p0 : Nat} {σ τ : jw_M} (h : q_fr (q_pp p0) σ τ) : q_fr (q_pg p0) σ τ := q_fr_m h (fun c i z => by
  unfold q_pg at z
  unfold q_pp
  simp at z ⊢
  omega)
theorem e_copyP {N b p0 : Nat} {row : q_f} {σ : jw_M} (hP : q_PC b σ row) (hd : p0 + 3 ≤ b ∨ b + 3 ≤ p0) : ∃ σ', f_P_copyFrom N p0 b σ = some σ' ∧ q_PC p0 σ' row ∧ q_fr (q_pp p0) σ σ' := by
  unfold f_P_copyFrom f_P_copyFrom_27 f_F_copyRow
  rw [show (48 == 48 && Nat.ble 48 1000) = true from rfl, cond_true, Option.bind_some, show (6 == 6 && Nat.ble 6 1000) = true from rfl, cond_true, Option.bind_some]
  refine ⟨_, rfl, fun c i k hk => ?_, ⟨fun c i z => ?_, rfl⟩⟩
  · show jw_lay (jw_lay _ (p0 + 1) _) (p0 + 2) _ (p0 + c) i = row k
    rcases q_jpc hk with ⟨rfl, hi, e⟩ | ⟨rfl, hi, rfl⟩ | ⟨rfl, hi, rfl⟩
    · rw [e]
      unfold jw_lay
      rw [if_neg (by omega), if_neg (by omega)]
      rw [Nat.add_zero]
      rcases (show i = 0 ∨ i = 1 by omega) with rfl | rfl
      · rw [q_wI (by decide), q_wS]
        exact q_PC0 hP
      · rw [q_wS, q_wC (by omega)]
        exact q_PC1 hP
    · unfold jw_lay
      rw [if_neg (by omega), if_pos rfl, pk_cpy_in (by omega) (by omega), q_wC (by omega), q_wC (by omega), show 0 + (i - 0) = i by omega]
      exact hP 1 i _ (q_jp_p hi)
    · have e1 : ∀ j, jw_lay (jx_w (jx_w σ p0 0 (σ.1 b 0)) p0 1 ((jx_w σ p0 0 (σ.1 b 0)).1 b 1)).1 (p0 + 1) (va_cpy ((jx_w (jx_w σ p0 0 (σ.1 b 0)) p0 1 ((jx_w σ p0 0 (σ.1 b 0)).1 b 1)).1 (b + 1)) ((jx_w (jx_w σ p0 0 (σ.1 b 0)) p0 1 ((jx_w σ p0 0 (σ.1 b 0)).1 b 1)).1 (p0 + 1)) 0 0 48) (b + 2) j = σ.1 (b + 2) j := by
        intro j
        unfold jw_lay
        rw [if_neg (by omega), q_wC (by omega), q_wC (by omega)]
      have e2 : ∀ (M : Nat → Nat → Int32) (f : Nat → Int32), jw_lay M (p0 + 2) f (p0 + 2) i = f i := fun M f => by
        unfold jw_lay
        rw [if_pos rfl]
      rw [e2, pk_cpy_in (by omega) (by omega), show 0 + (i - 0) = i by omega]
      exact (e1 i).trans (hP 2 i _ (q_jp_l hi))
  · show jw_lay (jw_lay _ (p0 + 1) _) (p0 + 2) _ c i = σ.1 c i
    have z := q_pp_0 z
    unfold jw_lay
    rw [if_neg (by omega), if_neg (by omega), q_wC (by omega), q_wC (by omega)]
theorem q_i56 (l i : Nat) : (56 * nI l) + nI i = nI (56 * l + i) := by
  show (nI 56 * nI l) + nI i = _
  rw [pk_mul, nI_add]
theorem e_save2 {N lv : Nat} (hl : lv ≤ 6) : ∀ (r i k : Nat) (σ : jw_M), i + r = 56 → r < k → ∃ σ', f_M_save_2 N k (nI lv) (nI i) σ = some σ' ∧ (∀ j, σ'.1 2 j = if 56 * lv + i ≤ j ∧ j < 56 * lv + 56 then σ.1 1 (j - 56 * lv) else σ.1 2 j) ∧ (∀ c, c ≠ 2 → σ'.1 c = σ.1 c) ∧ σ'.2 = σ.2
  | 0, i, 0, _, _, h => absurd h (by omega)
  | r + 1, i, 0, _, _, h => absurd h (by omega)
  | 0, i, k + 1, σ, hi, _ => by
    refine ⟨σ, ?_, fun j => ?_, fun _ _ => rfl, rfl⟩
    · rw [f_M_save_2, if_pos (show (56 : Int32) ≤ nI i from nI_le (a := 56) (by omega) (by omega))]
    · rw [if_neg (by omega)]
  | r + 1, i, k + 1, σ, hi, hk => by
    obtain ⟨σ', g1, g2, g3, g4⟩ := e_save2 (N := N) hl r (i + 1) k (jx_w σ 2 (56 * lv + i) (σ.1 1 i)) (by omega) (by omega)
    refine ⟨σ', ?_, fun j => ?_, fun c hc => ?_, ?_⟩
    · rw [f_M_save_2, if_neg (show ¬ (56 : Int32) ≤ nI i from nI_ge (b := 56) (by omega) (by omega)), q_in (show i < 56 by omega) (by decide), cond_true, q_i56, q_in (show 56 * lv + i < 392 by omega) (by decide), cond_true, nI_clamp (show i < 2 ^ 31 by omega), nI_clamp (show 56 * lv + i < 2 ^ 31 by omega), nI_1]
      exact g1
    · rw [g2 j, q_wC (show (1 : Nat) ≠ 2 by decide)]
      by_cases c : j = 56 * lv + i
      · subst c
        rw [if_neg (by omega), if_pos (by omega), q_wS, show 56 * lv + i - 56 * lv = i by omega]
      · rw [q_wI c]
        by_cases c2 : 56 * lv + (i + 1) ≤ j ∧ j < 56 * lv + 56
        · rw [if_pos c2, if_pos (by omega)]
        · rw [if_neg c2, if_neg (by omega)]
    · rw [g3 c hc, q_w0 hc]
    · rw [g4]
      rfl
theorem e_load2 {N lv : Nat} (hl : lv ≤ 6) : ∀ (r i k : Nat) (σ : jw_M), i + r = 56 → r < k → ∃ σ', f_M_load_2 N k (nI lv) (nI i) σ = some σ' ∧ (∀ j, σ'.1 1 j = if i ≤ j ∧ j < 56 then σ.1 2 (56 * lv + j) else σ.1 1 j) ∧ (∀ c, c ≠ 1 → σ'.1 c = σ.1 c) ∧ σ'.2 = σ.2
  | 0, i, 0, _, _, h => absurd h (by omega)
  | r + 1, i, 0, _, _, h => absurd h (by omega)
  | 0, i, k + 1, σ, hi, _ => by
    refine ⟨σ, ?_, fun j => ?_, fun _ _ => rfl, rfl⟩
    · rw [f_M_load_2, if_pos (show (56 : Int32) ≤ nI i from nI_le (a := 56) (by omega) (by omega))]
    · rw [if_neg (by omega)]
  | r + 1, i, k + 1, σ, hi, hk => by
    obtain ⟨σ', g1, g2, g3, g4⟩ := e_load2 (N := N) hl r (i + 1) k (jx_w σ 1 i (σ.1 2 (56 * lv + i))) (by omega) (by omega)
    refine ⟨σ', ?_, fun j => ?_, fun c hc => ?_, ?_⟩
    · rw [f_M_load_2, if_neg (show ¬ (56 : Int32) ≤ nI i from nI_ge (b := 56) (by omega) (by omega)), q_i56, q_in (show 56 * lv + i < 392 by omega) (by decide), cond_true, q_in (show i < 56 by omega) (by decide), cond_true, nI_clamp (show i < 2 ^ 31 by omega), nI_clamp (show 56 * lv + i < 2 ^ 31 by omega), nI_1]
      exact g1
    · rw [g2 j, q_wC (show (2 : Nat) ≠ 1 by decide)]
      by_cases c : j = i
      · subst c
        rw [if_neg (by omega), if_pos (by omega), q_wS]
      · rw [q_wI c]
        by_cases c2 : i + 1 ≤ j ∧ j < 56
        · rw [if_pos c2, if_pos (by omega)]
        · rw [if_neg c2, if_neg (by omega)]
    · rw [g3 c hc, q_w0 hc]
    · rw [g4]
      rfl
theorem e_save {N lv : Nat} (hN : 300 ≤ N) (hl : lv ≤ 6) (σ : jw_M) : ∃ σ', f_M_save N (nI lv) σ = some σ' ∧ (∀ i, i < 56 → σ'.1 2 (56 * lv + i) = σ.1 1 i) ∧ (∀ j, (j < 56 * lv ∨ 56 * lv + 56 ≤ j) → σ'.1 2 j = σ.1 2 j) ∧ (∀ c, c ≠ 2 → σ'.1 c = σ.1 c) ∧ σ'.2 = σ.2 := by
  obtain ⟨σ', g1, g2, g3, g4⟩ := e_save2 (N := N) hl 56 0 N σ (by omega) (by omega)
  refine ⟨σ', g1, fun i hi => ?_, fun j hj => ?_, g3, g4⟩
  · rw [g2, if_pos (by omega), show 56 * lv + i - 56 * lv = i by omega]
  · rw [g2, if_neg (by omega)]
theorem e_load {N lv : Nat} (hN : 300 ≤ N) (hl : lv ≤ 6) (σ : jw_M) : ∃ σ', f_M_load N (nI lv) σ = some σ' ∧ (∀ i, i < 56 → σ'.1 1 i = σ.1 2 (56 * lv + i)) ∧ (∀ i, 56 ≤ i → σ'.1 1 i = σ.1 1 i) ∧ (∀ c, c ≠ 1 → σ'.1 c = σ.1 c) ∧ σ'.2 = σ.2 := by
  obtain ⟨σ', g1, g2, g3, g4⟩ := e_load2 (N := N) hl 56 0 N σ (by omega) (by omega)
  refine ⟨σ', g1, fun i hi => ?_, fun j hj => ?_, g3, g4⟩
  · rw [g2, if_pos (by omega)]
  · rw [g2, if_neg (by omega)]
/-- what is saved comes back -/
def q_p2 (c _i : Nat) : Bool := c == 2 || c == 9 || c == 10
theorem q_O_p2 (c i : Nat) (z : q_mO c i) : q_p2 c i = false := by
  unfold q_mO at z
  unfold q_p2
  simp
  omega
theorem e_undo {N : Nat} (hN : 300 ≤ N) {σ σ1 σ2 : jw_M} (s1 : ∀ i, i < 56 → σ1.1 2 (56 * 0 + i) = σ.1 1 i) (s2 : ∀ c, c ≠ 2 → σ1.1 c = σ.1 c) (s3 : σ1.2 = σ.2) (f : q_fr q_p1 σ1 σ2) (hi : ∀ i, 56 ≤ i → σ2.1 1 i = σ.1 1 i) : ∃ σ3, f_M_load N 0 σ2 = some σ3 ∧ σ3.1 1 = σ.1 1 ∧ q_fr q_p2 σ σ3 := by
  obtain ⟨σ3, g1, g2, g3, g4, g5⟩ := e_load (N := N) (lv := 0) hN (by decide) σ2
  have e1 : σ3.1 1 = σ.1 1 := by
    funext i
    by_cases c : i < 56
    · rw [g2 i c, f.1 2 _ rfl, s1 i c]
    · rw [g3 i (by omega), hi i (by omega)]
  refine ⟨σ3, g1, e1, ⟨fun c i z => ?_, by rw [g5, f.2, s3]⟩⟩
  by_cases c1 : c = 1
  · rw [c1, e1]
  · have z2 : q_p1 c i = false := by
      unfold q_p1
      unfold q_p2 at z
      simp at z ⊢
      omega
    rw [g4 c c1, f.1 c i z2, s2 c (fun w => by rw [w] at z; cases z)]
def q_rs (S : q_f) (L : q_L) : Nat → Int32 → q_f → Int32 × q_f
  | 0, w, row => (w, row)
  | k + 1, w, row => if row 0 < S 0 then q_rs S L k (w + (q_go S L 0 row).1) (q_go S L 0 row).2.1 else (w, row)
theorem q_rs_hi {S : q_f} {L : q_L} {n m d : Nat} (hw : q_wf S n m d) {i : Nat} (hi : 56 ≤ i) : ∀ (k : Nat) (w : Int32) (row : q_f), (q_rs S L k w row).2 i = row i
  | 0, _, _ => rfl
  | k + 1, w, row => by
    rw [q_rs]
    by_cases c : row 0 < S 0
    · rw [if_pos c, q_rs_hi hw hi k, q_go_hi hw hi]
    · rw [if_neg c]
theorem q_lt_d {S row : q_f} {n m d h : Nat} (hw : q_wf S n m d) (hr : q_wr S n m d row h) : row 0 < S 0 ↔ h < d := by
  have h1 := hw.2.2.2.1
  have h2 := hr.2.1
  rw [hr.1, hw.2.2.2.2.2.2.1, nI_ltI (by omega) (by omega)]
theorem e_Mrest4 {N n m d c : Nat} {S : q_f} {L : q_L} (hN : 300 ≤ N) (hw : q_wf S n m d) (hR : q_RM S L) (hc : c ≤ 16) : ∀ (r i k h : Nat) (w : Int32) (row : q_f) (σ : jw_M), i + r = c → r < k → σ.1 3 = S → σ.1 1 = row → q_wr S n m d row h → ∃ σ', f_M_rest_4 N k (nI c) w (nI i) σ = some ((q_rs S L r w row).1, σ') ∧ σ'.1 1 = (q_rs S L r w row).2 ∧ q_fr q_p1 σ σ'
  | 0, i, 0, _, _, _, _, _, h, _, _, _ => absurd h (by omega)
  | r + 1, i, 0, _, _, _, _, _, h, _, _, _ => absurd h (by omega)
  | 0, i, k + 1, h, w, row, σ, hi, _, h3, h1, hr => by
    refine ⟨σ, ?_, h1, q_fr_r _ _⟩
    rw [f_M_rest_4, if_pos (nI_le (by omega) (by omega))]
    rfl
  | r + 1, i, k + 1, h, w, row, σ, hi, hk, h3, h1, hr => by
    rw [f_M_rest_4, if_neg (nI_ge (by omega) (by omega)), q_rs]
    unfold f_M_isOver
    rw [h3, h1]
    by_cases g : row 0 < S 0
    · rw [if_pos g, if_pos g, q_bz0]
      obtain ⟨τ, t1, t2, t3, t4⟩ := e_goes (a := 0) hN hw hR hr h3 h1
      dsimp only
      rw [t1, Option.bind_some, nI_1]
      obtain ⟨σ', g1, g2, g3⟩ := e_Mrest4 hN hw hR hc r (i + 1) k (h + 1) (w + (q_go S L 0 row).1) (q_go S L 0 row).2.1 τ (by omega) (by omega) (by rw [← h3]; exact funext fun j => t4.1 3 j rfl) t2 (q_wr_go hw hr ((q_lt_d hw hr).mp g))
      exact ⟨σ', g1, g2, q_fr_t t4 g3⟩
    · rw [if_neg g, if_neg g, q_bz1]
      exact ⟨σ, rfl, h1, q_fr_r _ _⟩
theorem e_Crest4 {N n m d c : Nat} {S : q_f} {L : q_L} (hN : 300 ≤ N) (hw : q_wf S n m d) (hR : q_RM S L) (hc : c ≤ 16) : ∀ (r i k h : Nat) (w : Int32) (row : q_f) (σ : jw_M), i + r = c → r < k → q_SC 1 σ S L m → q_PC 75 σ row → q_wr S n m d row h → ∃ σ', f_F_worthOfRest_18 N k (nI c) w (nI i) σ = some ((q_rs S L r w row).1, σ') ∧ q_PC 75 σ' (q_rs S L r w row).2 ∧ q_fr (q_pg 75) σ σ'
  | 0, i, 0, _, _, _, _, _, h, _, _, _ => absurd h (by omega)
  | r + 1, i, 0, _, _, _, _, _, h, _, _, _ => absurd h (by omega)
  | 0, i, k + 1, h, w, row, σ, hi, _, hS, hP, hr => by
    refine ⟨σ, ?_, hP, q_fr_r _ _⟩
    rw [f_F_worthOfRest_18, if_pos (nI_le (by omega) (by omega))]
    rfl
  | r + 1, i, k + 1, h, w, row, σ, hi, hk, hS, hP, hr => by
    rw [f_F_worthOfRest_18, if_neg (nI_ge (by omega) (by omega)), q_rs]
    unfold f_S_isOver
    rw [show σ.1 1 14 = _ from hS.1 0 14 0 rfl, q_PC0 hP]
    by_cases g : row 0 < S 0
    · rw [if_pos g, if_pos g, q_bz0]
      obtain ⟨τ, t1, t2, t3, t4⟩ := e_goBy (p1 := 75) (a := 0) hN (by decide) hw hR hr hS hP
      dsimp only
      rw [t1, Option.bind_some, nI_1]
      obtain ⟨σ', g1, g2, g3⟩ := e_Crest4 hN hw hR hc r (i + 1) k (h + 1) (w + (q_go S L 0 row).1) (q_go S L 0 row).2.1 τ (by omega) (by omega) (q_SC_g hS (by decide) t4) t2 (q_wr_go hw hr ((q_lt_d hw hr).mp g))
      exact ⟨σ', g1, g2, q_fr_t t4 g3⟩
    · rw [if_neg g, if_neg g, q_bz1]
      exact ⟨σ, rfl, hP, q_fr_r _ _⟩
theorem e_Crest {N n m d h c : Nat} {S : q_f} {L : q_L} {row : q_f} {σ : jw_M} (hN : 300 ≤ N) (hw : q_wf S n m d) (hR : q_RM S L) (hc : c ≤ 16) (hr : q_wr S n m d row h) (hS : q_SC 1 σ S L m) (hP : q_PC 27 σ row) : ∃ σ', f_F_worthOfRest N (nI c) σ = some ((q_rs S L c 0 row).1, σ') ∧ q_PC 75 σ' (q_rs S L c 0 row).2 ∧ q_fr (q_pg 75) σ σ' := by
  unfold f_F_worthOfRest
  obtain ⟨τ, t1, t2, t3⟩ := e_copyP (N := N) (p0 := 75) hP (by omega)
  rw [t1, Option.bind_some]
  have t3 := q_pp_g t3
  obtain ⟨σ', g1, g2, g3⟩ := e_Crest4 hN hw hR hc c 0 N h 0 row τ (by omega) (by omega) (q_SC_g hS (by decide) t3) t2 hr
  exact ⟨σ', g1, g2, q_fr_t t3 g3⟩
theorem e_restW {N n m d h c : Nat} {S : q_f} {L : q_L} {row : q_f} {σ : jw_M} (hN : 300 ≤ N) (hw : q_wf S n m d) (hR : q_RM S L) (hc : c ≤ 16) (hr : q_wr S n m d row h) (h3 : σ.1 3 = S) (h1 : σ.1 1 = row) : ∃ σ', f_M_restWorth N (nI c) σ = some ((q_rs S L c 0 row).1, σ') ∧ σ'.1 1 = σ.1 1 ∧ q_fr q_p2 σ σ' := by
  unfold f_M_restWorth f_M_rest
  obtain ⟨τ, s1, s2, s3, s4, s5⟩ := e_save (N := N) (lv := 0) hN (by decide) σ
  rw [show f_M_save N 0 σ = _ from s1, Option.bind_some]
  obtain ⟨υ, g1, g2, g3⟩ := e_Mrest4 hN hw hR hc c 0 N h 0 row τ (by omega) (by omega) (by rw [s4 3 (by decide), h3]) (by rw [s4 1 (by decide), h1]) hr
  rw [show f_M_rest_4 N N (nI c) 0 0 τ = _ from g1, Option.bind_some]
  obtain ⟨ω, o1, o2, o3⟩ := e_undo hN s2 s4 s5 g3 (fun i hi => by rw [g2, q_rs_hi hw hi, h1])
  dsimp only
  rw [o1, Option.bind_some]
  exact ⟨ω, rfl, o2, o3⟩
/-- a trial leaves all as it was -/
theorem q_R_t {σC σM σC' σM' : jw_M} (hR : q_R σC σM) (fC : q_fr (q_pg 75) σC σC') (h1 : σM'.1 1 = σM.1 1) (fM : q_fr q_p2 σM σM') : q_R σC' σM' := by
  obtain ⟨⟨L, n, m, d, h, t, hw, hq, ht, hRM, hr, hS, hP⟩, hO⟩ := hR
  refine ⟨⟨L, n, m, d, h, t, ?_⟩, q_O_f hO fC fM (q_O_pg (by decide) (Or.inr (Or.inl (by decide)))) q_O_p2⟩
  rw [h1, show σM'.1 3 = σM.1 3 from funext fun i => fM.1 3 i rfl]
  refine ⟨hw, hq, ht, hRM, hr, q_SC_g hS (by decide) fC, q_PC_k hP (fun c i hc => fC.1 _ _ ?_)⟩
  unfold q_pg
  simp
  omega
theorem u_on {N : Nat} (hN : 300 ≤ N) {x : Int32} : q_U (f_F_on N x) (f_M_on N x) := by
  intro σC σM hR
  obtain ⟨⟨L, n, m, d, h, t, hw, hq, ht, hRM, hr, hS, hP⟩, hO⟩ := id hR
  unfold f_F_on f_M_on
  by_cases c : x < 0 ∨ 16 < x
  · rw [e_win0 c, e_in0 c, q_bz0, q_bz0]
    exact ⟨_, σC, σM, rfl, rfl, hR⟩
  · rw [e_win1 c, e_in1 c, q_bz1, q_bz1]
    dsimp only
    obtain ⟨j, _, j16, rfl⟩ := q_num 0 16 c
    obtain ⟨ρ, r1, r2, r3⟩ := e_Crest hN hw hRM j16 hr hS hP
    obtain ⟨υ, v1, v2, v3⟩ := e_restW hN hw hRM j16 hr (rfl : σM.1 3 = σM.1 3) rfl
    rw [r1, v1, Option.bind_some, Option.bind_some]
    exact ⟨_, ρ, υ, rfl, rfl, q_R_t hR r3 v2 v3⟩
