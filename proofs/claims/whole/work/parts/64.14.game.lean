/-! ===== pure: game, play ===== -/
def q_gl (f : Nat → Int32) (fi : Bool) : Nat → Nat → Int32 × Int32 → Int32 × Int32
  | 0, _, s => s
  | r + 1, a, s => q_gl f fi r (a + 1) (if a = 0 ∨ (if fi = true then s.2 < f a else f a < s.2) then (nI a, f a) else s)
def q_gv (S : q_f) (L : q_L) (b : Nat) : Nat → Bool → q_f → Int32 × Int32
  | 0, _, _ => (-1, 0)
  | e + 1, fi, row => q_gl (fun a => (q_go S L (nI a) row).1 + (q_gv S L b e (!fi) (q_go S L (nI a) row).2.1).2) fi b 0 (-1, 0)
def q_gC (dp c i : Nat) : Bool := (c == 92 && i == 9 && dp == 0) || (decide (94 + 4 * (dp + 1) ≤ c) && decide (c ≤ 113)) || (c == 26 && decide (i < 5))
theorem q_gC_m {dp c i : Nat} (h : q_gC dp c i = false) : q_gC (dp + 1) c i = false := by
  unfold q_gC at h ⊢
  simp at h ⊢
  omega
theorem q_m2 : ∀ dp, dp < 5 → (decide (nI dp - nI dp / 2 * 2 = 0)) = decide (dp % 2 = 0) := by decide
theorem e_valC {N n m d h x : Nat} {S : q_f} {L : q_L} (hN : 300 ≤ N) (hx : x ≤ 4) (hw : q_wf S n m d) (hR : q_RM S L) (hhd : h ≤ d) : ∀ (e dp r : Nat) (row : q_f) (σ : jw_M), dp + e = q_hr x d h → e < r → q_SC 1 σ S L m → q_PC (94 + 4 * dp) σ row → q_wr S n m d row (h + dp) → ∃ σ', f_L_valueFrom N r (nI dp) (nI x) σ = some ((q_gv S L (n + 1) e (decide (dp % 2 = 0)) row).2, σ') ∧ (dp = 0 → 0 < e → σ'.1 92 9 = (q_gv S L (n + 1) e (decide (dp % 2 = 0)) row).1) ∧ q_fr (q_gC dp) σ σ' := by
  have hn := hw.1
  obtain ⟨h4, hd⟩ := q_hr_4 (x := x) hx hhd
  have hHx : q_hr x d h ≤ x := by unfold q_hr; split <;> omega
  intro e
  induction e with
  | zero =>
    intro dp r row σ hdp hr' hS hP hr
    obtain ⟨r, rfl⟩ : ∃ j, r = j + 1 := ⟨r - 1, by omega⟩
    refine ⟨σ, ?_, fun _ z => absurd z (by omega), q_fr_r _ _⟩
    rw [f_L_valueFrom]
    by_cases c1 : x ≤ dp
    · rw [if_pos (nI_le c1 (by omega))]
      rfl
    · rw [if_neg (nI_ge (by omega) (by omega)), if_neg (show ¬ (4 : Int32) ≤ nI dp from nI_ge (b := 4) (by omega) (by decide))]
      unfold f_L_valueFrom_16 f_L_valueFrom_17
      have hover : ¬ h + dp < d := by
        unfold q_hr at hdp
        split at hdp <;> omega
      have ho : f_S_isOver N (94 + 4 * dp) σ = some (1, σ) := by
        unfold f_S_isOver
        rw [show σ.1 1 14 = _ from hS.1 0 14 0 rfl, q_PC0 hP, if_neg (fun y => hover ((q_lt_d hw hr).mp y))]
      rw [q_in (show dp < 5 by omega) (by decide), cond_true, nI_clamp (by omega), ho, q_bz1]
      rfl
  | succ e ih =>
    intro dp r row σ hdp hr' hS hP hr
    obtain ⟨r, rfl⟩ : ∃ j, r = j + 1 := ⟨r - 1, by omega⟩
    have hlt : h + dp < d := by omega
    obtain ⟨fi, hfi⟩ : ∃ fi : Bool, fi = decide (dp % 2 = 0) := ⟨_, rfl⟩
    have hfi' : decide ((dp + 1) % 2 = 0) = !fi := by
      rw [hfi]
      rcases Nat.mod_two_eq_zero_or_one dp with z | z
      · rw [decide_eq_true z, decide_eq_false (by omega)]
        rfl
      · rw [decide_eq_false (show ¬ dp % 2 = 0 by omega), decide_eq_true (by omega)]
        rfl
    rw [← hfi]
    have loop : ∀ (c a k : Nat) (s : Int32 × Int32) (σ : jw_M), a + c = n + 1 → c < k → q_SC 1 σ S L m → q_PC (94 + 4 * dp) σ row → (dp = 0 → 0 < a → σ.1 92 9 = s.1) → ∃ σ', f_L_valueFrom_54 N (f_L_valueFrom N r) k (nI dp) (nI x) (bif fi then 1 else 0) (94 + 4 * (dp + 1)) s.2 (nI a) σ = some ((q_gl (fun a => (q_go S L (nI a) row).1 + (q_gv S L (n + 1) e (!fi) (q_go S L (nI a) row).2.1).2) fi c a s).2, σ') ∧ (dp = 0 → 0 < a + c → σ'.1 92 9 = (q_gl (fun a => (q_go S L (nI a) row).1 + (q_gv S L (n + 1) e (!fi) (q_go S L (nI a) row).2.1).2) fi c a s).1) ∧ q_fr (q_gC dp) σ σ' := by
      intro c
      induction c with
      | zero =>
        intro a k s σ ha hk hS hP h9
        obtain ⟨k, rfl⟩ : ∃ j, k = j + 1 := ⟨k - 1, by omega⟩
        have en : σ.1 1 0 = nI n := by rw [show σ.1 1 0 = _ from hS.1 0 0 2 rfl]; exact hw.2.2.2.2.1
        rw [f_L_valueFrom_54, en, if_pos (nI_lt (by omega) (by omega))]
        exact ⟨σ, rfl, fun z1 z2 => h9 z1 (by omega), q_fr_r _ _⟩
      | succ c ihc =>
        intro a k s σ ha hk hS hP h9
        obtain ⟨k, rfl⟩ : ∃ j, k = j + 1 := ⟨k - 1, by omega⟩
        have en : σ.1 1 0 = nI n := by rw [show σ.1 1 0 = _ from hS.1 0 0 2 rfl]; exact hw.2.2.2.2.1
        rw [f_L_valueFrom_54, en, if_neg (nI_nlt (by omega) (by omega))]
        unfold f_L_valueFrom_70 f_L_valueFrom_71 f_L_valueFrom_74
        rw [q_in (show dp < 5 by omega) (by decide), cond_true, nI_clamp (show dp < 2 ^ 31 by omega)]
        obtain ⟨τ, t1, t2, t3⟩ := e_copyP (N := N) (p0 := 94 + 4 * (dp + 1)) hP (by omega)
        rw [t1, Option.bind_some]
        have S1 := q_SC_g hS (by omega) (q_pp_g t3)
        obtain ⟨υ, v1, v2, v3, v4⟩ := e_goBy (p1 := 94 + 4 * (dp + 1)) (a := nI a) hN (by omega) hw hR hr S1 t2
        rw [v1, Option.bind_some, nI_1]
        dsimp only
        have S2 := q_SC_g S1 (by omega) v4
        obtain ⟨ω, o1, o2, o3⟩ := ih (dp + 1) r (q_go S L (nI a) row).2.1 υ (by omega) (by omega) S2 v2 (q_wr_go hw hr hlt)
        rw [hfi'] at o1
        rw [o1, Option.bind_some]
        dsimp only
        have fr1 : q_fr (q_gC dp) σ ω := by
          refine q_fr_t (q_fr_t (q_fr_m t3 (fun c i z => ?_)) (q_fr_m v4 (fun c i z => ?_))) (q_fr_m o3 (fun c i z => q_gC_m z))
          · unfold q_gC at z
            unfold q_pp
            simp at z ⊢
            omega
          · unfold q_gC at z
            unfold q_pg
            simp at z ⊢
            omega
        have S3 : q_SC 1 ω S L m := q_SC_k hS (fun c i h1 h2 => fr1.1 _ _ (by unfold q_gC; simp; omega))
        have P3 : q_PC (94 + 4 * dp) ω row := q_PC_k hP (fun c i hc => fr1.1 _ _ (by unfold q_gC; simp; omega))
        have k9 : ω.1 92 9 = σ.1 92 9 := by
          rw [o3.1 92 9 (by unfold q_gC; simp; omega), v4.1 92 9 (by unfold q_pg; simp; omega), t3.1 92 9 (by unfold q_pp; simp; omega)]
        obtain ⟨w, hwd⟩ : ∃ w, w = (q_go S L (nI a) row).1 + (q_gv S L (n + 1) e (!fi) (q_go S L (nI a) row).2.1).2 := ⟨_, rfl⟩
        rw [q_gl, ← hwd]
        unfold f_L_valueFrom_125 f_L_valueFrom_139
        rw [nI_1]
        have take : ∃ σ', (if nI dp = 0 then f_L_valueFrom_54 N (f_L_valueFrom N r) k (nI dp) (nI x) (bif fi then 1 else 0) (94 + 4 * (dp + 1)) w (nI (a + 1)) (jx_w ω 92 9 (nI a)) else f_L_valueFrom_54 N (f_L_valueFrom N r) k (nI dp) (nI x) (bif fi then 1 else 0) (94 + 4 * (dp + 1)) w (nI (a + 1)) ω) = some ((q_gl (fun a => (q_go S L (nI a) row).1 + (q_gv S L (n + 1) e (!fi) (q_go S L (nI a) row).2.1).2) fi c (a + 1) (nI a, w)).2, σ') ∧ (dp = 0 → 0 < a + (c + 1) → σ'.1 92 9 = (q_gl (fun a => (q_go S L (nI a) row).1 + (q_gv S L (n + 1) e (!fi) (q_go S L (nI a) row).2.1).2) fi c (a + 1) (nI a, w)).1) ∧ q_fr (q_gC dp) σ σ' := by
          by_cases z0 : dp = 0
          · rw [if_pos (by rw [z0]; rfl)]
            obtain ⟨ψ, p1, p2, p3⟩ := ihc (a + 1) k (nI a, w) (jx_w ω 92 9 (nI a)) (by omega) (by omega) (q_SC_k S3 (fun c i h1 h2 => q_wC (by omega))) (q_PC_k P3 (fun c i hc => q_wC (by omega))) (fun _ _ => q_wS)
            exact ⟨ψ, p1, fun z1 z2 => p2 z1 (by omega), q_fr_t (q_fr_w fr1 (by unfold q_gC; simp; omega)) p3⟩
          · rw [if_neg (nI_ne0 (by omega) (by omega))]
            obtain ⟨ψ, p1, p2, p3⟩ := ihc (a + 1) k (nI a, w) ω (by omega) (by omega) S3 P3 (fun z _ => absurd z z0)
            exact ⟨ψ, p1, fun z1 z2 => absurd z1 z0, q_fr_t fr1 p3⟩
        have keep : 0 < a → ∃ σ', f_L_valueFrom_54 N (f_L_valueFrom N r) k (nI dp) (nI x) (bif fi then 1 else 0) (94 + 4 * (dp + 1)) s.2 (nI (a + 1)) ω = some ((q_gl (fun a => (q_go S L (nI a) row).1 + (q_gv S L (n + 1) e (!fi) (q_go S L (nI a) row).2.1).2) fi c (a + 1) s).2, σ') ∧ (dp = 0 → 0 < a + (c + 1) → σ'.1 92 9 = (q_gl (fun a => (q_go S L (nI a) row).1 + (q_gv S L (n + 1) e (!fi) (q_go S L (nI a) row).2.1).2) fi c (a + 1) s).1) ∧ q_fr (q_gC dp) σ σ' := by
          intro a0
          obtain ⟨ψ, p1, p2, p3⟩ := ihc (a + 1) k s ω (by omega) (by omega) S3 P3 (fun z _ => by rw [k9]; exact h9 z a0)
          exact ⟨ψ, p1, fun z1 z2 => p2 z1 (by omega), q_fr_t fr1 p3⟩
        by_cases a0 : a = 0
        · rw [if_pos (show nI a = 0 by rw [a0]; rfl), if_pos (Or.inl a0)]
          exact take
        · rw [if_neg (nI_ne0 (by omega) (by omega))]
          cases fi
          · rw [cond_false, if_pos rfl]
            by_cases c6 : w < s.2
            · rw [if_neg (fun z => absurd c6 (Int32.not_lt.mpr z)), if_pos (Or.inr (by rw [if_neg (by decide)]; exact c6))]
              exact take
            · rw [if_pos (Int32.not_lt.mp c6), if_neg (fun z => z.elim a0 (fun z => by rw [if_neg (by decide)] at z; exact c6 z))]
              exact keep (by omega)
          · rw [cond_true, if_neg (show ¬ (1 : Int32) = 0 by decide)]
            by_cases c6 : s.2 < w
            · rw [if_neg (fun z => absurd c6 (Int32.not_lt.mpr z)), if_pos (Or.inr (by rw [if_pos rfl]; exact c6))]
              exact take
            · rw [if_pos (Int32.not_lt.mp c6), if_neg (fun z => z.elim a0 (fun z => by rw [if_pos rfl] at z; exact c6 z))]
              exact keep (by omega)
    rw [f_L_valueFrom, if_neg (nI_ge (by omega) (by omega)), if_neg (show ¬ (4 : Int32) ≤ nI dp from nI_ge (b := 4) (by omega) (by decide))]
    unfold f_L_valueFrom_16 f_L_valueFrom_17 f_L_valueFrom_36 f_L_valueFrom_45 f_L_valueFrom_46
    have ho : f_S_isOver N (94 + 4 * dp) σ = some (0, σ) := by
      unfold f_S_isOver
      rw [show σ.1 1 14 = _ from hS.1 0 14 0 rfl, q_PC0 hP, if_pos ((q_lt_d hw hr).mpr hlt)]
    rw [q_in (show dp < 5 by omega) (by decide), cond_true, nI_clamp (show dp < 2 ^ 31 by omega), ho, q_bz0, nI_1, q_in (show dp + 1 < 5 by omega) (by decide), cond_true, cond_true, nI_clamp (show dp + 1 < 2 ^ 31 by omega)]
    dsimp only
    obtain ⟨σ', g1, g2, g3⟩ := loop (n + 1) 0 N (-1, 0) σ (by omega) (by omega) hS hP (fun _ z => absurd z (by omega))
    refine ⟨σ', ?_, fun z1 z2 => g2 z1 (by omega), g3⟩
    have z := q_m2 dp (by omega)
    rw [← hfi] at z
    cases fi
    · rw [if_neg (of_decide_eq_false z)]
      exact g1
    · rw [if_pos (of_decide_eq_true z)]
      exact g1
/-! ===== the reference's ===== -/
def q_gM (lv c i : Nat) : Bool := (c == 0 && i == 27) || c == 1 || (c == 2 && decide (56 * lv ≤ i)) || c == 9 || c == 10
theorem q_gM_m {lv c i : Nat} (h : q_gM lv c i = false) : q_gM (lv + 1) c i = false := by
  unfold q_gM at h ⊢
  simp at h ⊢
  omega
theorem e_valM {N n m d h H : Nat} {S : q_f} {L : q_L} (hN : 300 ≤ N) (h4 : H ≤ 4) (hd : h + H ≤ d) (hw : q_wf S n m d) (hR : q_RM S L) : ∀ (e lv r : Nat) (fi : Bool) (row : q_f) (σ : jw_M), lv + e = H → e < r → σ.1 3 = S → σ.1 1 = row → q_wr S n m d row (h + lv) → ∃ σ', f_M_valueOf N r (nI lv) (nI e) (bif fi then 1 else 0) σ = some ((q_gv S L (n + 1) e fi row).2, σ') ∧ σ'.1 1 = row ∧ (0 < e → σ'.1 0 27 = (q_gv S L (n + 1) e fi row).1) ∧ q_fr (q_gM lv) σ σ' := by
  have hn := hw.1
  intro e
  induction e with
  | zero =>
    intro lv r fi row σ hlv hr' h3 h1 hr
    obtain ⟨r, rfl⟩ : ∃ j, r = j + 1 := ⟨r - 1, by omega⟩
    rw [f_M_valueOf, if_pos (show nI 0 = 0 from rfl)]
    exact ⟨σ, rfl, h1, fun z => absurd z (by omega), q_fr_r _ _⟩
  | succ e ih =>
    intro lv r fi row σ hlv hr' h3 h1 hr
    obtain ⟨r, rfl⟩ : ∃ j, r = j + 1 := ⟨r - 1, by omega⟩
    have hlt : h + lv < d := by omega
    have loop : ∀ (c a k : Nat) (s : Int32 × Int32) (σ : jw_M), a + c = n + 1 → c < k → σ.1 3 = S → σ.1 1 = row → (∀ i, i < 56 → σ.1 2 (56 * lv + i) = row i) → (a = 0 ∧ s.1 = -1 ∨ 0 < a ∧ ∃ j, j < 10 ∧ s.1 = nI j) → ∃ σ', f_M_valueOf_20 N (f_M_valueOf N r) k (nI lv) (nI (e + 1)) (bif fi then 1 else 0) s.1 s.2 (nI a) σ = some ((q_gl (fun a => (q_go S L (nI a) row).1 + (q_gv S L (n + 1) e (!fi) (q_go S L (nI a) row).2.1).2) fi c a s).2, σ') ∧ σ'.1 1 = row ∧ σ'.1 0 27 = (q_gl (fun a => (q_go S L (nI a) row).1 + (q_gv S L (n + 1) e (!fi) (q_go S L (nI a) row).2.1).2) fi c a s).1 ∧ q_fr (q_gM lv) σ σ' := by
      intro c
      induction c with
      | zero =>
        intro a k s σ ha hk h3 h1 h2 hs
        obtain ⟨k, rfl⟩ : ∃ j, k = j + 1 := ⟨k - 1, by omega⟩
        rw [f_M_valueOf_20, h3, hw.2.2.2.2.1, if_pos (nI_lt (by omega) (by omega))]
        exact ⟨_, rfl, by rw [q_w0 (by decide)]; exact h1, q_wS, q_fr_w (q_fr_r _ _) rfl⟩
      | succ c ihc =>
        intro a k s σ ha hk h3 h1 h2 hs
        obtain ⟨k, rfl⟩ : ∃ j, k = j + 1 := ⟨k - 1, by omega⟩
        rw [f_M_valueOf_20, h3, hw.2.2.2.2.1, if_neg (nI_nlt (by omega) (by omega))]
        obtain ⟨τ, t1, t2, t3, t4⟩ := e_goes (N := N) (a := nI a) hN hw hR hr h3 h1
        rw [t1, Option.bind_some]
        obtain ⟨ω, o1, o2, o3, o4⟩ := ih (lv + 1) r (!fi) (q_go S L (nI a) row).2.1 τ (by omega) (by omega) (by rw [← h3]; exact funext fun j => t4.1 3 j rfl) t2 (q_wr_go hw hr hlt)
        obtain ⟨ρ, l1, l2, l3, l4, l5⟩ := e_load (N := N) (lv := lv) hN (by omega) ω
        have g2 : ∀ i, i < 56 → ω.1 2 (56 * lv + i) = row i := fun i hi => by
          rw [o4.1 2 _ (by unfold q_gM; simp; omega), t4.1 2 _ rfl]
          exact h2 i hi
        have r1 : ρ.1 1 = row := by
          funext i
          by_cases ci : i < 56
          · rw [l2 i ci, g2 i ci]
          · rw [l3 i (by omega), o2, q_go_hi hw (by omega)]
        have r3 : ρ.1 3 = S := by
          rw [l4 3 (by decide), ← h3]
          funext i
          rw [o4.1 3 i (by unfold q_gM; simp), t4.1 3 i rfl]
        have r2 : ∀ i, i < 56 → ρ.1 2 (56 * lv + i) = row i := fun i hi => by rw [l4 2 (by decide)]; exact g2 i hi
        have fr1 : q_fr (q_gM lv) σ ρ := by
          refine q_fr_t (q_fr_t (q_fr_m t4 (fun c i z => ?_)) (q_fr_m o4 (fun c i z => q_gM_m z))) ⟨fun c i z => ?_, l5⟩
          · unfold q_gM at z
            unfold q_p1
            simp at z ⊢
            omega
          · rw [l4 c (fun w => by rw [w] at z; unfold q_gM at z; simp at z)]
        obtain ⟨w, hwd⟩ : ∃ w, w = (q_go S L (nI a) row).1 + (q_gv S L (n + 1) e (!fi) (q_go S L (nI a) row).2.1).2 := ⟨_, rfl⟩
        rw [q_gl, ← hwd, nI_1, nI_pred]
        have e53 : (if (bif fi then (1 : Int32) else 0) = 0 then f_M_valueOf_53 N (f_M_valueOf N r) (f_M_valueOf_20 N (f_M_valueOf N r) k) (nI lv) (nI (e + 1)) (bif fi then 1 else 0) s.1 s.2 (nI a) (q_go S L (nI a) row).1 (nI (lv + 1)) (nI e) 1 τ else f_M_valueOf_53 N (f_M_valueOf N r) (f_M_valueOf_20 N (f_M_valueOf N r) k) (nI lv) (nI (e + 1)) (bif fi then 1 else 0) s.1 s.2 (nI a) (q_go S L (nI a) row).1 (nI (lv + 1)) (nI e) 0 τ) = f_M_valueOf_53 N (f_M_valueOf N r) (f_M_valueOf_20 N (f_M_valueOf N r) k) (nI lv) (nI (e + 1)) (bif fi then 1 else 0) s.1 s.2 (nI a) (q_go S L (nI a) row).1 (nI (lv + 1)) (nI e) (bif (!fi) then 1 else 0) τ := by
          cases fi <;> rfl
        rw [e53]
        unfold f_M_valueOf_53
        rw [o1, Option.bind_some]
        dsimp only
        rw [l1, Option.bind_some, ← hwd]
        unfold f_M_valueOf_90 f_M_valueOf_94 f_M_valueOf_95 f_M_valueOf_109 f_M_valueOf_123
        rw [if_neg (show ¬ (1 : Int32) = 0 by decide), if_neg (show ¬ (1 : Int32) = 0 by decide), if_pos (show (0 : Int32) = 0 from rfl), if_pos (show (0 : Int32) = 0 from rfl), nI_1]
        have take : ∃ σ', f_M_valueOf_20 N (f_M_valueOf N r) k (nI lv) (nI (e + 1)) (bif fi then 1 else 0) (nI a) w (nI (a + 1)) ρ = some ((q_gl (fun a => (q_go S L (nI a) row).1 + (q_gv S L (n + 1) e (!fi) (q_go S L (nI a) row).2.1).2) fi c (a + 1) (nI a, w)).2, σ') ∧ σ'.1 1 = row ∧ σ'.1 0 27 = (q_gl (fun a => (q_go S L (nI a) row).1 + (q_gv S L (n + 1) e (!fi) (q_go S L (nI a) row).2.1).2) fi c (a + 1) (nI a, w)).1 ∧ q_fr (q_gM lv) σ σ' := by
          obtain ⟨ψ, p1, p2, p3, p4⟩ := ihc (a + 1) k (nI a, w) ρ (by omega) (by omega) r3 r1 r2 (Or.inr ⟨by omega, a, by omega, rfl⟩)
          exact ⟨ψ, p1, p2, p3, q_fr_t fr1 p4⟩
        rcases hs with ⟨a0, hs⟩ | ⟨a0, j, hj, hs⟩
        · rw [hs, if_pos (show (-1 : Int32) < 0 by decide), if_pos (Or.inl a0)]
          exact take
        · have keep : ∃ σ', f_M_valueOf_20 N (f_M_valueOf N r) k (nI lv) (nI (e + 1)) (bif fi then 1 else 0) s.1 s.2 (nI (a + 1)) ρ = some ((q_gl (fun a => (q_go S L (nI a) row).1 + (q_gv S L (n + 1) e (!fi) (q_go S L (nI a) row).2.1).2) fi c (a + 1) s).2, σ') ∧ σ'.1 1 = row ∧ σ'.1 0 27 = (q_gl (fun a => (q_go S L (nI a) row).1 + (q_gv S L (n + 1) e (!fi) (q_go S L (nI a) row).2.1).2) fi c (a + 1) s).1 ∧ q_fr (q_gM lv) σ σ' := by
            obtain ⟨ψ, p1, p2, p3, p4⟩ := ihc (a + 1) k s ρ (by omega) (by omega) r3 r1 r2 (Or.inr ⟨by omega, j, hj, hs⟩)
            exact ⟨ψ, p1, p2, p3, q_fr_t fr1 p4⟩
          rw [if_neg (show ¬ s.1 < 0 by rw [hs]; exact nI_pos (by omega))]
          have na : ¬ a = 0 := by omega
          cases fi
          · rw [cond_false] at take keep ⊢
            rw [if_pos rfl]
            by_cases c6 : w < s.2
            · rw [if_neg (fun z => absurd c6 (Int32.not_lt.mpr z)), if_pos (Or.inr (by rw [if_neg (by decide)]; exact c6))]
              exact take
            · rw [if_pos (Int32.not_lt.mp c6), if_neg (fun z => z.elim na (fun z => by rw [if_neg (by decide)] at z; exact c6 z))]
              exact keep
          · rw [cond_true] at take keep ⊢
            rw [if_neg (show ¬ (1 : Int32) = 0 by decide)]
            by_cases c6 : s.2 < w
            · rw [if_neg (fun z => absurd c6 (Int32.not_lt.mpr z)), if_pos (Or.inr (by rw [if_pos rfl]; exact c6))]
              exact take
            · rw [if_pos (Int32.not_lt.mp c6), if_neg (fun z => z.elim na (fun z => by rw [if_pos rfl] at z; exact c6 z))]
              exact keep
    rw [f_M_valueOf, if_neg (nI_ne0 (by omega) (by omega))]
    obtain ⟨τ, s1, s2, s3, s4, s5⟩ := e_save (N := N) (lv := lv) hN (by omega) σ
    rw [s1, Option.bind_some]
    obtain ⟨σ', g1, g2, g3, g4⟩ := loop (n + 1) 0 N (-1, 0) τ (by omega) (by omega) (by rw [s4 3 (by decide)]; exact h3) (by rw [s4 1 (by decide)]; exact h1) (fun i hi => by rw [s2 i hi, h1]) (Or.inl ⟨rfl, rfl⟩)
    refine ⟨σ', g1, g2, fun _ => g3, q_fr_t ⟨fun c i z => ?_, s5⟩ g4⟩
    by_cases c2 : c = 2
    · subst c2
      refine s3 i (Or.inl ?_)
      unfold q_gM at z
      simp at z
      omega
    · rw [s4 c c2]
theorem q_gC_t (c i : Nat) (z : q_cO c i ∨ (1 ≤ c ∧ c ≤ 29 ∧ (c ≠ 26 ∨ 5 ≤ i))) : (q_gC 0 c i || q_pp 94 c i) = false := by
  unfold q_cO at z
  unfold q_gC q_pp
  simp
  omega
theorem q_gM_t (c i : Nat) (z : q_mO c i ∨ c = 3) : q_gM 0 c i = false := by
  unfold q_mO at z
  unfold q_gM
  simp
  omega
/-- the game, on both sides -/
theorem e_game {N n m d h x t : Nat} {L : q_L} {σC σM : jw_M} (hN : 300 ≤ N) (hx : x ≤ 4) (H : q_AA 1 σC (σM.1 3) (σM.1 1) L n m d h t) (hR : q_R σC σM) : ∃ v σC' σM', f_L_valueOfGame N (nI x) σC = some (v, σC') ∧ f_M_valueOf N 64 0 (nI (q_hr x d h)) 1 σM = some (v, σM') ∧ (0 < q_hr x d h → σC'.1 92 9 = σM'.1 0 27) ∧ q_R σC' σM' := by
  obtain ⟨hw, hq, ht, hRM, hr, hS, hP⟩ := id H
  have hP : q_PC 27 σC (σM.1 1) := hP
  obtain ⟨h4, hd⟩ := q_hr_4 (x := x) hx hr.2.1
  unfold f_L_valueOfGame
  obtain ⟨τ, t1, t2, t3⟩ := e_copyP (N := N) (p0 := 94) hP (by omega)
  rw [t1, Option.bind_some]
  have S1 := q_SC_g hS (by decide) (q_pp_g t3)
  obtain ⟨ψ, p1, p2, p3⟩ := e_valC (x := x) hN hx hw hRM hr.2.1 (q_hr x d h) 0 64 (σM.1 1) (jx_w τ 92 9 0) (by omega) (by omega) (q_SC_k S1 (fun c i h1 h2 => q_wC (by omega))) (q_PC_k t2 (fun c i hc => q_wC (by omega))) hr
  obtain ⟨ω, o1, o2, o3, o4⟩ := e_valM (L := L) hN h4 hd hw hRM (q_hr x d h) 0 64 true (σM.1 1) σM (by omega) (by omega) rfl rfl hr
  rw [show f_L_valueFrom N 64 0 (nI x) (jx_w τ 92 9 0) = _ from p1, Option.bind_some]
  refine ⟨_, ψ, ω, rfl, o1, fun z => ?_, q_R_tf (PC := fun c i => q_gC 0 c i || q_pp 94 c i) hR (q_fr_t (q_fr_w (q_fr_m t3 (fun c i z => ?_)) (by unfold q_gC; simp)) (q_fr_m p3 (fun c i z => ?_))) o2 o4 q_gC_t q_gM_t⟩
  · rw [p2 rfl z, o3 z]
    rfl
  · rw [Bool.or_eq_false_iff] at z
    exact z.2
  · rw [Bool.or_eq_false_iff] at z
    exact z.1
theorem u_game {N : Nat} (hN : 300 ≤ N) {x : Int32} : q_U (f_F_game N x) (f_M_game N x) := by
  intro σC σM hR
  obtain ⟨⟨L, n, m, d, h, t, H⟩, hO⟩ := id hR
  unfold f_F_game f_M_game
  by_cases c : x < 1 ∨ 4 < x
  · rw [e_win0 c, e_in0 c, q_bz0, q_bz0]
    exact ⟨_, σC, σM, rfl, rfl, hR⟩
  · rw [e_win1 c, e_in1 c, q_bz1, q_bz1]
    dsimp only
    obtain ⟨j, _, j4, rfl⟩ := q_num 1 4 c
    obtain ⟨v, ψ, ω, g1, g2, g3, g4⟩ := e_game hN j4 H hR
    rw [g1, e_planHours j4 H.1 H.2.2.2.2.1 rfl rfl, Option.bind_some, Option.bind_some]
    dsimp only
    rw [g2, Option.bind_some]
    exact ⟨_, ψ, ω, rfl, rfl, g4⟩
theorem u_play {N : Nat} (hN : 300 ≤ N) {x : Int32} : q_U (f_F_play N x) (f_M_play N x) := by
  intro σC σM hR
  obtain ⟨⟨L, n, m, d, h, t, H⟩, hO⟩ := id hR
  obtain ⟨hw, hq, ht, hRM, hr, hS, hP⟩ := id H
  unfold f_F_play f_M_play
  by_cases c : x < 1 ∨ 4 < x
  · rw [e_win0 c, e_in0 c, q_bz0, q_bz0]
    exact ⟨_, σC, σM, rfl, rfl, hR⟩
  · rw [e_win1 c, e_in1 c, q_bz1, q_bz1]
    dsimp only
    obtain ⟨j, j1, j4, rfl⟩ := q_num 1 4 c
    have Y : q_Y 27 (σM.1 3) L n m d (σM.1 1) h σC σM := ⟨hw, hRM, hr, hS, hP, rfl, rfl⟩
    by_cases cd : h < d
    · rw [((e_over Y).1 cd).1, ((e_over Y).1 cd).2, q_bz0, q_bz0]
      dsimp only
      obtain ⟨v, ψ, ω, g1, g2, g3, g4⟩ := e_game hN j4 H hR
      rw [g1, e_planHours j4 hw hr rfl rfl, Option.bind_some, Option.bind_some]
      dsimp only
      rw [g2, Option.bind_some]
      refine ⟨_, ψ, ω, rfl, by rw [g3 (by unfold q_hr; split <;> omega)], g4⟩
    · rw [((e_over Y).2 cd).1, ((e_over Y).2 cd).2, q_bz1, q_bz1]
      exact ⟨_, σC, σM, rfl, rfl, hR⟩
