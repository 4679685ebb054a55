/-! ===== pure: frames ===== -/
def q_fr (P : Nat → Nat → Bool) (σ σ' : jw_M) : Prop := (∀ c i, P c i = false → σ'.1 c i = σ.1 c i) ∧ σ'.2 = σ.2
theorem q_fr_r (P : Nat → Nat → Bool) (σ : jw_M) : q_fr P σ σ := ⟨fun _ _ _ => rfl, rfl⟩
theorem q_fr_t {P : Nat → Nat → Bool} {σ τ υ : jw_M} (h : q_fr P σ τ) (g : q_fr P τ υ) : q_fr P σ υ :=
  ⟨fun c i z => by rw [g.1 c i z, h.1 c i z], by rw [g.2, h.2]⟩
theorem q_fr_m {P Q : Nat → Nat → Bool} {σ τ : jw_M} (h : q_fr P σ τ) (g : ∀ c i, Q c i = false → P c i = false) : q_fr Q σ τ :=
  ⟨fun c i z => h.1 c i (g c i z), h.2⟩
theorem q_fr_w {P : Nat → Nat → Bool} {σ τ : jw_M} (h : q_fr P σ τ) {a i : Nat} {v : Int32} (g : P a i = true) : q_fr P σ (jx_w τ a i v) := by
  refine ⟨fun c j z => ?_, h.2⟩
  rw [q_w]
  by_cases e : c = a ∧ j = i
  · rw [e.1, e.2, g] at z
    cases z
  · rw [if_neg e]
    exact h.1 c j z
theorem q_n9_fr {σ τ : jw_M} (h : q_n9 σ τ) : q_fr (fun c _ => c == 9) σ τ := ⟨fun c i z => h.1 c i (by simpa using z), h.2⟩
/-! ===== the reference's rules ===== -/
def q_xo (x : Nat × Nat × List q_I) : Prop := x.1 ≤ 5 ∧ x.2.1 ≤ 2 ∧ q_dp x.2.2 0 = true ∧ (x.2.2 = [] ∨ q_dl x.2.2 0 = 1) ∧ ∀ y, y ∈ x.2.2 → q_io y
def q_rM (S : Nat → Int32) : Nat → Nat → q_L → Prop
  | _, _, [] => True
  | r, e, x :: L => S (94 + 4 * r + 0) = nI x.1 ∧ S (94 + 4 * r + 1) = nI x.2.1 ∧ S (94 + 4 * r + 2) = nI e ∧ S (94 + 4 * r + 3) = nI (q_fl x.2.2).length ∧ e + (q_fl x.2.2).length ≤ 200 ∧ q_cM S e (q_fl x.2.2) ∧ q_rM S (r + 1) (e + (q_fl x.2.2).length) L
theorem e_MisUnder {N k a : Nat} {σ : jw_M} (h0 : 0 < k) (hk : k < 6) (ha : a < 6) : f_M_isUnder N (nI k) (nI a) σ = some (bif q_under k a then 1 else 0, σ) := by
  rcases (show k = 1 ∨ k = 2 ∨ k = 3 ∨ k = 4 ∨ k = 5 by omega) with rfl | rfl | rfl | rfl | rfl <;> rcases (show a = 0 ∨ a = 1 ∨ a = 2 ∨ a = 3 ∨ a = 4 ∨ a = 5 by omega) with rfl | rfl | rfl | rfl | rfl | rfl <;> rfl
def q_dM (t : Nat) : Int32 := if t = 3 then -1 else nI t
theorem e_Mrule2 {N p k n : Nat} {F : Nat → Int32} {σ0 : jw_M} (hN : 300 ≤ N) (hp : p < 6) (h0 : 0 < k) (hk : k < 6) (hkd : σ0.1 3 (6 + 3 * p + 0) = nI k) (hn : n ≤ 8) (h4 : σ0.1 3 4 = nI n) (hF : ∀ τ, q_n9 σ0 τ → ∀ f, f < 5 → f_M_factOf N (nI p) (nI f) τ = some (F f, τ)) : ∀ (L : q_L) (r e j : Nat) (σ : jw_M), q_n9 σ0 σ → q_rM (σ0.1 3) r e L → (∀ x, x ∈ L → q_xo x) → r + L.length = n → L.length < j → ∃ σ', f_M_ruleFor_2 N j (nI p) (nI r) σ = some (q_dM (q_deed F k L), σ') ∧ q_n9 σ0 σ'
  | [], _, _, 0, _, _, _, _, _, h => absurd h (by simp)
  | _ :: _, _, _, 0, _, _, _, _, _, h => absurd h (by simp)
  | [], r, e, j + 1, σ, hσ, _, _, hr, _ => by
    rw [List.length_nil] at hr
    refine ⟨σ, ?_, hσ⟩
    rw [f_M_ruleFor_2, hσ.1 3 4 (by decide), h4, if_pos (nI_le (by omega) (by omega))]
    rfl
  | x :: L, r, e, j + 1, σ, hσ, hL, ho, hr, hj => by
    rw [List.length_cons] at hr hj
    obtain ⟨g1, g2, g3, g4, g5, g6, g7⟩ := hL
    obtain ⟨x1, x2, x3, x4, x5⟩ := ho x (List.mem_cons_self ..)
    rw [f_M_ruleFor_2, hσ.1 3 4 (by decide), h4, if_neg (nI_ge (by omega) (by omega)), show f_M_of N (nI p) 0 σ = _ from e_of (w := 0) hp (by decide), Option.bind_some, q_deed]
    dsimp only
    rw [show (94 + (4 * nI r)) = nI (94 + 4 * r + 0) from by
      have z := q_i94 r 0
      rw [show nI 0 = 0 from rfl, Int32.add_zero] at z
      exact z, q_in (show 94 + 4 * r + 0 < 526 by omega) (by decide), cond_true, nI_clamp (show 94 + 4 * r + 0 < 2 ^ 31 by omega), hσ.1 3 _ (by decide), hσ.1 3 _ (by decide), g1, hkd, e_MisUnder h0 hk (by omega), Option.bind_some]
    dsimp only
    unfold f_M_ruleFor_58
    rw [nI_1, nI_1, q_in (show 94 + 4 * r + 0 + 1 < 526 by omega) (by decide), nI_clamp (show 94 + 4 * r + 0 + 1 < 2 ^ 31 by omega)]
    simp only [cond_true]
    cases a : q_under k x.1
    · rw [cond_false, if_pos rfl, if_neg (fun z => by cases z.1)]
      exact e_Mrule2 hN hp h0 hk hkd hn h4 hF L (r + 1) _ j σ hσ g7 (fun y hy => ho y (List.mem_cons_of_mem _ hy)) (by omega) (by omega)
    · rw [cond_true, if_neg (by decide)]
      obtain ⟨σ', e1, e2⟩ := e_Mholds (c := x.2.2) hN (show r < 8 by omega) g3 g4 g5 hF g6 x5 x3 x4 hσ
      rw [e1, Option.bind_some]
      dsimp only
      cases b : q_top (q_ev F x.2.2 [])
      · rw [cond_false, if_pos rfl, if_neg (fun z => by cases z.2)]
        exact e_Mrule2 hN hp h0 hk hkd hn h4 hF L (r + 1) _ j σ' e2 g7 (fun y hy => ho y (List.mem_cons_of_mem _ hy)) (by omega) (by omega)
      · rw [cond_true, if_neg (by decide), if_pos ⟨rfl, rfl⟩]
        refine ⟨σ', ?_, e2⟩
        rw [e2.1 3 _ (by decide), show σ0.1 3 (94 + 4 * r + 0 + 1) = nI x.2.1 from g2]
        unfold q_dM
        rw [if_neg (by omega)]
/-- what is asked of a shadow in conditions -/
def q_F5 (a b c d e : Int32) (f : Nat) : Int32 := if f = 0 then a else if f = 1 then b else if f = 2 then c else if f = 3 then d else e
theorem e_fact {N p f b : Nat} {σ : jw_M} (hN : 9 ≤ N) (hp : p < 6) (hf : f < 5) (hb : b < 256) (h : σ.1 1 (2 + p) = nI b) : f_M_factOf N (nI p) (nI f) σ = some (q_F5 (σ.1 1 0) (q_bc (nI b)) (σ.1 3 (6 + 3 * p + 1)) (σ.1 3 (6 + 3 * p + 2)) (nI p) f, σ) := by
  unfold f_M_factOf
  rcases (show f = 0 ∨ f = 1 ∨ f = 2 ∨ f = 3 ∨ f = 4 by omega) with rfl | rfl | rfl | rfl | rfl
  · rw [if_pos (show nI 0 = 0 from rfl)]
    rfl
  · rw [if_neg (show ¬ nI 1 = 0 by decide), if_pos (show nI 1 = 1 from rfl), q_i2, q_in (show 2 + p < 56 by omega) (by decide), cond_true, nI_clamp (show 2 + p < 2 ^ 31 by omega), h, e_ones hN hb, Option.bind_some]
    rfl
  · rw [if_neg (show ¬ nI 2 = 0 by decide), if_neg (show ¬ nI 2 = 1 by decide), if_pos (show nI 2 = 2 from rfl), show f_M_of N (nI p) 1 σ = _ from e_of (w := 1) hp (by decide), Option.bind_some]
    rfl
  · rw [if_neg (show ¬ nI 3 = 0 by decide), if_neg (show ¬ nI 3 = 1 by decide), if_neg (show ¬ nI 3 = 2 by decide), if_pos (show nI 3 = 3 from rfl), show f_M_of N (nI p) 2 σ = _ from e_of (w := 2) hp (by decide), Option.bind_some]
    rfl
  · rw [if_neg (show ¬ nI 4 = 0 by decide), if_neg (show ¬ nI 4 = 1 by decide), if_neg (show ¬ nI 4 = 2 by decide), if_neg (show ¬ nI 4 = 3 by decide)]
    rfl
theorem e_Mrule {N p k b : Nat} {L : q_L} {σ : jw_M} (hN : 300 ≤ N) (hp : p < 6) (h0 : 0 < k) (hk : k < 6) (hkd : σ.1 3 (6 + 3 * p + 0) = nI k) (hb : b < 256) (hln : σ.1 1 (2 + p) = nI b) (hn : L.length ≤ 8) (h4 : σ.1 3 4 = nI L.length) (hL : q_rM (σ.1 3) 0 0 L) (ho : ∀ x, x ∈ L → q_xo x) : ∃ σ', f_M_ruleFor N (nI p) σ = some (q_dM (q_deed (q_F5 (σ.1 1 0) (q_bc (σ.1 1 (2 + p))) (σ.1 3 (6 + 3 * p + 1)) (σ.1 3 (6 + 3 * p + 2)) (nI p)) k L), σ') ∧ q_n9 σ σ' := by
  unfold f_M_ruleFor
  refine e_Mrule2 hN hp h0 hk hkd hn h4 ?_ L 0 0 N σ ⟨fun _ _ _ => rfl, rfl⟩ hL ho (by omega) (by omega)
  intro τ hτ f hf
  rw [e_fact (by omega) hp hf hb (by rw [hτ.1 1 _ (by decide)]; exact hln), hln, hτ.1 1 _ (by decide), hτ.1 3 _ (by decide), hτ.1 3 _ (by decide)]
/-! ===== the class's rules ===== -/
def q_vl (rb : Nat) (τ : jw_M) (a : Nat) (v : Bool × Nat) : Prop := (v.1 = true → a = v.2 ∧ a < 5) ∧ (v.1 = false → 5 ≤ a ∧ τ.1 (rb + 7) a = nI v.2)
def q_c0 (rb : Nat) (τ : jw_M) : Nat → List q_I → Prop
  | _, [] => True
  | e, x :: c => τ.1 (rb + 4) e = nI x.1 ∧ (x.1 < 3 → ∃ a b, a < 105 ∧ b < 105 ∧ τ.1 (rb + 5) e = nI a ∧ τ.1 (rb + 6) e = nI b ∧ q_vl rb τ a x.2.1 ∧ q_vl rb τ b x.2.2) ∧ q_c0 rb τ (e + 1) c
def q_r0 (rb : Nat) (τ : jw_M) : Nat → Nat → q_L → Prop
  | _, _, [] => True
  | r, e, x :: L => τ.1 (rb + 1) r = nI x.1 ∧ τ.1 (rb + 2) r = nI x.2.1 ∧ τ.1 (rb + 3) r = nI (e + x.2.2.length) ∧ e + x.2.2.length ≤ 100 ∧ q_c0 rb τ e x.2.2 ∧ q_r0 rb τ (r + 1) (e + x.2.2.length) L
/-- moved to another place, or kept by what doesn't touch it -/
theorem q_c0_k {rb rb' : Nat} {σ τ : jw_M} (h : ∀ c i, 1 ≤ c → c ≤ 7 → (c ≤ 6 ∨ 5 ≤ i) → τ.1 (rb' + c) i = σ.1 (rb + c) i) : ∀ (c : List q_I) (e : Nat), q_c0 rb σ e c → q_c0 rb' τ e c
  | [], _, _ => trivial
  | x :: c, e, g => by
    refine ⟨by rw [h 4 e (by omega) (by omega) (Or.inl (by omega))]; exact g.1, fun z => ?_, q_c0_k h c (e + 1) g.2.2⟩
    obtain ⟨a, b, ha, hb, g1, g2, g3, g4⟩ := g.2.1 z
    refine ⟨a, b, ha, hb, by rw [h 5 e (by omega) (by omega) (Or.inl (by omega))]; exact g1, by rw [h 6 e (by omega) (by omega) (Or.inl (by omega))]; exact g2, ⟨g3.1, fun w => ?_⟩, ⟨g4.1, fun w => ?_⟩⟩
    · refine ⟨(g3.2 w).1, ?_⟩
      rw [h 7 a (by omega) (by omega) (Or.inr (g3.2 w).1)]
      exact (g3.2 w).2
    · refine ⟨(g4.2 w).1, ?_⟩
      rw [h 7 b (by omega) (by omega) (Or.inr (g4.2 w).1)]
      exact (g4.2 w).2
theorem q_r0_k {rb rb' : Nat} {σ τ : jw_M} (h : ∀ c i, 1 ≤ c → c ≤ 7 → (c ≤ 6 ∨ 5 ≤ i) → τ.1 (rb' + c) i = σ.1 (rb + c) i) : ∀ (L : q_L) (r e : Nat), q_r0 rb σ r e L → q_r0 rb' τ r e L
  | [], _, _, _ => trivial
  | x :: L, r, e, g => by
    obtain ⟨g1, g2, g3, g4, g5, g6⟩ := g
    exact ⟨by rw [h 1 r (by omega) (by omega) (Or.inl (by omega))]; exact g1, by rw [h 2 r (by omega) (by omega) (Or.inl (by omega))]; exact g2, by rw [h 3 r (by omega) (by omega) (Or.inl (by omega))]; exact g3, g4, q_c0_k h _ _ g5, q_r0_k h L _ _ g6⟩
theorem q_c0_cC {τ : jw_M} {F : Nat → Int32} (hF : ∀ f, f < 5 → τ.1 26 f = F f) : ∀ (c : List q_I) (e : Nat), (∀ x, x ∈ c → q_io x) → q_c0 19 τ e c → q_cC τ F e c
  | [], _, _, _ => trivial
  | x :: c, e, hi, g => by
    refine ⟨g.1, (hi x (List.mem_cons_self ..)).1, fun z => ?_, q_c0_cC hF c (e + 1) (fun y hy => hi y (List.mem_cons_of_mem _ hy)) g.2.2⟩
    have hv : ∀ (a : Nat) (v : Bool × Nat), q_vl 19 τ a v → τ.1 26 a = q_val F v := by
      intro a v w
      obtain ⟨b, y⟩ := v
      cases b
      · exact (w.2 rfl).2
      · obtain ⟨w1, w2⟩ := w.1 rfl
        rw [hF a w2, w1]
        rfl
    obtain ⟨a, b, ha, hb, g1, g2, g3, g4⟩ := g.2.1 z
    exact ⟨a, b, ha, hb, g1, g2, hv a _ g3, hv b _ g4⟩
theorem q_r0_rC {τ : jw_M} {F : Nat → Int32} (hF : ∀ f, f < 5 → τ.1 26 f = F f) : ∀ (L : q_L) (r e : Nat), (∀ x, x ∈ L → q_xo x) → q_r0 19 τ r e L → q_rC τ F r e L
  | [], _, _, _, _ => trivial
  | x :: L, r, e, ho, g => by
    obtain ⟨g1, g2, g3, g4, g5, g6⟩ := g
    obtain ⟨x1, x2, x3, x4, x5⟩ := ho x (List.mem_cons_self ..)
    exact ⟨g1, x1, g2, x2, g3, g4, x3, q_c0_cC hF _ _ x5 g5, q_r0_rC hF L _ _ (fun y hy => ho y (List.mem_cons_of_mem _ hy)) g6⟩
theorem e_deedOf {N p1 p k : Nat} {L : q_L} {σ : jw_M} (hN : 300 ≤ N) (hp : p < 6) (h0 : 0 < k) (hk : k < 6) (hkd : σ.1 2 p = nI k) (hn : L.length ≤ 8) (h19 : σ.1 19 0 = nI L.length) (hL : q_r0 19 σ 0 0 L) (ho : ∀ x, x ∈ L → q_xo x) : ∃ σ', f_S_deedOf N p1 (nI p) σ = some (nI (q_deed (q_F5 (σ.1 p1 0) (q_bc (σ.1 (p1 + 2) p)) (σ.1 3 p) (σ.1 4 p) (nI p)) k L), σ') ∧ q_fr (fun c i => c == 26 && decide (i < 5)) σ σ' := by
  unfold f_S_deedOf
  rw [h19]
  cases hl : L with
  | nil =>
    refine ⟨σ, ?_, q_fr_r _ _⟩
    rw [if_pos (show nI ([] : q_L).length = 0 from rfl)]
    rfl
  | cons x L' =>
    rw [← hl]
    have hpos : 0 < L.length := by rw [hl]; simp
    rw [if_neg (nI_ne0 hpos (by omega)), q_in hp (by decide), cond_true, e_bitCount, Option.bind_some, nI_clamp (show p < 2 ^ 31 by omega)]
    dsimp only
    unfold f_R_tell
    rw [Option.bind_some]
    have hf : q_fr (fun c i => c == 26 && decide (i < 5)) σ (jx_w (jx_w (jx_w (jx_w (jx_w σ 26 0 (σ.1 p1 0)) 26 1 (q_bc (σ.1 (p1 + 2) p))) 26 2 (σ.1 3 p)) 26 3 (σ.1 4 p)) 26 4 (nI p)) := q_fr_w (q_fr_w (q_fr_w (q_fr_w (q_fr_w (q_fr_r _ _) rfl) rfl) rfl) rfl) rfl
    have hv : ∀ f, f < 5 → (jx_w (jx_w (jx_w (jx_w (jx_w σ 26 0 (σ.1 p1 0)) 26 1 (q_bc (σ.1 (p1 + 2) p))) 26 2 (σ.1 3 p)) 26 3 (σ.1 4 p)) 26 4 (nI p)).1 26 f = q_F5 (σ.1 p1 0) (q_bc (σ.1 (p1 + 2) p)) (σ.1 3 p) (σ.1 4 p) (nI p) f := by
      intro f h
      rcases (show f = 0 ∨ f = 1 ∨ f = 2 ∨ f = 3 ∨ f = 4 by omega) with rfl | rfl | rfl | rfl | rfl
      · rw [q_wI (by decide), q_wI (by decide), q_wI (by decide), q_wI (by decide), q_wS]
        rfl
      · rw [q_wI (by decide), q_wI (by decide), q_wI (by decide), q_wS]
        rfl
      · rw [q_wI (by decide), q_wI (by decide), q_wS]
        rfl
      · rw [q_wI (by decide), q_wS]
        rfl
      · rw [q_wS]
        rfl
    generalize jx_w (jx_w (jx_w (jx_w (jx_w σ 26 0 (σ.1 p1 0)) 26 1 (q_bc (σ.1 (p1 + 2) p))) 26 2 (σ.1 3 p)) 26 3 (σ.1 4 p)) 26 4 (nI p) = τ at hf hv
    refine ⟨τ, ?_, hf⟩
    have hq : q_rC τ (q_F5 (σ.1 p1 0) (q_bc (σ.1 (p1 + 2) p)) (σ.1 3 p) (σ.1 4 p) (nI p)) 0 0 L := by
      refine q_r0_rC hv L 0 0 ho (q_r0_k (rb := 19) (σ := σ) ?_ L 0 0 hL)
      intro c i c1 c7 z
      refine hf.1 _ _ ?_
      rcases z with z | z
      · simp; omega
      · simp; omega
    rw [hf.1 2 p rfl, hkd]
    unfold f_R_deedFor
    rw [show f_R_deedFor_4 N N (nI k) 0 0 τ = _ from e_deed4 (N := N) (by omega) h0 hk hn (by rw [hf.1 19 0 rfl]; exact h19) L 0 0 N hq (by omega) (by omega), Option.bind_some]
