/-! ===== pure: plans, on the reference's side ===== -/
theorem q_bH {n H : Nat} (hn : n ≤ 6) (hH : H ≤ 4) : (n + 1) ^ H ≤ 2401 := by
  refine Nat.le_trans (Nat.pow_le_pow_left (show n + 1 ≤ 7 by omega) H) ?_
  exact Nat.pow_le_pow_right (n := 7) (by decide) hH
theorem e_act8 {N n k : Nat} {σ : jw_M} (hn : n ≤ 6) (h2 : σ.1 3 2 = nI n) (hk : k < 100) : ∀ (r p f : Nat), r < 100 → p < 2 ^ 31 → r < f → f_M_actIn_8 N f (nI k) (nI p) (nI (k + r)) σ = some (nI (p / (n + 1) ^ r % (n + 1)), σ)
  | 0, p, f, _, hp, hf => by
    obtain ⟨f, rfl⟩ : ∃ j, f = j + 1 := ⟨f - 1, by omega⟩
    rw [f_M_actIn_8, if_pos (nI_le (by omega) (by omega)), h2, nI_1, if_neg (nI_ne0 (by omega) (by omega)), pk_rem hp (by omega) (by omega), Nat.pow_zero, Nat.div_one]
  | r + 1, p, f, hr, hp, hf => by
    obtain ⟨f, rfl⟩ : ∃ j, f = j + 1 := ⟨f - 1, by omega⟩
    rw [f_M_actIn_8, if_neg (nI_ge (by omega) (by omega)), h2, nI_1, if_neg (nI_ne0 (by omega) (by omega)), pk_div hp (by omega) (by omega), show k + (r + 1) = (k + r) + 1 by omega, pk_m1, e_act8 hn h2 hk r (p / (n + 1)) f (by omega) (Nat.lt_of_le_of_lt (Nat.div_le_self _ _) hp) (by omega), Nat.div_div_eq_div_mul, Nat.pow_succ, Nat.mul_comm ((n + 1) ^ r)]
theorem e_actIn {N n H k p : Nat} {σ : jw_M} (hN : 300 ≤ N) (hn : n ≤ 6) (h2 : σ.1 3 2 = nI n) (h4 : H ≤ 4) (hk : k < H) (hp : p < 2 ^ 31) : f_M_actIn N (nI p) (nI H) (nI k) σ = some (nI (p / (n + 1) ^ (H - 1 - k) % (n + 1)), σ) := by
  unfold f_M_actIn
  obtain ⟨H, rfl⟩ : ∃ j, H = j + 1 := ⟨H - 1, by omega⟩
  rw [nI_pred]
  have z := e_act8 (N := N) (k := k) hn h2 (by omega) (H - k) p N (by omega) hp (by omega)
  rw [show k + (H - k) = H by omega] at z
  rw [z, show H + 1 - 1 - k = H - k by omega]
theorem q_dv {b p H k : Nat} (hk : k < H) : p / b ^ (H - 1 - k) / b = p / b ^ (H - k) := by
  rw [Nat.div_div_eq_div_mul, ← Nat.pow_succ, show (H - 1 - k).succ = H - k by omega]
theorem e_plays {N n m d h H p : Nat} {S : q_f} {L : q_L} {row : q_f} (hN : 300 ≤ N) (h4 : H ≤ 4) (hw : q_wf S n m d) (hR : q_RM S L) (hr : q_wr S n m d row h) (hd : h + H ≤ d) (hp : p < 2 ^ 31) : ∀ (r k f : Nat) (σ : jw_M), k + r = H → r < f → σ.1 3 = S → σ.1 1 = (q_px S L (n + 1) row k (p / (n + 1) ^ (H - k))).2.2 → ∃ σ', f_M_plays_5 N f (nI p) (nI H) (q_px S L (n + 1) row k (p / (n + 1) ^ (H - k))).1 (nI k) σ = some ((q_px S L (n + 1) row H p).1, σ') ∧ σ'.1 1 = (q_px S L (n + 1) row H p).2.2 ∧ q_fr q_p1 σ σ'
  | 0, k, f, σ, hk, hf, h3, h1 => by
    obtain ⟨f, rfl⟩ : ∃ j, f = j + 1 := ⟨f - 1, by omega⟩
    have hk : k = H := by omega
    subst hk
    rw [show k - k = 0 by omega, Nat.pow_zero, Nat.div_one] at h1 ⊢
    refine ⟨σ, ?_, h1, q_fr_r _ _⟩
    rw [f_M_plays_5, if_pos (nI_le (by omega) (by omega))]
  | r + 1, k, f, σ, hk, hf, h3, h1 => by
    obtain ⟨f, rfl⟩ : ∃ j, f = j + 1 := ⟨f - 1, by omega⟩
    have hn := hw.1
    have wr := q_px_wr (L := L) (b := n + 1) hw hr k (p / (n + 1) ^ (H - k)) (by omega)
    rw [f_M_plays_5, if_neg (nI_ge (by omega) (by omega)), e_actIn hN hn (by rw [h3]; exact hw.2.2.2.2.1) h4 (by omega) hp, Option.bind_some]
    dsimp only
    obtain ⟨τ, t1, t2, t3, t4⟩ := e_goes (N := N) (a := nI (p / (n + 1) ^ (H - 1 - k) % (n + 1))) hN hw hR wr h3 h1
    rw [t1, Option.bind_some, nI_1]
    have e1 : q_px S L (n + 1) row (k + 1) (p / (n + 1) ^ (H - (k + 1))) = ((q_px S L (n + 1) row k (p / (n + 1) ^ (H - k))).1 + (q_go S L (nI (p / (n + 1) ^ (H - 1 - k) % (n + 1))) (q_px S L (n + 1) row k (p / (n + 1) ^ (H - k))).2.2).1, (if p / (n + 1) ^ (H - 1 - k) % (n + 1) = 0 then (q_px S L (n + 1) row k (p / (n + 1) ^ (H - k))).2.1 else (q_px S L (n + 1) row k (p / (n + 1) ^ (H - k))).2.1 + 1), (q_go S L (nI (p / (n + 1) ^ (H - 1 - k) % (n + 1))) (q_px S L (n + 1) row k (p / (n + 1) ^ (H - k))).2.2).2.1) := by
      rw [show H - (k + 1) = H - 1 - k by omega, q_px, q_dv (by omega)]
    obtain ⟨σ', g1, g2, g3⟩ := e_plays hN h4 hw hR hr hd hp r (k + 1) f τ (by omega) (by omega) (by rw [← h3]; exact funext fun j => t4.1 3 j rfl) (by rw [t2, e1])
    rw [e1] at g1
    exact ⟨σ', g1, g2, q_fr_t t4 g3⟩
theorem e_plays' {N n m d h H p : Nat} {S : q_f} {L : q_L} {row : q_f} {σ : jw_M} (hN : 300 ≤ N) (h4 : H ≤ 4) (hw : q_wf S n m d) (hR : q_RM S L) (hr : q_wr S n m d row h) (hd : h + H ≤ d) (hp : p < (n + 1) ^ H) (h3 : σ.1 3 = S) (h1 : σ.1 1 = row) : ∃ σ', f_M_plays N (nI p) (nI H) σ = some ((q_px S L (n + 1) row H p).1, σ') ∧ σ'.1 1 = (q_px S L (n + 1) row H p).2.2 ∧ q_fr q_p1 σ σ' := by
  have z := q_bH hw.1 h4
  exact e_plays (L := L) hN h4 hw hR hr hd (by omega) H 0 N σ (by omega) (by omega) h3 h1
theorem e_acts {N n H p : Nat} {S : q_f} {L : q_L} {row : q_f} {σ : jw_M} (hN : 300 ≤ N) (h4 : H ≤ 4) (hn : n ≤ 6) (h2 : σ.1 3 2 = nI n) (hp : p < 2 ^ 31) : ∀ (r k f : Nat), k + r = H → r < f → f_M_actsOf_5 N f (nI p) (nI H) (nI (q_px S L (n + 1) row k (p / (n + 1) ^ (H - k))).2.1) (nI k) σ = some (nI (q_px S L (n + 1) row H p).2.1, σ)
  | 0, k, f, hk, hf => by
    obtain ⟨f, rfl⟩ : ∃ j, f = j + 1 := ⟨f - 1, by omega⟩
    have hk : k = H := by omega
    subst hk
    rw [f_M_actsOf_5, if_pos (nI_le (by omega) (by omega)), show k - k = 0 by omega, Nat.pow_zero, Nat.div_one]
  | r + 1, k, f, hk, hf => by
    obtain ⟨f, rfl⟩ : ∃ j, f = j + 1 := ⟨f - 1, by omega⟩
    have z := e_acts (S := S) (L := L) (row := row) hN h4 hn h2 hp r (k + 1) f (by omega) (by omega)
    have e1 : (q_px S L (n + 1) row (k + 1) (p / (n + 1) ^ (H - (k + 1)))).2.1 = if p / (n + 1) ^ (H - 1 - k) % (n + 1) = 0 then (q_px S L (n + 1) row k (p / (n + 1) ^ (H - k))).2.1 else (q_px S L (n + 1) row k (p / (n + 1) ^ (H - k))).2.1 + 1 := by
      rw [show H - (k + 1) = H - 1 - k by omega, q_px, q_dv (by omega)]
    rw [e1] at z
    rw [f_M_actsOf_5, if_neg (nI_ge (by omega) (by omega)), e_actIn hN hn h2 h4 (by omega) hp, Option.bind_some]
    unfold f_M_actsOf_28
    dsimp only
    have hlt : p / (n + 1) ^ (H - 1 - k) % (n + 1) < n + 1 := Nat.mod_lt _ (by omega)
    by_cases c : p / (n + 1) ^ (H - 1 - k) % (n + 1) = 0
    · rw [if_pos c] at z
      rw [if_pos (by rw [c]; decide), Int32.add_zero, nI_1]
      exact z
    · rw [if_neg c] at z
      rw [if_neg (nI_nle (by omega) (by omega)), nI_1, nI_1]
      exact z
theorem e_plans4 {N n H : Nat} {σ : jw_M} (hn : n ≤ 6) (h4 : H ≤ 4) (h2 : σ.1 3 2 = nI n) : ∀ (r k f : Nat), k + r = H → r < f → f_M_plans_4 N f (nI H) (nI ((n + 1) ^ k)) (nI k) σ = some (nI ((n + 1) ^ H), σ)
  | 0, k, f, hk, hf => by
    obtain ⟨f, rfl⟩ : ∃ j, f = j + 1 := ⟨f - 1, by omega⟩
    rw [f_M_plans_4, if_pos (nI_le (by omega) (by omega)), show k = H by omega]
  | r + 1, k, f, hk, hf => by
    obtain ⟨f, rfl⟩ : ∃ j, f = j + 1 := ⟨f - 1, by omega⟩
    rw [f_M_plans_4, if_neg (nI_ge (by omega) (by omega)), h2, nI_1, nI_1, pk_mul, ← Nat.pow_succ]
    exact e_plans4 hn h4 h2 r (k + 1) f (by omega) (by omega)
theorem e_plans {N n H : Nat} {σ : jw_M} (hN : 300 ≤ N) (hn : n ≤ 6) (h4 : H ≤ 4) (h2 : σ.1 3 2 = nI n) : f_M_plans N (nI H) σ = some (nI ((n + 1) ^ H), σ) := e_plans4 (N := N) hn h4 h2 H 0 N (by omega) (by omega)
/-- what was saved at 0 comes back; the rest as it is -/
theorem e_load0 {N : Nat} {row : q_f} {σ : jw_M} (hN : 300 ≤ N) (h2 : ∀ i, i < 56 → σ.1 2 i = row i) (h1 : ∀ i, 56 ≤ i → σ.1 1 i = row i) : ∃ σ', f_M_load N 0 σ = some σ' ∧ σ'.1 1 = row ∧ (∀ c, c ≠ 1 → σ'.1 c = σ.1 c) ∧ σ'.2 = σ.2 := by
  obtain ⟨ω, o1, o2, o3, o4, o5⟩ := e_load (N := N) (lv := 0) hN (by decide) σ
  refine ⟨ω, o1, ?_, o4, o5⟩
  funext j
  by_cases c : j < 56
  · rw [o2 j c, show 56 * 0 + j = j by omega, h2 j c]
  · rw [o3 j (by omega), h1 j (by omega)]
def q_pm (c i : Nat) : Bool := (c == 0 && decide (22 ≤ i) && decide (i ≤ 27)) || c == 1 || c == 2 || c == 9 || c == 10
theorem q_pm_1 {c i : Nat} (h : q_pm c i = false) : q_p1 c i = false := by
  unfold q_pm at h
  unfold q_p1
  simp at h ⊢
  omega
theorem e_fb22 {N n m d h H : Nat} {S : q_f} {L : q_L} {row : q_f} (hN : 3000 ≤ N) (h4 : H ≤ 4) (hw : q_wf S n m d) (hR : q_RM S L) (hr : q_wr S n m d row h) (hd : h + H ≤ d) : ∀ (r p f : Nat) (s : q_bS) (σ : jw_M), p + r = (n + 1) ^ H → r < f → σ.1 3 = S → σ.1 1 = row → (∀ i, i < 56 → σ.1 2 i = row i) → σ.1 0 22 = s.1 → σ.1 0 24 = s.2.1 → σ.1 0 23 = nI s.2.2 → s.2.2 < (n + 1) ^ H → ∃ σ', f_M_findBest_22 N f (nI H) (nI p) σ = some σ' ∧ σ'.1 0 22 = (q_fB (q_gB S L (n + 1) row H) r p s).1 ∧ σ'.1 0 24 = (q_fB (q_gB S L (n + 1) row H) r p s).2.1 ∧ σ'.1 0 23 = nI (q_fB (q_gB S L (n + 1) row H) r p s).2.2 ∧ (q_fB (q_gB S L (n + 1) row H) r p s).2.2 < (n + 1) ^ H ∧ σ'.1 3 = S ∧ σ'.1 1 = row ∧ (∀ i, i < 56 → σ'.1 2 i = row i) ∧ q_fr q_pm σ σ' := by
  have hn := hw.1
  have hbH := q_bH hn h4
  intro r
  induction r with
  | zero =>
    intro p f s σ hp hf h3 h1 h2 e22 e24 e23 hlt
    obtain ⟨f, rfl⟩ : ∃ j, f = j + 1 := ⟨f - 1, by omega⟩
    refine ⟨σ, ?_, e22, e24, e23, hlt, h3, h1, h2, q_fr_r _ _⟩
    rw [f_M_findBest_22, e_plans (by omega) hn h4 (by rw [h3]; exact hw.2.2.2.2.1), Option.bind_some]
    dsimp only
    rw [if_pos (nI_le (by omega) (by omega))]
  | succ r ih =>
    intro p f s σ hp hf h3 h1 h2 e22 e24 e23 hlt
    obtain ⟨f, rfl⟩ : ∃ j, f = j + 1 := ⟨f - 1, by omega⟩
    rw [f_M_findBest_22, e_plans (by omega) hn h4 (by rw [h3]; exact hw.2.2.2.2.1), Option.bind_some]
    dsimp only
    rw [if_neg (nI_ge (by omega) (by omega))]
    obtain ⟨τ, t1, t2, t3⟩ := e_plays' (N := N) (L := L) (p := p) (by omega) h4 hw hR hr hd (by omega) h3 h1
    rw [t1, Option.bind_some]
    dsimp only
    obtain ⟨υ, v1, v2, v3, v4⟩ := e_load0 (N := N) (row := row) (σ := τ) (by omega) (fun i hi => by rw [t3.1 2 i rfl]; exact h2 i hi) (fun i hi => by rw [t2, q_px_hi hw hi])
    rw [v1, Option.bind_some]
    have g0 : ∀ c i, c ≠ 1 → c ≠ 9 → c ≠ 10 → υ.1 c i = σ.1 c i := fun c i a1 a2 a3 => by
      rw [v3 c a1, t3.1 c i (by unfold q_p1; simp; omega)]
    have fr0 : q_fr q_pm σ υ := ⟨fun c i z => by
      have z' : c ≠ 1 ∧ c ≠ 9 ∧ c ≠ 10 := by
        unfold q_pm at z
        simp at z
        omega
      exact g0 c i z'.1 z'.2.1 z'.2.2, by rw [v4, t3.2]⟩
    have k3 : υ.1 3 = S := by rw [← h3]; exact funext fun i => g0 3 i (by decide) (by decide) (by decide)
    have k2 : ∀ i, i < 56 → υ.1 2 i = row i := fun i hi => by rw [g0 2 i (by decide) (by decide) (by decide)]; exact h2 i hi
    have k22 : υ.1 0 22 = s.1 := by rw [g0 0 22 (by decide) (by decide) (by decide)]; exact e22
    have k24 : υ.1 0 24 = s.2.1 := by rw [g0 0 24 (by decide) (by decide) (by decide)]; exact e24
    have k23 : υ.1 0 23 = nI s.2.2 := by rw [g0 0 23 (by decide) (by decide) (by decide)]; exact e23
    unfold f_M_findBest_66 f_M_findBest_84
    rw [k22, k24, nI_1, q_fB]
    have eg : q_gB S L (n + 1) row H p s = q_wb (q_px S L (n + 1) row H p).1 p s := rfl
    rw [eg]
    unfold q_wb
    by_cases c1 : (q_px S L (n + 1) row H p).1 ≤ s.1
    · rw [if_pos c1, if_pos c1]
      by_cases c2 : (q_px S L (n + 1) row H p).1 = s.1
      · rw [if_pos c2, if_pos c2]
        obtain ⟨ω, o1, o2, o3, o4, o5, o6, o7, o8, o9⟩ := ih (p + 1) f (s.1, s.2.1 + 1, s.2.2) (jx_w υ 0 24 (s.2.1 + 1)) (by omega) (by omega) (by rw [q_w0 (by decide)]; exact k3) (by rw [q_w0 (by decide)]; exact v2) (fun i hi => by rw [q_wC (by decide)]; exact k2 i hi) (by rw [q_wI (by decide)]; exact k22) q_wS (by rw [q_wI (by decide)]; exact k23) hlt
        exact ⟨ω, o1, o2, o3, o4, o5, o6, o7, o8, q_fr_t (q_fr_w fr0 rfl) o9⟩
      · rw [if_neg c2, if_neg c2, Int32.add_zero, q_w_id k24]
        obtain ⟨ω, o1, o2, o3, o4, o5, o6, o7, o8, o9⟩ := ih (p + 1) f s υ (by omega) (by omega) k3 v2 k2 k22 k24 k23 hlt
        exact ⟨ω, o1, o2, o3, o4, o5, o6, o7, o8, q_fr_t fr0 o9⟩
    · rw [if_neg c1, if_neg c1, q_wI (by decide), q_wI (by decide), q_wS, if_pos rfl, q_wS]
      obtain ⟨ω, o1, o2, o3, o4, o5, o6, o7, o8, o9⟩ := ih (p + 1) f ((q_px S L (n + 1) row H p).1, 0 + 1, p) (jx_w (jx_w (jx_w (jx_w υ 0 22 (q_px S L (n + 1) row H p).1) 0 23 (nI p)) 0 24 0) 0 24 (0 + 1)) (by omega) (by omega) (by rw [q_w0 (by decide), q_w0 (by decide), q_w0 (by decide), q_w0 (by decide)]; exact k3) (by rw [q_w0 (by decide), q_w0 (by decide), q_w0 (by decide), q_w0 (by decide)]; exact v2) (fun i hi => by rw [q_wC (by decide), q_wC (by decide), q_wC (by decide), q_wC (by decide)]; exact k2 i hi) (by rw [q_wI (by decide), q_wI (by decide), q_wI (by decide), q_wS]) q_wS (by rw [q_wI (by decide), q_wI (by decide), q_wS]) (by show p < _; omega)
      exact ⟨ω, o1, o2, o3, o4, o5, o6, o7, o8, q_fr_t (q_fr_w (q_fr_w (q_fr_w (q_fr_w fr0 rfl) rfl) rfl) rfl) o9⟩
theorem e_findBest {N n m d h H : Nat} {S : q_f} {L : q_L} {row : q_f} {σ : jw_M} (hN : 3000 ≤ N) (h4 : H ≤ 4) (hw : q_wf S n m d) (hR : q_RM S L) (hr : q_wr S n m d row h) (hd : h + H ≤ d) (h3 : σ.1 3 = S) (h1 : σ.1 1 = row) : ∃ σ', f_M_findBest N (nI H) σ = some σ' ∧ σ'.1 0 22 = (q_fB (q_gB S L (n + 1) row H) ((n + 1) ^ H) 0 (-1, 0, 0)).1 ∧ σ'.1 0 24 = (q_fB (q_gB S L (n + 1) row H) ((n + 1) ^ H) 0 (-1, 0, 0)).2.1 ∧ σ'.1 0 23 = nI (q_fB (q_gB S L (n + 1) row H) ((n + 1) ^ H) 0 (-1, 0, 0)).2.2 ∧ (q_fB (q_gB S L (n + 1) row H) ((n + 1) ^ H) 0 (-1, 0, 0)).2.2 < (n + 1) ^ H ∧ σ'.1 3 = S ∧ σ'.1 1 = row ∧ (∀ i, i < 56 → σ'.1 2 i = row i) ∧ q_fr q_pm σ σ' := by
  have hbH := q_bH hw.1 h4
  have hpos : 0 < (n + 1) ^ H := Nat.pow_pos (by omega)
  unfold f_M_findBest
  obtain ⟨τ, s1, s2, s3, s4, s5⟩ := e_save (N := N) (lv := 0) (by omega) (by decide) (jx_w (jx_w (jx_w σ 0 22 (-1)) 0 23 0) 0 24 0)
  rw [show f_M_save N 0 _ = _ from s1, Option.bind_some]
  have k : ∀ c, c ≠ 2 → c ≠ 0 → τ.1 c = σ.1 c := fun c a1 a2 => by rw [s4 c a1, q_w0 a2, q_w0 a2, q_w0 a2]
  obtain ⟨ω, o1, o2, o3, o4, o5, o6, o7, o8, o9⟩ := e_fb22 (L := L) (row := row) hN h4 hw hR hr hd ((n + 1) ^ H) 0 N (-1, 0, 0) τ (by omega) (by omega) (by rw [k 3 (by decide) (by decide)]; exact h3) (by rw [k 1 (by decide) (by decide)]; exact h1) (fun i hi => by have z := s2 i hi; rw [show 56 * 0 + i = i by omega, q_wC (by decide), q_wC (by decide), q_wC (by decide), h1] at z; exact z) (by rw [s4 0 (by decide), q_wI (by decide), q_wI (by decide), q_wS]) (by rw [s4 0 (by decide), q_wS]) (by rw [s4 0 (by decide), q_wI (by decide), q_wS]; rfl) hpos
  refine ⟨ω, o1, o2, o3, o4, o5, o6, o7, o8, q_fr_t (q_fr_w (q_fr_w (q_fr_w (q_fr_r _ _) rfl) rfl) rfl) (q_fr_t ⟨fun c i z => by rw [s4 c (fun e => by rw [e] at z; unfold q_pm at z; simp at z)], s5⟩ o9)⟩
/-! ===== findTaught ===== -/
def q_en (f : Nat) : Int32 := if f = 5 then -3 else nI f
theorem q_sub {x s : Int32} : (x &&& s) = s ↔ s &&& (x ^^^ (-1)) = 0 := by
  constructor
  · intro h
    refine b_ext (fun i hi => ?_)
    rw [q_bn _ _ hi, b_0]
    have z : bt _ i = bt _ i := congrArg (fun y => bt y i) h
    rw [b_and] at z
    revert z
    cases bt x i <;> cases bt s i <;> decide
  · intro h
    refine b_ext (fun i hi => ?_)
    have z : bt _ i = bt _ i := congrArg (fun y => bt y i) h
    rw [q_bn _ _ hi, b_0] at z
    rw [b_and]
    revert z
    cases bt x i <;> cases bt s i <;> decide
theorem e_ft18 {N n m d h H : Nat} {wanted : Int32} {S : q_f} {L : q_L} {row : q_f} (hN : 3000 ≤ N) (h4 : H ≤ 4) (hw : q_wf S n m d) (hR : q_RM S L) (hr : q_wr S n m d row h) (hd : h + H ≤ d) : ∀ (r p f : Nat) (u : q_tS) (σ : jw_M), p + r = (n + 1) ^ H → r < f → σ.1 3 = S → σ.1 1 = row → (∀ i, i < 56 → σ.1 2 i = row i) → σ.1 0 25 = q_en u.1 → u.1 ≤ 5 → σ.1 0 26 = u.2 → ∃ σ', f_M_findTaught_18 N f (nI H) wanted (nI p) σ = some σ' ∧ σ'.1 0 25 = q_en (q_fT (q_gT S L (n + 1) row H wanted) r p u).1 ∧ σ'.1 0 26 = (q_fT (q_gT S L (n + 1) row H wanted) r p u).2 ∧ σ'.1 3 = S ∧ σ'.1 1 = row ∧ q_fr q_pm σ σ' := by
  have hn := hw.1
  have hbH := q_bH hn h4
  intro r
  induction r with
  | zero =>
    intro p f u σ hp hf h3 h1 h2 e25 u5 e26
    obtain ⟨f, rfl⟩ : ∃ j, f = j + 1 := ⟨f - 1, by omega⟩
    refine ⟨σ, ?_, e25, e26, h3, h1, q_fr_r _ _⟩
    rw [f_M_findTaught_18, e_plans (by omega) hn h4 (by rw [h3]; exact hw.2.2.2.2.1), Option.bind_some]
    dsimp only
    rw [if_pos (nI_le (by omega) (by omega))]
  | succ r ih =>
    intro p f u σ hp hf h3 h1 h2 e25 u5 e26
    obtain ⟨f, rfl⟩ : ∃ j, f = j + 1 := ⟨f - 1, by omega⟩
    rw [f_M_findTaught_18, e_plans (by omega) hn h4 (by rw [h3]; exact hw.2.2.2.2.1), Option.bind_some]
    dsimp only
    rw [if_neg (nI_ge (by omega) (by omega))]
    obtain ⟨τ, t1, t2, t3⟩ := e_plays' (N := N) (L := L) (p := p) (by omega) h4 hw hR hr hd (by omega) h3 h1
    rw [t1, Option.bind_some]
    dsimp only
    have τ3 : τ.1 3 = S := by rw [← h3]; exact funext fun i => t3.1 3 i rfl
    rw [e_someM (by omega) hw (q_px_wr (L := L) (b := n + 1) hw hr H p (by omega)) τ3 t2, Option.bind_some]
    dsimp only
    obtain ⟨υ, v1, v2, v3, v4⟩ := e_load0 (N := N) (row := row) (σ := τ) (by omega) (fun i hi => by rw [t3.1 2 i rfl]; exact h2 i hi) (fun i hi => by rw [t2, q_px_hi hw hi])
    rw [v1, Option.bind_some]
    have g0 : ∀ c i, c ≠ 1 → c ≠ 9 → c ≠ 10 → υ.1 c i = σ.1 c i := fun c i a1 a2 a3 => by
      rw [v3 c a1, t3.1 c i (by unfold q_p1; simp; omega)]
    have fr0 : q_fr q_pm σ υ := ⟨fun c i z => by
      have z' : c ≠ 1 ∧ c ≠ 9 ∧ c ≠ 10 := by
        unfold q_pm at z
        simp at z
        omega
      exact g0 c i z'.1 z'.2.1 z'.2.2, by rw [v4, t3.2]⟩
    have k3 : υ.1 3 = S := by rw [← h3]; exact funext fun i => g0 3 i (by decide) (by decide) (by decide)
    have k2 : ∀ i, i < 56 → υ.1 2 i = row i := fun i hi => by rw [g0 2 i (by decide) (by decide) (by decide)]; exact h2 i hi
    have k25 : υ.1 0 25 = q_en u.1 := by rw [g0 0 25 (by decide) (by decide) (by decide)]; exact e25
    have k26 : υ.1 0 26 = u.2 := by rw [g0 0 26 (by decide) (by decide) (by decide)]; exact e26
    rw [k26]
    obtain ⟨υ', hυ'⟩ : ∃ z, z = jx_w υ 0 26 (u.2 ||| q_some (q_px S L (n + 1) row H p).2.2) := ⟨_, rfl⟩
    rw [← hυ']
    have j3 : υ'.1 3 = S := by rw [hυ', q_w0 (by decide)]; exact k3
    have j1 : υ'.1 1 = row := by rw [hυ', q_w0 (by decide)]; exact v2
    have j2 : ∀ i, i < 56 → υ'.1 2 i = row i := fun i hi => by rw [hυ', q_wC (by decide)]; exact k2 i hi
    have j25 : υ'.1 0 25 = q_en u.1 := by rw [hυ', q_wI (by decide)]; exact k25
    have j26 : υ'.1 0 26 = u.2 ||| q_some (q_px S L (n + 1) row H p).2.2 := by rw [hυ', q_wS]
    have fr1 : q_fr q_pm σ υ' := by rw [hυ']; exact q_fr_w fr0 rfl
    have hs := q_px_s (S := S) (L := L) (b := n + 1) (row := row) H p
    unfold f_M_actsOf
    rw [show f_M_actsOf_5 N N (nI p) (nI H) 0 0 υ' = _ from e_acts (S := S) (L := L) (row := row) (by omega) h4 hn (by rw [j3]; exact hw.2.2.2.2.1) (by omega) H 0 N (by omega) (by omega), Option.bind_some]
    unfold f_M_findTaught_90 f_M_findTaught_95 f_M_findTaught_99
    dsimp only
    rw [j25, nI_1, q_fT]
    have eg : q_gT S L (n + 1) row H wanted p u = q_wu wanted (q_px S L (n + 1) row H p).2.1 (q_some (q_px S L (n + 1) row H p).2.2) u := rfl
    rw [eg]
    unfold q_wu
    have fin : ∀ f' : Nat, f' ≤ 5 → ∃ σ', f_M_findTaught_18 N f (nI H) wanted (nI (p + 1)) (jx_w υ' 0 25 (q_en f')) = some σ' ∧ σ'.1 0 25 = q_en (q_fT (q_gT S L (n + 1) row H wanted) r (p + 1) (f', u.2 ||| q_some (q_px S L (n + 1) row H p).2.2)).1 ∧ σ'.1 0 26 = (q_fT (q_gT S L (n + 1) row H wanted) r (p + 1) (f', u.2 ||| q_some (q_px S L (n + 1) row H p).2.2)).2 ∧ σ'.1 3 = S ∧ σ'.1 1 = row ∧ q_fr q_pm σ σ' := by
      intro f' hf'
      obtain ⟨ω, o1, o2, o3, o4, o5, o6⟩ := ih (p + 1) f (f', u.2 ||| q_some (q_px S L (n + 1) row H p).2.2) (jx_w υ' 0 25 (q_en f')) (by omega) (by omega) (by rw [q_w0 (by decide)]; exact j3) (by rw [q_w0 (by decide)]; exact j1) (fun i hi => by rw [q_wC (by decide)]; exact j2 i hi) q_wS hf' (by rw [q_wI (by decide)]; exact j26)
      exact ⟨ω, o1, o2, o3, o4, o5, q_fr_t (q_fr_w fr1 rfl) o6⟩
    by_cases c1 : wanted &&& (q_some (q_px S L (n + 1) row H p).2.2 ^^^ (-1)) = 0
    · rw [if_pos c1, if_pos (q_sub.mpr c1)]
      have es : nI (q_px S L (n + 1) row H p).2.1 = q_en (q_px S L (n + 1) row H p).2.1 := by
        unfold q_en
        rw [if_neg (by omega)]
      by_cases c5 : u.1 = 5
      · have e5 : q_en u.1 = -3 := by unfold q_en; rw [if_pos c5]
        rw [e5, if_pos (by decide), if_pos (by omega), es]
        exact fin _ (by omega)
      · have e5 : q_en u.1 = nI u.1 := by unfold q_en; rw [if_neg c5]
        rw [e5, if_neg (nI_pos (by omega))]
        by_cases c6 : (q_px S L (n + 1) row H p).2.1 < u.1
        · rw [if_pos c6, if_neg (nI_ge c6 (by omega)), es]
          exact fin _ (by omega)
        · rw [if_neg c6, if_pos (nI_le (by omega) (by omega)), ← e5]
          exact fin _ u5
    · rw [if_neg c1, if_neg (fun z => c1 (q_sub.mp z))]
      exact fin _ u5
theorem e_findTaught {N n m d h H : Nat} {wanted : Int32} {S : q_f} {L : q_L} {row : q_f} {σ : jw_M} (hN : 3000 ≤ N) (h4 : H ≤ 4) (hw : q_wf S n m d) (hR : q_RM S L) (hr : q_wr S n m d row h) (hd : h + H ≤ d) (h3 : σ.1 3 = S) (h1 : σ.1 1 = row) : ∃ σ', f_M_findTaught N (nI H) wanted σ = some σ' ∧ σ'.1 0 25 = q_en (q_fT (q_gT S L (n + 1) row H wanted) ((n + 1) ^ H) 0 (5, 0)).1 ∧ σ'.1 0 26 = (q_fT (q_gT S L (n + 1) row H wanted) ((n + 1) ^ H) 0 (5, 0)).2 ∧ σ'.1 3 = S ∧ σ'.1 1 = row ∧ q_fr q_pm σ σ' := by
  have hbH := q_bH hw.1 h4
  unfold f_M_findTaught
  obtain ⟨τ, s1, s2, s3, s4, s5⟩ := e_save (N := N) (lv := 0) (by omega) (by decide) (jx_w (jx_w σ 0 25 (-3)) 0 26 0)
  rw [show f_M_save N 0 _ = _ from s1, Option.bind_some]
  have k : ∀ c, c ≠ 2 → c ≠ 0 → τ.1 c = σ.1 c := fun c a1 a2 => by rw [s4 c a1, q_w0 a2, q_w0 a2]
  obtain ⟨ω, o1, o2, o3, o4, o5, o6⟩ := e_ft18 (wanted := wanted) (L := L) (row := row) hN h4 hw hR hr hd ((n + 1) ^ H) 0 N (5, 0) τ (by omega) (by omega) (by rw [k 3 (by decide) (by decide)]; exact h3) (by rw [k 1 (by decide) (by decide)]; exact h1) (fun i hi => by have z := s2 i hi; rw [show 56 * 0 + i = i by omega, q_wC (by decide), q_wC (by decide), h1] at z; exact z) (by rw [s4 0 (by decide), q_wI (by decide), q_wS]; rfl) (by decide) (by rw [s4 0 (by decide), q_wS])
  exact ⟨ω, o1, o2, o3, o4, o5, q_fr_t (q_fr_w (q_fr_w (q_fr_r _ _) rfl) rfl) (q_fr_t ⟨fun c i z => by rw [s4 c (fun e => by rw [e] at z; unfold q_pm at z; simp at z)], s5⟩ o6)⟩
