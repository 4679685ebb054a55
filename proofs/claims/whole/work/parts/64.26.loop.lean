/-! ===== pure: reading: the condition's loops ===== -/
def q_Kw (N : Nat) (R' : jw_M → Option jw_M) (f2 : Nat) (w : Nat) (z : jw_M) : Option jw_M := if w = 1 then (if (z.1 0 13) = 0 then f_M_readCondition_12 N R' f2 z else (f_M_step N 5 0 z).bind fun z13 => f_M_readCondition_12 N R' f2 z13) else f_M_readCondition_12 N R' f2 z
theorem q_K1 {N : Nat} {R' : jw_M → Option jw_M} {f2 : Nat} : (fun z10 : jw_M => if (z10.1 0 13) = 0 then f_M_readCondition_12 N R' f2 z10 else (f_M_step N 5 0 z10).bind fun z13 => f_M_readCondition_12 N R' f2 z13) = q_Kw N R' f2 1 := by
  funext z
  unfold q_Kw
  rw [if_pos rfl]
theorem q_K0 {N : Nat} {R' : jw_M → Option jw_M} {f2 : Nat} : (fun z2 : jw_M => f_M_readCondition_12 N R' f2 z2) = q_Kw N R' f2 0 := by
  funext z
  unfold q_Kw
  rw [if_neg (by decide)]
theorem M_f12 {N f : Nat} {R' : jw_M → Option jw_M} {τ : jw_M} (hf : 0 < f) (h : τ.1 0 13 = 0) : f_M_readCondition_12 N R' f τ = some τ := by
  obtain ⟨n, rfl⟩ : ∃ n, f = n + 1 := ⟨f - 1, by omega⟩
  rw [f_M_readCondition_12, if_pos h]
theorem M_fK {N f w : Nat} {R' : jw_M → Option jw_M} {τ : jw_M} (hf : 0 < f) (h : τ.1 0 13 = 0) : q_Kw N R' f w τ = some τ := by
  unfold q_Kw
  rw [if_pos h, M_f12 hf h]
  by_cases e : w = 1
  · rw [if_pos e]
  · rw [if_neg e]
theorem M_f4 {N f : Nat} {R' : jw_M → Option jw_M} {τ : jw_M} (hf : 0 < f) (h : τ.1 0 13 = 0) : f_M_readAll_4 N R' f τ = some τ := by
  obtain ⟨n, rfl⟩ : ∃ n, f = n + 1 := ⟨f - 1, by omega⟩
  rw [f_M_readAll_4, if_pos h]
theorem Z_loop {E : q_En} {N op m pd : Nat} {L : q_L} {R : Int32 → jw_M → Option (Int32 × jw_M)} {R' : jw_M → Option jw_M} (hN : 300 ≤ N) (G : q_G E) (hop : op ≤ 3) (hm : m ≤ 2 * op) (hF : ∀ τ, τ.1 0 13 = 0 → R' τ = some τ) (hR : op < 3 → ∀ k c V m pd σ τ, m ≤ 2 * (op + 1) → q_Z E k (op + 1) L c V m pd 2 σ τ → q_Out E (op + 1) L (m + 1) pd 1 k (R (nI (op + 1)) σ) (R' τ)) : ∀ (f k i f1 f2 V w k0 : Nat) (c : List q_I) (σ τ : jw_M), w < 2 → i + 2 ≤ k → k0 < k → E.nt - k < f → E.nt - k < f1 → E.nt - k < f2 → q_Z E k op L c V (m + 1 + w) (pd + w) 1 σ τ → q_Out E op L (m + 1) pd 1 k0 (f_D_readCondition_14 N R f (nI op) (nI w) (nI i) σ) ((f_M_readAll_4 N R' f1 τ).bind (q_Kw N R' f2 w))
  | 0, k, i, f1, f2, V, w, k0, c, σ, τ, hw, hik, h0, hf, hf1, hf2, Z => by omega
  | f + 1, k, i, f1, f2, V, w, k0, c, σ, τ, hw, hik, h0, hf, hf1, hf2, Z => by
    have hk : k ≤ E.nt := Z.1.1.2.2.1
    have hT := G.1
    have hnT := G.2.1
    obtain ⟨a1, a2, _⟩ := C_at G Z.1.1
    obtain ⟨f1, rfl⟩ : ∃ n, f1 = n + 1 := ⟨f1 - 1, by omega⟩
    obtain ⟨f2, rfl⟩ : ∃ n, f2 = n + 1 := ⟨f2 - 1, by omega⟩
    rw [f_D_readCondition_14, f_M_readAll_4, if_neg (show ¬ (200 : Int32) ≤ nI i from nI_ge (b := 200) (by omega) (by decide)), a1, cond_true, a2, if_neg (Z_ne Z)]
    unfold f_D_readCondition_49
    rw [a1, cond_true, a2]
    by_cases h11 : q_t E k = nI 11
    · have hk1 := q_t_lt G hk h11 (by decide)
      rw [if_pos (show q_t E k = 11 from h11), if_pos (show q_t E k = 11 from h11), (M_w Z.2.1 (by decide) q_W11).1 h11, q_y1]
      dsimp only
      unfold f_D_readCondition_68 f_D_readCondition_89
      rw [if_neg (show ¬ (1 : Int32) = 0 by decide)]
      obtain ⟨σ1, τ1, b1, b2, b3⟩ := Z_goW (N := N) hN G Z (by decide) h11
      rw [b1, Option.bind_some, b2, Option.bind_some]
      rcases Z_one (N := N) hN G hop (show m + 1 + w ≤ 2 * op + 2 by omega) hF hR b3 with ⟨k', c', V', σ', τ', r1, r2, r3, r4⟩ | ⟨k', σ', τ', r1, r2, r3, r4⟩
      · rw [r1, q_bz1, r2, Option.bind_some, if_neg (Z_ne r4)]
        dsimp only
        obtain ⟨c'', σ2, τ2, g1, g2, g3⟩ := Z_join (N := N) (o := 3) (o' := 4) (m' := m + 1 + w) G r4 (Or.inl ⟨rfl, rfl, rfl, by omega⟩)
        rw [if_neg (show ¬ (1 : Int32) = 0 by decide), show f_R_addStep N 3 0 0 σ' = some σ2 from g1, Option.bind_some, show f_M_step N 4 0 τ' = some τ2 from g2, Option.bind_some]
        unfold f_D_readCondition_123
        rw [nI_1]
        exact Z_loop hN G hop hm hF hR f k' (i + 1) f1 (f2 + 1) V' w k0 c'' σ2 τ2 hw (by omega) (by omega) (by omega) (by omega) (by omega) g3
      · rw [r1, q_bz0, r2, Option.bind_some, if_pos r4.1, M_f4 (by omega) r4.1, Option.bind_some, M_fK (by omega) r4.1]
        exact Or.inr ⟨k', σ', τ', rfl, rfl, r3, r4⟩
    · rw [if_neg (show ¬ q_t E k = 11 from h11), if_neg (show ¬ q_t E k = 11 from h11), (M_w Z.2.1 (by decide) q_W11).2 h11, q_y0, Option.bind_some]
      dsimp only
      by_cases h10 : q_t E k = nI 10
      · have hk1 := q_t_lt G hk h10 (by decide)
        rw [if_pos (show q_t E k = 10 from h10)]
        have key : ∀ (c : List q_I) (σ τ : jw_M), q_Z E k op L c V (m + 1) pd 1 σ τ → q_Out E op L (m + 1) pd 1 k0 (f_D_readCondition_89 N R (f_D_readCondition_14 N R f) (nI op) (nI w) (nI i) 0 σ) (f_M_readCondition_12 N R' (f2 + 1) τ) := fun c σ τ Z => by
          unfold f_D_readCondition_89
          obtain ⟨σ1, τ1, b1, b2, b3⟩ := Z_goW (N := N) hN G Z (by decide) h10
          rw [f_M_readCondition_12, if_neg (Z_ne Z), (M_w Z.2.1 (by decide) q_W10).1 h10, q_y1, b1, Option.bind_some]
          dsimp only
          rw [b2, Option.bind_some]
          unfold f_M_readAll
          rw [q_K1]
          rcases Z_one (N := N) hN G hop (show m + 1 ≤ 2 * op + 2 by omega) hF hR b3 with ⟨k', c', V', σ', τ', r1, r2, r3, r4⟩ | ⟨k', σ', τ', r1, r2, r3, r4⟩
          · rw [r1, q_bz1, r2, Option.bind_some]
            dsimp only
            rw [if_pos rfl]
            unfold f_D_readCondition_123
            rw [nI_1]
            exact Z_loop hN G hop hm hF hR f k' (i + 1) N f2 V' 1 k0 c' σ' τ' (by decide) (by omega) (by omega) (by omega) (by omega) (by omega) r4
          · rw [r1, q_bz0, r2, Option.bind_some, M_f4 (by omega) r4.1, Option.bind_some, M_fK (by omega) r4.1]
            exact Or.inr ⟨k', σ', τ', rfl, rfl, r3, r4⟩
        unfold f_D_readCondition_68 q_Kw
        rw [if_pos rfl]
        rcases (show w = 0 ∨ w = 1 by omega) with rfl | rfl
        · rw [if_pos (show nI 0 = 0 from rfl), if_neg (show ¬ (0 : Nat) = 1 by decide)]
          exact key c σ τ Z
        · obtain ⟨c', σ2, τ2, g1, g2, g3⟩ := Z_join (N := N) (o := 4) (o' := 5) (m' := m + 1) G Z (Or.inr (Or.inl ⟨rfl, rfl, rfl, by omega⟩))
          rw [if_neg (show ¬ nI 1 = 0 by decide), if_pos rfl, if_neg (Z_ne Z), show f_R_addStep N 4 0 0 σ = some σ2 from g1, Option.bind_some, show f_M_step N 5 0 τ = some τ2 from g2, Option.bind_some]
          exact key c' σ2 τ2 g3
      · rw [if_neg (show ¬ q_t E k = 10 from h10)]
        have key : ∀ (c : List q_I) (σ τ : jw_M), q_Z E k op L c V (m + 1) pd 1 σ τ → f_M_readCondition_12 N R' (f2 + 1) τ = some τ := fun c σ τ Z => by
          rw [f_M_readCondition_12, if_neg (Z_ne Z), (M_w Z.2.1 (by decide) q_W10).2 h10, q_y0]
        unfold f_D_readCondition_129 q_Kw
        rcases (show w = 0 ∨ w = 1 by omega) with rfl | rfl
        · rw [if_pos (show nI 0 = 0 from rfl), if_neg (show ¬ (0 : Nat) = 1 by decide), key c σ τ Z]
          exact Or.inl ⟨k, c, V, σ, τ, rfl, rfl, h0, Z⟩
        · obtain ⟨c', σ2, τ2, g1, g2, g3⟩ := Z_join (N := N) (o := 4) (o' := 5) (m' := m + 1) G Z (Or.inr (Or.inl ⟨rfl, rfl, rfl, by omega⟩))
          rw [if_neg (show ¬ nI 1 = 0 by decide), if_pos rfl, if_neg (Z_ne Z), show f_R_addStep N 4 0 0 σ = some σ2 from g1, Option.bind_some, show f_M_step N 5 0 τ = some τ2 from g2, Option.bind_some, key c' σ2 τ2 g3]
          exact Or.inl ⟨k, c', V, σ2, τ2, rfl, rfl, h0, g3⟩
theorem Z_cond {E : q_En} {N : Nat} {L : q_L} (hN : 300 ≤ N) (G : q_G E) : ∀ (j op r r' : Nat), op + j = 3 → j < r → j + 1 < r' → ∀ k c V m pd σ τ, m ≤ 2 * op → q_Z E k op L c V m pd 2 σ τ → q_Out E op L (m + 1) pd 1 k (f_D_readCondition N r (nI op) σ) (f_M_readCondition N r' τ) := fun j => by
  induction j with
  | zero =>
    intro op r r' hj hr hr' k c V m pd σ τ hm Z
    obtain ⟨r, rfl⟩ : ∃ n, r = n + 1 := ⟨r - 1, by omega⟩
    obtain ⟨r', rfl⟩ : ∃ n, r' = n + 1 + 1 := ⟨r' - 2, by omega⟩
    have hT := G.1
    have hnT := G.2.1
    have z8 := Z.2.2.2.2.2.2.2
    have hF : ∀ τ : jw_M, τ.1 0 13 = 0 → f_M_readCondition N (r' + 1) τ = some τ := fun τ h => by rw [f_M_readCondition, if_pos h]
    have hR : op < 3 → ∀ k c V m pd σ τ, m ≤ 2 * (op + 1) → q_Z E k (op + 1) L c V m pd 2 σ τ → q_Out E (op + 1) L (m + 1) pd 1 k (f_D_readCondition N r (nI (op + 1)) σ) (f_M_readCondition N (r' + 1) τ) := fun z => by omega
    rw [f_D_readCondition, f_M_readCondition, if_neg (Z_ne Z), q_K0]
    unfold f_M_readAll
    rcases Z_one (N := N) hN G (show op ≤ 3 by omega) (show m ≤ 2 * op + 2 by omega) hF hR Z with ⟨k', c', V', σ', τ', r1, r2, r3, r4⟩ | ⟨k', σ', τ', r1, r2, r3, r4⟩
    · rw [r1, q_bz1, r2, Option.bind_some]
      exact Z_loop hN G (show op ≤ 3 by omega) hm hF hR N k' 0 N N V' 0 k c' σ' τ' (by decide) (by omega) r3 (by omega) (by omega) (by omega) r4
    · rw [r1, q_bz0, r2, Option.bind_some, M_f4 (by omega) r4.1, Option.bind_some, M_fK (by omega) r4.1]
      exact Or.inr ⟨k', σ', τ', rfl, rfl, r3, r4⟩
  | succ j ih =>
    intro op r r' hj hr hr' k c V m pd σ τ hm Z
    obtain ⟨r, rfl⟩ : ∃ n, r = n + 1 := ⟨r - 1, by omega⟩
    obtain ⟨r', rfl⟩ : ∃ n, r' = n + 1 + 1 := ⟨r' - 2, by omega⟩
    have hT := G.1
    have hnT := G.2.1
    have z8 := Z.2.2.2.2.2.2.2
    have hF : ∀ τ : jw_M, τ.1 0 13 = 0 → f_M_readCondition N (r' + 1) τ = some τ := fun τ h => by rw [f_M_readCondition, if_pos h]
    have hR : op < 3 → ∀ k c V m pd σ τ, m ≤ 2 * (op + 1) → q_Z E k (op + 1) L c V m pd 2 σ τ → q_Out E (op + 1) L (m + 1) pd 1 k (f_D_readCondition N r (nI (op + 1)) σ) (f_M_readCondition N (r' + 1) τ) := fun z => ih (op + 1) r (r' + 1) (by omega) (by omega) (by omega)
    rw [f_D_readCondition, f_M_readCondition, if_neg (Z_ne Z), q_K0]
    unfold f_M_readAll
    rcases Z_one (N := N) hN G (show op ≤ 3 by omega) (show m ≤ 2 * op + 2 by omega) hF hR Z with ⟨k', c', V', σ', τ', r1, r2, r3, r4⟩ | ⟨k', σ', τ', r1, r2, r3, r4⟩
    · rw [r1, q_bz1, r2, Option.bind_some]
      exact Z_loop hN G (show op ≤ 3 by omega) hm hF hR N k' 0 N N V' 0 k c' σ' τ' (by decide) (by omega) r3 (by omega) (by omega) (by omega) r4
    · rw [r1, q_bz0, r2, Option.bind_some, M_f4 (by omega) r4.1, Option.bind_some, M_fK (by omega) r4.1]
      exact Or.inr ⟨k', σ', τ', rfl, rfl, r3, r4⟩
