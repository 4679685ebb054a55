/-! ===== pure: rooms, on the reference's side ===== -/
theorem e_iss16 {N p : Nat} {f : Nat → Nat} {S : q_f} {σ : jw_M} {K4 : Int32 → Int32 → jw_M → Option (Int32 × jw_M)} (hp : p < 6) (hf : ∀ q, q < p + 1 → f q < 100 ∧ σ.1 11 q = nI (f q)) (h3 : σ.1 3 = S) : ∀ (r q k : Nat) (b : Bool), q + r = p → r < k → f_M_isSeating_16 N K4 k (bif b then 1 else 0) (nI p) (nI q) σ = K4 (bif b && q_mt (S (64 + p)) f (f p) r q then 1 else 0) (nI (p + 1)) σ
  | 0, q, k, b, hq, hk => by
    obtain ⟨k, rfl⟩ : ∃ j, k = j + 1 := ⟨k - 1, by omega⟩
    rw [f_M_isSeating_16, if_pos (nI_le (by omega) (by omega)), nI_1]
    cases b <;> rfl
  | r + 1, q, k, b, hq, hk => by
    obtain ⟨k, rfl⟩ : ∃ j, k = j + 1 := ⟨k - 1, by omega⟩
    obtain ⟨f1, f2⟩ := hf q (by omega)
    obtain ⟨f3, f4⟩ := hf p (by omega)
    have ih0 := e_iss16 (N := N) (K4 := K4) hp hf h3 r (q + 1) k false (by omega) (by omega)
    have ih1 := e_iss16 (N := N) (K4 := K4) hp hf h3 r (q + 1) k true (by omega) (by omega)
    rw [cond_false, Bool.false_and, cond_false] at ih0
    rw [cond_true, Bool.true_and] at ih1
    rw [f_M_isSeating_16, if_neg (nI_ge (by omega) (by omega))]
    unfold f_M_isSeating_60 f_M_isSeating_56 f_M_isSeating_61
    rw [nI_1, ih0, ih1, q_in hp (by decide), cond_true, q_in (show q < 6 by omega) (by decide), cond_true, show (64 : Int32) + nI p = nI (64 + p) from nI_add 64 p, q_in (show 64 + p < 526 by omega) (by decide), cond_true, nI_clamp (show p < 2 ^ 31 by omega), nI_clamp (show q < 2 ^ 31 by omega), nI_clamp (show 64 + p < 2 ^ 31 by omega), f2, f4, h3, q_mt]
    cases b
    · rw [cond_false, if_pos rfl, Bool.false_and, cond_false]
    · rw [cond_true, if_neg (show ¬ (1 : Int32) = 0 by decide), Bool.true_and]
      by_cases e : f q = f p
      · rw [if_pos (by rw [e]), decide_eq_true e, Bool.true_and]
        cases g : bt (S (64 + p)) q
        · rw [if_pos ((q_bit0 _ (by omega)).mpr g)]
          rfl
        · rw [if_neg (fun z => by rw [q_bit0 _ (by omega), g] at z; cases z)]
          rfl
      · rw [if_neg (fun z => e ((nI_eq (by omega) (by omega)).mp z).symm), decide_eq_false e]
        rfl
theorem e_iss4 {N M : Nat} {f : Nat → Nat} {S : q_f} {σ : jw_M} (hN : 300 ≤ N) (hM : M ≤ 6) (hf : ∀ q, q < M → f q < 100 ∧ σ.1 11 q = nI (f q)) (h3 : σ.1 3 = S) (h2 : S 2 = nI M) : ∀ (r p k : Nat), p + r = M → r < k → f_M_isSeating_4 N k (bif q_vd (fun p => S (64 + p)) f p then 1 else 0) (nI p) σ = some (bif q_vd (fun p => S (64 + p)) f M then 1 else 0, σ)
  | 0, p, k, hp, hk => by
    obtain ⟨k, rfl⟩ : ∃ j, k = j + 1 := ⟨k - 1, by omega⟩
    rw [f_M_isSeating_4, h3, h2, if_pos (nI_le (by omega) (by omega)), show p = M by omega]
    cases q_vd (fun p => S (64 + p)) f M <;> rfl
  | r + 1, p, k, hp, hk => by
    obtain ⟨k, rfl⟩ : ∃ j, k = j + 1 := ⟨k - 1, by omega⟩
    rw [f_M_isSeating_4, h3, h2, if_neg (nI_ge (by omega) (by omega)), show f_M_isSeating_16 N (f_M_isSeating_4 N k) N _ (nI p) 0 σ = _ from e_iss16 (S := S) (by omega) (fun q hq => hf q (by omega)) h3 p 0 N (q_vd (fun p => S (64 + p)) f p) (by omega) (by omega)]
    exact e_iss4 hN hM hf h3 h2 r (p + 1) k (by omega) (by omega)
theorem e_iss {N M : Nat} {f : Nat → Nat} {S : q_f} {σ : jw_M} (hN : 300 ≤ N) (hM : M ≤ 6) (hf : ∀ q, q < M → f q < 100 ∧ σ.1 11 q = nI (f q)) (h3 : σ.1 3 = S) (h2 : S 2 = nI M) : f_M_isSeating N σ = some (bif q_vd (fun p => S (64 + p)) f M then 1 else 0, σ) := e_iss4 hN hM hf h3 h2 M 0 N (by omega) (by omega)
/-! ===== the next way ===== -/
theorem q_nx1 {b e W : Nat} (hb : 0 < b) (h : W % b ^ e = b ^ e - 1) : W + 1 = b ^ e * (W / b ^ e + 1) := by
  have h1 := Nat.div_add_mod W (b ^ e)
  have hp : 0 < b ^ e := Nat.pow_pos hb
  rw [Nat.mul_add, Nat.mul_one]
  omega
theorem q_nx2 {b e W : Nat} (hb : 0 < b) (h : W % b ^ e = b ^ e - 1) (hd : W / b ^ e % b = b - 1) : W % b ^ (e + 1) = b ^ (e + 1) - 1 := by
  have hp : 0 < b ^ e := Nat.pow_pos hb
  rw [Nat.pow_succ, Nat.mod_mul, h, hd, Nat.mul_sub, Nat.mul_one]
  have : b ^ e ≤ b ^ e * b := Nat.le_mul_of_pos_right _ hb
  omega
theorem q_nx3 {b e W : Nat} (hb : 0 < b) (h : W % b ^ e = b ^ e - 1) : (W + 1) / b ^ e = W / b ^ e + 1 := by
  rw [q_nx1 hb h, Nat.mul_div_cancel_left _ (Nat.pow_pos hb)]
theorem q_nx4 {b K : Nat} (hb : 0 < b) (hK : K % b ≠ b - 1) : (K + 1) / b = K / b ∧ (K + 1) % b = K % b + 1 := by
  have h1 := Nat.div_add_mod K b
  have h2 := Nat.mod_lt K hb
  have e : K + 1 = (K % b + 1) + b * (K / b) := by omega
  rw [e]
  constructor
  · rw [Nat.add_mul_div_left _ _ hb, Nat.div_eq_of_lt (by omega), Nat.zero_add]
  · rw [Nat.add_mul_mod_self_left, Nat.mod_eq_of_lt (by omega)]
theorem q_nx5 {b j K : Nat} (hb : 0 < b) (hK : K < b ^ (j + 1)) (hc : ¬ K % b = b - 1) : K + 1 < b ^ (j + 1) := by
  rcases Nat.lt_or_ge (K + 1) (b ^ (j + 1)) with z | z
  · exact z
  · exfalso
    have e : K + 1 = b ^ (j + 1) := Nat.le_antisymm hK z
    have y := (q_nx4 hb hc).2
    rw [e, Nat.pow_succ, Nat.mul_mod_left] at y
    omega
theorem q_nx6 {b i K s : Nat} (hb : 0 < b) : b ^ (s + (i + 1)) * K / b ^ s % b = 0 := by
  rw [Nat.pow_add, Nat.mul_assoc, Nat.mul_div_cancel_left _ (Nat.pow_pos hb), Nat.pow_succ, Nat.mul_comm (b ^ i) b, Nat.mul_assoc, Nat.mul_mod_right]
theorem e_next9 {N M b W : Nat} {S : q_f} (hM : M ≤ 6) (hb : 0 < b) (hb6 : b ≤ 6) (hW : W < b ^ M) : ∀ (j e k : Nat) (σ : jw_M), j + e = M → j < k → W % b ^ e = b ^ e - 1 → (∀ q, q < j → σ.1 11 q = nI (q_dg b M W q)) → (∀ q, j ≤ q → q < M → σ.1 11 q = 0) → ∃ σ', f_M_isNextWay_9 N k (nI b) (nI j - 1) σ = some (bif decide (W + 1 < b ^ M) then 1 else 0, σ') ∧ (W + 1 < b ^ M → ∀ q, q < M → σ'.1 11 q = nI (q_dg b M (W + 1) q)) ∧ q_fr (fun c _ => c == 11) σ σ'
  | 0, e, k, σ, he, hk, hm, hq, hz => by
    obtain ⟨k, rfl⟩ : ∃ j, k = j + 1 := ⟨k - 1, by omega⟩
    have he : e = M := by omega
    subst he
    rw [Nat.mod_eq_of_lt hW] at hm
    have hp : 0 < b ^ e := Nat.pow_pos hb
    refine ⟨σ, ?_, fun z => absurd z (by omega), q_fr_r _ _⟩
    rw [f_M_isNextWay_9, show nI 0 - 1 = -1 by decide, if_pos (by decide)]
    unfold f_M_isNextWay_38 f_M_isNextWay_52
    rw [if_pos (by decide), if_pos (by decide), decide_eq_false (by omega)]
    rfl
  | j + 1, e, k, σ, he, hk, hm, hq, hz => by
    obtain ⟨k, rfl⟩ : ∃ j, k = j + 1 := ⟨k - 1, by omega⟩
    have ej : q_dg b M W j = W / b ^ e % b := by
      unfold q_dg
      rw [show M - 1 - j = e by omega]
    have hlt : W / b ^ e % b < b := Nat.mod_lt _ hb
    rw [nI_pred, f_M_isNextWay_9, if_neg (nI_pos (by omega)), q_in (show j < 6 by omega) (by decide), cond_true, nI_clamp (show j < 2 ^ 31 by omega), hq j (by omega), ej, show nI b - 1 = nI (b - 1) from pk_sub (b := 1) hb]
    by_cases c : W / b ^ e % b = b - 1
    · rw [if_pos (by rw [c])]
      cases j with
      | zero =>
        obtain ⟨σ', g1, g2, g3⟩ := e_next9 (S := S) (N := N) hM hb hb6 hW 0 (e + 1) k (jx_w σ 11 0 0) (by omega) (by omega) (q_nx2 hb hm c) (fun q h => absurd h (by omega)) (fun q h1 h2 => by
          by_cases z : q = 0
          · rw [z, q_wS]
          · rw [q_wI z]
            exact hz q (by omega) h2)
        refine ⟨σ', ?_, g2, q_fr_t (q_fr_w (q_fr_r _ _) rfl) g3⟩
        rw [show nI 0 + -1 = nI 0 - 1 by decide]
        exact g1
      | succ j =>
        obtain ⟨σ', g1, g2, g3⟩ := e_next9 (S := S) (N := N) hM hb hb6 hW (j + 1) (e + 1) k (jx_w σ 11 (j + 1) 0) (by omega) (by omega) (q_nx2 hb hm c) (fun q h => by rw [q_wI (by omega)]; exact hq q (by omega)) (fun q h1 h2 => by
          by_cases z : q = j + 1
          · rw [z, q_wS]
          · rw [q_wI z]
            exact hz q (by omega) h2)
        refine ⟨σ', ?_, g2, q_fr_t (q_fr_w (q_fr_r _ _) rfl) g3⟩
        rw [pk_m1]
        rw [nI_pred] at g1
        exact g1
    · rw [if_neg (fun z => c ((nI_eq (by omega) (by omega)).mp z))]
      unfold f_M_isNextWay_38 f_M_isNextWay_52
      obtain ⟨n1, n2⟩ := q_nx4 hb c
      have hpe : 0 < b ^ e := Nat.pow_pos hb
      have hK : W / b ^ e < b ^ (j + 1) := by
        rw [Nat.div_lt_iff_lt_mul hpe, ← Nat.pow_add, he]
        exact hW
      have hK2 : W / b ^ e + 1 < b ^ (j + 1) := q_nx5 hb hK c
      have hW1 : W + 1 < b ^ M := by
        rw [q_nx1 hb hm, ← he, Nat.pow_add, Nat.mul_comm (b ^ (j + 1))]
        exact Nat.mul_lt_mul_of_pos_left hK2 hpe
      rw [if_neg (nI_pos (by omega)), if_neg (nI_pos (by omega)), q_in (show j < 6 by omega) (by decide), cond_true, nI_clamp (show j < 2 ^ 31 by omega), hq j (by omega), ej, nI_1, decide_eq_true hW1]
      refine ⟨_, rfl, fun _ q hqM => ?_, q_fr_w (q_fr_r _ _) rfl⟩
      by_cases c1 : q = j
      · rw [c1, q_wS]
        unfold q_dg
        rw [show M - 1 - j = e by omega, q_nx3 hb hm, n2]
      · rw [q_wI c1]
        by_cases c2 : q < j
        · rw [hq q (by omega)]
          unfold q_dg
          rw [show M - 1 - q = e + (1 + (j - 1 - q)) by omega, Nat.pow_add, ← Nat.div_div_eq_div_mul, ← Nat.div_div_eq_div_mul, Nat.pow_add, Nat.pow_one, ← Nat.div_div_eq_div_mul, ← Nat.div_div_eq_div_mul, q_nx3 hb hm, n1]
        · rw [hz q (by omega) hqM]
          unfold q_dg
          have z := q_nx6 (b := b) (i := e - (M - 1 - q) - 1) (s := M - 1 - q) (K := W / b ^ e + 1) hb
          rw [show M - 1 - q + (e - (M - 1 - q) - 1 + 1) = e by omega] at z
          rw [q_nx1 hb hm, z]
          rfl
theorem e_next {N M b W : Nat} {S : q_f} {σ : jw_M} (hN : 300 ≤ N) (hM : M ≤ 6) (hb : 0 < b) (hb6 : b ≤ 6) (hW : W < b ^ M) (h3 : σ.1 3 = S) (h2 : S 2 = nI M) (hq : ∀ q, q < M → σ.1 11 q = nI (q_dg b M W q)) : ∃ σ', f_M_isNextWay N (nI b) σ = some (bif decide (W + 1 < b ^ M) then 1 else 0, σ') ∧ (W + 1 < b ^ M → ∀ q, q < M → σ'.1 11 q = nI (q_dg b M (W + 1) q)) ∧ q_fr (fun c _ => c == 11) σ σ' := by
  unfold f_M_isNextWay
  rw [h3, h2]
  exact e_next9 (S := S) hM hb hb6 hW M 0 N σ (by omega) (by omega) (by rw [Nat.pow_zero, Nat.mod_one]) hq (fun q h1 h2 => absurd h1 (by omega))
theorem e_aif {N : Nat} : ∀ (r p k : Nat) (σ : jw_M), p + r = 6 → r < k → ∃ σ', f_M_allInFirst_2 N k (nI p) σ = some σ' ∧ (∀ q, p ≤ q → q < 6 → σ'.1 11 q = 0) ∧ (∀ q, q < p → σ'.1 11 q = σ.1 11 q) ∧ q_fr (fun c _ => c == 11) σ σ'
  | 0, p, k, σ, hp, hk => by
    obtain ⟨k, rfl⟩ : ∃ j, k = j + 1 := ⟨k - 1, by omega⟩
    refine ⟨σ, ?_, fun q h1 h2 => absurd h1 (by omega), fun _ _ => rfl, q_fr_r _ _⟩
    rw [f_M_allInFirst_2, if_pos (show (6 : Int32) ≤ nI p from nI_le (a := 6) (by omega) (by omega))]
  | r + 1, p, k, σ, hp, hk => by
    obtain ⟨k, rfl⟩ : ∃ j, k = j + 1 := ⟨k - 1, by omega⟩
    obtain ⟨σ', g1, g2, g3, g4⟩ := e_aif (N := N) r (p + 1) k (jx_w σ 11 p 0) (by omega) (by omega)
    refine ⟨σ', ?_, fun q h1 h2 => ?_, fun q h => by rw [g3 q (by omega), q_wI (by omega)], q_fr_t (q_fr_w (q_fr_r _ _) rfl) g4⟩
    · rw [f_M_allInFirst_2, if_neg (show ¬ (6 : Int32) ≤ nI p from nI_ge (b := 6) (by omega) (by decide)), q_in (show p < 6 by omega) (by decide), cond_true, nI_clamp (by omega), nI_1]
      exact g1
    · by_cases e : q = p
      · rw [e, g3 p (by omega), q_wS]
      · exact g2 q (by omega) h2
theorem q_6p {b M : Nat} (hb : b ≤ 6) (hM : M ≤ 6) : b ^ M ≤ 46656 := by
  refine Nat.le_trans (Nat.pow_le_pow_left hb M) ?_
  exact Nat.pow_le_pow_right (n := 6) (by decide) hM
theorem e_fs4 {N M b : Nat} {S : q_f} (hN : 300 ≤ N) (hM : M ≤ 6) (hb : 0 < b) (hb6 : b ≤ 6) (h2 : S 2 = nI M) : ∀ (r W k : Nat) (σ : jw_M), W + r = b ^ M → 0 < r → r < k → σ.1 3 = S → (∀ q, q < M → σ.1 11 q = nI (q_dg b M W q)) → ∃ σ', f_M_isFirstSeating_4 N k (nI b) σ = some (q_is (q_fw (fun W => q_vd (fun p => S (64 + p)) (q_dg b M W) M) r W), σ') ∧ (∀ w, q_fw (fun W => q_vd (fun p => S (64 + p)) (q_dg b M W) M) r W = some w → ∀ q, q < M → σ'.1 11 q = nI (q_dg b M w q)) ∧ q_fr (fun c _ => c == 11) σ σ'
  | 0, _, _, _, _, h, _, _, _ => absurd h (by omega)
  | r + 1, W, k, σ, hW, _, hk, h3, hq => by
    obtain ⟨k, rfl⟩ : ∃ j, k = j + 1 := ⟨k - 1, by omega⟩
    rw [f_M_isFirstSeating_4, e_iss (f := q_dg b M W) hN hM (fun q hq' => ⟨by have := q_dg_lt (M := M) (W := W) (q := q) hb; omega, hq q hq'⟩) h3 h2, q_fw]
    cases hv : q_vd (fun p => S (64 + p)) (q_dg b M W) M
    · rw [cond_false, q_bz0]
      dsimp only
      obtain ⟨τ, t1, t2, t3⟩ := e_next (S := S) hN hM hb hb6 (by omega) h3 h2 hq
      rw [t1, cond_false]
      by_cases c : W + 1 < b ^ M
      · rw [decide_eq_true c, cond_true, q_bz1]
        obtain ⟨ψ, p1, p2, p3⟩ := e_fs4 hN hM hb hb6 h2 r (W + 1) k τ (by omega) (by omega) (by omega) (by rw [← h3]; exact funext fun i => t3.1 3 i rfl) (t2 c)
        exact ⟨ψ, p1, p2, q_fr_t t3 p3⟩
      · rw [decide_eq_false c, cond_false, q_bz0, show r = 0 by omega]
        exact ⟨τ, rfl, (fun w z => by cases z), t3⟩
    · rw [cond_true, q_bz1, cond_true]
      exact ⟨σ, rfl, (fun w z => by cases z; exact hq), q_fr_r _ _⟩
theorem e_fs {N M b : Nat} {S : q_f} {σ : jw_M} (hN : 50000 ≤ N) (hM : M ≤ 6) (hb : 0 < b) (hb6 : b ≤ 6) (h2 : S 2 = nI M) (h3 : σ.1 3 = S) : ∃ σ', f_M_isFirstSeating N (nI b) σ = some (q_is (q_fw (fun W => q_vd (fun p => S (64 + p)) (q_dg b M W) M) (b ^ M) 0), σ') ∧ (∀ w, q_fw (fun W => q_vd (fun p => S (64 + p)) (q_dg b M W) M) (b ^ M) 0 = some w → ∀ q, q < M → σ'.1 11 q = nI (q_dg b M w q)) ∧ q_fr (fun c _ => c == 11) σ σ' := by
  have z6 := q_6p hb6 hM
  unfold f_M_isFirstSeating f_M_allInFirst
  obtain ⟨τ, t1, t2, t3, t4⟩ := e_aif (N := N) 6 0 N σ (by omega) (by omega)
  rw [show f_M_allInFirst_2 N N 0 σ = _ from t1, Option.bind_some]
  obtain ⟨ψ, p1, p2, p3⟩ := e_fs4 (N := N) (S := S) (by omega) hM hb hb6 h2 (b ^ M) 0 N τ (by omega) (Nat.pow_pos hb) (by omega) (by rw [← h3]; exact funext fun i => t4.1 3 i rfl) (fun q hq => by
    rw [t2 q (by omega) (by omega)]
    unfold q_dg
    rw [Nat.zero_div, Nat.zero_mod]
    rfl)
  exact ⟨ψ, p1, p2, q_fr_t t4 p3⟩
theorem e_sts {N M b : Nat} {S : q_f} (hN : 300 ≤ N) (hM : M ≤ 6) (hb : 0 < b) (hb6 : b ≤ 6) (h2 : S 2 = nI M) : ∀ (r W k : Nat) (x : Int32) (σ : jw_M), W + r = b ^ M → 0 < r → r + 1 < k → σ.1 3 = S → (∀ q, q < M → σ.1 11 q = nI (q_dg b M W q)) → ∃ σ', f_M_seatings_19 N k (nI b) x 1 σ = some (q_cn (fun W => q_vd (fun p => S (64 + p)) (q_dg b M W) M) r W x, σ') ∧ q_fr (fun c _ => c == 11) σ σ'
  | 0, _, _, _, _, _, h, _, _, _ => absurd h (by omega)
  | r + 1, W, k, x, σ, hW, _, hk, h3, hq => by
    obtain ⟨k, rfl⟩ : ∃ j, k = j + 1 := ⟨k - 1, by omega⟩
    rw [f_M_seatings_19, if_neg (show ¬ (1 : Int32) = 0 by decide), e_iss (f := q_dg b M W) hN hM (fun q hq' => ⟨by have := q_dg_lt (M := M) (W := W) (q := q) hb; omega, hq q hq'⟩) h3 h2, q_cn]
    unfold f_M_seatings_36
    obtain ⟨τ, t1, t2, t3⟩ := e_next (S := S) hN hM hb hb6 (show W < b ^ M by omega) h3 h2 hq
    have h3' : τ.1 3 = S := by rw [← h3]; exact funext fun i => t3.1 3 i rfl
    have fin : ∀ y : Int32, ∃ σ', f_M_seatings_19 N k (nI b) y (bif decide (W + 1 < b ^ M) then 1 else 0) τ = some (q_cn (fun W => q_vd (fun p => S (64 + p)) (q_dg b M W) M) r (W + 1) y, σ') ∧ q_fr (fun c _ => c == 11) σ σ' := by
      intro y
      by_cases c : W + 1 < b ^ M
      · rw [decide_eq_true c, cond_true]
        obtain ⟨ψ, p1, p3⟩ := e_sts hN hM hb hb6 h2 r (W + 1) k y τ (by omega) (by omega) (by omega) h3' (t2 c)
        exact ⟨ψ, p1, q_fr_t t3 p3⟩
      · obtain ⟨k, rfl⟩ : ∃ j, k = j + 1 := ⟨k - 1, by omega⟩
        rw [decide_eq_false c, cond_false, f_M_seatings_19, if_pos rfl, show r = 0 by omega]
        exact ⟨τ, rfl, t3⟩
    cases hv : q_vd (fun p => S (64 + p)) (q_dg b M W) M
    · rw [cond_false, q_bz0]
      dsimp only
      rw [t1, Option.bind_some, cond_false, Int32.add_zero]
      exact fin x
    · rw [cond_true, q_bz1]
      dsimp only
      rw [t1, Option.bind_some, cond_true]
      exact fin (x + 1)
/-! ===== both ===== -/
theorem q_f79 (c i : Nat) (z : q_cO c i ∨ (1 ≤ c ∧ c ≤ 29 ∧ (c ≠ 26 ∨ 5 ≤ i))) : (c == 79) = false := by
  unfold q_cO at z
  simp
  omega
theorem q_f11 (c i : Nat) (z : q_mO c i ∨ c = 3) : (c == 11) = false := by
  unfold q_mO at z
  simp
  omega
theorem u_seatings {N : Nat} (hN : 50000 ≤ N) {x : Int32} : q_U (f_F_seatings N x) (f_M_seatings N x) := by
  intro σC σM hR
  obtain ⟨⟨L, n, m, d, h, t, hw, hq, ht, hRM, hr, hS, hP⟩, hO⟩ := id hR
  have en : σC.1 1 0 = nI n := by rw [show σC.1 1 0 = _ from hS.1 0 0 2 rfl]; exact hw.2.2.2.2.1
  unfold f_F_seatings f_M_seatings
  by_cases c : x < 1 ∨ 4 < x
  · rw [e_win0 c, e_in0 c, q_bz0, q_bz0]
    exact ⟨_, σC, σM, rfl, rfl, hR⟩
  · rw [e_win1 c, e_in1 c, q_bz1, q_bz1]
    dsimp only
    obtain ⟨b, b1, b4, rfl⟩ := q_num 1 4 c
    have z6 := q_6p (b := b) (by omega) hw.1
    obtain ⟨τ, t1, t2⟩ := e_count (N := N) (Q := fun p => σM.1 3 (64 + p)) (b := b) (by omega) hw.1 (by omega) n 0 0 64 σC (by omega) (by have := hw.1; omega) en (fun p hp => hS.1 4 p _ (q_js_q hp)) (fun q hq => absurd hq (by omega)) rfl
    rw [Nat.zero_mul] at t1
    rw [show f_F_countSeatings N 64 0 (nI b) σC = _ from t1, Option.bind_some]
    unfold f_M_allInFirst
    obtain ⟨ρ, r1, r2, r3, r4⟩ := e_aif (N := N) 6 0 N σM (by omega) (by omega)
    rw [show f_M_allInFirst_2 N N 0 σM = _ from r1, Option.bind_some]
    obtain ⟨ψ, p1, p3⟩ := e_sts (N := N) (S := σM.1 3) (b := b) (by omega) hw.1 (show 0 < b by omega) (show b ≤ 6 by omega) hw.2.2.2.2.1 (b ^ n) 0 N 0 ρ (by omega) (Nat.pow_pos (by omega)) (by omega) (funext fun i => r4.1 3 i rfl) (fun q hq => by
      rw [r2 q (by omega) (by have := hw.1; omega)]
      unfold q_dg
      rw [Nat.zero_div, Nat.zero_mod]
      rfl)
    rw [p1]
    refine ⟨_, τ, ψ, rfl, rfl, q_R_tf hR (q_fr_m t2 (fun c i z => by simp at z ⊢; omega) : q_fr (fun c _ => c == 79) σC τ) ?_ (q_fr_t r4 p3) q_f79 q_f11⟩
    funext i
    exact (q_fr_t r4 p3).1 1 i rfl
/-! ===== a seating with as many rooms as shadows ===== -/
def q_idw (M : Nat) : Nat := if M = 1 then 0 else if M = 2 then 1 else if M = 3 then 5 else if M = 4 then 27 else if M = 5 then 194 else 1865
theorem q_idT : ∀ M, M < 7 → 0 < M → (decide (q_idw M < M ^ M) && (List.range M).all (fun q => decide (q_dg M M (q_idw M) q = q))) = true := by decide +kernel
theorem q_mt_id {Qk : Int32} {f : Nat → Nat} {c : Nat} : ∀ (r q : Nat), (∀ j, q ≤ j → j < q + r → f j ≠ c) → q_mt Qk f c r q = true
  | 0, _, _ => rfl
  | r + 1, q, h => by
    rw [q_mt, decide_eq_false (h q (by omega) (by omega)), q_mt_id r (q + 1) (fun j h1 h2 => h j (by omega) (by omega))]
    rfl
theorem q_vd_id {Q : Nat → Int32} {f : Nat → Nat} : ∀ (k : Nat), (∀ j, j < k → f j = j) → q_vd Q f k = true
  | 0, _ => rfl
  | k + 1, h => by
    rw [q_vd, q_vd_id k (fun j hj => h j (by omega)), q_mt_id k 0 (fun j h1 h2 => by rw [h j (by omega), h k (by omega)]; omega)]
    rfl
theorem q_idF {Q : Nat → Int32} {M : Nat} (h0 : 0 < M) (h6 : M ≤ 6) : q_fw (fun W => q_vd Q (q_dg M M W) M) (M ^ M) 0 ≠ none := by
  have z := q_idT M (by omega) h0
  rw [Bool.and_eq_true, List.all_eq_true] at z
  exact q_fw_e (w := q_idw M) _ _ (by omega) (by have := of_decide_eq_true z.1; omega) (q_vd_id M (fun j hj => of_decide_eq_true (z.2 j (List.mem_range.mpr hj))))
theorem e_rooms {N n m : Nat} {S : q_f} {L : q_L} (hN : 50000 ≤ N) (h0 : 0 < n) (h6 : n ≤ 6) (h2 : S 2 = nI n) : ∀ (r b k k2 : Nat) (σC σM : jw_M), b + r = n → 0 < b → r < k → r < k2 → q_SC 1 σC S L m → σM.1 3 = S → ∃ x σC' σM', f_F_fewestRooms_2 N k (nI b) σC = some (x, σC') ∧ f_M_rooms_13 N k2 (nI b) σM = some (x, σM') ∧ (∀ q, q < n → σC'.1 79 q = σM'.1 11 q) ∧ q_fr (fun c _ => c == 79) σC σC' ∧ q_fr (fun c _ => c == 11) σM σM' := by
  intro r
  induction r with
  | zero =>
    intro b k k2 σC σM hb b0 hk hk2 hS h3
    obtain ⟨k, rfl⟩ : ∃ j, k = j + 1 := ⟨k - 1, by omega⟩
    obtain ⟨k2, rfl⟩ : ∃ j, k2 = j + 1 := ⟨k2 - 1, by omega⟩
    have en : σC.1 1 0 = nI n := by rw [show σC.1 1 0 = _ from hS.1 0 0 2 rfl]; exact h2
    obtain ⟨τ, t1, t2, t3⟩ := e_find (N := N) (Q := fun p => S (64 + p)) (b := b) (by omega) h6 (by omega) n 0 0 64 σC (by omega) (by omega) en (fun p hp => hS.1 4 p _ (q_js_q hp)) (fun q hq => absurd hq (by omega)) (fun z => absurd z (by omega)) rfl
    obtain ⟨ψ, p1, p2, p3⟩ := e_fs (N := N) (S := S) hN h6 b0 (by omega) h2 h3
    rw [Nat.zero_mul] at t1 t2
    have hbn : b = n := by omega
    subst hbn
    cases ho : q_fw (fun W => q_vd (fun p => S (64 + p)) (q_dg b b W) b) (b ^ b) 0 with
    | none => exact absurd ho (q_idF h0 h6)
    | some w =>
      rw [ho] at t1 p1
      rw [f_F_fewestRooms_2, if_neg (show ¬ (6 : Int32) < nI b from nI_nlt (a := 6) (by omega) (by decide)), show f_F_findSeats N 64 0 (nI b) σC = _ from t1, Option.bind_some, f_M_rooms_13, p1, Option.bind_some]
      dsimp only
      rw [show q_is (some w) = 1 from rfl, if_neg (by decide), if_neg (by decide)]
      exact ⟨_, τ, ψ, rfl, rfl, fun q hq => by rw [t2 w ho q hq, p2 w ho q hq], q_fr_m t3 (fun c i z => by simp at z ⊢; omega), p3⟩
  | succ r ih =>
    intro b k k2 σC σM hb b0 hk hk2 hS h3
    obtain ⟨k, rfl⟩ : ∃ j, k = j + 1 := ⟨k - 1, by omega⟩
    obtain ⟨k2, rfl⟩ : ∃ j, k2 = j + 1 := ⟨k2 - 1, by omega⟩
    have en : σC.1 1 0 = nI n := by rw [show σC.1 1 0 = _ from hS.1 0 0 2 rfl]; exact h2
    obtain ⟨τ, t1, t2, t3⟩ := e_find (N := N) (Q := fun p => S (64 + p)) (b := b) (by omega) h6 (by omega) n 0 0 64 σC (by omega) (by omega) en (fun p hp => hS.1 4 p _ (q_js_q hp)) (fun q hq => absurd hq (by omega)) (fun z => absurd z (by omega)) rfl
    obtain ⟨ψ, p1, p2, p3⟩ := e_fs (N := N) (S := S) hN h6 b0 (by omega) h2 h3
    rw [Nat.zero_mul] at t1 t2
    have fC : q_fr (fun c _ => c == 79) σC τ := q_fr_m t3 (fun c i z => by simp at z ⊢; omega)
    rw [f_F_fewestRooms_2, if_neg (show ¬ (6 : Int32) < nI b from nI_nlt (a := 6) (by omega) (by decide)), show f_F_findSeats N 64 0 (nI b) σC = _ from t1, Option.bind_some, f_M_rooms_13, p1, Option.bind_some]
    dsimp only
    cases ho : q_fw (fun W => q_vd (fun p => S (64 + p)) (q_dg b n W) n) (b ^ n) 0 with
    | none =>
      rw [show q_is none = 0 from rfl, if_pos rfl, if_pos rfl, nI_1]
      obtain ⟨x, τ2, ψ2, g1, g2, g3, g4, g5⟩ := ih (b + 1) k k2 τ ψ (by omega) (by omega) (by omega) (by omega) (q_SC_k hS (fun c i h1 h2 => fC.1 _ _ (by simp; omega))) (by rw [← h3]; exact funext fun i => p3.1 3 i rfl)
      exact ⟨x, τ2, ψ2, g1, g2, g3, q_fr_t fC g4, q_fr_t p3 g5⟩
    | some w =>
      rw [show q_is (some w) = 1 from rfl, if_neg (by decide), if_neg (by decide)]
      exact ⟨_, τ, ψ, rfl, rfl, fun q hq => by rw [t2 w ho q hq, p2 w ho q hq], fC, p3⟩
theorem e_rooms' {N n m d h t : Nat} {L : q_L} {σC σM : jw_M} (hN : 50000 ≤ N) (H : q_AA 1 σC (σM.1 3) (σM.1 1) L n m d h t) : ∃ x σC' σM', f_F_fewestRooms N σC = some (x, σC') ∧ f_M_rooms N σM = some (x, σM') ∧ (∀ q, q < n → σC'.1 79 q = σM'.1 11 q) ∧ q_fr (fun c _ => c == 79) σC σC' ∧ q_fr (fun c _ => c == 11) σM σM' := by
  obtain ⟨hw, hq, ht, hRM, hr, hS, hP⟩ := H
  have hn := hw.1
  have en : σC.1 1 0 = nI n := by rw [show σC.1 1 0 = _ from hS.1 0 0 2 rfl]; exact hw.2.2.2.2.1
  obtain ⟨M, rfl⟩ : ∃ M, N = M + 1 := ⟨N - 1, by omega⟩
  unfold f_F_fewestRooms f_M_rooms
  rw [f_F_fewestRooms_2, if_neg (by decide), hw.2.2.2.2.1]
  obtain ⟨τ, t1, t2, t3⟩ := e_find (N := M + 1) (Q := fun p => σM.1 3 (64 + p)) (b := 0) (by omega) hn (by omega) n 0 0 64 σC (by omega) (by omega) en (fun p hp => hS.1 4 p _ (q_js_q hp)) (fun q hq => absurd hq (by omega)) (fun z => absurd z (by omega)) rfl
  have fC : q_fr (fun c _ => c == 79) σC τ := q_fr_m t3 (fun c i z => by simp at z ⊢; omega)
  rw [show f_F_findSeats (M + 1) 64 0 0 σC = _ from t1, Option.bind_some]
  dsimp only
  by_cases c : n = 0
  · subst c
    rw [if_pos (show nI 0 = 0 from rfl), Nat.pow_zero, q_fw]
    show ∃ x σC' σM', (if q_is (bif q_vd _ _ 0 then _ else _) = 0 then _ else _) = _ ∧ _
    rw [show ∀ (Q : Nat → Int32) (f : Nat → Nat), q_vd Q f 0 = true from fun _ _ => rfl, cond_true, show q_is (some (0 * 1)) = 1 from rfl, if_neg (by decide)]
    exact ⟨_, τ, σM, rfl, rfl, fun q hq => absurd hq (by omega), fC, q_fr_r _ _⟩
  · rw [if_neg (nI_ne0 (by omega) (by omega)), Nat.zero_pow (by omega), q_fw, show q_is none = 0 from rfl, if_pos rfl]
    obtain ⟨x, τ2, ψ2, g1, g2, g3, g4, g5⟩ := e_rooms (N := M + 1) (S := σM.1 3) (L := L) (m := m) hN (by omega) hn hw.2.2.2.2.1 (n - 1) 1 M (M + 1) τ σM (by omega) (by omega) (by omega) (by omega) (q_SC_k hS (fun c i h1 h2 => fC.1 _ _ (by simp; omega))) rfl
    exact ⟨x, τ2, ψ2, g1, g2, g3, q_fr_t fC g4, g5⟩
theorem u_rooms {N : Nat} (hN : 50000 ≤ N) : q_U (f_F_rooms N) (f_M_rooms N) := by
  intro σC σM hR
  obtain ⟨⟨L, n, m, d, h, t, H⟩, hO⟩ := id hR
  unfold f_F_rooms
  obtain ⟨x, τ, ψ, g1, g2, g3, g4, g5⟩ := e_rooms' hN H
  rw [g1, g2, Option.bind_some]
  exact ⟨x, τ, ψ, rfl, rfl, q_R_tf hR g4 (funext fun i => g5.1 1 i rfl) g5 q_f79 q_f11⟩
theorem u_seat {N : Nat} (hN : 50000 ≤ N) {x : Int32} : q_U (f_F_seat N x) (f_M_seat N x) := by
  intro σC σM hR
  obtain ⟨⟨L, n, m, d, h, t, H⟩, hO⟩ := id hR
  obtain ⟨hw, hq, ht, hRM, hr, hS, hP⟩ := id H
  have hn := hw.1
  have en : σC.1 1 0 = nI n := by rw [show σC.1 1 0 = _ from hS.1 0 0 2 rfl]; exact hw.2.2.2.2.1
  unfold f_F_seat f_M_seat
  rcases q_shD (N := N) (x := x) en hw.2.2.2.2.1 hw.1 with ⟨a, b⟩ | ⟨p, hp, rfl, a, b⟩
  · rw [a, b, q_bz0, q_bz0]
    exact ⟨_, σC, σM, rfl, rfl, hR⟩
  · rw [a, b, q_bz1, q_bz1]
    dsimp only
    obtain ⟨x, τ, ψ, g1, g2, g3, g4, g5⟩ := e_rooms' hN H
    rw [g1, g2, Option.bind_some, Option.bind_some, q_in (show p < 6 by omega) (by decide), cond_true, cond_true, nI_clamp (by omega), g3 p hp]
    exact ⟨_, τ, ψ, rfl, rfl, q_R_tf hR g4 (funext fun i => g5.1 1 i rfl) g5 q_f79 q_f11⟩
