/-! ===== pure: rooms, seat, seatings ===== -/
def q_mt (Qk : Int32) (f : Nat → Nat) (c : Nat) : Nat → Nat → Bool
  | 0, _ => true
  | r + 1, q => !(decide (f q = c) && bt Qk q) && q_mt Qk f c r (q + 1)
def q_vd (Q : Nat → Int32) (f : Nat → Nat) : Nat → Bool
  | 0 => true
  | k + 1 => q_vd Q f k && q_mt (Q k) f (f k) k 0
def q_dg (b M W q : Nat) : Nat := W / b ^ (M - 1 - q) % b
theorem q_mt_cg {Qk : Int32} {f g : Nat → Nat} {c : Nat} : ∀ (r q : Nat), (∀ j, q ≤ j → j < q + r → f j = g j) → q_mt Qk f c r q = q_mt Qk g c r q
  | 0, _, _ => rfl
  | r + 1, q, h => by rw [q_mt, q_mt, h q (by omega) (by omega), q_mt_cg r (q + 1) (fun j h1 h2 => h j (by omega) (by omega))]
theorem q_vd_cg {Q : Nat → Int32} {f g : Nat → Nat} : ∀ (k : Nat), (∀ j, j < k → f j = g j) → q_vd Q f k = q_vd Q g k
  | 0, _ => rfl
  | k + 1, h => by rw [q_vd, q_vd, q_vd_cg k (fun j hj => h j (by omega)), h k (by omega), q_mt_cg k 0 (fun j h1 h2 => h j (by omega))]
theorem q_vd_mono {Q : Nat → Int32} {f : Nat → Nat} : ∀ (k j : Nat), j ≤ k → q_vd Q f k = true → q_vd Q f j = true
  | 0, j, hj, h => by rw [show j = 0 by omega]; exact h
  | k + 1, j, hj, h => by
    by_cases e : j = k + 1
    · rw [e]; exact h
    · rw [q_vd, Bool.and_eq_true] at h
      exact q_vd_mono k j (by omega) h.1
theorem q_dg_p {b M W q dp P : Nat} (hq : q < dp) (hd : dp ≤ M) (hP : W / b ^ (M - dp) = P) : q_dg b M W q = q_dg b dp P q := by
  unfold q_dg
  rw [← hP, Nat.div_div_eq_div_mul, ← Nat.pow_add, show M - dp + (dp - 1 - q) = M - 1 - q by omega]
theorem q_bad {Q : Nat → Int32} {b M W dp P : Nat} (hd : dp ≤ M) (hP : W / b ^ (M - dp) = P) (h : q_vd Q (q_dg b dp P) dp = false) : q_vd Q (q_dg b M W) M = false := by
  cases e : q_vd Q (q_dg b M W) M
  · rfl
  · have z := q_vd_mono M dp hd e
    rw [q_vd_cg dp (fun j hj => q_dg_p hj hd hP), h] at z
    exact absurd z (by decide)
def q_cn (v : Nat → Bool) : Nat → Nat → Int32 → Int32
  | 0, _, x => x
  | k + 1, p, x => q_cn v k (p + 1) (bif v p then x + 1 else x)
theorem q_cn_add {v : Nat → Bool} : ∀ (k j p : Nat) (x : Int32), q_cn v (k + j) p x = q_cn v j (p + k) (q_cn v k p x)
  | 0, j, p, x => by rw [Nat.zero_add]; rfl
  | k + 1, j, p, x => by
    rw [show k + 1 + j = (k + j) + 1 by omega, q_cn, q_cn, q_cn_add k j (p + 1), show p + 1 + k = p + (k + 1) by omega]
theorem q_cn_0 {v : Nat → Bool} : ∀ (k p : Nat) (x : Int32), (∀ j, p ≤ j → j < p + k → v j = false) → q_cn v k p x = x
  | 0, _, _, _ => rfl
  | k + 1, p, x, h => by
    rw [q_cn, h p (by omega) (by omega), cond_false]
    exact q_cn_0 k (p + 1) x (fun j h1 h2 => h j (by omega) (by omega))
theorem q_cn_x {v : Nat → Bool} : ∀ (k p : Nat) (x y : Int32), q_cn v k p (x + y) = x + q_cn v k p y
  | 0, _, _, _ => rfl
  | k + 1, p, x, y => by
    rw [q_cn, q_cn]
    cases v p
    · rw [cond_false, cond_false]
      exact q_cn_x k (p + 1) x y
    · rw [cond_true, cond_true, Int32.add_assoc]
      exact q_cn_x k (p + 1) x (y + 1)
def q_fw (v : Nat → Bool) : Nat → Nat → Option Nat
  | 0, _ => none
  | k + 1, p => bif v p then some p else q_fw v k (p + 1)
theorem q_fw_s {v : Nat → Bool} {w : Nat} : ∀ (k j p : Nat), q_fw v k p = some w → q_fw v (k + j) p = some w
  | 0, _, _, h => by cases h
  | k + 1, j, p, h => by
    rw [q_fw] at h
    rw [show k + 1 + j = (k + j) + 1 by omega, q_fw]
    cases e : v p
    · rw [e, cond_false] at h
      rw [cond_false]
      exact q_fw_s k j (p + 1) h
    · rw [e, cond_true] at h
      rw [cond_true]
      exact h
theorem q_fw_n {v : Nat → Bool} : ∀ (k j p : Nat), q_fw v k p = none → q_fw v (k + j) p = q_fw v j (p + k)
  | 0, j, p, _ => by rw [Nat.zero_add]; rfl
  | k + 1, j, p, h => by
    rw [q_fw] at h
    rw [show k + 1 + j = (k + j) + 1 by omega, q_fw]
    cases e : v p
    · rw [e, cond_false] at h
      rw [cond_false, q_fw_n k j (p + 1) h, show p + 1 + k = p + (k + 1) by omega]
    · rw [e, cond_true] at h
      cases h
theorem q_fw_0 {v : Nat → Bool} : ∀ (k p : Nat), (∀ j, p ≤ j → j < p + k → v j = false) → q_fw v k p = none
  | 0, _, _ => rfl
  | k + 1, p, h => by
    rw [q_fw, h p (by omega) (by omega), cond_false]
    exact q_fw_0 k (p + 1) (fun j h1 h2 => h j (by omega) (by omega))
theorem q_fw_e {v : Nat → Bool} {w : Nat} : ∀ (k p : Nat), p ≤ w → w < p + k → v w = true → q_fw v k p ≠ none
  | 0, _, h1, h2, _ => absurd h2 (by omega)
  | k + 1, p, h1, h2, h3 => by
    rw [q_fw]
    cases e : v p
    · rw [cond_false]
      exact q_fw_e k (p + 1) (by
        by_cases z : w = p
        · rw [z, e] at h3; cases h3
        · omega) (by omega) h3
    · rw [cond_true]
      intro z
      cases z
def q_is (o : Option Nat) : Int32 := bif o.isSome then 1 else 0
/-! ===== the class's ===== -/
theorem e_may2 {N dp c : Nat} {f : Nat → Nat} {Qk : Int32} {σ : jw_M} (hdp : dp < 6) (hc : c < 100) (hf : ∀ q, q < dp → f q < 100 ∧ σ.1 79 q = nI (f q)) (hQ : σ.1 5 dp = Qk) : ∀ (r q k : Nat), q + r = dp → r < k → f_F_mayTake_2 N k (nI dp) (nI c) (nI q) σ = some (bif q_mt Qk f c r q then 1 else 0, σ)
  | 0, q, k, hq, hk => by
    obtain ⟨k, rfl⟩ : ∃ j, k = j + 1 := ⟨k - 1, by omega⟩
    rw [f_F_mayTake_2, if_pos (nI_le (by omega) (by omega))]
    rfl
  | r + 1, q, k, hq, hk => by
    obtain ⟨k, rfl⟩ : ∃ j, k = j + 1 := ⟨k - 1, by omega⟩
    obtain ⟨f1, f2⟩ := hf q (by omega)
    have ih := e_may2 (N := N) hdp hc hf hQ r (q + 1) k (by omega) (by omega)
    rw [f_F_mayTake_2, if_neg (nI_ge (by omega) (by omega)), q_in (show q < 6 by omega) (by decide), cond_true, q_in hdp (by decide), cond_true, nI_clamp (show q < 2 ^ 31 by omega), nI_clamp (show dp < 2 ^ 31 by omega), f2, hQ, q_mt]
    unfold f_F_mayTake_36
    rw [nI_1, ih]
    by_cases e : f q = c
    · rw [if_pos (by rw [e]), decide_eq_true e, Bool.true_and]
      cases g : bt Qk q
      · rw [if_neg (fun z => by rw [q_bit1 _ (by omega), g] at z; cases z)]
        rfl
      · rw [if_pos ((q_bit1 _ (by omega)).mpr g)]
        rfl
    · rw [if_neg (fun z => e ((nI_eq (by omega) (by omega)).mp z)), decide_eq_false e]
      rfl
theorem q_dg_lt {b M W q : Nat} (hb : 0 < b) : q_dg b M W q < b := Nat.mod_lt _ hb
/-- a child of a node -/
theorem q_vd_ch {Q : Nat → Int32} {b dp P a : Nat} (ha : a < b) (hP : q_vd Q (q_dg b dp P) dp = true) : q_vd Q (q_dg b (dp + 1) (P * b + a)) (dp + 1) = q_mt (Q dp) (q_dg b dp P) a dp 0 ∧ ∀ j, j < dp + 1 → q_dg b (dp + 1) (P * b + a) j = if j = dp then a else q_dg b dp P j := by
  have e1 : ∀ j, j < dp → q_dg b (dp + 1) (P * b + a) j = q_dg b dp P j := fun j hj => q_ch_d (by omega) ha hj
  have e2 : q_dg b (dp + 1) (P * b + a) dp = a := by
    unfold q_dg
    rw [show dp + 1 - 1 - dp = 0 by omega, Nat.pow_zero, Nat.div_one, q_ch_r ha]
  refine ⟨?_, fun j hj => ?_⟩
  · rw [q_vd, q_vd_cg dp e1, hP, Bool.true_and, e2, q_mt_cg dp 0 (fun j h1 h2 => e1 j (by omega))]
  · by_cases e : j = dp
    · rw [if_pos e, e, e2]
    · rw [if_neg e, e1 j (by omega)]
/-- all leaves under a node -/
theorem q_leaf {b e P j : Nat} (hj1 : P * b ^ e ≤ j) (hj2 : j < P * b ^ e + b ^ e) : j / b ^ e = P := by
  have hb : 0 < b ^ e := by omega
  obtain ⟨i, rfl⟩ : ∃ i, j = i + P * b ^ e := ⟨j - P * b ^ e, by omega⟩
  rw [Nat.add_mul_div_right _ _ hb, Nat.div_eq_of_lt (by omega), Nat.zero_add]
theorem e_find {N M b : Nat} {Q : Nat → Int32} (hN : 300 ≤ N) (hM : M ≤ 6) (hb : b ≤ 6) : ∀ (e dp P r : Nat) (σ : jw_M), dp + e = M → e < r → σ.1 1 0 = nI M → (∀ p, p < 6 → σ.1 5 p = Q p) → (∀ q, q < dp → σ.1 79 q = nI (q_dg b dp P q)) → (0 < dp → 0 < b) → q_vd Q (q_dg b dp P) dp = true → ∃ σ', f_F_findSeats N r (nI dp) (nI b) σ = some (q_is (q_fw (fun W => q_vd Q (q_dg b M W) M) (b ^ e) (P * b ^ e)), σ') ∧ (∀ w, q_fw (fun W => q_vd Q (q_dg b M W) M) (b ^ e) (P * b ^ e) = some w → ∀ q, q < M → σ'.1 79 q = nI (q_dg b M w q)) ∧ q_fr (fun c i => c == 79 && decide (dp ≤ i)) σ σ' := by
  intro e
  induction e with
  | zero =>
    intro dp P r σ hdp hr h0 hQ hc hb0 hv
    obtain ⟨r, rfl⟩ : ∃ j, r = j + 1 := ⟨r - 1, by omega⟩
    have hdp : dp = M := by omega
    subst hdp
    rw [f_F_findSeats, h0, if_neg (nI_nlt (by omega) (by omega)), Nat.pow_zero, Nat.mul_one, q_fw, hv, cond_true]
    exact ⟨σ, rfl, fun w z => by cases z; exact hc, q_fr_r _ _⟩
  | succ e ih =>
    intro dp P r σ hdp hr h0 hQ hc hb0 hv
    obtain ⟨r, rfl⟩ : ∃ j, r = j + 1 := ⟨r - 1, by omega⟩
    have loop : ∀ (c a k : Nat) (σ : jw_M), a + c = b → c < k → σ.1 1 0 = nI M → (∀ p, p < 6 → σ.1 5 p = Q p) → (∀ q, q < dp → σ.1 79 q = nI (q_dg b dp P q)) → ∃ σ', f_F_findSeats_15 N (f_F_findSeats N r) k (nI dp) (nI b) (nI a) σ = some (q_is (q_fw (fun W => q_vd Q (q_dg b M W) M) (c * b ^ e) ((P * b + a) * b ^ e)), σ') ∧ (∀ w, q_fw (fun W => q_vd Q (q_dg b M W) M) (c * b ^ e) ((P * b + a) * b ^ e) = some w → ∀ q, q < M → σ'.1 79 q = nI (q_dg b M w q)) ∧ q_fr (fun c i => c == 79 && decide (dp ≤ i)) σ σ' := by
      intro c
      induction c with
      | zero =>
        intro a k σ ha hk h0 hQ hc
        obtain ⟨k, rfl⟩ : ∃ j, k = j + 1 := ⟨k - 1, by omega⟩
        rw [f_F_findSeats_15, if_pos (nI_le (by omega) (by omega)), Nat.zero_mul]
        exact ⟨σ, rfl, (fun w z => by cases z), q_fr_r _ _⟩
      | succ c ihc =>
        intro a k σ ha hk h0 hQ hc
        obtain ⟨k, rfl⟩ : ∃ j, k = j + 1 := ⟨k - 1, by omega⟩
        have hb0 : 0 < b := by omega
        have e1 : (c + 1) * b ^ e = b ^ e + c * b ^ e := by rw [Nat.succ_mul, Nat.add_comm]
        have e2 : (P * b + a) * b ^ e + b ^ e = (P * b + (a + 1)) * b ^ e := by rw [← Nat.succ_mul]; rfl
        obtain ⟨v1, v2⟩ := q_vd_ch (Q := Q) (b := b) (dp := dp) (P := P) (a := a) (by omega) hv
        have em : f_F_mayTake N (nI dp) (nI a) σ = some (bif q_mt (Q dp) (q_dg b dp P) a dp 0 then 1 else 0, σ) := e_may2 (by omega) (by omega) (fun q hq => ⟨by have := q_dg_lt (M := dp) (W := P) (q := q) hb0; omega, hc q hq⟩) (hQ dp (by omega)) dp 0 N (by omega) (by omega)
        rw [f_F_findSeats_15, if_neg (nI_ge (by omega) (by omega)), em, e1]
        unfold f_F_findSeats_49
        cases hm : q_mt (Q dp) (q_dg b dp P) a dp 0
        · rw [hm] at v1
          have none1 : q_fw (fun W => q_vd Q (q_dg b M W) M) (b ^ e) ((P * b + a) * b ^ e) = none := q_fw_0 _ _ (fun j h1 h2 => q_bad (dp := dp + 1) (by omega) (by rw [show M - (dp + 1) = e by omega]; exact q_leaf h1 h2) v1)
          rw [cond_false, q_bz0, q_fw_n _ _ _ none1, e2, nI_1]
          exact ihc (a + 1) k σ (by omega) (by omega) h0 hQ hc
        · rw [hm] at v1
          rw [cond_true, q_bz1, q_in (show dp < 6 by omega) (by decide), cond_true, nI_clamp (show dp < 2 ^ 31 by omega), nI_1]
          dsimp only
          obtain ⟨τ, t1, t2, t3⟩ := ih (dp + 1) (P * b + a) r (jx_w σ 79 dp (nI a)) (by omega) (by omega) (by rw [q_wC (by decide)]; exact h0) (fun p hp => by rw [q_wC (by decide)]; exact hQ p hp) (fun q hq => by
            rw [v2 q hq]
            by_cases eq : q = dp
            · rw [if_pos eq, eq, q_wS]
            · rw [if_neg eq, q_wI eq]
              exact hc q (by omega)) (fun _ => hb0) v1
          rw [t1, Option.bind_some]
          dsimp only
          have fr1 : q_fr (fun c i => c == 79 && decide (dp ≤ i)) σ τ := q_fr_t (q_fr_w (q_fr_r _ _) (by simp)) (q_fr_m t3 (fun c i z => by simp at z ⊢; omega))
          cases ho : q_fw (fun W => q_vd Q (q_dg b M W) M) (b ^ e) ((P * b + a) * b ^ e) with
          | none =>
            rw [show q_is none = 0 from rfl, if_pos rfl, q_fw_n _ _ _ ho, e2, nI_1]
            obtain ⟨ψ, p1, p2, p3⟩ := ihc (a + 1) k τ (by omega) (by omega) (by rw [fr1.1 1 0 (by simp)]; exact h0) (fun p hp => by rw [fr1.1 5 p (by simp)]; exact hQ p hp) (fun q hq => by rw [fr1.1 79 q (by simp; omega)]; exact hc q hq)
            exact ⟨ψ, p1, p2, q_fr_t fr1 p3⟩
          | some w =>
            rw [show q_is (some w) = 1 from rfl, if_neg (by decide), q_fw_s _ _ _ ho]
            exact ⟨τ, rfl, fun w' z => by cases z; exact t2 w ho, fr1⟩
    rw [f_F_findSeats, h0, if_pos (nI_lt (by omega) (by omega)), Nat.pow_succ, Nat.mul_comm (b ^ e) b, ← Nat.mul_assoc]
    obtain ⟨σ', g1, g2, g3⟩ := loop b 0 N σ (by omega) (by omega) h0 hQ hc
    rw [Nat.add_zero] at g1 g2
    exact ⟨σ', g1, g2, g3⟩
theorem e_count {N M b : Nat} {Q : Nat → Int32} (hN : 300 ≤ N) (hM : M ≤ 6) (hb : b ≤ 6) : ∀ (e dp P r : Nat) (σ : jw_M), dp + e = M → e < r → σ.1 1 0 = nI M → (∀ p, p < 6 → σ.1 5 p = Q p) → (∀ q, q < dp → σ.1 79 q = nI (q_dg b dp P q)) → q_vd Q (q_dg b dp P) dp = true → ∃ σ', f_F_countSeatings N r (nI dp) (nI b) σ = some (q_cn (fun W => q_vd Q (q_dg b M W) M) (b ^ e) (P * b ^ e) 0, σ') ∧ q_fr (fun c i => c == 79 && decide (dp ≤ i)) σ σ' := by
  intro e
  induction e with
  | zero =>
    intro dp P r σ hdp hr h0 hQ hc hv
    obtain ⟨r, rfl⟩ : ∃ j, r = j + 1 := ⟨r - 1, by omega⟩
    have hdp : dp = M := by omega
    subst hdp
    rw [f_F_countSeatings, h0, if_neg (nI_nlt (by omega) (by omega)), Nat.pow_zero, Nat.mul_one, q_cn, hv, cond_true]
    exact ⟨σ, rfl, q_fr_r _ _⟩
  | succ e ih =>
    intro dp P r σ hdp hr h0 hQ hc hv
    obtain ⟨r, rfl⟩ : ∃ j, r = j + 1 := ⟨r - 1, by omega⟩
    have loop : ∀ (c a k : Nat) (x : Int32) (σ : jw_M), a + c = b → c < k → σ.1 1 0 = nI M → (∀ p, p < 6 → σ.1 5 p = Q p) → (∀ q, q < dp → σ.1 79 q = nI (q_dg b dp P q)) → ∃ σ', f_F_countSeatings_18 N (f_F_countSeatings N r) k (nI dp) (nI b) x (nI a) σ = some (q_cn (fun W => q_vd Q (q_dg b M W) M) (c * b ^ e) ((P * b + a) * b ^ e) x, σ') ∧ q_fr (fun c i => c == 79 && decide (dp ≤ i)) σ σ' := by
      intro c
      induction c with
      | zero =>
        intro a k x σ ha hk h0 hQ hc
        obtain ⟨k, rfl⟩ : ∃ j, k = j + 1 := ⟨k - 1, by omega⟩
        rw [f_F_countSeatings_18, if_pos (nI_le (by omega) (by omega)), Nat.zero_mul]
        exact ⟨σ, rfl, q_fr_r _ _⟩
      | succ c ihc =>
        intro a k x σ ha hk h0 hQ hc
        obtain ⟨k, rfl⟩ : ∃ j, k = j + 1 := ⟨k - 1, by omega⟩
        have hb0 : 0 < b := by omega
        have e1 : (c + 1) * b ^ e = b ^ e + c * b ^ e := by rw [Nat.succ_mul, Nat.add_comm]
        have e2 : (P * b + a) * b ^ e + b ^ e = (P * b + (a + 1)) * b ^ e := by rw [← Nat.succ_mul]; rfl
        obtain ⟨v1, v2⟩ := q_vd_ch (Q := Q) (b := b) (dp := dp) (P := P) (a := a) (by omega) hv
        have em : f_F_mayTake N (nI dp) (nI a) σ = some (bif q_mt (Q dp) (q_dg b dp P) a dp 0 then 1 else 0, σ) := e_may2 (by omega) (by omega) (fun q hq => ⟨by have := q_dg_lt (M := dp) (W := P) (q := q) hb0; omega, hc q hq⟩) (hQ dp (by omega)) dp 0 N (by omega) (by omega)
        rw [f_F_countSeatings_18, if_neg (nI_ge (by omega) (by omega)), em, e1]
        unfold f_F_countSeatings_53
        cases hm : q_mt (Q dp) (q_dg b dp P) a dp 0
        · rw [hm] at v1
          have none1 : ∀ x, q_cn (fun W => q_vd Q (q_dg b M W) M) (b ^ e) ((P * b + a) * b ^ e) x = x := fun x => q_cn_0 _ _ x (fun j h1 h2 => q_bad (dp := dp + 1) (by omega) (by rw [show M - (dp + 1) = e by omega]; exact q_leaf h1 h2) v1)
          rw [cond_false, q_bz0, q_cn_add, none1, e2, nI_1]
          exact ihc (a + 1) k x σ (by omega) (by omega) h0 hQ hc
        · rw [hm] at v1
          rw [cond_true, q_bz1, q_in (show dp < 6 by omega) (by decide), cond_true, nI_clamp (show dp < 2 ^ 31 by omega), nI_1]
          dsimp only
          obtain ⟨τ, t1, t3⟩ := ih (dp + 1) (P * b + a) r (jx_w σ 79 dp (nI a)) (by omega) (by omega) (by rw [q_wC (by decide)]; exact h0) (fun p hp => by rw [q_wC (by decide)]; exact hQ p hp) (fun q hq => by
            rw [v2 q hq]
            by_cases eq : q = dp
            · rw [if_pos eq, eq, q_wS]
            · rw [if_neg eq, q_wI eq]
              exact hc q (by omega)) v1
          rw [t1, Option.bind_some, nI_1]
          dsimp only
          have fr1 : q_fr (fun c i => c == 79 && decide (dp ≤ i)) σ τ := q_fr_t (q_fr_w (q_fr_r _ _) (by simp)) (q_fr_m t3 (fun c i z => by simp at z ⊢; omega))
          rw [q_cn_add, show q_cn (fun W => q_vd Q (q_dg b M W) M) (b ^ e) ((P * b + a) * b ^ e) x = x + q_cn (fun W => q_vd Q (q_dg b M W) M) (b ^ e) ((P * b + a) * b ^ e) 0 by rw [← q_cn_x, Int32.add_zero], e2]
          obtain ⟨ψ, p1, p3⟩ := ihc (a + 1) k (x + q_cn (fun W => q_vd Q (q_dg b M W) M) (b ^ e) ((P * b + a) * b ^ e) 0) τ (by omega) (by omega) (by rw [fr1.1 1 0 (by simp)]; exact h0) (fun p hp => by rw [fr1.1 5 p (by simp)]; exact hQ p hp) (fun q hq => by rw [fr1.1 79 q (by simp; omega)]; exact hc q hq)
          exact ⟨ψ, p1, q_fr_t fr1 p3⟩
    rw [f_F_countSeatings, h0, if_pos (nI_lt (by omega) (by omega)), Nat.pow_succ, Nat.mul_comm (b ^ e) b, ← Nat.mul_assoc]
    obtain ⟨σ', g1, g3⟩ := loop b 0 N 0 σ (by omega) (by omega) h0 hQ hc
    rw [Nat.add_zero] at g1
    exact ⟨σ', g1, g3⟩
