/-! ===== pure: the JDK's counts of bits, over sets below 256 ===== -/
def q_z0 : jw_M := (fun _ _ => 0, fun _ _ => 0)
def q_bc (x : Int32) : Int32 := match f_J_bitCount 0 x q_z0 with | some z => z.1 | none => 0
theorem e_bitCount (N : Nat) (x : Int32) (σ : jw_M) : f_J_bitCount N x σ = some (q_bc x, σ) := rfl
def q_su (x k : Int32) : Int32 := (Int32.toUInt32 x >>> (Int32.toUInt32 k &&& Int32.toUInt32 31)).toInt32
def q_nlz4 (x0 x1 : Int32) : Int32 := if x0 < 4 then x1 - q_su x0 1 else x1 + (-2) - q_su (q_su x0 2) 1
def q_nlz3 (x0 x1 : Int32) : Int32 := if x0 < 16 then q_nlz4 x0 x1 else q_nlz4 (q_su x0 4) (x1 + (-4))
def q_nlz2 (x0 x1 : Int32) : Int32 := if x0 < 256 then q_nlz3 x0 x1 else q_nlz3 (q_su x0 8) (x1 + (-8))
def q_nlz (x0 : Int32) : Int32 := if 0 < x0 then if x0 < 65536 then q_nlz2 x0 31 else q_nlz2 (q_su x0 16) ((31 : Int32) + (-16)) else if x0 = 0 then 32 else 0
theorem e_nlz4 (N : Nat) (x0 x1 : Int32) (σ : jw_M) : f_J_numberOfLeadingZeros_61 N x0 x1 σ = some (q_nlz4 x0 x1, σ) := by
  unfold f_J_numberOfLeadingZeros_61 q_nlz4
  by_cases h : x0 < 4
  · simp only [if_pos h]
    rfl
  · simp only [if_neg h]
    rfl
theorem e_nlz3 (N : Nat) (x0 x1 : Int32) (σ : jw_M) : f_J_numberOfLeadingZeros_48 N x0 x1 σ = some (q_nlz3 x0 x1, σ) := by
  unfold f_J_numberOfLeadingZeros_48 q_nlz3
  by_cases h : x0 < 16
  · simp only [if_pos h, e_nlz4]
  · simp only [if_neg h, e_nlz4]
    rfl
theorem e_nlz2 (N : Nat) (x0 x1 : Int32) (σ : jw_M) : f_J_numberOfLeadingZeros_33 N x0 x1 σ = some (q_nlz2 x0 x1, σ) := by
  unfold f_J_numberOfLeadingZeros_33 q_nlz2
  by_cases h : x0 < 256
  · simp only [if_pos h, e_nlz3]
  · simp only [if_neg h, e_nlz3]
    rfl
theorem e_nlz (N : Nat) (x0 : Int32) (σ : jw_M) : f_J_numberOfLeadingZeros N x0 σ = some (q_nlz x0, σ) := by
  unfold f_J_numberOfLeadingZeros q_nlz
  by_cases h : 0 < x0
  · by_cases h2 : x0 < 65536
    · simp only [if_pos h, if_pos h2, e_nlz2]
    · simp only [if_pos h, if_neg h2, e_nlz2]
      rfl
  · by_cases h2 : x0 = 0
    · simp only [if_neg h, if_pos h2]
    · simp only [if_neg h, if_neg h2]
def q_ntz4 (x0 x1 : Int32) : Int32 := if x0 ≤ 4 then x1 + q_su x0 1 else x1 + 2 + q_su (q_su x0 2) 1
def q_ntz3 (x0 x1 : Int32) : Int32 := if x0 ≤ 16 then q_ntz4 x0 x1 else q_ntz4 (q_su x0 4) (x1 + 4)
def q_ntz2 (x0 x1 : Int32) : Int32 := if x0 ≤ 256 then q_ntz3 x0 x1 else q_ntz3 (q_su x0 8) (x1 + 8)
def q_ntz (x : Int32) : Int32 := if 0 < ((x ^^^ (-1)) &&& (x - 1)) then if ((x ^^^ (-1)) &&& (x - 1)) ≤ 65536 then q_ntz2 ((x ^^^ (-1)) &&& (x - 1)) 1 else q_ntz2 (q_su ((x ^^^ (-1)) &&& (x - 1)) 16) ((1 : Int32) + 16) else ((x ^^^ (-1)) &&& (x - 1)) &&& 32
theorem e_ntz4 (N : Nat) (x0 x1 : Int32) (σ : jw_M) : f_J_numberOfTrailingZeros_62 N x0 x1 σ = some (q_ntz4 x0 x1, σ) := by
  unfold f_J_numberOfTrailingZeros_62 q_ntz4
  by_cases h : x0 ≤ 4
  · simp only [if_pos h]
    rfl
  · simp only [if_neg h]
    rfl
theorem e_ntz3 (N : Nat) (x0 x1 : Int32) (σ : jw_M) : f_J_numberOfTrailingZeros_49 N x0 x1 σ = some (q_ntz3 x0 x1, σ) := by
  unfold f_J_numberOfTrailingZeros_49 q_ntz3
  by_cases h : x0 ≤ 16
  · simp only [if_pos h, e_ntz4]
  · simp only [if_neg h, e_ntz4]
    rfl
theorem e_ntz2 (N : Nat) (x0 x1 : Int32) (σ : jw_M) : f_J_numberOfTrailingZeros_34 N x0 x1 σ = some (q_ntz2 x0 x1, σ) := by
  unfold f_J_numberOfTrailingZeros_34 q_ntz2
  by_cases h : x0 ≤ 256
  · simp only [if_pos h, e_ntz3]
  · simp only [if_neg h, e_ntz3]
    rfl
theorem e_ntz (N : Nat) (x : Int32) (σ : jw_M) : f_J_numberOfTrailingZeros N x σ = some (q_ntz x, σ) := by
  unfold f_J_numberOfTrailingZeros q_ntz
  by_cases h : 0 < ((x ^^^ (-1)) &&& (x - 1))
  · by_cases h2 : ((x ^^^ (-1)) &&& (x - 1)) ≤ 65536
    · simp only [if_pos h, if_pos h2, e_ntz2]
    · simp only [if_pos h, if_neg h2, e_ntz2]
      rfl
  · simp only [if_neg h]
/-- the reference's count of ones -/
def q_on : Nat → Int32 → Int32 → Option Int32
  | 0, _, _ => none
  | k + 1, a, x => if x = 0 then some a else q_on k (a + 1) (x &&& (x - 1))
theorem e_on (N : Nat) (σ : jw_M) : ∀ (k : Nat) (a x : Int32), f_M_ones_4 N k a x σ = (q_on k a x).map (fun r => (r, σ))
  | 0, _, _ => rfl
  | k + 1, a, x => by
    rw [f_M_ones_4, q_on]
    by_cases h : x = 0
    · rw [if_pos h, if_pos h]
      rfl
    · rw [if_neg h, if_neg h]
      exact e_on N σ k _ _
theorem q_on_up : ∀ (k j : Nat) (a x r : Int32), q_on k a x = some r → q_on (k + j) a x = some r
  | 0, _, _, _, _, h => by cases h
  | k + 1, j, a, x, r, h => by
    rw [show k + 1 + j = (k + j) + 1 by omega, q_on]
    rw [q_on] at h
    by_cases e : x = 0
    · rw [if_pos e] at h ⊢
      exact h
    · rw [if_neg e] at h ⊢
      exact q_on_up k j _ _ _ h
theorem q_on8 : ∀ n, n < 256 → q_on 9 0 (nI n) = some (q_bc (nI n)) := by decide +kernel
theorem e_ones {N : Nat} (hN : 9 ≤ N) {n : Nat} (hn : n < 256) (σ : jw_M) : f_M_ones N (nI n) σ = some (q_bc (nI n), σ) := by
  unfold f_M_ones
  rw [e_on]
  obtain ⟨j, rfl⟩ : ∃ j, N = 9 + j := ⟨N - 9, by omega⟩
  rw [q_on_up 9 j _ _ _ (q_on8 n hn)]
  rfl
/-! ===== the choice among open lessons, as the reference tells it ===== -/
def q_ch (op : Nat → Bool) (lk : Nat → Int32) (todo : Int32) : Nat → Nat → Nat → Nat
  | 0, best, _ => best
  | k + 1, best, l => q_ch op lk todo k (if op l = true ∧ (best = 8 ∨ todo = 0 ∨ (todo = 1 ∧ lk l < lk best)) then l else best) (l + 1)
/-- a set below 256 as a choice: the last, the first -/
theorem q_last : ∀ n, n < 256 → 0 < n → (31 : Int32) - q_nlz (nI n) = nI (q_ch (fun l => n.testBit l) (fun _ => 0) 0 8 8 0) := by decide +kernel
theorem q_first : ∀ n, n < 256 → 0 < n → q_ntz (nI n) = nI (q_ch (fun l => n.testBit l) (fun _ => 0) 3 8 8 0) := by decide +kernel
theorem q_ch0 (op : Nat → Bool) (lk lk' : Nat → Int32) : ∀ k b l, q_ch op lk 0 k b l = q_ch op lk' 0 k b l
  | 0, _, _ => rfl
  | k + 1, b, l => by
    rw [q_ch, q_ch, q_ch0 op lk lk' k]
    simp
theorem q_ch3 (op : Nat → Bool) (lk lk' : Nat → Int32) {t t' : Int32} (h0 : t ≠ 0) (h1 : t ≠ 1) (h0' : t' ≠ 0) (h1' : t' ≠ 1) : ∀ k b l, q_ch op lk t k b l = q_ch op lk' t' k b l
  | 0, _, _ => rfl
  | k + 1, b, l => by
    rw [q_ch, q_ch, q_ch3 op lk lk' h0 h1 h0' h1' k]
    simp [h0, h1, h0', h1']
/-- only what is asked counts -/
theorem q_ch_op {op op' : Nat → Bool} {lk : Nat → Int32} {t : Int32} : ∀ k b l, (∀ j, l ≤ j → j < l + k → op j = op' j) → q_ch op lk t k b l = q_ch op' lk t k b l
  | 0, _, _, _ => rfl
  | k + 1, b, l, h => by
    rw [q_ch, q_ch, h l (Nat.le_refl l) (by omega)]
    exact q_ch_op k _ _ (fun j hj hk => h j (by omega) (by omega))
/-- what is open ends the count: none from there on -/
theorem q_ch_no {op : Nat → Bool} {lk : Nat → Int32} {t : Int32} : ∀ k b l, (∀ j, l ≤ j → j < l + k → op j = false) → q_ch op lk t k b l = b
  | 0, _, _, _ => rfl
  | k + 1, b, l, h => by
    rw [q_ch, if_neg (by rw [h l (Nat.le_refl l) (by omega)]; simp)]
    exact q_ch_no k _ _ (fun j hj hk => h j (by omega) (by omega))
theorem q_ch_add {op : Nat → Bool} {lk : Nat → Int32} {t : Int32} : ∀ k j b l, q_ch op lk t (k + j) b l = q_ch op lk t j (q_ch op lk t k b l) (l + k)
  | 0, j, b, l => by rw [Nat.zero_add]; rfl
  | k + 1, j, b, l => by
    rw [show k + 1 + j = (k + j) + 1 by omega, q_ch, q_ch_add k j, q_ch]
    rw [show l + 1 + k = l + (k + 1) by omega]
/-! ===== sets by their bits ===== -/
theorem q_one : ∀ i, i < 32 → bt 1 i = decide (i = 0) := by decide +kernel
theorem q_bx (x : Int32) {l : Nat} (hl : l < 32) : (x >>> (nI l &&& 31)) &&& 1 = bif bt x l then 1 else 0 := by
  apply b_ext
  intro i hi
  rw [b_and, b_sshr l hl x hi, q_one i hi]
  cases e : bt x l
  · rw [cond_false, b_0]
    by_cases z : i = 0
    · subst z
      rw [Nat.add_zero, if_pos hl, e, Bool.false_and]
    · rw [decide_eq_false z, Bool.and_false]
  · rw [cond_true, q_one i hi]
    by_cases z : i = 0
    · subst z
      rw [Nat.add_zero, if_pos hl, e, Bool.true_and]
    · rw [decide_eq_false z, Bool.and_false]
theorem q_bit1 (x : Int32) {l : Nat} (hl : l < 32) : ((x >>> (nI l &&& 31)) &&& 1) = 1 ↔ bt x l = true := by
  rw [q_bx x hl]
  cases bt x l
  · exact ⟨fun h => absurd h (by decide), fun h => absurd h (by decide)⟩
  · exact ⟨fun _ => rfl, fun _ => rfl⟩
theorem q_bit0 (x : Int32) {l : Nat} (hl : l < 32) : ((x >>> (nI l &&& 31)) &&& 1) = 0 ↔ bt x l = false := by
  rw [q_bx x hl]
  cases bt x l
  · exact ⟨fun _ => rfl, fun _ => rfl⟩
  · exact ⟨fun h => absurd h (by decide), fun h => absurd h (by decide)⟩
theorem q_sh1 {l : Nat} (hl : l < 32) {i : Nat} (hi : i < 32) : bt ((1 : Int32) <<< (nI l &&& 31)) i = decide (i = l) := by
  rw [b_shl l hl 1 hi, q_one (i - l) (by omega)]
  by_cases h : i = l
  · subst h
    simp
  · by_cases h2 : l ≤ i
    · rw [decide_eq_false h, decide_eq_false (by omega : ¬ i - l = 0), Bool.and_false]
    · rw [decide_eq_false h, decide_eq_false h2, Bool.false_and]
/-- without a set -/
theorem q_bn (x y : Int32) {i : Nat} (hi : i < 32) : bt (x &&& (y ^^^ (-1))) i = (bt x i && !bt y i) := by
  rw [b_and, b_xor, b_m1 i hi, Bool.xor_true]
theorem q_shz {x : Int32} {l : Nat} (hl : l < 32) (h : x >>> (nI l &&& 31) = 0) {i : Nat} (h1 : l ≤ i) (h2 : i < 32) : bt x i = false := by
  have z := b_sshr l hl x (i := i - l) (by omega)
  rw [h, b_0, if_pos (by omega), show l + (i - l) = i by omega] at z
  exact z.symm
theorem q_sm (x : Int32) (h : ∀ i, 8 ≤ i → i < 32 → bt x i = false) : ∃ n, n < 256 ∧ x = nI n ∧ ∀ i, i < 8 → n.testBit i = bt x i := by
  refine ⟨x.toBitVec.toNat % 2 ^ 8, Nat.mod_lt _ (by decide), ?_, fun i hi => ?_⟩
  · rw [← pk_and x (m := 255) 8 (by decide)]
    apply b_ext
    intro i hi
    rw [b_and, b_255]
    by_cases e : i < 8
    · rw [decide_eq_true e, Bool.and_true]
    · rw [decide_eq_false e, Bool.and_false, h i (by omega) hi]
  · rw [Nat.testBit_mod_two_pow, decide_eq_true hi, Bool.true_and]
    rfl
theorem q_ne0 {x : Int32} (h : x ≠ 0) : ∃ i, i < 32 ∧ bt x i = true := by
  apply Classical.byContradiction
  intro c
  apply h
  apply b_ext
  intro i hi
  rw [b_0]
  cases e : bt x i
  · rfl
  · exact absurd ⟨i, hi, e⟩ c
theorem q_lastS {x : Int32} (h : ∀ i, 8 ≤ i → i < 32 → bt x i = false) (h0 : x ≠ 0) (lk : Nat → Int32) : (31 : Int32) - q_nlz x = nI (q_ch (bt x) lk 0 8 8 0) := by
  obtain ⟨n, hn, rfl, hb⟩ := q_sm x h
  have n0 : 0 < n := Nat.pos_of_ne_zero (fun e => h0 (by rw [e]; rfl))
  rw [q_last n hn n0, q_ch0 _ (fun _ => 0) lk]
  rw [q_ch_op 8 8 0 (fun j _ hj => hb j (by omega))]
theorem q_firstS {x : Int32} (h : ∀ i, 8 ≤ i → i < 32 → bt x i = false) (h0 : x ≠ 0) (lk : Nat → Int32) {t : Int32} (t0 : t ≠ 0) (t1 : t ≠ 1) : q_ntz x = nI (q_ch (bt x) lk t 8 8 0) := by
  obtain ⟨n, hn, rfl, hb⟩ := q_sm x h
  have n0 : 0 < n := Nat.pos_of_ne_zero (fun e => h0 (by rw [e]; rfl))
  rw [q_first n hn n0, q_ch3 _ (fun _ => 0) lk (t' := t) (by decide) (by decide) t0 t1]
  rw [q_ch_op 8 8 0 (fun j _ hj => hb j (by omega))]
