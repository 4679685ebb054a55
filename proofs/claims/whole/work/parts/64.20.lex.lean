/-! ===== pure: the text cut into tokens ===== -/
def q_ty (b : Nat) : Nat := if 97 ≤ b ∧ b ≤ 122 then 0 else if 48 ≤ b ∧ b ≤ 57 then 1 else 2
theorem q_ty_c (b : Nat) : (q_ty b = 0 ∧ 97 ≤ b ∧ b ≤ 122) ∨ (q_ty b = 1 ∧ 48 ≤ b ∧ b ≤ 57) ∨ (q_ty b = 2 ∧ ¬ (97 ≤ b ∧ b ≤ 122) ∧ ¬ (48 ≤ b ∧ b ≤ 57)) := by
  unfold q_ty
  by_cases c1 : 97 ≤ b ∧ b ≤ 122
  · rw [if_pos c1]
    exact Or.inl ⟨rfl, c1⟩
  · rw [if_neg c1]
    by_cases c2 : 48 ≤ b ∧ b ≤ 57
    · rw [if_pos c2]
      exact Or.inr (Or.inl ⟨rfl, c2⟩)
    · rw [if_neg c2]
      exact Or.inr (Or.inr ⟨rfl, c1, c2⟩)
def q_sk (B : Nat → Nat) : Nat → Nat → Nat
  | 0, p => p
  | r + 1, p => if B p = 32 then q_sk B r (p + 1) else p
def q_ru (B : Nat → Nat) (s : Nat) : Nat → Nat → Nat
  | 0, p => p
  | r + 1, p => if q_ty (B p) = s then q_ru B s r (p + 1) else p
def q_skp (B : Nat → Nat) (T p : Nat) : Nat := q_sk B (T - p) p
def q_ed (B : Nat → Nat) (T p : Nat) : Nat := if T ≤ p then p else if q_ty (B p) = 2 then p + 1 else q_ru B (q_ty (B p)) (T - p) p
theorem q_sk_b {B : Nat → Nat} : ∀ r p, p ≤ q_sk B r p ∧ q_sk B r p ≤ p + r ∧ (q_sk B r p < p + r → B (q_sk B r p) ≠ 32)
  | 0, p => ⟨Nat.le_refl _, Nat.le_refl _, fun h => absurd h (by rw [q_sk]; omega)⟩
  | r + 1, p => by
    rw [q_sk]
    by_cases c : B p = 32
    · rw [if_pos c]
      have := q_sk_b (B := B) r (p + 1)
      exact ⟨by omega, by omega, fun h => this.2.2 (by omega)⟩
    · rw [if_neg c]
      exact ⟨Nat.le_refl _, by omega, fun _ => c⟩
theorem q_ru_b {B : Nat → Nat} {s : Nat} : ∀ r p, p ≤ q_ru B s r p ∧ q_ru B s r p ≤ p + r ∧ (∀ i, p ≤ i → i < q_ru B s r p → q_ty (B i) = s) ∧ (q_ru B s r p < p + r → q_ty (B (q_ru B s r p)) ≠ s)
  | 0, p => ⟨Nat.le_refl _, Nat.le_refl _, fun i h1 h2 => absurd h2 (by rw [q_ru]; omega), fun h => absurd h (by rw [q_ru]; omega)⟩
  | r + 1, p => by
    rw [q_ru]
    by_cases c : q_ty (B p) = s
    · rw [if_pos c]
      have z := q_ru_b (B := B) (s := s) r (p + 1)
      refine ⟨by omega, by omega, fun i h1 h2 => ?_, fun h => z.2.2.2 (by omega)⟩
      by_cases e : i = p
      · rw [e]; exact c
      · exact z.2.2.1 i (by omega) h2
    · rw [if_neg c]
      exact ⟨Nat.le_refl _, by omega, fun i h1 h2 => absurd h2 (by omega), fun _ => c⟩
theorem q_skp_b {B : Nat → Nat} {T p : Nat} (h : p ≤ T) : p ≤ q_skp B T p ∧ q_skp B T p ≤ T ∧ (q_skp B T p < T → B (q_skp B T p) ≠ 32) := by
  have z := q_sk_b (B := B) (T - p) p
  unfold q_skp
  exact ⟨z.1, by omega, fun y => z.2.2 (by omega)⟩
theorem q_skp_T {B : Nat → Nat} {T : Nat} : q_skp B T T = T := by
  unfold q_skp
  rw [Nat.sub_self]
  rfl
theorem q_skp_1 {B : Nat → Nat} {T p : Nat} (h : p < T) (hb : B p = 32) : q_skp B T p = q_skp B T (p + 1) := by
  unfold q_skp
  rw [show T - p = (T - (p + 1)) + 1 by omega, q_sk, if_pos hb]
theorem q_skp_0 {B : Nat → Nat} {T p : Nat} (h : p < T) (hb : B p ≠ 32) : q_skp B T p = p := by
  unfold q_skp
  rw [show T - p = (T - (p + 1)) + 1 by omega, q_sk, if_neg hb]
theorem q_ed_T {B : Nat → Nat} {T : Nat} : q_ed B T T = T := by
  unfold q_ed
  rw [if_pos (Nat.le_refl _)]
theorem q_ed_2 {B : Nat → Nat} {T p : Nat} (h : p < T) (ht : q_ty (B p) = 2) : q_ed B T p = p + 1 := by
  unfold q_ed
  rw [if_neg (by omega), if_pos ht]
theorem q_ed_r {B : Nat → Nat} {T p : Nat} (h : p < T) (ht : q_ty (B p) ≠ 2) : q_ed B T p = q_ru B (q_ty (B p)) (T - (p + 1)) (p + 1) := by
  unfold q_ed
  rw [if_neg (by omega), if_neg ht, show T - p = (T - (p + 1)) + 1 by omega, q_ru, if_pos rfl]
theorem q_ed_b {B : Nat → Nat} {T p : Nat} (h : p < T) : p + 1 ≤ q_ed B T p ∧ q_ed B T p ≤ T ∧ (q_ty (B p) ≠ 2 → (∀ i, p ≤ i → i < q_ed B T p → q_ty (B i) = q_ty (B p)) ∧ (q_ed B T p < T → q_ty (B (q_ed B T p)) ≠ q_ty (B p))) := by
  by_cases c : q_ty (B p) = 2
  · rw [q_ed_2 h c]
    exact ⟨by omega, by omega, fun z => absurd c z⟩
  · have z := q_ru_b (B := B) (s := q_ty (B p)) (T - (p + 1)) (p + 1)
    rw [q_ed_r h c]
    refine ⟨by omega, by omega, fun _ => ⟨fun i h1 h2 => ?_, fun y => z.2.2.2 (by omega)⟩⟩
    by_cases e : i = p
    · rw [e]
    · exact z.2.2.1 i (by omega) h2
def q_bs (B : Nat → Nat) : Nat → Nat → List Nat
  | 0, _ => []
  | l + 1, p => B p :: q_bs B l (p + 1)
theorem q_bs_l {B : Nat → Nat} : ∀ l p, (q_bs B l p).length = l
  | 0, _ => rfl
  | l + 1, p => by rw [q_bs, List.length_cons, q_bs_l l (p + 1)]
theorem q_bs_s {B : Nat → Nat} : ∀ l p, q_bs B (l + 1) p = q_bs B l p ++ [B (p + l)]
  | 0, p => rfl
  | l + 1, p => by rw [q_bs, q_bs_s l (p + 1), q_bs, List.cons_append, show p + 1 + l = p + (l + 1) by omega]
theorem q_bs_m {B : Nat → Nat} {P : Nat → Prop} : ∀ l p, (∀ i, p ≤ i → i < p + l → P (B i)) → ∀ c, c ∈ q_bs B l p → P c
  | 0, _, _, c, hc => by cases hc
  | l + 1, p, h, c, hc => by
    rcases List.mem_cons.mp hc with e | e
    · rw [e]
      exact h p (by omega) (by omega)
    · exact q_bs_m l (p + 1) (fun i h1 h2 => h i (by omega) (by omega)) c e
def q_nms : List (List Nat) := [[115, 104, 97, 100, 111, 119], [106, 111, 105, 110, 101, 100], [103, 105, 102, 116, 101, 100], [99, 111, 108, 111, 117, 114, 101, 100], [115, 108, 111, 119], [98, 111, 114, 114, 111, 119, 101, 100], [108, 97, 115, 116], [101, 97, 115, 121], [112, 108, 97, 121], [105, 102], [111, 114], [97, 110, 100], [110, 111, 116], [104, 111, 117, 114], [108, 101, 97, 114, 110, 116], [113, 117, 105, 99, 107], [116, 97, 108, 108], [110, 117, 109, 98, 101, 114]]
def q_ni (l : List Nat) : List (List Nat) → Nat → Int32
  | [], _ => -1
  | x :: xs, j => if l = x then nI j else q_ni l xs (j + 1)
def q_n1l (a c : Nat) : Nat := a * 10 + c - 48
def q_nv (a : Nat) (l : List Nat) : Nat := l.foldl q_n1l a
theorem q_nv_c (a c : Nat) (l : List Nat) : q_nv a (c :: l) = q_nv (q_n1l a c) l := by
  unfold q_nv
  rw [List.foldl_cons]
theorem q_nv_0 (a : Nat) : q_nv a [] = a := by
  unfold q_nv
  rw [List.foldl_nil]
def q_cod (B : Nat → Nat) (T p : Nat) : Int32 := if T ≤ p then -2 else if q_ty (B p) = 0 then q_ni (q_bs B (q_ed B T p - p) p) q_nms 0 else if q_ty (B p) = 1 then (if q_ed B T p - p ≤ 4 then nI (1000 + q_nv 0 (q_bs B (q_ed B T p - p) p)) else -1) else if B p = 40 ∨ B p = 41 ∨ B p = 59 ∨ B p = 60 ∨ B p = 61 ∨ B p = 62 then nI (B p) else -1
/-! ===== the class's tokens ===== -/
theorem e_sortOf {N b : Nat} {σ : jw_M} (hb : b < 256) : f_D_sortOf N (nI b) σ = some (nI (q_ty b), σ) := by
  unfold f_D_sortOf f_D_sortOf_14 q_ty
  by_cases c1 : b < 97
  · rw [if_pos (show nI b < 97 from nI_lt (b := 97) c1 (by decide)), if_neg (show ¬ (97 ≤ b ∧ b ≤ 122) by omega)]
    by_cases c2 : b < 48
    · rw [if_pos (show nI b < 48 from nI_lt (b := 48) c2 (by decide)), if_neg (by omega)]
      rfl
    · rw [if_neg (show ¬ nI b < 48 from nI_nlt (b := 48) (by omega) (by omega))]
      by_cases c3 : 57 < b
      · rw [if_pos (show (57 : Int32) < nI b from nI_lt (a := 57) c3 (by omega)), if_neg (by omega)]
        rfl
      · rw [if_neg (show ¬ (57 : Int32) < nI b from nI_nlt (a := 57) (by omega) (by decide)), if_pos (by omega)]
        rfl
  · rw [if_neg (show ¬ nI b < 97 from nI_nlt (b := 97) (by omega) (by omega))]
    by_cases c4 : 122 < b
    · rw [if_pos (show (122 : Int32) < nI b from nI_lt (a := 122) c4 (by omega)), if_neg (show ¬ (97 ≤ b ∧ b ≤ 122) by omega), if_neg (show ¬ (48 ≤ b ∧ b ≤ 57) by omega), if_neg (show ¬ nI b < 48 from nI_nlt (b := 48) (by omega) (by omega)), if_pos (show (57 : Int32) < nI b from nI_lt (a := 57) (by omega) (by omega))]
      rfl
    · rw [if_neg (show ¬ (122 : Int32) < nI b from nI_nlt (a := 122) (by omega) (by decide)), if_pos (by omega)]
      rfl
def q_tw : Nat → Nat → List Nat
  | 0, _ => []
  | m + 1, s => (jw_chr (nI s)).toNatClampNeg :: q_tw m (s + 1)
theorem q_tw_l : ∀ m s, (q_tw m s).length = m
  | 0, _ => rfl
  | m + 1, s => by rw [q_tw, List.length_cons, q_tw_l m (s + 1)]
theorem q_chT : ∀ s, s < 103 → jw_chr (nI s) = nI (jw_chr (nI s)).toNatClampNeg ∧ (jw_chr (nI s)).toNatClampNeg < 256 := by decide +kernel
/-- the text, on the class's side -/
def q_tx (B : Nat → Nat) (T : Nat) (σ : jw_M) : Prop := T ≤ 200 ∧ σ.1 80 0 = nI T ∧ ∀ i, i < T → B i < 256 ∧ σ.1 81 i = nI (B i)
theorem e_isName {N T s p l : Nat} {B : Nat → Nat} {σ : jw_M} (hx : q_tx B T σ) (hs : s + l ≤ 103) (hp : p + l ≤ T) : ∀ (r i k : Nat), i + r = l → r < k → f_D_isNameAt_3 N k (nI s) (nI p) (nI l) (nI i) σ = some (bif decide (q_bs B r (p + i) = q_tw r (s + i)) then 1 else 0, σ)
  | 0, i, k, hi, hk => by
    obtain ⟨k, rfl⟩ : ∃ j, k = j + 1 := ⟨k - 1, by omega⟩
    rw [f_D_isNameAt_3, if_pos (nI_le (by omega) (by omega))]
    rfl
  | r + 1, i, k, hi, hk => by
    obtain ⟨k, rfl⟩ : ∃ j, k = j + 1 := ⟨k - 1, by omega⟩
    have t2 := hx.1
    obtain ⟨b1, b2⟩ := hx.2.2 (p + i) (by omega)
    obtain ⟨c1, c2⟩ := q_chT (s + i) (by omega)
    have ih := e_isName (N := N) hx hs hp r (i + 1) k (by omega) (by omega)
    rw [f_D_isNameAt_3, if_neg (nI_ge (by omega) (by omega)), nI_add, nI_add, q_in (show s + i < 103 by omega) (by decide), cond_true, q_in (show p + i < 200 by omega) (by decide), cond_true, nI_clamp (show p + i < 2 ^ 31 by omega), b2, c1, nI_1, q_bs, q_tw]
    by_cases e : (jw_chr (nI (s + i))).toNatClampNeg = B (p + i)
    · rw [if_pos (by rw [e]), ih, show p + (i + 1) = p + i + 1 by omega, show s + (i + 1) = s + i + 1 by omega]
      by_cases g : q_bs B r (p + i + 1) = q_tw r (s + i + 1)
      · rw [decide_eq_true g, decide_eq_true (by rw [e, g])]
      · rw [decide_eq_false g, decide_eq_false (fun z => g (List.cons.inj z).2)]
    · rw [if_neg (fun z => e ((nI_eq (by omega) (by omega)).mp z)), decide_eq_false (fun z => e (List.cons.inj z).1.symm)]
      rfl
def q_tb : List (Nat × Nat) := [(0, 6), (7, 6), (14, 6), (21, 8), (30, 4), (35, 8), (44, 4), (49, 4), (54, 4), (59, 2), (62, 2), (65, 3), (69, 3), (73, 4), (78, 6), (85, 5), (91, 4), (96, 6)]
def q_tbo : List (Nat × Nat) → Nat → Bool
  | [], s => decide (s = 103)
  | x :: t, s => decide (x.1 = s) && (decide (s + x.2 < 103) && ((List.range x.2).all (fun i => decide (jw_chr (nI (s + i)) ≠ 32)) && (decide (jw_chr (nI (s + x.2)) = 32) && q_tbo t (s + x.2 + 1))))
theorem q_tbT : q_tbo q_tb 0 = true := by decide +kernel
theorem q_tbN : q_tb.map (fun x => q_tw x.2 x.1) = q_nms := by decide +kernel
theorem e_nmS {N s : Nat} {x1 x2 x3 x4 : Int32} {σ : jw_M} : ∀ (r i k : Nat), s + i + r < 103 → (∀ j, i ≤ j → j < i + r → jw_chr (nI (s + j)) ≠ 32) → f_D_nameAt_8 N (k + r) x1 x2 x3 x4 (nI (s + i)) σ = f_D_nameAt_8 N k x1 x2 x3 x4 (nI (s + i + r)) σ
  | 0, i, k, _, _ => rfl
  | r + 1, i, k, h1, h2 => by
    rw [show k + (r + 1) = (k + r) + 1 by omega, f_D_nameAt_8, if_neg (show ¬ (103 : Int32) ≤ nI (s + i) from nI_ge (b := 103) (by omega) (by decide)), q_in (show s + i < 103 by omega) (by decide), cond_true, if_neg (h2 i (by omega) (by omega))]
    unfold f_D_nameAt_65
    rw [nI_1, show s + i + 1 = s + (i + 1) by omega, e_nmS r (i + 1) k (by omega) (fun j g1 g2 => h2 j (by omega) (by omega)), show s + (i + 1) + r = s + i + (r + 1) by omega]
theorem e_nmT {N T p l : Nat} {B : Nat → Nat} {σ : jw_M} (hN : 300 ≤ N) (hx : q_tx B T σ) (hp : p + l ≤ T) : ∀ (tb : List (Nat × Nat)) (s j k : Nat), q_tbo tb s = true → 103 - s < k → s ≤ 103 → f_D_nameAt_8 N k (nI p) (nI (p + l)) (nI j) (nI s) (nI s) σ = some (q_ni (q_bs B l p) (tb.map (fun x => q_tw x.2 x.1)) j, σ)
  | [], s, j, k, h, hk, hs => by
    obtain ⟨k, rfl⟩ : ∃ j, k = j + 1 := ⟨k - 1, by omega⟩
    have e : s = 103 := of_decide_eq_true h
    rw [f_D_nameAt_8, if_pos (show (103 : Int32) ≤ nI s from nI_le (a := 103) (by omega) (by omega))]
    rfl
  | x :: tb, s, j, k, h, hk, hs => by
    have t2 := hx.1
    rw [q_tbo, Bool.and_eq_true, Bool.and_eq_true, Bool.and_eq_true, Bool.and_eq_true, List.all_eq_true] at h
    obtain ⟨g1, g2, g3, g4, g5⟩ := h
    have g1 := of_decide_eq_true g1
    have g2 := of_decide_eq_true g2
    have g4 := of_decide_eq_true g4
    obtain ⟨k, rfl⟩ : ∃ j, k = (j + 1) + x.2 := ⟨k - 1 - x.2, by omega⟩
    have sk := e_nmS (N := N) (s := s) (x1 := nI p) (x2 := nI (p + l)) (x3 := nI j) (x4 := nI s) (σ := σ) x.2 0 (k + 1) (by omega) (fun i _ h2 => of_decide_eq_true (g3 i (List.mem_range.mpr (by omega))))
    have ih := e_nmT hN hx hp tb (s + x.2 + 1) (j + 1) k g5 (by omega) (by omega)
    rw [show s + 0 = s by omega] at sk
    rw [sk, f_D_nameAt_8, if_neg (show ¬ (103 : Int32) ≤ nI (s + x.2) from nI_ge (b := 103) (by omega) (by decide)), q_in (show s + x.2 < 103 by omega) (by decide), cond_true, if_pos g4, show nI (s + x.2) - nI s = nI x.2 by rw [pk_sub (by omega), show s + x.2 - s = x.2 by omega], show nI (p + l) - nI p = nI l by rw [pk_sub (by omega), show p + l - p = l by omega], List.map_cons, q_ni, g1]
    unfold f_D_nameAt_56 f_D_nameAt_65
    rw [nI_1 j, nI_1 (s + x.2), ih]
    by_cases e : x.2 = l
    · rw [if_pos (by rw [e])]
      unfold f_D_isNameAt
      rw [show f_D_isNameAt_3 N N (nI s) (nI p) (nI l) 0 σ = _ from e_isName hx (by omega) hp l 0 N (by omega) (by omega), show p + 0 = p by omega, show s + 0 = s by omega, e]
      by_cases g : q_bs B l p = q_tw l s
      · rw [decide_eq_true g, cond_true, q_bz1, if_pos g]
      · rw [decide_eq_false g, cond_false, q_bz0, if_neg g]
        rw [e] at ih
        exact ih
    · rw [if_neg (fun z => e ((nI_eq (by omega) (by omega)).mp z)), if_neg (fun z => by
        have y := congrArg List.length z
        rw [q_bs_l, q_tw_l] at y
        exact e y.symm)]
theorem e_nameAt {N T p l : Nat} {B : Nat → Nat} {σ : jw_M} (hN : 300 ≤ N) (hx : q_tx B T σ) (hp : p + l ≤ T) : f_D_nameAt N (nI p) (nI (p + l)) σ = some (q_ni (q_bs B l p) q_nms 0, σ) := by
  rw [← q_tbN]
  exact e_nmT hN hx hp q_tb 0 0 N q_tbT (by omega) (by omega)
theorem e_num14 {N T e : Nat} {B : Nat → Nat} {σ : jw_M} (hx : q_tx B T σ) (he : e ≤ T) : ∀ (r i k a : Nat), i + r = e → r < k → (∀ j, i ≤ j → j < e → 48 ≤ B j) → f_D_numberAt_14 N k (nI e) (nI a) (nI i) σ = some ((1000 : Int32) + nI (q_nv a (q_bs B r i)), σ)
  | 0, i, k, a, hi, hk, hd => by
    obtain ⟨k, rfl⟩ : ∃ j, k = j + 1 := ⟨k - 1, by omega⟩
    have t2 := hx.1
    rw [f_D_numberAt_14, if_pos (nI_le (by omega) (by omega)), q_bs, q_nv_0]
  | r + 1, i, k, a, hi, hk, hd => by
    obtain ⟨k, rfl⟩ : ∃ j, k = j + 1 := ⟨k - 1, by omega⟩
    have t2 := hx.1
    obtain ⟨b1, b2⟩ := hx.2.2 i (by omega)
    have d := hd i (by omega) (by omega)
    rw [f_D_numberAt_14, if_neg (nI_ge (by omega) (by omega)), q_in (show i < 200 by omega) (by decide), cond_true, nI_clamp (by omega), b2, show nI a * 10 = nI (a * 10) from pk_mul a 10, nI_add, show nI (a * 10 + B i) - 48 = nI (a * 10 + B i - 48) from pk_sub (b := 48) (by omega), nI_1, e_num14 hx he r (i + 1) k _ (by omega) (by omega) (fun j h1 h2 => hd j (by omega) h2), q_bs, q_nv_c]
    unfold q_n1l
    rfl
theorem e_tok15 {N T p s : Nat} {B : Nat → Nat} {σ : jw_M} (hx : q_tx B T σ) (hs : s < 2) : ∀ (r q k : Nat), q + r = T → r < k → f_D_tokenAt_15 N k (nI p) (nI s) (nI q) σ = f_D_tokenAt_43 N (nI p) (nI s) (nI (q_ru B s r q)) σ
  | 0, q, k, hq, hk => by
    obtain ⟨k, rfl⟩ : ∃ j, k = j + 1 := ⟨k - 1, by omega⟩
    have t2 := hx.1
    rw [f_D_tokenAt_15, hx.2.1, if_pos (nI_le (by omega) (by omega))]
    rfl
  | r + 1, q, k, hq, hk => by
    obtain ⟨k, rfl⟩ : ∃ j, k = j + 1 := ⟨k - 1, by omega⟩
    have t2 := hx.1
    obtain ⟨b1, b2⟩ := hx.2.2 q (by omega)
    rw [f_D_tokenAt_15, hx.2.1, if_neg (nI_ge (by omega) (by omega)), q_in (show q < 200 by omega) (by decide), cond_true, nI_clamp (by omega), b2, e_sortOf b1, Option.bind_some, q_ru]
    dsimp only
    have ty3 : q_ty (B q) < 3 := by rcases q_ty_c (B q) with z | z | z <;> omega
    by_cases c : q_ty (B q) = s
    · rw [if_pos (by rw [c]), if_pos c, nI_1]
      exact e_tok15 hx hs r (q + 1) k (by omega) (by omega)
    · rw [if_neg (fun z => c ((nI_eq (by omega) (by omega)).mp z)), if_neg c]
theorem e_tokenAt {N T p : Nat} {B : Nat → Nat} {σ : jw_M} (hN : 300 ≤ N) (hx : q_tx B T σ) (hp : p < T) : f_D_tokenAt N (nI p) (nI (q_ty (B p))) σ = some (q_cod B T p, σ) := by
  have t2 := hx.1
  obtain ⟨b1, b2⟩ := hx.2.2 p hp
  have eb := q_ed_b (B := B) hp
  unfold f_D_tokenAt q_cod
  rw [if_neg (show ¬ T ≤ p by omega)]
  rcases q_ty_c (B p) with ⟨z, z1, z2⟩ | ⟨z, z1, z2⟩ | ⟨z, z1, z2⟩
  · rw [z, if_neg (by decide), if_pos rfl, nI_1, e_tok15 hx (by decide) (T - (p + 1)) (p + 1) N (by omega) (by omega)]
    have er := q_ed_r (B := B) hp (by rw [z]; decide)
    rw [z] at er
    rw [← er]
    unfold f_D_tokenAt_43
    rw [if_pos (show nI 0 = 0 from rfl), show nI (q_ed B T p) = nI (p + (q_ed B T p - p)) by rw [show p + (q_ed B T p - p) = q_ed B T p by omega], e_nameAt hN hx (by omega), Option.bind_some]
  · rw [z, if_neg (by decide), if_neg (by decide), if_pos rfl, nI_1, e_tok15 hx (by decide) (T - (p + 1)) (p + 1) N (by omega) (by omega)]
    have er := q_ed_r (B := B) hp (by rw [z]; decide)
    rw [z] at er
    rw [← er]
    unfold f_D_tokenAt_43 f_D_numberAt
    rw [if_neg (show ¬ nI 1 = 0 by decide), pk_sub (show p ≤ q_ed B T p by omega)]
    by_cases c : q_ed B T p - p ≤ 4
    · rw [if_pos (show nI (q_ed B T p - p) ≤ 4 from nI_le (b := 4) c (by decide)), if_pos c, show f_D_numberAt_14 N N (nI (q_ed B T p)) 0 (nI p) σ = _ from e_num14 hx (by omega) (q_ed B T p - p) p N 0 (by omega) (by omega) (fun j h1 h2 => by
        have y := (eb.2.2 (by rw [z]; decide)).1 j h1 h2
        rw [z] at y
        rcases q_ty_c (B j) with ⟨x, x1, x2⟩ | ⟨x, x1, x2⟩ | ⟨x, x1, x2⟩ <;> omega), Option.bind_some, show ∀ v : Nat, (1000 : Int32) + nI v = nI (1000 + v) from fun v => nI_add 1000 v]
    · rw [if_neg (show ¬ nI (q_ed B T p - p) ≤ 4 from nI_ge (a := 4) (by omega) (by omega)), if_neg c, Option.bind_some]
  · rw [z, if_pos (show nI 2 = 2 from rfl), if_neg (by decide), if_neg (by decide)]
    unfold f_D_signAt
    rw [q_in (show p < 200 by omega) (by decide), cond_true, nI_clamp (by omega), b2]
    have eq : ∀ j, j < 256 → (nI (B p) = nI j ↔ B p = j) := fun j hj => nI_eq (by omega) (by omega)
    by_cases c1 : B p = 40
    · rw [if_pos (show nI (B p) = 40 from (eq 40 (by decide)).mpr c1), if_pos (by omega)]
      rfl
    · rw [if_neg (show ¬ nI (B p) = 40 from fun y => c1 ((eq 40 (by decide)).mp y))]
      by_cases c2 : B p = 41
      · rw [if_pos (show nI (B p) = 41 from (eq 41 (by decide)).mpr c2), if_pos (by omega)]
        rfl
      · rw [if_neg (show ¬ nI (B p) = 41 from fun y => c2 ((eq 41 (by decide)).mp y))]
        by_cases c3 : B p = 59
        · rw [if_pos (show nI (B p) = 59 from (eq 59 (by decide)).mpr c3), if_pos (by omega)]
          rfl
        · rw [if_neg (show ¬ nI (B p) = 59 from fun y => c3 ((eq 59 (by decide)).mp y))]
          by_cases c4 : B p = 60
          · rw [if_pos (show nI (B p) = 60 from (eq 60 (by decide)).mpr c4), if_pos (by omega)]
            rfl
          · rw [if_neg (show ¬ nI (B p) = 60 from fun y => c4 ((eq 60 (by decide)).mp y))]
            by_cases c5 : B p = 61
            · rw [if_pos (show nI (B p) = 61 from (eq 61 (by decide)).mpr c5), if_pos (by omega)]
              rfl
            · rw [if_neg (show ¬ nI (B p) = 61 from fun y => c5 ((eq 61 (by decide)).mp y))]
              by_cases c6 : B p = 62
              · rw [if_pos (show nI (B p) = 62 from (eq 62 (by decide)).mpr c6), if_pos (by omega)]
                rfl
              · rw [if_neg (show ¬ nI (B p) = 62 from fun y => c6 ((eq 62 (by decide)).mp y)), if_neg (by omega)]
                rfl
/-! ===== all tokens ===== -/
def q_ps (B : Nat → Nat) (T : Nat) : Nat → Nat
  | 0 => q_skp B T 0
  | k + 1 => q_skp B T (q_ed B T (q_ps B T k))
def q_qq (B : Nat → Nat) (T : Nat) : Nat → Nat
  | 0 => 0
  | k + 1 => q_ed B T (q_ps B T k)
theorem q_ps_q {B : Nat → Nat} {T : Nat} : ∀ n, q_ps B T n = q_skp B T (q_qq B T n)
  | 0 => rfl
  | _ + 1 => rfl
/-- tokens as the class has them -/
def q_tk (B : Nat → Nat) (T nt : Nat) (σ : jw_M) : Prop := ∀ j, j ≤ nt → σ.1 82 j = q_cod B T (q_ps B T j) ∧ σ.1 83 j = nI (q_ps B T j)
theorem e_cut6 {N T : Nat} {B : Nat → Nat} (hN : 300 ≤ N) : ∀ (r i k n bf : Nat) (σ : jw_M), i + r = T → r < k → n ≤ i → bf < 3 → q_tx B T σ → (∀ j, j < n → σ.1 82 j = q_cod B T (q_ps B T j) ∧ σ.1 83 j = nI (q_ps B T j) ∧ q_ps B T j < T) → (i < q_qq B T n ∧ q_qq B T n ≤ T ∧ bf ≠ 2 ∧ (∀ x, i ≤ x → x < q_qq B T n → q_ty (B x) = bf) ∧ (q_qq B T n < T → q_ty (B (q_qq B T n)) ≠ bf) ∨ q_skp B T (q_qq B T n) = q_skp B T i ∧ (bf = 2 ∨ (i < T → q_ty (B i) ≠ bf))) → ∃ nt σ', f_D_cutIntoTokens_6 N k (nI n) (nI bf) (nI i) σ = some σ' ∧ nt ≤ T ∧ (∀ j, j < nt → q_ps B T j < T) ∧ q_ps B T nt = T ∧ q_tk B T nt σ' ∧ q_fr (fun c _ => c == 82 || c == 83) σ σ' := by
  intro r
  induction r with
  | zero =>
    intro i k n bf σ hi hk hn hbf hx hj hI
    obtain ⟨k, rfl⟩ : ∃ j, k = j + 1 := ⟨k - 1, by omega⟩
    have t2 := hx.1
    have hI := hI.resolve_left (fun z => by omega)
    have ep : q_ps B T n = T := by rw [q_ps_q, hI.1, show i = T by omega, q_skp_T]
    rw [f_D_cutIntoTokens_6, hx.2.1, if_pos (nI_le (by omega) (by omega)), q_in (show n < 201 by omega) (by decide), cond_true, nI_clamp (by omega), q_wC (show (80 : Nat) ≠ 82 by decide), hx.2.1]
    refine ⟨n, _, rfl, by omega, fun j h => (hj j h).2.2, ep, fun j h => ?_, q_fr_w (q_fr_w (q_fr_r _ _) rfl) rfl⟩
    by_cases e : j = n
    · rw [e, q_wC (show (82 : Nat) ≠ 83 by decide), q_wS, q_wS, ep]
      refine ⟨?_, rfl⟩
      unfold q_cod
      rw [if_pos (Nat.le_refl _)]
    · rw [q_wC (show (82 : Nat) ≠ 83 by decide), q_wI e, q_wI e, q_wC (show (83 : Nat) ≠ 82 by decide)]
      exact ⟨(hj j (by omega)).1, (hj j (by omega)).2.1⟩
  | succ r ih =>
    intro i k n bf σ hi hk hn hbf hx hj hI
    obtain ⟨k, rfl⟩ : ∃ j, k = j + 1 := ⟨k - 1, by omega⟩
    have t2 := hx.1
    have hiT : i < T := by omega
    obtain ⟨b1, b2⟩ := hx.2.2 i hiT
    have ty3 : q_ty (B i) < 3 := by rcases q_ty_c (B i) with z | z | z <;> omega
    rw [f_D_cutIntoTokens_6, hx.2.1, if_neg (nI_ge (by omega) (by omega)), q_in (show i < 200 by omega) (by decide), cond_true, nI_clamp (show i < 2 ^ 31 by omega), b2, e_sortOf b1, Option.bind_some]
    unfold f_D_cutIntoTokens_42 f_D_cutIntoTokens_43 f_D_cutIntoTokens_84
    dsimp only
    rw [q_in (show i < 200 by omega) (by decide), nI_clamp (show i < 2 ^ 31 by omega), b2, nI_1, if_pos (show (0 : Int32) = 0 from rfl), if_neg (show ¬ (1 : Int32) = 0 by decide), cond_true]
    rcases hI with ⟨a1, a2, a3, a4, a5⟩ | ⟨a1, a2⟩
    · have ei := a4 i (Nat.le_refl _) a1
      rw [ei, if_neg (show ¬ nI bf = 2 from fun z => a3 ((nI_eq (b := 2) (by omega) (by decide)).mp z)), if_pos rfl]
      refine ih (i + 1) k n bf σ (by omega) (by omega) (by omega) hbf hx hj ?_
      by_cases c : i + 1 < q_qq B T n
      · exact Or.inl ⟨c, a2, a3, fun x h1 h2 => a4 x (by omega) h2, a5⟩
      · have e : q_qq B T n = i + 1 := by omega
        rw [e] at a5 ⊢
        exact Or.inr ⟨rfl, Or.inr a5⟩
    · have start : B i ≠ 32 → ∃ nt σ', ((f_D_tokenAt N (nI i) (nI (q_ty (B i))) σ).bind fun z10 => bif jx_in (nI n) 201 then f_D_cutIntoTokens_6 N k (nI n + 1) (nI (q_ty (B i))) (nI (i + 1)) (jx_w (jx_w z10.2 82 (nI n).toNatClampNeg z10.1) 83 (nI n).toNatClampNeg (nI i)) else none) = some σ' ∧ nt ≤ T ∧ (∀ j, j < nt → q_ps B T j < T) ∧ q_ps B T nt = T ∧ q_tk B T nt σ' ∧ q_fr (fun c _ => c == 82 || c == 83) σ σ' := by
        intro hb
        have ep : q_ps B T n = i := by rw [q_ps_q, a1, q_skp_0 hiT hb]
        have eb := q_ed_b (B := B) hiT
        rw [e_tokenAt hN hx hiT, Option.bind_some, q_in (show n < 201 by omega) (by decide), cond_true, nI_clamp (by omega), nI_1]
        dsimp only
        have eq : q_qq B T (n + 1) = q_ed B T i := by rw [q_qq, ep]
        obtain ⟨nt, σ', g1, g2, g3, g4, g5, g6⟩ := ih (i + 1) k (n + 1) (q_ty (B i)) (jx_w (jx_w σ 82 n (q_cod B T i)) 83 n (nI i)) (by omega) (by omega) (by omega) ty3 ⟨hx.1, by rw [q_wC (by decide), q_wC (by decide)]; exact hx.2.1, fun x hx' => by rw [q_wC (by decide), q_wC (by decide)]; exact hx.2.2 x hx'⟩ (fun j h => by
          by_cases e : j = n
          · rw [e, q_wC (show (82 : Nat) ≠ 83 by decide), q_wS, q_wS, ep]
            exact ⟨rfl, rfl, hiT⟩
          · rw [q_wC (show (82 : Nat) ≠ 83 by decide), q_wI e, q_wI e, q_wC (show (83 : Nat) ≠ 82 by decide)]
            exact hj j (by omega)) (by
          rw [eq]
          by_cases c2 : q_ty (B i) = 2
          · rw [q_ed_2 hiT c2]
            exact Or.inr ⟨rfl, Or.inl c2⟩
          · obtain ⟨e1, e2⟩ := eb.2.2 c2
            by_cases c3 : i + 1 < q_ed B T i
            · exact Or.inl ⟨c3, eb.2.1, c2, fun x h1 h2 => e1 x (by omega) h2, e2⟩
            · have e3 : q_ed B T i = i + 1 := by omega
              rw [e3] at e2 ⊢
              exact Or.inr ⟨rfl, Or.inr e2⟩)
        exact ⟨nt, σ', g1, g2, g3, g4, g5, q_fr_t (q_fr_w (q_fr_w (q_fr_r _ _) rfl) rfl) g6⟩
      have skip : B i = 32 → ∃ nt σ', f_D_cutIntoTokens_6 N k (nI n) (nI (q_ty (B i))) (nI (i + 1)) σ = some σ' ∧ nt ≤ T ∧ (∀ j, j < nt → q_ps B T j < T) ∧ q_ps B T nt = T ∧ q_tk B T nt σ' ∧ q_fr (fun c _ => c == 82 || c == 83) σ σ' := by
        intro hb
        exact ih (i + 1) k n (q_ty (B i)) σ (by omega) (by omega) (by omega) ty3 hx hj (Or.inr ⟨by rw [a1, q_skp_1 hiT hb], Or.inl (by rw [hb]; rfl)⟩)
      have both : ∃ nt σ', (if nI (B i) = 32 then f_D_cutIntoTokens_6 N k (nI n) (nI (q_ty (B i))) (nI (i + 1)) σ else (f_D_tokenAt N (nI i) (nI (q_ty (B i))) σ).bind fun z10 => bif jx_in (nI n) 201 then f_D_cutIntoTokens_6 N k (nI n + 1) (nI (q_ty (B i))) (nI (i + 1)) (jx_w (jx_w z10.2 82 (nI n).toNatClampNeg z10.1) 83 (nI n).toNatClampNeg (nI i)) else none) = some σ' ∧ nt ≤ T ∧ (∀ j, j < nt → q_ps B T j < T) ∧ q_ps B T nt = T ∧ q_tk B T nt σ' ∧ q_fr (fun c _ => c == 82 || c == 83) σ σ' := by
        by_cases hb : B i = 32
        · rw [if_pos (show nI (B i) = 32 by rw [hb]; rfl)]
          exact skip hb
        · rw [if_neg (show ¬ nI (B i) = 32 from fun z => hb ((nI_eq (b := 32) (by omega) (by decide)).mp z))]
          exact start hb
      by_cases c2 : q_ty (B i) = 2
      · rw [if_pos (show nI (q_ty (B i)) = 2 by rw [c2]; rfl)]
        exact both
      · rw [if_neg (show ¬ nI (q_ty (B i)) = 2 from fun z => c2 ((nI_eq (b := 2) (by omega) (by decide)).mp z)), if_neg (fun z => by
          have y := (nI_eq (by omega) (by omega)).mp z
          rcases a2 with w | w
          · omega
          · exact w hiT y)]
        exact both
theorem e_cut {N T : Nat} {B : Nat → Nat} {σ : jw_M} (hN : 300 ≤ N) (hx : q_tx B T σ) : ∃ nt σ', f_D_cutIntoTokens N σ = some σ' ∧ nt ≤ T ∧ (∀ j, j < nt → q_ps B T j < T) ∧ q_ps B T nt = T ∧ q_tk B T nt σ' ∧ q_fr (fun c _ => c == 82 || c == 83) σ σ' :=
  e_cut6 hN T 0 N 0 2 σ (by omega) (by have := hx.1; omega) (by omega) (by omega) hx (fun j h => absurd h (by omega)) (Or.inr ⟨rfl, Or.inl rfl⟩)
