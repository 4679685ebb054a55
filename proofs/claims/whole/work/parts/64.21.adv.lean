/-! ===== pure: the reference's tokens ===== -/
def q_wr1 : List Nat → Nat
  | [] => 0
  | c :: l => 27 * q_wr1 l + (c - 96)
def q_w1l (a c : Nat) : Nat := 27 * a + c - 96
def q_wn (a : Nat) (l : List Nat) : Nat := l.foldl q_w1l a
theorem q_wn_c (a c : Nat) (l : List Nat) : q_wn a (c :: l) = q_wn (q_w1l a c) l := by
  unfold q_wn
  rw [List.foldl_cons]
theorem q_wn_0 (a : Nat) : q_wn a [] = a := by
  unfold q_wn
  rw [List.foldl_nil]
theorem q_wn_r : ∀ (l m : List Nat), (∀ c, c ∈ l → 97 ≤ c ∧ c ≤ 122) → q_wn (q_wr1 m) l = q_wr1 (l.reverse ++ m)
  | [], m, _ => by rw [q_wn_0, List.reverse_nil, List.nil_append]
  | c :: l, m, h => by
    have hc := h c List.mem_cons_self
    rw [q_wn_c, show q_w1l (q_wr1 m) c = q_wr1 (c :: m) by unfold q_w1l; rw [q_wr1]; omega, q_wn_r l (c :: m) (fun x hx => h x (List.mem_cons_of_mem _ hx)), List.reverse_cons, List.append_assoc]
    rfl
theorem q_wr1_i : ∀ l m : List Nat, (∀ c, c ∈ l → 97 ≤ c ∧ c ≤ 122) → (∀ c, c ∈ m → 97 ≤ c ∧ c ≤ 122) → q_wr1 l = q_wr1 m → l = m
  | [], [], _, _, _ => rfl
  | [], c :: m, _, hm, h => by
    have hc := hm c List.mem_cons_self
    rw [q_wr1, q_wr1] at h
    omega
  | c :: l, [], hl, _, h => by
    have hc := hl c List.mem_cons_self
    rw [q_wr1, q_wr1] at h
    omega
  | c :: l, d :: m, hl, hm, h => by
    have hc := hl c List.mem_cons_self
    have hd := hm d List.mem_cons_self
    rw [q_wr1, q_wr1] at h
    rw [show c = d by omega, q_wr1_i l m (fun x hx => hl x (List.mem_cons_of_mem _ hx)) (fun x hx => hm x (List.mem_cons_of_mem _ hx)) (by omega)]
theorem q_wn_i {l m : List Nat} (hl : ∀ c, c ∈ l → 97 ≤ c ∧ c ≤ 122) (hm : ∀ c, c ∈ m → 97 ≤ c ∧ c ≤ 122) (h : q_wn 0 l = q_wn 0 m) : l = m := by
  have e1 := q_wn_r l [] hl
  have e2 := q_wn_r m [] hm
  rw [List.append_nil] at e1 e2
  have z := q_wr1_i l.reverse m.reverse (fun c hc => hl c (List.mem_reverse.mp hc)) (fun c hc => hm c (List.mem_reverse.mp hc)) (by rw [← e1, ← e2]; exact h)
  exact List.reverse_inj.mp z
theorem q_wn_s : ∀ (a : Nat) (l : List Nat) (c : Nat), q_wn a (l ++ [c]) = q_w1l (q_wn a l) c
  | a, [], c => by rw [List.nil_append, q_wn_c, q_wn_0, q_wn_0]
  | a, d :: l, c => by rw [List.cons_append, q_wn_c, q_wn_c, q_wn_s _ l c]
theorem q_wn_b : ∀ (l : List Nat) (a : Nat), (∀ c, c ∈ l → 97 ≤ c ∧ c ≤ 122) → q_wn a l < (a + 1) * 27 ^ l.length
  | [], a, _ => by rw [q_wn_0, List.length_nil, Nat.pow_zero]; omega
  | c :: l, a, h => by
    have hc := h c List.mem_cons_self
    have z := q_wn_b l (q_w1l a c) (fun x hx => h x (List.mem_cons_of_mem _ hx))
    have y : q_w1l a c + 1 ≤ (a + 1) * 27 := by unfold q_w1l; omega
    rw [q_wn_c, List.length_cons, Nat.pow_succ, Nat.mul_comm (27 ^ l.length) 27, ← Nat.mul_assoc]
    exact Nat.lt_of_lt_of_le z (Nat.mul_le_mul_right _ y)
def q_wv (l : List Nat) : Int64 := if l.length ≤ 8 then lN (q_wn 0 l) else -1
theorem q_nmT : (q_nms.all (fun l => decide (l.length ≤ 8) && decide (2 ≤ l.length) && l.all (fun c => decide (97 ≤ c) && decide (c ≤ 122)))) = true := by decide +kernel
theorem q_nm_ok {x : List Nat} (h : x ∈ q_nms) : x.length ≤ 8 ∧ 2 ≤ x.length ∧ ∀ c, c ∈ x → 97 ≤ c ∧ c ≤ 122 := by
  have z := List.all_eq_true.mp q_nmT x h
  rw [Bool.and_eq_true, Bool.and_eq_true, List.all_eq_true] at z
  refine ⟨of_decide_eq_true z.1.1, of_decide_eq_true z.1.2, fun c hc => ?_⟩
  have y := z.2 c hc
  rw [Bool.and_eq_true] at y
  exact ⟨of_decide_eq_true y.1, of_decide_eq_true y.2⟩
theorem q_27 : (27 : Nat) ^ 8 < 2 ^ 62 := by decide
theorem q_wv_x {l x : List Nat} (hl : ∀ c, c ∈ l → 97 ≤ c ∧ c ≤ 122) (hx : x ∈ q_nms) : q_wv l = lN (q_wn 0 x) ↔ l = x := by
  obtain ⟨x1, x2, x3⟩ := q_nm_ok hx
  have bd : ∀ y : List Nat, y.length ≤ 8 → (∀ c, c ∈ y → 97 ≤ c ∧ c ≤ 122) → q_wn 0 y < 2 ^ 62 := fun y h1 h2 => by
    refine Nat.lt_of_lt_of_le (q_wn_b y 0 h2) ?_
    rw [Nat.zero_add, Nat.one_mul]
    exact Nat.le_trans (Nat.pow_le_pow_right (n := 27) (by decide) h1) (Nat.le_of_lt q_27)
  unfold q_wv
  by_cases c : l.length ≤ 8
  · rw [if_pos c, pk_lEQ (Nat.lt_of_lt_of_le (bd l c hl) (by decide)) (Nat.lt_of_lt_of_le (bd x x1 x3) (by decide))]
    exact ⟨fun h => q_wn_i hl x3 h, fun h => by rw [h]⟩
  · rw [if_neg c]
    constructor
    · intro h
      have y := congrArg Int64.toInt h
      rw [pk_lT (Nat.lt_of_lt_of_le (bd x x1 x3) (by decide)), show (-1 : Int64).toInt = -1 by decide] at y
      omega
    · intro h
      rw [h] at c
      exact absurd x1 c
theorem q_gd : ∀ (xs : List (List Nat)) (i : Nat), i < xs.length → xs.getD i [] ∈ xs
  | [], _, h => absurd h (by simp)
  | x :: xs, 0, _ => by
    rw [List.getD_cons_zero]
    exact List.mem_cons_self
  | x :: xs, i + 1, h => by
    rw [List.getD_cons_succ]
    exact List.mem_cons_of_mem _ (q_gd xs i (by rw [List.length_cons] at h; omega))
theorem q_ni_x {l : List Nat} : ∀ (xs : List (List Nat)) (j i : Nat), xs.Nodup → j + xs.length < 2 ^ 31 → i < xs.length → (q_ni l xs j = nI (j + i) ↔ l = xs.getD i [])
  | [], _, _, _, _, h => absurd h (by simp)
  | x :: xs, j, i, hn, hb, hi => by
    obtain ⟨n1, n2⟩ := List.nodup_cons.mp hn
    rw [List.length_cons] at hb hi
    rw [q_ni]
    cases i with
    | zero =>
      rw [List.getD_cons_zero]
      by_cases c : l = x
      · rw [if_pos c]
        exact ⟨fun _ => c, fun _ => rfl⟩
      · rw [if_neg c]
        refine ⟨fun h => ?_, fun h => absurd h c⟩
        exfalso
        have aux : ∀ (ys : List (List Nat)) (k : Nat), j < k → k + ys.length < 2 ^ 31 → q_ni l ys k ≠ nI (j + 0) := by
          intro ys
          induction ys with
          | nil =>
            intro k _ hk z
            exact nI_pos (n := j) (by simp at hk; omega) (by
              have z : (-1 : Int32) = nI j := z
              rw [← z]
              decide)
          | cons y ys ih =>
            intro k hk hl z
            rw [List.length_cons] at hl
            rw [q_ni] at z
            by_cases g : l = y
            · rw [if_pos g, nI_eq (by omega) (by omega)] at z
              omega
            · rw [if_neg g] at z
              exact ih (k + 1) (by omega) (by omega) z
        exact aux xs (j + 1) (by omega) (by omega) h
    | succ i =>
      rw [List.getD_cons_succ]
      by_cases c : l = x
      · rw [if_pos c, nI_eq (by omega) (by omega)]
        refine ⟨fun h => by omega, fun h => ?_⟩
        exfalso
        apply n1
        rw [← c, h]
        exact q_gd xs i (by omega)
      · rw [if_neg c, show j + (i + 1) = j + 1 + i by omega]
        exact q_ni_x xs (j + 1) i n2 (by omega) (by omega)
theorem q_ni_c {l : List Nat} : ∀ (xs : List (List Nat)) (j : Nat), q_ni l xs j = -1 ∨ ∃ i, i < xs.length ∧ q_ni l xs j = nI (j + i) ∧ l ∈ xs
  | [], _ => Or.inl rfl
  | x :: xs, j => by
    rw [q_ni]
    by_cases c : l = x
    · rw [if_pos c]
      exact Or.inr ⟨0, by rw [List.length_cons]; omega, rfl, by rw [c]; exact List.mem_cons_self⟩
    · rw [if_neg c]
      rcases q_ni_c (l := l) xs (j + 1) with h | ⟨i, h1, h2, h3⟩
      · exact Or.inl h
      · exact Or.inr ⟨i + 1, by rw [List.length_cons]; omega, by rw [h2, show j + 1 + i = j + (i + 1) by omega], List.mem_cons_of_mem _ h3⟩
theorem q_nmD : q_nms.Nodup := by decide
/-- the text, on the reference's side -/
def q_ty' (B : Nat → Nat) (T : Nat) (σ : jw_M) : Prop := T ≤ 200 ∧ σ.1 0 7 = nI T ∧ ∀ i, i < T → B i < 256 ∧ σ.1 6 i = nI (B i)
theorem e_byteAt {N T p : Nat} {B : Nat → Nat} {σ : jw_M} (hx : q_ty' B T σ) (hp : p ≤ T) : f_M_byteAt N (nI p) σ = some (if T ≤ p then -1 else nI (B p), σ) := by
  have t2 := hx.1
  unfold f_M_byteAt
  rw [hx.2.1]
  by_cases c : T ≤ p
  · rw [if_pos (nI_le c (by omega)), if_pos c]
  · rw [if_neg (nI_ge (by omega) (by omega)), if_neg c, q_in (show p < 200 by omega) (by decide), cond_true, nI_clamp (by omega), (hx.2.2 p (by omega)).2]
theorem e_letter {N b : Nat} {σ : jw_M} (hb : b < 256) : f_M_isLetter N (nI b) σ = some (bif decide (q_ty b = 0) then 1 else 0, σ) := by
  unfold f_M_isLetter
  rcases q_ty_c b with ⟨z, z1, z2⟩ | ⟨z, z1, z2⟩ | ⟨z, z1, z2⟩
  · rw [e_in1 (show ¬ (nI b < 97 ∨ 122 < nI b) from fun y => y.elim (fun y => absurd ((nI_ltI (b := 97) (by omega) (by decide)).mp y) (by omega)) (fun y => absurd ((nI_ltI (a := 122) (by decide) (by omega)).mp y) (by omega))), decide_eq_true z]
    rfl
  · rw [e_in0 (show nI b < 97 ∨ 122 < nI b from Or.inl (nI_lt (b := 97) (by omega) (by decide))), decide_eq_false (by omega)]
    rfl
  · rw [e_in0 (show nI b < 97 ∨ 122 < nI b by
      rcases Nat.lt_or_ge b 97 with y | y
      · exact Or.inl (nI_lt (b := 97) y (by decide))
      · exact Or.inr (nI_lt (a := 122) (by omega) (by omega))), decide_eq_false (by omega)]
    rfl
theorem e_digit {N b : Nat} {σ : jw_M} (hb : b < 256) : f_M_isDigit N (nI b) σ = some (bif decide (q_ty b = 1) then 1 else 0, σ) := by
  unfold f_M_isDigit
  rcases q_ty_c b with ⟨z, z1, z2⟩ | ⟨z, z1, z2⟩ | ⟨z, z1, z2⟩
  · rw [e_in0 (show nI b < 48 ∨ 57 < nI b from Or.inr (nI_lt (a := 57) (by omega) (by omega))), decide_eq_false (by omega)]
    rfl
  · rw [e_in1 (show ¬ (nI b < 48 ∨ 57 < nI b) from fun y => y.elim (fun y => absurd ((nI_ltI (b := 48) (by omega) (by decide)).mp y) (by omega)) (fun y => absurd ((nI_ltI (a := 57) (by decide) (by omega)).mp y) (by omega))), decide_eq_true z]
    rfl
  · rw [e_in0 (show nI b < 48 ∨ 57 < nI b by
      rcases Nat.lt_or_ge b 48 with y | y
      · exact Or.inl (nI_lt (b := 48) y (by decide))
      · exact Or.inr (nI_lt (a := 57) (by omega) (by omega))), decide_eq_false (by omega)]
    rfl
theorem e_letter' {N : Nat} {σ : jw_M} : f_M_isLetter N (-1) σ = some (0, σ) := by
  unfold f_M_isLetter
  rw [e_in0 (Or.inl (by decide))]
  rfl
theorem e_digit' {N : Nat} {σ : jw_M} : f_M_isDigit N (-1) σ = some (0, σ) := by
  unfold f_M_isDigit
  rw [e_in0 (Or.inl (by decide))]
  rfl
/-- what reading touches of the reference -/
def q_fm (P : Nat → Nat → Bool) (σ σ' : jw_M) : Prop := (∀ c i, P c i = false → σ'.1 c i = σ.1 c i) ∧ ∀ c i, c ≠ 0 → σ'.2 c i = σ.2 c i
theorem q_fm_r (P : Nat → Nat → Bool) (σ : jw_M) : q_fm P σ σ := ⟨fun _ _ _ => rfl, fun _ _ _ => rfl⟩
theorem q_fm_t {P : Nat → Nat → Bool} {σ τ υ : jw_M} (h : q_fm P σ τ) (g : q_fm P τ υ) : q_fm P σ υ := ⟨fun c i z => by rw [g.1 c i z, h.1 c i z], fun c i z => by rw [g.2 c i z, h.2 c i z]⟩
theorem q_fm_w {P : Nat → Nat → Bool} {σ τ : jw_M} (h : q_fm P σ τ) {a i : Nat} {v : Int32} (g : P a i = true) : q_fm P σ (jx_w τ a i v) := ⟨fun c j z => by
  rw [q_w]
  by_cases e : c = a ∧ j = i
  · rw [e.1, e.2, g] at z
    cases z
  · rw [if_neg e]
    exact h.1 c j z, h.2⟩
theorem q_fm_l {P : Nat → Nat → Bool} {σ τ : jw_M} (h : q_fm P σ τ) {i : Nat} {v : Int64} : q_fm P σ (jx_wl τ 0 i v) := ⟨h.1, fun c j z => by
  unfold jx_wl
  dsimp only
  rw [jw_up_ne z]
  exact h.2 c j z⟩
theorem q_fm_m {P Q : Nat → Nat → Bool} {σ τ : jw_M} (h : q_fm P σ τ) (g : ∀ c i, Q c i = false → P c i = false) : q_fm Q σ τ := ⟨fun c i z => h.1 c i (g c i z), h.2⟩
def q_ad (c i : Nat) : Bool := c == 0 && (i == 8 || i == 9 || i == 10 || i == 12)
theorem q_ty'_k {B : Nat → Nat} {T : Nat} {σ τ : jw_M} (h : q_ty' B T σ) (f : q_fm q_ad σ τ) : q_ty' B T τ := ⟨h.1, by rw [f.1 0 7 rfl]; exact h.2.1, fun i hi => by rw [f.1 6 i rfl]; exact h.2.2 i hi⟩
def q_s3 (B : Nat → Nat) (T p : Nat) : Int32 := if T ≤ p then 0 else if q_ty (B p) = 0 then 1 else if q_ty (B p) = 1 then 2 else 3
def q_nn (l : List Nat) : Int32 := if l.length ≤ 4 then nI (q_nv 0 l) else -1
/-- the token before the reference -/
def q_cur (B : Nat → Nat) (T p : Nat) (σ : jw_M) : Prop := p ≤ T ∧ σ.1 0 9 = nI p ∧ σ.1 0 10 = nI (q_ed B T p) ∧ σ.1 0 8 = q_s3 B T p ∧ (p < T → (q_ty (B p) = 0 → σ.2 0 11 = q_wv (q_bs B (q_ed B T p - p) p)) ∧ (q_ty (B p) = 1 → σ.1 0 12 = q_nn (q_bs B (q_ed B T p - p) p)) ∧ (q_ty (B p) = 2 → σ.1 0 12 = nI (B p)))
theorem q_nv_s : ∀ (a : Nat) (l : List Nat) (c : Nat), q_nv a (l ++ [c]) = q_n1l (q_nv a l) c
  | a, [], c => by rw [List.nil_append, q_nv_c, q_nv_0, q_nv_0]
  | a, d :: l, c => by rw [List.cons_append, q_nv_c, q_nv_c, q_nv_s _ l c]
theorem e_adv207 {N T p : Nat} {B : Nat → Nat} (hpT : p < T) (hty : q_ty (B p) = 1) : ∀ (r q k : Nat) (σ : jw_M), q + r = q_ed B T p → p ≤ q → r < k → q_ty' B T σ → σ.1 0 8 = 2 → σ.1 0 9 = nI p → σ.1 0 10 = nI q → σ.1 0 12 = q_nn (q_bs B (q - p) p) → ∃ σ', f_M_advance_207 N k σ = some σ' ∧ σ'.1 0 10 = nI (q_ed B T p) ∧ σ'.1 0 12 = q_nn (q_bs B (q_ed B T p - p) p) ∧ q_fm (fun c i => c == 0 && (i == 10 || i == 12)) σ σ' := by
  have eb := q_ed_b (B := B) hpT
  obtain ⟨e1, e2⟩ := eb.2.2 (by rw [hty]; decide)
  intro r
  induction r with
  | zero =>
    intro q k σ hq hpq hk hx h8 h9 h10 h12
    obtain ⟨k, rfl⟩ : ∃ j, k = j + 1 := ⟨k - 1, by omega⟩
    have t2 := hx.1
    rw [show q_ed B T p = q by omega] at e2 ⊢
    refine ⟨σ, ?_, h10, h12, q_fm_r _ _⟩
    rw [f_M_advance_207, h8, if_pos rfl, h10, e_byteAt hx (by omega), Option.bind_some]
    by_cases c : T ≤ q
    · rw [if_pos c]
      dsimp only
      rw [e_digit', Option.bind_some]
      rfl
    · rw [if_neg c]
      dsimp only
      rw [e_digit (hx.2.2 q (by omega)).1, Option.bind_some, decide_eq_false (fun z => e2 (by omega) (by rw [z, hty]))]
      rfl
  | succ r ih =>
    intro q k σ hq hpq hk hx h8 h9 h10 h12
    obtain ⟨k, rfl⟩ : ∃ j, k = j + 1 := ⟨k - 1, by omega⟩
    have t2 := hx.1
    have dq := e1 q hpq (by omega)
    rw [hty] at dq
    have bq : 48 ≤ B q := by rcases q_ty_c (B q) with z | z | z <;> omega
    rw [f_M_advance_207, h8, if_pos rfl, h10, e_byteAt hx (by omega), Option.bind_some, if_neg (show ¬ T ≤ q by omega)]
    dsimp only
    rw [e_digit (hx.2.2 q (by omega)).1, Option.bind_some, decide_eq_true dq]
    dsimp only
    rw [cond_true, if_neg (show ¬ (1 : Int32) = 0 by decide), h10, h9, pk_sub hpq, h12]
    unfold f_M_advance_266
    have fin : ∀ y : Int32, y = q_nn (q_bs B (q + 1 - p) p) → ∃ σ', f_M_advance_207 N k (jx_w (jx_w σ 0 12 y) 0 10 (((jx_w σ 0 12 y).1 0 10) + 1)) = some σ' ∧ σ'.1 0 10 = nI (q_ed B T p) ∧ σ'.1 0 12 = q_nn (q_bs B (q_ed B T p - p) p) ∧ q_fm (fun c i => c == 0 && (i == 10 || i == 12)) σ σ' := by
      intro y hy
      rw [q_wI (show (10 : Nat) ≠ 12 by decide), h10, nI_1]
      have fr : q_fm (fun c i => c == 0 && (i == 10 || i == 12)) σ (jx_w (jx_w σ 0 12 y) 0 10 (nI (q + 1))) := q_fm_w (q_fm_w (q_fm_r _ _) rfl) rfl
      obtain ⟨σ', g1, g2, g3, g4⟩ := ih (q + 1) k (jx_w (jx_w σ 0 12 y) 0 10 (nI (q + 1))) (by omega) (by omega) (by omega) (q_ty'_k hx (q_fm_m fr (fun c i z => by unfold q_ad at z; simp at z ⊢; omega))) (by rw [q_wI (by decide), q_wI (by decide)]; exact h8) (by rw [q_wI (by decide), q_wI (by decide)]; exact h9) q_wS (by rw [q_wI (by decide), q_wS]; exact hy)
      exact ⟨σ', g1, g2, g3, q_fm_t fr g4⟩
    by_cases c : 4 ≤ q - p
    · rw [if_pos (show (4 : Int32) ≤ nI (q - p) from nI_le (a := 4) c (by omega))]
      refine fin _ ?_
      unfold q_nn
      rw [q_bs_l, if_neg (by omega)]
    · rw [if_neg (show ¬ (4 : Int32) ≤ nI (q - p) from nI_ge (b := 4) (by omega) (by decide)), e_byteAt hx (by omega), Option.bind_some, if_neg (show ¬ T ≤ q by omega)]
      refine fin _ ?_
      unfold q_nn
      rw [q_bs_l, q_bs_l, if_pos (by omega), if_pos (by omega), show q + 1 - p = (q - p) + 1 by omega, q_bs_s, q_nv_s, show p + (q - p) = q by omega, show q_n1l (q_nv 0 (q_bs B (q - p) p)) (B q) = q_nv 0 (q_bs B (q - p) p) * 10 + B q - 48 from rfl, show (10 : Int32) * nI (q_nv 0 (q_bs B (q - p) p)) = nI (10 * q_nv 0 (q_bs B (q - p) p)) from pk_mul 10 _, nI_add, show nI (10 * q_nv 0 (q_bs B (q - p) p) + B q) - 48 = nI (10 * q_nv 0 (q_bs B (q - p) p) + B q - 48) from pk_sub (b := 48) (by omega), Nat.mul_comm]
theorem q_lsub {a b : Nat} (h : b ≤ a) : lN a - lN b = lN (a - b) := by
  have e : lN (a - b) + lN b = lN a := by
    rw [show lN (a - b) + lN b = lN (a - b + b) from (Int64.ofNat_add (a - b) b).symm, Nat.sub_add_cancel h]
  rw [← e, Int64.add_sub_cancel]
theorem e_adv126 {N T p : Nat} {B : Nat → Nat} (hN : 300 ≤ N) (hpT : p < T) (hty : q_ty (B p) = 0) : ∀ (r q k : Nat) (σ : jw_M), q + r = q_ed B T p → p ≤ q → r < k → q_ty' B T σ → σ.1 0 8 = 1 → σ.1 0 9 = nI p → σ.1 0 10 = nI q → σ.2 0 11 = q_wv (q_bs B (q - p) p) → ∃ σ', f_M_advance_126 N k σ = some σ' ∧ σ'.1 0 10 = nI (q_ed B T p) ∧ σ'.2 0 11 = q_wv (q_bs B (q_ed B T p - p) p) ∧ q_fm (fun c i => c == 0 && i == 10) σ σ' := by
  have eb := q_ed_b (B := B) hpT
  obtain ⟨e1, e2⟩ := eb.2.2 (by rw [hty]; decide)
  have e207 : ∀ σ : jw_M, σ.1 0 8 = 1 → f_M_advance_207 N N σ = some σ := fun σ h => by
    obtain ⟨M, rfl⟩ : ∃ M, N = M + 1 := ⟨N - 1, by omega⟩
    rw [f_M_advance_207, h, if_neg (by decide)]
  intro r
  induction r with
  | zero =>
    intro q k σ hq hpq hk hx h8 h9 h10 h11
    obtain ⟨k, rfl⟩ : ∃ j, k = j + 1 := ⟨k - 1, by omega⟩
    have t2 := hx.1
    rw [show q_ed B T p = q by omega] at e2 ⊢
    refine ⟨σ, ?_, h10, h11, q_fm_r _ _⟩
    rw [f_M_advance_126, h8, if_pos rfl, h10, e_byteAt hx (by omega), Option.bind_some]
    by_cases c : T ≤ q
    · rw [if_pos c]
      dsimp only
      rw [e_letter', Option.bind_some]
      dsimp only
      rw [if_pos rfl, e207 σ h8]
    · rw [if_neg c]
      dsimp only
      rw [e_letter (hx.2.2 q (by omega)).1, Option.bind_some, decide_eq_false (fun z => e2 (by omega) (by rw [z, hty]))]
      dsimp only
      rw [cond_false, if_pos rfl, e207 σ h8]
  | succ r ih =>
    intro q k σ hq hpq hk hx h8 h9 h10 h11
    obtain ⟨k, rfl⟩ : ∃ j, k = j + 1 := ⟨k - 1, by omega⟩
    have t2 := hx.1
    have dq := e1 q hpq (by omega)
    rw [hty] at dq
    have bq : 97 ≤ B q := by rcases q_ty_c (B q) with z | z | z <;> omega
    rw [f_M_advance_126, h8, if_pos rfl, h10, e_byteAt hx (by omega), Option.bind_some, if_neg (show ¬ T ≤ q by omega)]
    dsimp only
    rw [e_letter (hx.2.2 q (by omega)).1, Option.bind_some, decide_eq_true dq]
    dsimp only
    rw [cond_true, if_neg (show ¬ (1 : Int32) = 0 by decide), h10, h9, pk_sub hpq, h11]
    unfold f_M_advance_191
    have fin : ∀ y : Int64, y = q_wv (q_bs B (q + 1 - p) p) → ∃ σ', f_M_advance_126 N k (jx_w (jx_wl σ 0 11 y) 0 10 (((jx_wl σ 0 11 y).1 0 10) + 1)) = some σ' ∧ σ'.1 0 10 = nI (q_ed B T p) ∧ σ'.2 0 11 = q_wv (q_bs B (q_ed B T p - p) p) ∧ q_fm (fun c i => c == 0 && i == 10) σ σ' := by
      intro y hy
      rw [show (jx_wl σ 0 11 y).1 0 10 = σ.1 0 10 from rfl, h10, nI_1]
      have fr : q_fm (fun c i => c == 0 && i == 10) σ (jx_w (jx_wl σ 0 11 y) 0 10 (nI (q + 1))) := q_fm_w (q_fm_l (q_fm_r _ _)) rfl
      have e11 : (jx_w (jx_wl σ 0 11 y) 0 10 (nI (q + 1))).2 0 11 = y := by
        rw [q_w2]
        unfold jx_wl
        dsimp only
        rw [jw_up_eq]
        exact if_pos rfl
      obtain ⟨σ', g1, g2, g3, g4⟩ := ih (q + 1) k (jx_w (jx_wl σ 0 11 y) 0 10 (nI (q + 1))) (by omega) (by omega) (by omega) (q_ty'_k hx (q_fm_m fr (fun c i z => by unfold q_ad at z; simp at z ⊢; omega))) (by rw [q_wI (by decide)]; exact h8) (by rw [q_wI (by decide)]; exact h9) q_wS (by rw [e11]; exact hy)
      exact ⟨σ', g1, g2, g3, q_fm_t fr g4⟩
    by_cases c : 8 ≤ q - p
    · rw [if_pos (show (8 : Int32) ≤ nI (q - p) from nI_le (a := 8) c (by omega))]
      refine fin _ ?_
      unfold q_wv
      rw [q_bs_l, if_neg (by omega)]
    · rw [if_neg (show ¬ (8 : Int32) ≤ nI (q - p) from nI_ge (b := 8) (by omega) (by decide)), e_byteAt hx (by omega), Option.bind_some, if_neg (show ¬ T ≤ q by omega)]
      refine fin _ ?_
      have b256 := (hx.2.2 q (by omega)).1
      unfold q_wv
      rw [q_bs_l, q_bs_l, if_pos (by omega), if_pos (by omega), show q + 1 - p = (q - p) + 1 by omega, q_bs_s, q_wn_s, show p + (q - p) = q by omega, show q_w1l (q_wn 0 (q_bs B (q - p) p)) (B q) = 27 * q_wn 0 (q_bs B (q - p) p) + B q - 96 from rfl, nI_l (by omega), show (27 : Int64) * lN (q_wn 0 (q_bs B (q - p) p)) = lN (27 * q_wn 0 (q_bs B (q - p) p)) from (Int64.ofNat_mul 27 _).symm, show lN (27 * q_wn 0 (q_bs B (q - p) p)) + lN (B q) = lN (27 * q_wn 0 (q_bs B (q - p) p) + B q) from (Int64.ofNat_add _ _).symm, show lN (27 * q_wn 0 (q_bs B (q - p) p) + B q) - 96 = lN (27 * q_wn 0 (q_bs B (q - p) p) + B q - 96) from q_lsub (b := 96) (by omega)]
theorem e_adv8 {N T : Nat} {B : Nat → Nat} (hN : 300 ≤ N) : ∀ (r p k : Nat) (σ : jw_M), p + r = T → r < k → q_ty' B T σ → σ.1 0 9 = nI p → ∃ σ', f_M_advance_8 N k σ = some σ' ∧ q_cur B T (q_skp B T p) σ' ∧ q_fm q_ad σ σ' := by
  have e207 : ∀ σ : jw_M, ¬ σ.1 0 8 = 2 → f_M_advance_207 N N σ = some σ := fun σ h => by
    obtain ⟨M, rfl⟩ : ∃ M, N = M + 1 := ⟨N - 1, by omega⟩
    rw [f_M_advance_207, if_neg h]
  have e126 : ∀ σ : jw_M, ¬ σ.1 0 8 = 1 → f_M_advance_126 N N σ = f_M_advance_207 N N σ := fun σ h => by
    obtain ⟨M, rfl⟩ : ∃ M, N = M + 1 := ⟨N - 1, by omega⟩
    rw [f_M_advance_126, if_neg h]
  intro r
  induction r with
  | zero =>
    intro p k σ hp hk hx h9
    obtain ⟨k, rfl⟩ : ∃ j, k = j + 1 := ⟨k - 1, by omega⟩
    have t2 := hx.1
    have hp : p = T := by omega
    subst hp
    rw [f_M_advance_8, h9, e_byteAt hx (by omega), Option.bind_some, if_pos (Nat.le_refl _)]
    dsimp only
    rw [if_neg (by decide), h9, q_wI (show (9 : Nat) ≠ 10 by decide), h9]
    have fr : q_fm q_ad σ (jx_w σ 0 10 (nI p)) := q_fm_w (q_fm_r _ _) rfl
    rw [e_byteAt (q_ty'_k hx fr) (by omega), Option.bind_some, if_pos (Nat.le_refl _)]
    dsimp only
    rw [if_neg (by decide)]
    unfold f_M_advance_83 f_M_advance_105
    obtain ⟨τ, hτ⟩ : ∃ τ, τ = jx_wl (jx_w (jx_w σ 0 10 (nI p)) 0 8 0) 0 11 0 := ⟨_, rfl⟩
    rw [← hτ]
    have k8 : τ.1 0 8 = 0 := by rw [hτ]; show (jx_w (jx_w σ 0 10 (nI p)) 0 8 0).1 0 8 = 0; exact q_wS
    have k9 : τ.1 0 9 = nI p := by rw [hτ]; show (jx_w (jx_w σ 0 10 (nI p)) 0 8 0).1 0 9 = _; rw [q_wI (by decide), q_wI (by decide)]; exact h9
    have k10 : τ.1 0 10 = nI p := by rw [hτ]; show (jx_w (jx_w σ 0 10 (nI p)) 0 8 0).1 0 10 = _; rw [q_wI (by decide), q_wS]
    rw [k8, if_neg (by decide), q_wI (show (8 : Nat) ≠ 12 by decide), k8, if_neg (by decide), e126 _ (by rw [q_wI (by decide), k8]; decide), e207 _ (by rw [q_wI (by decide), k8]; decide), q_skp_T]
    refine ⟨_, rfl, ⟨Nat.le_refl _, by rw [q_wI (by decide)]; exact k9, by rw [q_wI (by decide), q_ed_T]; exact k10, ?_, fun z => absurd z (by omega)⟩, ?_⟩
    · rw [q_wI (by decide), k8]
      unfold q_s3
      rw [if_pos (Nat.le_refl _)]
    · rw [hτ]
      exact q_fm_w (q_fm_l (q_fm_w fr rfl)) rfl
  | succ r ih =>
    intro p k σ hp hk hx h9
    obtain ⟨k, rfl⟩ : ∃ j, k = j + 1 := ⟨k - 1, by omega⟩
    have t2 := hx.1
    have hpT : p < T := by omega
    obtain ⟨b1, b2⟩ := hx.2.2 p hpT
    have eb := q_ed_b (B := B) hpT
    rw [f_M_advance_8, h9, e_byteAt hx (by omega), Option.bind_some, if_neg (show ¬ T ≤ p by omega)]
    dsimp only
    by_cases c : B p = 32
    · rw [if_pos (show nI (B p) = 32 by rw [c]; rfl), h9, nI_1, q_skp_1 hpT c]
      obtain ⟨σ', g1, g2, g3⟩ := ih (p + 1) k (jx_w σ 0 9 (nI (p + 1))) (by omega) (by omega) (q_ty'_k hx (q_fm_w (q_fm_r _ _) rfl)) q_wS
      exact ⟨σ', g1, g2, q_fm_t (q_fm_w (q_fm_r _ _) rfl) g3⟩
    · rw [if_neg (show ¬ nI (B p) = 32 from fun z => c ((nI_eq (b := 32) (by omega) (by decide)).mp z)), h9, q_wI (show (9 : Nat) ≠ 10 by decide), h9, q_skp_0 hpT c]
      have fr : q_fm q_ad σ (jx_w σ 0 10 (nI p)) := q_fm_w (q_fm_r _ _) rfl
      rw [e_byteAt (q_ty'_k hx fr) (by omega), Option.bind_some, if_neg (show ¬ T ≤ p by omega)]
      dsimp only
      rw [if_pos (nI_pos' (by omega)), e_letter b1, Option.bind_some]
      dsimp only
      rw [e_digit b1, Option.bind_some]
      dsimp only
      unfold f_M_advance_83 f_M_advance_105
      have k9' : ∀ y : Int32, (jx_wl (jx_w (jx_w σ 0 10 (nI p)) 0 8 y) 0 11 0).1 0 9 = nI p := fun y => by
        show (jx_w (jx_w σ 0 10 (nI p)) 0 8 y).1 0 9 = _
        rw [q_wI (by decide), q_wI (by decide)]
        exact h9
      have k10' : ∀ y : Int32, (jx_wl (jx_w (jx_w σ 0 10 (nI p)) 0 8 y) 0 11 0).1 0 10 = nI p := fun y => by
        show (jx_w (jx_w σ 0 10 (nI p)) 0 8 y).1 0 10 = _
        rw [q_wI (by decide), q_wS]
      have k8' : ∀ y : Int32, (jx_wl (jx_w (jx_w σ 0 10 (nI p)) 0 8 y) 0 11 0).1 0 8 = y := fun y => by
        show (jx_w (jx_w σ 0 10 (nI p)) 0 8 y).1 0 8 = y
        exact q_wS
      have fr' : ∀ y : Int32, q_fm q_ad σ (jx_wl (jx_w (jx_w σ 0 10 (nI p)) 0 8 y) 0 11 0) := fun y => q_fm_l (q_fm_w fr rfl)
      have k11' : ∀ y : Int32, (jx_wl (jx_w (jx_w σ 0 10 (nI p)) 0 8 y) 0 11 0).2 0 11 = 0 := fun y => by
        unfold jx_wl
        dsimp only
        rw [jw_up_eq]
        exact if_pos rfl
      have ns : ∀ {x : Nat}, q_ty (B p) = x → q_s3 B T p = if x = 0 then 1 else if x = 1 then 2 else 3 := fun {x} hx => by
        unfold q_s3
        rw [if_neg (show ¬ T ≤ p by omega), hx]
      rcases q_ty_c (B p) with ⟨z, z1, z2⟩ | ⟨z, z1, z2⟩ | ⟨z, z1, z2⟩
      · rw [decide_eq_true z, cond_true, if_neg (show ¬ (1 : Int32) = 0 by decide), k8', if_neg (show ¬ (1 : Int32) = 2 by decide)]
        obtain ⟨τ, hτ⟩ : ∃ τ, τ = jx_w (jx_wl (jx_w (jx_w σ 0 10 (nI p)) 0 8 1) 0 11 0) 0 12 (nI (B p)) := ⟨_, rfl⟩
        rw [← hτ]
        have m8 : τ.1 0 8 = 1 := by rw [hτ, q_wI (by decide)]; exact k8' 1
        have m9 : τ.1 0 9 = nI p := by rw [hτ, q_wI (by decide)]; exact k9' 1
        have m10 : τ.1 0 10 = nI p := by rw [hτ, q_wI (by decide)]; exact k10' 1
        have m11 : τ.2 0 11 = 0 := by rw [hτ, q_w2]; exact k11' 1
        have mf : q_fm q_ad σ τ := by rw [hτ]; exact q_fm_w (fr' 1) rfl
        rw [m8, if_neg (show ¬ (1 : Int32) = 3 by decide)]
        obtain ⟨σ', g1, g2, g3, g4⟩ := e_adv126 (N := N) hN hpT z (q_ed B T p - p) p N τ (by omega) (Nat.le_refl _) (by omega) (q_ty'_k hx mf) m8 m9 m10 (by rw [m11, Nat.sub_self, q_bs]; decide)
        refine ⟨σ', g1, ⟨by omega, by rw [g4.1 0 9 rfl]; exact m9, g2, by rw [g4.1 0 8 rfl, m8, ns z]; rfl, fun _ => ⟨fun _ => g3, fun y => absurd y (by omega), fun y => absurd y (by omega)⟩⟩, q_fm_t mf (q_fm_m g4 (fun c i z => by unfold q_ad at z; simp at z ⊢; omega))⟩
      · rw [decide_eq_false (show ¬ q_ty (B p) = 0 by omega), cond_false, if_pos rfl, decide_eq_true z, cond_true, if_neg (show ¬ (1 : Int32) = 0 by decide), k8', if_pos rfl]
        obtain ⟨τ, hτ⟩ : ∃ τ, τ = jx_w (jx_wl (jx_w (jx_w σ 0 10 (nI p)) 0 8 2) 0 11 0) 0 12 0 := ⟨_, rfl⟩
        rw [← hτ]
        have m8 : τ.1 0 8 = 2 := by rw [hτ, q_wI (by decide)]; exact k8' 2
        have m9 : τ.1 0 9 = nI p := by rw [hτ, q_wI (by decide)]; exact k9' 2
        have m10 : τ.1 0 10 = nI p := by rw [hτ, q_wI (by decide)]; exact k10' 2
        have m12 : τ.1 0 12 = 0 := by rw [hτ, q_wS]
        have mf : q_fm q_ad σ τ := by rw [hτ]; exact q_fm_w (fr' 2) rfl
        rw [m8, if_neg (show ¬ (2 : Int32) = 3 by decide), e126 τ (by rw [m8]; decide)]
        obtain ⟨σ', g1, g2, g3, g4⟩ := e_adv207 (N := N) hpT z (q_ed B T p - p) p N τ (by omega) (Nat.le_refl _) (by omega) (q_ty'_k hx mf) m8 m9 m10 (by rw [m12, Nat.sub_self, q_bs]; decide)
        refine ⟨σ', g1, ⟨by omega, by rw [g4.1 0 9 rfl]; exact m9, g2, by rw [g4.1 0 8 rfl, m8, ns z]; rfl, fun _ => ⟨fun y => absurd y (by omega), fun _ => g3, fun y => absurd y (by omega)⟩⟩, q_fm_t mf (q_fm_m g4 (fun c i z => by unfold q_ad at z; simp at z ⊢; omega))⟩
      · rw [decide_eq_false (show ¬ q_ty (B p) = 0 by omega), cond_false, if_pos rfl, decide_eq_false (show ¬ q_ty (B p) = 1 by omega), cond_false, if_pos rfl, k8', if_neg (show ¬ (3 : Int32) = 2 by decide)]
        obtain ⟨τ, hτ⟩ : ∃ τ, τ = jx_w (jx_wl (jx_w (jx_w σ 0 10 (nI p)) 0 8 3) 0 11 0) 0 12 (nI (B p)) := ⟨_, rfl⟩
        rw [← hτ]
        have m8 : τ.1 0 8 = 3 := by rw [hτ, q_wI (by decide)]; exact k8' 3
        have m9 : τ.1 0 9 = nI p := by rw [hτ, q_wI (by decide)]; exact k9' 3
        have m10 : τ.1 0 10 = nI p := by rw [hτ, q_wI (by decide)]; exact k10' 3
        have m12 : τ.1 0 12 = nI (B p) := by rw [hτ, q_wS]
        have mf : q_fm q_ad σ τ := by rw [hτ]; exact q_fm_w (fr' 3) rfl
        rw [m8, if_pos rfl, m10, nI_1, e126 _ (by rw [q_wI (by decide), m8]; decide), e207 _ (by rw [q_wI (by decide), m8]; decide)]
        refine ⟨_, rfl, ⟨by omega, by rw [q_wI (by decide)]; exact m9, by rw [q_wS, q_ed_2 hpT z], by rw [q_wI (by decide), m8, ns z]; rfl, fun _ => ⟨fun y => absurd y (by omega), fun y => absurd y (by omega), fun _ => by rw [q_wI (by decide)]; exact m12⟩⟩, q_fm_w mf rfl⟩
theorem e_adv {N T e : Nat} {B : Nat → Nat} {σ : jw_M} (hN : 300 ≤ N) (he : e ≤ T) (hx : q_ty' B T σ) (h10 : σ.1 0 10 = nI e) : ∃ σ', f_M_advance N σ = some σ' ∧ q_cur B T (q_skp B T e) σ' ∧ q_fm q_ad σ σ' := by
  unfold f_M_advance
  rw [h10]
  have fr : q_fm q_ad σ (jx_w σ 0 9 (nI e)) := q_fm_w (q_fm_r _ _) rfl
  obtain ⟨σ', g1, g2, g3⟩ := e_adv8 hN (T - e) e N (jx_w σ 0 9 (nI e)) (by omega) (by have := hx.1; omega) (q_ty'_k hx fr) q_wS
  exact ⟨σ', g1, g2, q_fm_t fr g3⟩
/-! ===== what is seen ===== -/
theorem q_ty_012 (b : Nat) : q_ty b = 0 ∨ q_ty b = 1 ∨ q_ty b = 2 := by
  rcases q_ty_c b with z | z | z
  · exact Or.inl z.1
  · exact Or.inr (Or.inl z.1)
  · exact Or.inr (Or.inr z.1)
theorem q_cod_T {B : Nat → Nat} {T : Nat} : q_cod B T T = -2 := by
  unfold q_cod
  rw [if_pos (Nat.le_refl _)]
theorem q_cod_0 {B : Nat → Nat} {T p : Nat} (h : p < T) (z : q_ty (B p) = 0) : q_cod B T p = q_ni (q_bs B (q_ed B T p - p) p) q_nms 0 := by
  unfold q_cod
  rw [if_neg (by omega), if_pos z]
theorem q_cod_1 {B : Nat → Nat} {T p : Nat} (h : p < T) (z : q_ty (B p) = 1) : q_cod B T p = if q_ed B T p - p ≤ 4 then nI (1000 + q_nv 0 (q_bs B (q_ed B T p - p) p)) else -1 := by
  unfold q_cod
  rw [if_neg (by omega), if_neg (by omega), if_pos z]
theorem q_cod_2 {B : Nat → Nat} {T p : Nat} (h : p < T) (z : q_ty (B p) = 2) : q_cod B T p = if B p = 40 ∨ B p = 41 ∨ B p = 59 ∨ B p = 60 ∨ B p = 61 ∨ B p = 62 then nI (B p) else -1 := by
  unfold q_cod
  rw [if_neg (by omega), if_neg (by omega), if_neg (by omega)]
theorem q_nv_4 : ∀ (l : List Nat) (a : Nat), (∀ c, c ∈ l → 48 ≤ c ∧ c ≤ 57) → q_nv a l < (a + 1) * 10 ^ l.length
  | [], a, _ => by rw [q_nv_0, List.length_nil, Nat.pow_zero]; omega
  | c :: l, a, h => by
    have hc := h c List.mem_cons_self
    have z := q_nv_4 l (q_n1l a c) (fun x hx => h x (List.mem_cons_of_mem _ hx))
    have y : q_n1l a c + 1 ≤ (a + 1) * 10 := by unfold q_n1l; omega
    rw [q_nv_c, List.length_cons, Nat.pow_succ, Nat.mul_comm (10 ^ l.length) 10, ← Nat.mul_assoc]
    exact Nat.lt_of_lt_of_le z (Nat.mul_le_mul_right _ y)
theorem q_bs_d {B : Nat → Nat} {T p : Nat} (h : p < T) (z : q_ty (B p) = 1) : ∀ c, c ∈ q_bs B (q_ed B T p - p) p → 48 ≤ c ∧ c ≤ 57 := by
  have eb := q_ed_b (B := B) h
  refine q_bs_m (P := fun c => 48 ≤ c ∧ c ≤ 57) _ _ (fun i h1 h2 => ?_)
  have y := (eb.2.2 (by omega)).1 i h1 (by omega)
  rw [z] at y
  rcases q_ty_c (B i) with x | x | x <;> omega
theorem q_bs_a {B : Nat → Nat} {T p : Nat} (h : p < T) (z : q_ty (B p) = 0) : ∀ c, c ∈ q_bs B (q_ed B T p - p) p → 97 ≤ c ∧ c ≤ 122 := by
  have eb := q_ed_b (B := B) h
  refine q_bs_m (P := fun c => 97 ≤ c ∧ c ≤ 122) _ _ (fun i h1 h2 => ?_)
  have y := (eb.2.2 (by omega)).1 i h1 (by omega)
  rw [z] at y
  rcases q_ty_c (B i) with x | x | x <;> omega
theorem q_nvB {B : Nat → Nat} {T p : Nat} (h : p < T) (z : q_ty (B p) = 1) (h4 : q_ed B T p - p ≤ 4) : q_nv 0 (q_bs B (q_ed B T p - p) p) < 10000 := by
  refine Nat.lt_of_lt_of_le (q_nv_4 _ 0 (q_bs_d h z)) ?_
  rw [q_bs_l, Nat.zero_add, Nat.one_mul]
  exact Nat.pow_le_pow_right (n := 10) (by decide) h4
/-- the kinds of token -/
def q_cd (c : Int32) : Prop := c = -1 ∨ (∃ j, j < 18 ∧ c = nI j) ∨ (∃ b, (b = 40 ∨ b = 41 ∨ b = 59 ∨ b = 60 ∨ b = 61 ∨ b = 62) ∧ c = nI b) ∨ ∃ v, v < 10000 ∧ c = nI (1000 + v)
theorem q_cod_c {B : Nat → Nat} {T p : Nat} (h : p < T) : q_cd (q_cod B T p) := by
  rcases q_ty_012 (B p) with z | z | z
  · rw [q_cod_0 h z]
    rcases q_ni_c (l := q_bs B (q_ed B T p - p) p) q_nms 0 with y | ⟨i, i1, i2, _⟩
    · exact Or.inl y
    · exact Or.inr (Or.inl ⟨i, i1, by rw [i2, Nat.zero_add]⟩)
  · rw [q_cod_1 h z]
    by_cases c : q_ed B T p - p ≤ 4
    · rw [if_pos c]
      exact Or.inr (Or.inr (Or.inr ⟨_, q_nvB h z c, rfl⟩))
    · rw [if_neg c]
      exact Or.inl rfl
  · rw [q_cod_2 h z]
    by_cases c : B p = 40 ∨ B p = 41 ∨ B p = 59 ∨ B p = 60 ∨ B p = 61 ∨ B p = 62
    · rw [if_pos c]
      exact Or.inr (Or.inr (Or.inl ⟨B p, c, rfl⟩))
    · rw [if_neg c]
      exact Or.inl rfl
/-- a name has two letters or more -/
theorem q_cod_len {B : Nat → Nat} {T p j : Nat} (h : p < T) (hj : j < 18) (e : q_cod B T p = nI j) : p + 2 ≤ q_ed B T p := by
  have eb := q_ed_b (B := B) h
  rcases q_ty_012 (B p) with z | z | z
  · rw [q_cod_0 h z] at e
    rcases q_ni_c (l := q_bs B (q_ed B T p - p) p) q_nms 0 with y | ⟨i, i1, i2, i3⟩
    · rw [y] at e
      exact absurd (show nI j < 0 by rw [← e]; decide) (nI_pos (by omega))
    · have y := (q_nm_ok i3).2.1
      rw [q_bs_l] at y
      omega
  · rw [q_cod_1 h z] at e
    by_cases c : q_ed B T p - p ≤ 4
    · rw [if_pos c, nI_eq (by have := q_nvB h z c; omega) (by omega)] at e
      omega
    · rw [if_neg c] at e
      exact absurd (show nI j < 0 by rw [← e]; decide) (nI_pos (by omega))
  · rw [q_cod_2 h z] at e
    by_cases c : B p = 40 ∨ B p = 41 ∨ B p = 59 ∨ B p = 60 ∨ B p = 61 ∨ B p = 62
    · rw [if_pos c, nI_eq (by omega) (by omega)] at e
      omega
    · rw [if_neg c] at e
      exact absurd (show nI j < 0 by rw [← e]; decide) (nI_pos (by omega))
theorem q_s3_v {B : Nat → Nat} {T p x : Nat} (h : p < T) (z : q_ty (B p) = x) : q_s3 B T p = if x = 0 then 1 else if x = 1 then 2 else 3 := by
  unfold q_s3
  rw [if_neg (show ¬ T ≤ p by omega), z]
theorem q_s3_T {B : Nat → Nat} {T p : Nat} (h : T ≤ p) : q_s3 B T p = 0 := by
  unfold q_s3
  rw [if_pos h]
theorem e_isWord {N T p j : Nat} {B : Nat → Nat} {x : Int64} {σ : jw_M} (hc : q_cur B T p σ) (hj : j < 18) (hxx : x = lN (q_wn 0 (q_nms.getD j []))) : f_M_isWord N x σ = some (bif decide (q_cod B T p = nI j) then 1 else 0, σ) := by
  obtain ⟨c1, c2, c3, c4, c5⟩ := hc
  unfold f_M_isWord
  rw [c4]
  have hl : q_nms.length = 18 := rfl
  by_cases hT : T ≤ p
  · rw [q_s3_T hT, if_neg (by decide)]
    unfold q_cod
    rw [if_pos hT, decide_eq_false (fun z => absurd (show nI j < 0 by rw [← z]; decide) (nI_pos (by omega)))]
    rfl
  · have hp : p < T := by omega
    rcases q_ty_012 (B p) with z | z | z
    · rw [q_s3_v hp z, if_pos rfl, if_pos rfl, (c5 hp).1 z, q_cod_0 hp z, hxx]
      have y := q_wv_x (x := q_nms.getD j []) (q_bs_a hp z) (q_gd q_nms j (by omega))
      have w := q_ni_x (l := q_bs B (q_ed B T p - p) p) q_nms 0 j q_nmD (by rw [hl]; decide) (by omega)
      rw [Nat.zero_add] at w
      by_cases g : q_bs B (q_ed B T p - p) p = q_nms.getD j []
      · rw [if_pos ((lg_cmp_eq _ _).mpr (y.mpr g)), decide_eq_true (w.mpr g)]
        rfl
      · rw [if_neg (fun u => g (y.mp ((lg_cmp_eq _ _).mp u))), decide_eq_false (fun u => g (w.mp u))]
        rfl
    · rw [q_s3_v hp z, if_neg (show ¬ 1 = 0 by decide), if_pos rfl, if_neg (by decide), decide_eq_false (fun u => by
        have y := q_cod_len hp hj u
        rw [q_cod_1 hp z] at u
        by_cases c : q_ed B T p - p ≤ 4
        · rw [if_pos c, nI_eq (by have := q_nvB hp z c; omega) (by omega)] at u
          omega
        · rw [if_neg c] at u
          exact absurd (show nI j < 0 by rw [← u]; decide) (nI_pos (by omega)))]
      rfl
    · rw [q_s3_v hp z, if_neg (show ¬ 2 = 0 by decide), if_neg (show ¬ 2 = 1 by decide), if_neg (by decide), decide_eq_false (fun u => by
        rw [q_cod_2 hp z] at u
        by_cases c : B p = 40 ∨ B p = 41 ∨ B p = 59 ∨ B p = 60 ∨ B p = 61 ∨ B p = 62
        · rw [if_pos c, nI_eq (by omega) (by omega)] at u
          omega
        · rw [if_neg c] at u
          exact absurd (show nI j < 0 by rw [← u]; decide) (nI_pos (by omega)))]
      rfl
theorem e_isMark {N T p b : Nat} {B : Nat → Nat} {σ : jw_M} (hc : q_cur B T p σ) (hB : p < T → B p < 256) (hb : b = 40 ∨ b = 41 ∨ b = 59 ∨ b = 60 ∨ b = 61 ∨ b = 62) : f_M_isMark N (nI b) σ = some (bif decide (q_cod B T p = nI b) then 1 else 0, σ) := by
  obtain ⟨c1, c2, c3, c4, c5⟩ := hc
  unfold f_M_isMark
  rw [c4]
  by_cases hT : T ≤ p
  · rw [q_s3_T hT, if_neg (by decide)]
    unfold q_cod
    rw [if_pos hT, decide_eq_false (fun z => absurd (show nI b < 0 by rw [← z]; decide) (nI_pos (by omega)))]
    rfl
  · have hp : p < T := by omega
    have b2 := hB hp
    rcases q_ty_012 (B p) with z | z | z
    · rw [q_s3_v hp z, if_pos rfl, if_neg (show ¬ (1 : Int32) = 3 by decide), decide_eq_false (fun u => by
        rw [q_cod_0 hp z] at u
        rcases q_ni_c (l := q_bs B (q_ed B T p - p) p) q_nms 0 with y | ⟨i, i1, i2, i3⟩
        · rw [y] at u
          exact absurd (show nI b < 0 by rw [← u]; decide) (nI_pos (by omega))
        · have : i < 18 := i1
          rw [i2, nI_eq (by omega) (by omega)] at u
          omega)]
      rfl
    · rw [q_s3_v hp z, if_neg (show ¬ 1 = 0 by decide), if_pos rfl, if_neg (by decide), decide_eq_false (fun u => by
        rw [q_cod_1 hp z] at u
        by_cases c : q_ed B T p - p ≤ 4
        · rw [if_pos c, nI_eq (by have := q_nvB hp z c; omega) (by omega)] at u
          omega
        · rw [if_neg c] at u
          exact absurd (show nI b < 0 by rw [← u]; decide) (nI_pos (by omega)))]
      rfl
    · rw [q_s3_v hp z, if_neg (show ¬ 2 = 0 by decide), if_neg (show ¬ 2 = 1 by decide), if_pos rfl, (c5 hp).2.2 z, q_cod_2 hp z]
      by_cases c : B p = b
      · rw [if_pos (by rw [c]), if_pos (by omega), decide_eq_true (by rw [c])]
        rfl
      · rw [if_neg (fun u => c ((nI_eq (by omega) (by omega)).mp u)), decide_eq_false (fun u => by
          by_cases g : B p = 40 ∨ B p = 41 ∨ B p = 59 ∨ B p = 60 ∨ B p = 61 ∨ B p = 62
          · rw [if_pos g, nI_eq (by omega) (by omega)] at u
            exact c u
          · rw [if_neg g] at u
            exact absurd (show nI b < 0 by rw [← u]; decide) (nI_pos (by omega)))]
        rfl
theorem e_sort0 {T p : Nat} {B : Nat → Nat} {σ : jw_M} (hc : q_cur B T p σ) : σ.1 0 8 = 0 ↔ p = T := by
  obtain ⟨c1, c2, c3, c4, c5⟩ := hc
  rw [c4]
  unfold q_s3
  by_cases hT : T ≤ p
  · rw [if_pos hT]
    exact ⟨fun _ => by omega, fun _ => rfl⟩
  · rw [if_neg hT]
    refine ⟨fun h => ?_, fun h => by omega⟩
    exfalso
    revert h
    split
    · decide
    · split <;> decide
theorem e_numb {T p : Nat} {B : Nat → Nat} {σ : jw_M} (hc : q_cur B T p σ) : (σ.1 0 8 = 2 → (σ.1 0 12 = -1 ∧ q_cod B T p = -1) ∨ ∃ v, v < 10000 ∧ σ.1 0 12 = nI v ∧ q_cod B T p = nI (1000 + v)) ∧ (∀ v, v < 10000 → q_cod B T p = nI (1000 + v) → σ.1 0 8 = 2 ∧ σ.1 0 12 = nI v) := by
  obtain ⟨c1, c2, c3, c4, c5⟩ := hc
  refine ⟨fun h => ?_, fun v hv e => ?_⟩
  · rw [c4] at h
    unfold q_s3 at h
    by_cases hT : T ≤ p
    · rw [if_pos hT] at h
      exact absurd h (by decide)
    · have hp : p < T := by omega
      rw [if_neg hT] at h
      rcases q_ty_012 (B p) with z | z | z
      · rw [if_pos z] at h
        exact absurd h (by decide)
      · rw [(c5 hp).2.1 z, q_cod_1 hp z]
        unfold q_nn
        rw [q_bs_l]
        by_cases c : q_ed B T p - p ≤ 4
        · rw [if_pos c, if_pos c]
          exact Or.inr ⟨_, q_nvB hp z c, rfl, rfl⟩
        · rw [if_neg c, if_neg c]
          exact Or.inl ⟨rfl, rfl⟩
      · rw [if_neg (by omega), if_neg (by omega)] at h
        exact absurd h (by decide)
  · by_cases hT : T ≤ p
    · unfold q_cod at e
      rw [if_pos hT] at e
      exact absurd (show nI (1000 + v) < 0 by rw [← e]; decide) (nI_pos (by omega))
    · have hp : p < T := by omega
      rcases q_ty_012 (B p) with z | z | z
      · rw [q_cod_0 hp z] at e
        rcases q_ni_c (l := q_bs B (q_ed B T p - p) p) q_nms 0 with y | ⟨i, i1, i2, i3⟩
        · rw [y] at e
          exact absurd (show nI (1000 + v) < 0 by rw [← e]; decide) (nI_pos (by omega))
        · have : i < 18 := i1
          rw [i2, nI_eq (by omega) (by omega)] at e
          omega
      · rw [c4, (c5 hp).2.1 z]
        unfold q_s3 q_nn
        rw [if_neg hT, if_neg (by omega), if_pos z, q_bs_l]
        rw [q_cod_1 hp z] at e
        by_cases c : q_ed B T p - p ≤ 4
        · rw [if_pos c, nI_eq (by have := q_nvB hp z c; omega) (by omega)] at e
          rw [if_pos c]
          exact ⟨rfl, by rw [show q_nv 0 (q_bs B (q_ed B T p - p) p) = v by omega]⟩
        · rw [if_neg c] at e
          exact absurd (show nI (1000 + v) < 0 by rw [← e]; decide) (nI_pos (by omega))
      · rw [q_cod_2 hp z] at e
        by_cases c : B p = 40 ∨ B p = 41 ∨ B p = 59 ∨ B p = 60 ∨ B p = 61 ∨ B p = 62
        · rw [if_pos c, nI_eq (by omega) (by omega)] at e
          omega
        · rw [if_neg c] at e
          exact absurd (show nI (1000 + v) < 0 by rw [← e]; decide) (nI_pos (by omega))
theorem e_mark12 {T p b : Nat} {B : Nat → Nat} {σ : jw_M} (hc : q_cur B T p σ) (hB : p < T → B p < 256) (hb : b = 40 ∨ b = 41 ∨ b = 59 ∨ b = 60 ∨ b = 61 ∨ b = 62) (e : q_cod B T p = nI b) : σ.1 0 12 = nI b := by
  have z := e_isMark (N := 0) hc hB hb
  rw [decide_eq_true e, cond_true] at z
  unfold f_M_isMark at z
  by_cases c1 : σ.1 0 8 = 3
  · rw [if_pos c1] at z
    by_cases c2 : σ.1 0 12 = nI b
    · exact c2
    · rw [if_neg c2] at z
      have y := congrArg (fun o => o.map (·.1)) z
      exact absurd (show (0 : Int32) = 1 from Option.some.inj y) (by decide)
  · rw [if_neg c1] at z
    have y := congrArg (fun o => o.map (·.1)) z
    exact absurd (show (0 : Int32) = 1 from Option.some.inj y) (by decide)
theorem q_W0 : (276903788 : Int64) = lN (q_wn 0 (q_nms.getD 0 [])) := by decide +kernel
theorem q_W1 : (151648177 : Int64) = lN (q_wn 0 (q_nms.getD 1 [])) := by decide +kernel
theorem q_W2 : (105358135 : Int64) = lN (q_wn 0 (q_nms.getD 2 [])) := by decide +kernel
theorem q_W3 : (37372952047 : Int64) = lN (q_wn 0 (q_nms.getD 3 [])) := by decide +kernel
theorem q_W4 : (383153 : Int64) = lN (q_wn 0 (q_nms.getD 4 [])) := by decide +kernel
theorem q_W5 : (27000172156 : Int64) = lN (q_wn 0 (q_nms.getD 5 [])) := by decide +kernel
theorem q_W6 : (237458 : Int64) = lN (q_wn 0 (q_nms.getD 6 [])) := by decide +kernel
theorem q_W7 : (99682 : Int64) = lN (q_wn 0 (q_nms.getD 7 [])) := by decide +kernel
theorem q_W8 : (323728 : Int64) = lN (q_wn 0 (q_nms.getD 8 [])) := by decide +kernel
theorem q_W9 : (249 : Int64) = lN (q_wn 0 (q_nms.getD 9 [])) := by decide +kernel
theorem q_W10 : (423 : Int64) = lN (q_wn 0 (q_nms.getD 10 [])) := by decide +kernel
theorem q_W11 : (1111 : Int64) = lN (q_wn 0 (q_nms.getD 11 [])) := by decide +kernel
theorem q_W12 : (10631 : Int64) = lN (q_wn 0 (q_nms.getD 12 [])) := by decide +kernel
theorem q_W13 : (168984 : Int64) = lN (q_wn 0 (q_nms.getD 13 [])) := by decide +kernel
theorem q_W14 : (174877292 : Int64) = lN (q_wn 0 (q_nms.getD 14 [])) := by decide +kernel
theorem q_W15 : (9454493 : Int64) = lN (q_wn 0 (q_nms.getD 15 [])) := by decide +kernel
theorem q_W16 : (394725 : Int64) = lN (q_wn 0 (q_nms.getD 16 [])) := by decide +kernel
theorem q_W17 : (212302449 : Int64) = lN (q_wn 0 (q_nms.getD 17 [])) := by decide +kernel
