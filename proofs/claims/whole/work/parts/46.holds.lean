/-! ===== pure: conditions as steps; what they come to, on the class's side ===== -/
abbrev q_I : Type := Nat × (Bool × Nat) × (Bool × Nat)
def q_val (F : Nat → Int32) (v : Bool × Nat) : Int32 := bif v.1 then F v.2 else nI v.2
def q_cmp (F : Nat → Int32) (o : Nat) (a b : Bool × Nat) : Bool := if o = 0 then decide (q_val F a < q_val F b) else if o = 1 then decide (q_val F a = q_val F b) else decide (q_val F b < q_val F a)
def q_ev1 (F : Nat → Int32) (x : q_I) (s : List Bool) : List Bool := if x.1 < 3 then q_cmp F x.1 x.2.1 x.2.2 :: s else match s with
  | [] => []
  | b :: s' => if x.1 = 5 then (!b) :: s' else match s' with
    | [] => []
    | a :: s'' => (if x.1 = 3 then (a && b) else (a || b)) :: s''
def q_ev (F : Nat → Int32) : List q_I → List Bool → List Bool
  | [], s => s
  | x :: c, s => q_ev F c (q_ev1 F x s)
/-- so many wait, never more than nine -/
def q_dp : List q_I → Nat → Bool
  | [], _ => true
  | x :: c, n => if x.1 < 3 then decide (n < 9) && q_dp c (n + 1) else if x.1 = 5 then decide (1 ≤ n) && q_dp c n else decide (x.1 < 5) && decide (2 ≤ n) && q_dp c (n - 1)
def q_enc : List Bool → Nat
  | [] => 1
  | b :: s => 2 * q_enc s + (bif b then 1 else 0)
theorem q_encB : ∀ s : List Bool, q_enc s < 2 ^ (s.length + 1)
  | [] => by decide
  | b :: s => by
    have h := q_encB s
    rw [q_enc, List.length_cons, Nat.pow_succ]
    cases b
    · rw [cond_false]
      omega
    · rw [cond_true]
      omega
def q_top (s : List Bool) : Bool := match s with
  | [] => true
  | b :: _ => b
theorem q_encT (s : List Bool) : q_enc s % 2 = bif q_top s then 1 else 0 := by
  cases s with
  | nil => rfl
  | cons b s =>
    cases b
    · show (2 * q_enc s + 0) % 2 = 0
      omega
    · show (2 * q_enc s + 1) % 2 = 1
      omega
theorem q_B3 : ∀ n, n < 1024 → (((nI n >>> ((2 : Int32) &&& 31)) <<< ((1 : Int32) &&& 31)) ||| (((nI n >>> ((1 : Int32) &&& 31)) &&& 1) &&& (nI n &&& 1))) = nI (n / 4 * 2 + (n / 2 % 2) * (n % 2)) := by decide +kernel
theorem q_B4 : ∀ n, n < 1024 → ((((nI n >>> ((2 : Int32) &&& 31)) <<< ((1 : Int32) &&& 31)) ||| ((nI n >>> ((1 : Int32) &&& 31)) &&& 1)) ||| (nI n &&& 1)) = nI (n / 4 * 2 + (if n / 2 % 2 + n % 2 = 0 then 0 else 1)) := by decide +kernel
theorem q_B5 : ∀ n, n < 1024 → (nI n ^^^ 1) = nI (if n % 2 = 0 then n + 1 else n - 1) := by decide +kernel
theorem q_B1 : ∀ n, n < 1024 → ((nI n <<< ((1 : Int32) &&& 31)) ||| 1) = nI (2 * n + 1) := by decide +kernel
theorem q_B0 : ∀ n, n < 1024 → ((nI n <<< ((1 : Int32) &&& 31)) ||| 0) = nI (2 * n + 0) := by decide +kernel
theorem q_Bt : ∀ n, n < 1024 → (nI n &&& 1) = nI (n % 2) := by decide +kernel
/-- steps and values as the class lays them, from a step on -/
def q_cC (τ : jw_M) (F : Nat → Int32) : Nat → List q_I → Prop
  | _, [] => True
  | e, x :: c => τ.1 23 e = nI x.1 ∧ x.1 < 6 ∧ (x.1 < 3 → ∃ a b, a < 105 ∧ b < 105 ∧ τ.1 24 e = nI a ∧ τ.1 25 e = nI b ∧ τ.1 26 a = q_val F x.2.1 ∧ τ.1 26 b = q_val F x.2.2) ∧ q_cC τ F (e + 1) c
theorem e_compare {F : Nat → Int32} {o : Nat} (ho : o < 3) (a b : Bool × Nat) {G : Int32 → Option (Int32 × jw_M)} : ∃ r, (if q_val F b ≤ q_val F a then if q_val F a ≤ q_val F b then G 1 else G 2 else G 0) = G r ∧ (r = nI o ↔ q_cmp F o a b = true) := by
  unfold q_cmp
  generalize q_val F a = x
  generalize q_val F b = y
  by_cases c : y ≤ x
  · by_cases d : x ≤ y
    · refine ⟨1, by rw [if_pos c, if_pos d], ?_⟩
      have e : x = y := by
        rw [Int32.le_iff_toInt_le] at c d
        exact Int32.toInt_inj.mp (by omega)
      subst e
      rcases (show o = 0 ∨ o = 1 ∨ o = 2 by omega) with rfl | rfl | rfl
      · rw [if_pos rfl]
        exact ⟨fun z => absurd z (by decide), fun z => absurd (of_decide_eq_true z) (Int32.lt_irrefl)⟩
      · rw [if_neg (by decide), if_pos rfl]
        exact ⟨fun _ => decide_eq_true rfl, fun _ => rfl⟩
      · rw [if_neg (by decide), if_neg (by decide)]
        exact ⟨fun z => absurd z (by decide), fun z => absurd (of_decide_eq_true z) (Int32.lt_irrefl)⟩
    · refine ⟨2, by rw [if_pos c, if_neg d], ?_⟩
      have l : y < x := Int32.not_le.mp d
      rcases (show o = 0 ∨ o = 1 ∨ o = 2 by omega) with rfl | rfl | rfl
      · rw [if_pos rfl]
        exact ⟨fun z => absurd z (by decide), fun z => absurd (of_decide_eq_true z) (Int32.not_lt.mpr c)⟩
      · rw [if_neg (by decide), if_pos rfl]
        exact ⟨fun z => absurd z (by decide), fun z => absurd (of_decide_eq_true z) (fun w => d (by rw [w]; exact Int32.le_refl _))⟩
      · rw [if_neg (by decide), if_neg (by decide)]
        exact ⟨fun _ => decide_eq_true l, fun _ => rfl⟩
  · refine ⟨0, by rw [if_neg c], ?_⟩
    have l : x < y := Int32.not_le.mp c
    rcases (show o = 0 ∨ o = 1 ∨ o = 2 by omega) with rfl | rfl | rfl
    · rw [if_pos rfl]
      exact ⟨fun _ => decide_eq_true l, fun _ => rfl⟩
    · rw [if_neg (by decide), if_pos rfl]
      exact ⟨fun z => absurd z (by decide), fun z => absurd (of_decide_eq_true z) (fun w => c (by rw [w]; exact Int32.le_refl _))⟩
    · rw [if_neg (by decide), if_neg (by decide)]
      exact ⟨fun z => absurd z (by decide), fun z => absurd (Int32.le_of_lt (of_decide_eq_true z)) c⟩
