/-! ===== pure: memory, numbers ===== -/
theorem q_w (σ : jw_M) (a i : Nat) (v : Int32) (c j : Nat) : (jx_w σ a i v).1 c j = if c = a ∧ j = i then v else σ.1 c j := by
  by_cases h : c = a
  · by_cases h2 : j = i
    · simp [jx_w, jw_up, va_up, h, h2]
    · simp [jx_w, jw_up, va_up, h, h2]
  · simp [jx_w, jw_up, va_up, h]
theorem q_w2 (σ : jw_M) (a i : Nat) (v : Int32) : (jx_w σ a i v).2 = σ.2 := rfl
theorem q_wS {σ : jw_M} {a i : Nat} {v : Int32} : (jx_w σ a i v).1 a i = v := by rw [q_w, if_pos ⟨rfl, rfl⟩]
theorem q_wC {σ : jw_M} {a i c j : Nat} {v : Int32} (h : c ≠ a) : (jx_w σ a i v).1 c j = σ.1 c j := by
  rw [q_w, if_neg (fun e => h e.1)]
theorem q_wI {σ : jw_M} {a i c j : Nat} {v : Int32} (h : j ≠ i) : (jx_w σ a i v).1 c j = σ.1 c j := by
  rw [q_w, if_neg (fun e => h e.2)]
theorem q_in {k n : Nat} (h : k < n) (hn : n < 2 ^ 31) : jx_in (nI k) n = true := by
  unfold jx_in
  exact decide_eq_true (nI_in h hn)
theorem q_ix {x : Int32} {n : Nat} (hn : n < 2 ^ 31) (h0 : ¬ x < 0) (h1 : ¬ nI n ≤ x) : ∃ j : Nat, j < n ∧ x = nI j := by
  rcases pk_ix x hn with h | h | h
  · exact absurd h h0
  · exact absurd h h1
  · exact h
/-- an int within literals -/
theorem q_wi {x lo hi : Int32} (a b : Nat) (hlo : lo = nI a) (hhi : hi = nI b) (ha : a < 2 ^ 31) (hb : b < 2 ^ 31) (h0 : ¬ x < lo) (h1 : ¬ hi < x) : ∃ j : Nat, a ≤ j ∧ j ≤ b ∧ x = nI j := by
  subst hlo
  subst hhi
  have n0 : ¬ x < 0 := by
    intro h
    apply h0
    have e : (nI a).toInt = (a : Int) := nI_toInt ha
    rw [Int32.lt_iff_toInt_lt] at h ⊢
    rw [e]
    have z : (0 : Int32).toInt = 0 := by decide
    omega
  obtain ⟨j, hj, rfl⟩ := nI_of n0
  rw [nI_ltI hj ha] at h0
  rw [nI_ltI hb hj] at h1
  exact ⟨j, by omega, by omega, rfl⟩
/-! ===== what is mirrored: places of the class's cells (from a first cell on) and places of one of the reference's rows, by a map ===== -/
def q_ji (J : Nat → Nat → Option Nat) : Prop := ∀ c i c' i' k, J c i = some k → J c' i' = some k → c = c' ∧ i = i'
def q_mir (J : Nat → Nat → Option Nat) (b r : Nat) (σC σM : jw_M) : Prop := ∀ c i k, J c i = some k → σC.1 (b + c) i = σM.1 r k
theorem q_mir_w {J : Nat → Nat → Option Nat} (hJ : q_ji J) {b r c i k : Nat} {σC σM : jw_M} (h : q_mir J b r σC σM) (hk : J c i = some k) (v : Int32) : q_mir J b r (jx_w σC (b + c) i v) (jx_w σM r k v) := by
  intro c' i' k' h'
  rw [q_w, q_w]
  by_cases e : c' = c ∧ i' = i
  · obtain ⟨rfl, rfl⟩ := e
    rw [hk] at h'
    cases h'
    rw [if_pos ⟨rfl, rfl⟩, if_pos ⟨rfl, rfl⟩]
  · have n1 : ¬ (b + c' = b + c ∧ i' = i) := fun z => e ⟨by omega, z.2⟩
    have n2 : ¬ (r = r ∧ k' = k) := by
      intro z
      rw [z.2] at h'
      exact e (hJ _ _ _ _ _ h' hk)
    rw [if_neg n1, if_neg n2]
    exact h c' i' k' h'
/-- what touches nothing mirrored keeps it -/
theorem q_mir_k {J : Nat → Nat → Option Nat} {b r : Nat} {σC σM σC' σM' : jw_M} (h : q_mir J b r σC σM) (hC : ∀ c i k, J c i = some k → σC'.1 (b + c) i = σC.1 (b + c) i) (hM : ∀ c i k, J c i = some k → σM'.1 r k = σM.1 r k) : q_mir J b r σC' σM' := by
  intro c i k hk
  rw [hC c i k hk, hM c i k hk]
  exact h c i k hk
theorem q_mir_C {J : Nat → Nat → Option Nat} {b r a i : Nat} {v : Int32} {σC σM : jw_M} (h : q_mir J b r σC σM) (ha : ∀ c k, J c i = some k → b + c ≠ a) : q_mir J b r (jx_w σC a i v) σM := by
  refine q_mir_k h (fun c j k hk => ?_) (fun _ _ _ _ => rfl)
  rw [q_w]
  by_cases e : j = i
  · subst e
    rw [if_neg (fun z => ha c k hk z.1)]
  · rw [if_neg (fun z => e z.2)]
theorem q_mir_M {J : Nat → Nat → Option Nat} {b r a i : Nat} {v : Int32} {σC σM : jw_M} (h : q_mir J b r σC σM) (hr : r ≠ a) : q_mir J b r σC (jx_w σM a i v) :=
  q_mir_k h (fun _ _ _ _ => rfl) (fun _ _ _ _ => q_wC hr)
/-- the school -/
def q_js (c i : Nat) : Option Nat :=
  if c = 0 then (if i = 0 then some 2 else if i = 5 then some 3 else if i = 12 then some 5 else if i = 14 then some 0 else if i = 15 then some 1 else none)
  else if c < 4 then (if i < 6 then some (5 + c + 3 * i) else none)
  else if c = 4 then (if i < 6 then some (64 + i) else none)
  else if c < 10 then (if i < 8 then some (19 + c + 5 * i) else none)
  else if c < 12 then none
  else if c < 18 then (if i < 4 then some (70 + 4 * (c - 12) + i) else none)
  else if c = 18 then (if i = 0 then some 4 else none)
  else none
def q_jsi (k : Nat) : Nat × Nat :=
  if k = 0 then (0, 14) else if k = 1 then (0, 15) else if k = 2 then (0, 0) else if k = 3 then (0, 5) else if k = 4 then (18, 0) else if k = 5 then (0, 12)
  else if k < 24 then (1 + (k - 6) % 3, (k - 6) / 3) else if k < 64 then (5 + (k - 24) % 5, (k - 24) / 5) else if k < 70 then (4, k - 64) else (12 + (k - 70) / 4, (k - 70) % 4)
theorem q_jsr {c i k : Nat} (h : q_js c i = some k) : c < 19 ∧ i < 16 := by
  unfold q_js at h
  repeat' split at h
  all_goals first
    | (cases h; done)
    | omega
def q_jsb (c i : Nat) : Bool := match q_js c i with
  | some k => decide (q_jsi k = (c, i)) && decide (k < 94)
  | none => true
theorem q_jsd : ∀ c, c < 19 → ∀ i, i < 16 → q_jsb c i = true := by decide +kernel
theorem q_jsv {c i k : Nat} (h : q_js c i = some k) : q_jsi k = (c, i) ∧ k < 94 := by
  obtain ⟨h1, h2⟩ := q_jsr h
  have z := q_jsd c h1 i h2
  unfold q_jsb at z
  rw [h] at z
  dsimp only at z
  rw [Bool.and_eq_true] at z
  exact ⟨of_decide_eq_true z.1, of_decide_eq_true z.2⟩
theorem q_jsJ : q_ji q_js := by
  intro c i c' i' k h h'
  have a := (q_jsv h).1
  rw [(q_jsv h').1] at a
  cases a
  exact ⟨rfl, rfl⟩
/-- how far all have come -/
def q_jp (c i : Nat) : Option Nat := if c = 0 then (if i < 2 then some i else none) else if c = 1 then (if i < 48 then some (8 + i) else none) else if c = 2 then (if i < 6 then some (2 + i) else none) else none
theorem q_jpr {c i k : Nat} (h : q_jp c i = some k) : c < 3 ∧ i < 48 ∧ k < 56 := by
  unfold q_jp at h
  repeat' split at h
  all_goals first
    | (cases h; done)
    | (cases h; omega)
theorem q_jpJ : q_ji q_jp := by
  intro c i c' i' k h h'
  unfold q_jp at h h'
  repeat' split at h
  all_goals first
    | (cases h; done)
    | (cases h
       repeat' split at h'
       all_goals first
         | (cases h'; done)
         | (have z := Option.some.inj h'; omega))
/-! ===== the simplest methods ===== -/
theorem u_seed {N : Nat} {x : Int32} {σC σM : jw_M} (h : q_mir q_js 1 3 σC σM) : f_F_seed N x σC = some (σM.1 3 1, jx_w σC 1 15 x) ∧ f_M_seed N x σM = some (σM.1 3 1, jx_w σM 3 1 x) := by
  refine ⟨?_, ?_⟩
  · unfold f_F_seed
    rw [show σC.1 1 15 = σM.1 3 1 from h 0 15 1 rfl]
  · unfold f_M_seed f_M_becomes
    rfl
theorem u_forget {N : Nat} {σC σM : jw_M} (h : q_mir q_js 1 3 σC σM) : f_F_forget N σC = some (σM.1 3 5, jx_w σC 1 12 0) ∧ f_M_forget N σM = some (σM.1 3 5, jx_w σM 3 5 0) := by
  refine ⟨?_, ?_⟩
  · unfold f_F_forget
    rw [show σC.1 1 12 = σM.1 3 5 from h 0 12 5 rfl]
  · unfold f_M_forget f_M_becomes
    rfl
