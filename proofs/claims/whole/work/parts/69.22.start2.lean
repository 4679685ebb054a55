/-! ===== both begin alike, out of what is needed ===== -/
def jl_in (R : List (Nat × Nat)) (c k : Nat) : Bool := R.any (fun q => Nat.beq q.1 c && Nat.blt k q.2)
theorem jl_in_ok {R : List (Nat × Nat)} {P : Nat → Nat → Prop} (h : ∀ q ∈ R, ∀ k, k < q.2 → P q.1 k) {c k : Nat} (hi : jl_in R c k = true) : P c k := by
  obtain ⟨q, h1, h2⟩ := List.any_eq_true.mp hi
  rw [Bool.and_eq_true] at h2
  rw [← Nat.eq_of_beq_eq_true h2.1]
  exact h q h1 k (Nat.le_of_ble_eq_true h2.2)
theorem jr_chkR_ok {cls mid : Nat} {Sh : List jw_S} {M : Nat → Nat → Int32} {R R2 : List (Nat × Nat)} (h : jr_chkR cls mid Sh M R R2 = true) : ∃ σ : jw_M, (∀ c k, jl_in R c k = true → σ.1 c k = M c k) ∧ (∀ c k, jl_in R2 c k = true → σ.2 c k = 0) ∧ ∀ Q : jw_Q, Q none (Sh, σ) → jw_C jp_kd jp_ys 8 mid [.ref 0] ([.inl (cls, jp_kd cls)], (fun _ _ => 0), (fun _ _ => 0)) Q := by
  unfold jr_chkR at h
  split at h
  · rename_i h' he
    rw [Bool.and_eq_true, Bool.and_eq_true] at h
    obtain ⟨h1, h2, h3⟩ := h
    have h1 := of_decide_eq_true h1
    refine ⟨h'.2, fun c k hk => jl_in_ok (P := fun c k => h'.2.1 c k = M c k) (fun q hq k hk => of_decide_eq_true (List.all_eq_true.mp (List.all_eq_true.mp h2 q hq) k (List.mem_range.mpr hk))) hk, fun c k hk => jl_in_ok (P := fun c k => h'.2.2 c k = 0) (fun q hq k hk => of_decide_eq_true (List.all_eq_true.mp (List.all_eq_true.mp h3 q hq) k (List.mem_range.mpr hk))) hk, fun Q hQ => jr_C_ok 8 mid _ _ none h' he Q ?_⟩
    rw [← h1] at hQ
    exact hQ
  · cases h
theorem jl_n1' : ∀ k, k < 56 → jl_in jl_RM 1 k = true := by decide +kernel
theorem jl_n3 : ∀ k, k < 94 → jl_in jl_RM 3 k = true := by decide +kernel
theorem jl_n16 : ∀ k, k < 160 → jl_in [(16, 160)] 16 k = true := by decide +kernel
theorem jl_n11 : ∀ k, k < 17 → jl_in jl_RC 11 k = true := by decide +kernel
theorem jl_n125 : ∀ s, s < 4 → ∀ i, i < 40 → jl_in jl_RC (125 + s) i = true := by decide +kernel
theorem jl_ns : ∀ s, s < 4 → jl_in jl_RC 122 s = true ∧ jl_in jl_RC 123 s = true ∧ jl_in jl_RC 129 s = true ∧ jl_in jl_RM 14 s = true ∧ jl_in jl_RM 15 s = true ∧ jl_in jl_RM 17 s = true := by decide +kernel
def jl_jn (c i : Nat) : Bool := match q_js c i with
  | some _ => jl_in jl_RC (1 + c) i
  | none => true
theorem jl_jnT : ∀ c, c < 19 → ∀ i, i < 16 → jl_jn c i = true := by decide +kernel
def jl_jm (c i : Nat) : Bool := match q_jp c i with
  | some _ => jl_in jl_RC (27 + c) i
  | none => true
theorem jl_jmT : ∀ c, c < 3 → ∀ i, i < 48 → jl_jm c i = true := by decide +kernel
theorem jl_R1 {σC σM : jw_M} (cC : ∀ c k, jl_in jl_RC c k = true → σC.1 c k = jx_M0C c k) (cM : ∀ c k, jl_in jl_RM c k = true → σM.1 c k = jx_M0M c k) (cL : ∀ c k, jl_in [(16, 160)] c k = true → σM.2 c k = 0) : q_R σC σM := by
  have r1 : ∀ k, k < 56 → σM.1 1 k = 0 := fun k h => (cM 1 k (jl_n1' k h)).trans (jl_M1 k (by omega))
  have r3 : ∀ k, k < 94 → 2 ≤ k → σM.1 3 k = 0 := fun k h h2 => (cM 3 k (jl_n3 k h)).trans (jl_M3 k (by omega) h2)
  refine ⟨⟨[], 0, 0, 12, 0, 0, ⟨by decide, by decide, by decide, by decide, r3 2 (by decide) (by decide), r3 3 (by decide) (by decide), (cM 3 0 (by decide)).trans rfl, fun p hp => absurd hp (Nat.not_lt_zero p), fun l hl => absurd hl (Nat.not_lt_zero l)⟩, fun p hp => ⟨fun i _ _ => ?_, fun _ => r3 _ (by omega) (by omega)⟩, ⟨by decide, r3 5 (by decide) (by decide), fun r hr => absurd hr (Nat.not_lt_zero r)⟩, ⟨r3 4 (by decide) (by decide), by decide, trivial, fun x hx => absurd hx List.not_mem_nil⟩, ⟨r1 0 (by decide), by decide, fun p hp => ⟨fun i _ _ => ?_, fun l _ hl => r1 _ (by omega)⟩, fun p _ hp => ⟨r1 _ (by omega), fun l hl => r1 _ (by omega)⟩, fun p l hp => absurd hp (Nat.not_lt_zero p)⟩, ⟨fun c i k hk => ?_, fun h hh i hi => ?_, trivial⟩, fun c i k hk => ?_⟩, ?_, ?_, ?_, ?_, ?_, ?_⟩
  · rw [r3 _ (by omega) (by omega)]
    exact b_0 i
  · rw [r1 _ (by omega)]
    exact b_0 i
  · have a := q_jsr hk
    have b := q_jsv hk
    rw [cC _ _ (by
      have y := jl_jnT c a.1 i a.2
      unfold jl_jn at y
      rw [hk] at y
      exact y), cM _ _ (jl_n3 _ (by omega))]
    have z := jl_js c a.1 i a.2
    unfold jl_jt at z
    rw [hk] at z
    exact of_decide_eq_true z
  · rw [show 1 + 10 = 11 from rfl, cC _ _ (jl_n11 _ (by omega)), jl_C11 _ (by omega), b_0]
    rfl
  · have a := q_jpr hk
    rw [show 1 + 26 + c = 27 + c from rfl, cC _ _ (by
      have y := jl_jmT c a.1 i a.2.1
      unfold jl_jm at y
      rw [hk] at y
      exact y), jl_C27 c a.1 i a.2.1, r1 _ (by omega)]
  · exact Or.inl ⟨(cC 0 2 (by decide)).trans rfl, (cM 0 5 (by decide)).trans rfl⟩
  · exact ⟨0, by decide, (cC 80 0 (by decide)).trans rfl, (cM 0 7 (by decide)).trans rfl, fun i hi => absurd hi (Nat.not_lt_zero i)⟩
  · exact ⟨0, by decide, (cC 92 10 (by decide)).trans rfl, (cM 0 29 (by decide)).trans rfl, fun k w hk => absurd hk (Nat.not_lt_zero k)⟩
  · intro s hs
    obtain ⟨j1, j2, j3, j4, _⟩ := jl_Cs s hs
    obtain ⟨w1, w2, w3, w4, w5, w6⟩ := jl_ns s hs
    have m14 : σM.1 14 s = -1 := (cM 14 s w4).trans j4
    refine ⟨0, by decide, (cC 123 s w2).trans j1, (cM 15 s w5).trans j2, ?_, Or.inl m14, fun i hi => ⟨?_, fun z => ?_⟩⟩
    · rw [m14, cC 122 s w1, j3]
    · rw [cL 16 _ (jl_n16 _ (by omega)), cC _ _ (jl_n125 s hs i hi), jl_C125 s hs i hi]
      rfl
    · rw [m14] at z
      exact absurd z (by decide)
  · intro s hs
    obtain ⟨_, _, _, _, j5, j6⟩ := jl_Cs s hs
    obtain ⟨w1, w2, w3, w4, w5, w6⟩ := jl_ns s hs
    exact Or.inl ⟨(cC 129 s w3).trans j5, (cM 17 s w6).trans j6⟩
  · exact ⟨0, by decide, (cC 121 7 (by decide)).trans rfl, (cM 0 40 (by decide)).trans rfl, fun i hi => absurd hi (Nat.not_lt_zero i)⟩
