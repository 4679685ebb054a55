/-! ===== both begin alike ===== -/
theorem jl_M1 : ∀ k, k < 527 → jx_M0M 1 k = 0 := by decide +kernel
theorem jl_M3 : ∀ k, k < 527 → 2 ≤ k → jx_M0M 3 k = 0 := by decide +kernel
theorem jl_C11 : ∀ k, k < 202 → jx_M0C 11 k = 0 := by decide +kernel
theorem jl_C27 : ∀ c, c < 3 → ∀ k, k < 48 → jx_M0C (27 + c) k = 0 := by decide +kernel
theorem jl_C125 : ∀ s, s < 4 → ∀ i, i < 40 → jx_M0C (125 + s) i = 0 := by decide +kernel
theorem jl_Cs : ∀ s, s < 4 → jx_M0C 123 s = 0 ∧ jx_M0M 15 s = 0 ∧ jx_M0C 122 s = -1 ∧ jx_M0M 14 s = -1 ∧ jx_M0C 129 s = 2 ∧ jx_M0M 17 s = -1 := by decide +kernel
def jl_jt (c i : Nat) : Bool := match q_js c i with
  | some k => decide (jx_M0C (1 + c) i = jx_M0M 3 k)
  | none => true
theorem jl_js : ∀ c, c < 19 → ∀ i, i < 16 → jl_jt c i = true := by decide +kernel
theorem jl_R0 {σC σM : jw_M} (hC : ∀ c k, c < 133 → k < 202 → σC.1 c k = jx_M0C c k ∧ σC.2 c k = 0) (hM : ∀ c k, c < 21 → k < 527 → σM.1 c k = jx_M0M c k ∧ σM.2 c k = 0) : q_R σC σM := by
  have cC : ∀ c k, c < 133 → k < 202 → σC.1 c k = jx_M0C c k := fun c k h1 h2 => (hC c k h1 h2).1
  have cM : ∀ c k, c < 21 → k < 527 → σM.1 c k = jx_M0M c k := fun c k h1 h2 => (hM c k h1 h2).1
  have r1 : ∀ k, k < 527 → σM.1 1 k = 0 := fun k h => (cM 1 k (by decide) h).trans (jl_M1 k h)
  have r3 : ∀ k, k < 527 → 2 ≤ k → σM.1 3 k = 0 := fun k h h2 => (cM 3 k (by decide) h).trans (jl_M3 k h h2)
  refine ⟨⟨[], 0, 0, 12, 0, 0, ⟨by decide, by decide, by decide, by decide, r3 2 (by decide) (by decide), r3 3 (by decide) (by decide), (cM 3 0 (by decide) (by decide)).trans rfl, fun p hp => absurd hp (Nat.not_lt_zero p), fun l hl => absurd hl (Nat.not_lt_zero l)⟩, fun p hp => ⟨fun i _ _ => ?_, fun _ => r3 _ (by omega) (by omega)⟩, ⟨by decide, r3 5 (by decide) (by decide), fun r hr => absurd hr (Nat.not_lt_zero r)⟩, ⟨r3 4 (by decide) (by decide), by decide, trivial, fun x hx => absurd hx List.not_mem_nil⟩, ⟨r1 0 (by decide), by decide, fun p hp => ⟨fun i _ _ => ?_, fun l _ hl => r1 _ (by omega)⟩, fun p _ hp => ⟨r1 _ (by omega), fun l hl => r1 _ (by omega)⟩, fun p l hp => absurd hp (Nat.not_lt_zero p)⟩, ⟨fun c i k hk => ?_, fun h hh i hi => ?_, trivial⟩, fun c i k hk => ?_⟩, ?_, ?_, ?_, ?_, ?_, ?_⟩
  · rw [r3 _ (by omega) (by omega)]
    exact b_0 i
  · rw [r1 _ (by omega)]
    exact b_0 i
  · have a := q_jsr hk
    have b := q_jsv hk
    rw [cC _ _ (by omega) (by omega), cM _ _ (by decide) (by omega)]
    have z := jl_js c a.1 i a.2
    unfold jl_jt at z
    rw [hk] at z
    exact of_decide_eq_true z
  · rw [show 1 + 10 = 11 from rfl, cC _ _ (by decide) (by omega), jl_C11 _ (by omega), b_0]
    rfl
  · have a := q_jpr hk
    rw [show 1 + 26 + c = 27 + c from rfl, cC _ _ (by omega) (by omega), jl_C27 c a.1 i a.2.1, r1 _ (by omega)]
  · exact Or.inl ⟨(cC 0 2 (by decide) (by decide)).trans rfl, (cM 0 5 (by decide) (by decide)).trans rfl⟩
  · exact ⟨0, by decide, (cC 80 0 (by decide) (by decide)).trans rfl, (cM 0 7 (by decide) (by decide)).trans rfl, fun i hi => absurd hi (Nat.not_lt_zero i)⟩
  · exact ⟨0, by decide, (cC 92 10 (by decide) (by decide)).trans rfl, (cM 0 29 (by decide) (by decide)).trans rfl, fun k w hk => absurd hk (Nat.not_lt_zero k)⟩
  · intro s hs
    obtain ⟨j1, j2, j3, j4, _⟩ := jl_Cs s hs
    have m14 : σM.1 14 s = -1 := (cM 14 s (by decide) (by omega)).trans j4
    refine ⟨0, by decide, (cC 123 s (by decide) (by omega)).trans j1, (cM 15 s (by decide) (by omega)).trans j2, ?_, Or.inl m14, fun i hi => ⟨?_, fun z => ?_⟩⟩
    · rw [m14, cC 122 s (by decide) (by omega), j3]
    · rw [(hM 16 _ (by decide) (by omega)).2, cC _ _ (by omega) (by omega), jl_C125 s hs i hi]
      rfl
    · rw [m14] at z
      exact absurd z (by decide)
  · intro s hs
    obtain ⟨_, _, _, _, j5, j6⟩ := jl_Cs s hs
    exact Or.inl ⟨(cC 129 s (by decide) (by omega)).trans j5, (cM 17 s (by decide) (by omega)).trans j6⟩
  · exact ⟨0, by decide, (cC 121 7 (by decide) (by decide)).trans rfl, (cM 0 40 (by decide) (by decide)).trans rfl, fun i hi => absurd hi (Nat.not_lt_zero i)⟩
