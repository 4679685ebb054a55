/-- the memory behind the constructors: what isn't 0 -/
def jx_tab : List (Nat × Nat × Int32) → Nat → Nat → Int32
  | [], _, _ => 0
  | (c, k, v) :: l, c', k' => bif Nat.beq c c' && Nat.beq k k' then v else jx_tab l c' k'
def jx_M0C : Nat → Nat → Int32 := jx_tab [(1, 14, 12), (1, 15, 1), (19, 9, 5), (38, 14, 12), (38, 15, 1), (56, 9, 5), (84, 9, 5), (122, 0, -1), (122, 1, -1), (122, 2, -1), (122, 3, -1), (129, 0, 2), (129, 1, 2), (129, 2, 2), (129, 3, 2)]
def jx_M0M : Nat → Nat → Int32 := jx_tab [(3, 0, 12), (3, 1, 1), (14, 0, -1), (14, 1, -1), (14, 2, -1), (14, 3, -1), (17, 0, -1), (17, 1, -1), (17, 2, -1), (17, 3, -1)]
def jr_chk (cls mid : Nat) (Sh : List jw_S) (M : Nat → Nat → Int32) (nc nk : Nat) : Bool := match jr_C jp_kd jp_ys 8 mid [.ref 0] ([.inl (cls, jp_kd cls)], (fun _ _ => 0), (fun _ _ => 0)) with
  | some (none, h') => decide (h'.1 = Sh) && (List.range nc).all (fun c => (List.range nk).all (fun k => decide (h'.2.1 c k = M c k) && decide (h'.2.2 c k = 0)))
  | _ => false
theorem jr_chk_ok {cls mid : Nat} {Sh : List jw_S} {M : Nat → Nat → Int32} {nc nk : Nat} (h : jr_chk cls mid Sh M nc nk = true) : ∃ σ : jw_M, (∀ c k, c < nc → k < nk → σ.1 c k = M c k ∧ σ.2 c k = 0) ∧ ∀ Q : jw_Q, Q none (Sh, σ) → jw_C jp_kd jp_ys 8 mid [.ref 0] ([.inl (cls, jp_kd cls)], (fun _ _ => 0), (fun _ _ => 0)) Q := by
  unfold jr_chk at h
  split at h
  · rename_i h' he
    rw [Bool.and_eq_true] at h
    obtain ⟨h1, h2⟩ := h
    have h1 := of_decide_eq_true h1
    refine ⟨h'.2, fun c k hc hk => ?_, fun Q hQ => jr_C_ok 8 mid _ _ none h' he Q ?_⟩
    · have h3 := List.all_eq_true.mp (List.all_eq_true.mp h2 c (List.mem_range.mpr hc)) k (List.mem_range.mpr hk)
      rw [Bool.and_eq_true] at h3
      exact ⟨of_decide_eq_true h3.1, of_decide_eq_true h3.2⟩
    · rw [← h1] at hQ
      exact hQ
  · cases h
