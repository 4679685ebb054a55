/-! ===== pure: the rules, on the class's side ===== -/
abbrev q_L : Type := List (Nat × Nat × List q_I)
def q_rC (τ : jw_M) (F : Nat → Int32) : Nat → Nat → q_L → Prop
  | _, _, [] => True
  | r, e, x :: L => τ.1 20 r = nI x.1 ∧ x.1 ≤ 5 ∧ τ.1 21 r = nI x.2.1 ∧ x.2.1 ≤ 2 ∧ τ.1 22 r = nI (e + x.2.2.length) ∧ e + x.2.2.length ≤ 100 ∧ q_dp x.2.2 0 = true ∧ q_cC τ F e x.2.2 ∧ q_rC τ F (r + 1) (e + x.2.2.length) L
def q_under (k a : Nat) : Bool := decide (a = 0) || decide (a = k) || (decide (a = 2) && decide (k = 3)) || (decide (a = 4) && decide (k = 5))
theorem q_underT : ∀ k, k < 6 → 0 < k → ∀ a, a < 6 → (decide ((((jw_tab.getD k 0) >>> (nI a &&& 31)) &&& 1) = 1)) = q_under k a := by decide +kernel
def q_deed (F : Nat → Int32) (k : Nat) : q_L → Nat
  | [] => 3
  | x :: L => if q_under k x.1 = true ∧ q_top (q_ev F x.2.2 []) = true then x.2.1 else q_deed F k L
theorem e_under {N k a : Nat} {τ : jw_M} (h0 : 0 < k) (hk : k < 6) (ha : a < 6) : f_F_isOrIsUnder N (nI k) (nI a) τ = some (bif q_under k a then 1 else 0, τ) := by
  unfold f_F_isOrIsUnder
  rw [q_in hk (by decide), cond_true, nI_clamp (show k < 2 ^ 31 by omega), ← q_underT k hk h0 a ha]
  by_cases c : (((jw_tab.getD k 0) >>> (nI a &&& 31)) &&& 1) = 1
  · rw [if_pos c, decide_eq_true c, cond_true]
  · rw [if_neg c, decide_eq_false c, cond_false]
theorem e_holds {N e : Nat} {τ : jw_M} {F : Nat → Int32} {c : List q_I} (hN : 101 ≤ N) (he : e + c.length ≤ 100) (hd : q_dp c 0 = true) (hc : q_cC τ F e c) : f_R_holds N (nI e) (nI (e + c.length)) τ = some (bif q_top (q_ev F c []) then 1 else 0, τ) := by
  unfold f_R_holds
  exact e_holds5 he c e N [] hc hd (by decide) rfl (by omega)
theorem e_deed4 {N k n : Nat} {τ : jw_M} {F : Nat → Int32} (hN : 101 ≤ N) (h0 : 0 < k) (hk : k < 6) (hn : n ≤ 8) (h19 : τ.1 19 0 = nI n) : ∀ (L : q_L) (r e j : Nat), q_rC τ F r e L → r + L.length = n → L.length < j → f_R_deedFor_4 N j (nI k) (nI e) (nI r) τ = some (nI (q_deed F k L), τ)
  | [], _, _, 0, _, _, h => absurd h (by simp)
  | _ :: _, _, _, 0, _, _, h => absurd h (by simp)
  | [], r, e, j + 1, _, hr, _ => by
    rw [List.length_nil] at hr
    rw [f_R_deedFor_4, h19, if_pos (nI_le (by omega) (by omega))]
    rfl
  | x :: L, r, e, j + 1, hL, hr, hj => by
    rw [List.length_cons] at hr hj
    obtain ⟨g1, g2, g3, g4, g5, g6, g7, g8, g9⟩ := hL
    rw [f_R_deedFor_4, h19, if_neg (nI_ge (by omega) (by omega)), q_in (show r < 8 by omega) (by decide), cond_true, nI_clamp (show r < 2 ^ 31 by omega), g1, e_under h0 hk (by omega), Option.bind_some, q_deed]
    dsimp only
    unfold f_R_deedFor_46
    rw [q_in (show r < 8 by omega) (by decide), cond_true, nI_clamp (show r < 2 ^ 31 by omega), g5, nI_1]
    have go := e_deed4 (N := N) hN h0 hk hn h19 L (r + 1) (e + x.2.2.length) j g9 (by omega) (by omega)
    cases a : q_under k x.1
    · rw [cond_false, if_pos rfl, if_neg (fun z => by cases z.1)]
      exact go
    · rw [cond_true, if_neg (by decide), e_holds hN g6 g7 g8, Option.bind_some]
      dsimp only
      cases b : q_top (q_ev F x.2.2 [])
      · rw [cond_false, if_pos rfl, if_neg (fun z => by cases z.2)]
        rw [cond_true, g5]
        exact go
      · rw [cond_true, if_neg (by decide), if_pos ⟨rfl, rfl⟩, g3]
