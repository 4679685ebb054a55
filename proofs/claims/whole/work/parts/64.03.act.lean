/-! ===== pure: act ===== -/
def q_a1 (c _i : Nat) : Bool := c == 121 || c == 132
def q_a2 (c i : Nat) : Bool := (c == 0 && (i == 36 || i == 37 || i == 38 || i == 40 || i == 41)) || c == 20
/-- while an act runs; f: parted -/
def q_ac (f : Int32) (k : Nat) (σ τ σC σM : jw_M) : Prop := q_X σC σM ∧ σC.1 121 9 = σM.1 0 37 ∧ σC.1 121 10 = σM.1 0 38 ∧ σC.1 121 8 = f ∧ σM.1 0 41 = f ∧ σM.1 0 36 = nI k ∧ q_fr q_a1 σ σC ∧ q_fr q_a2 τ σM
theorem e_ran {N k : Nat} {x : Int32} {σ τ σC σM : jw_M} (H : q_ac 0 k σ τ σC σM) : ∃ σC' σM', f_H_begins N x σC = some σC' ∧ f_M_ran N x σM = some σM' ∧ q_ac 0 k σ τ σC' σM' := by
  obtain ⟨⟨b, b30, x1, x2, x3⟩, h9, h10, h8, h41, h36, fC, fM⟩ := id H
  unfold f_H_begins f_M_ran
  rw [h8, if_pos rfl, x1, x2]
  by_cases c : 30 ≤ b
  · rw [if_pos (show (30 : Int32) ≤ nI b from nI_le (a := 30) c (by omega)), if_pos (show (30 : Int32) ≤ nI b from nI_le (a := 30) c (by omega))]
    exact ⟨σC, σM, rfl, rfl, H⟩
  · rw [if_neg (show ¬ (30 : Int32) ≤ nI b from nI_ge (b := 30) (by omega) (by decide)), if_neg (show ¬ (30 : Int32) ≤ nI b from nI_ge (b := 30) (by omega) (by decide)), q_in (show b < 30 by omega) (by decide), cond_true, cond_true, nI_clamp (by omega), q_wC (show (121 : Nat) ≠ 132 by decide), q_wC (show (0 : Nat) ≠ 20 by decide), x1, x2, nI_1]
    refine ⟨_, _, rfl, rfl, ⟨b + 1, by omega, q_wS, q_wS, fun i hi => ?_⟩, ?_, ?_, ?_, ?_, ?_, q_fr_w (q_fr_w fC rfl) rfl, q_fr_w (q_fr_w fM rfl) rfl⟩
    · rw [q_wC (by decide), q_w, q_wC (by decide), q_w]
      by_cases e : i = b
      · rw [if_pos ⟨rfl, e⟩, if_pos ⟨rfl, e⟩]
      · rw [if_neg (fun z => e z.2), if_neg (fun z => e z.2)]
        exact x3 i (by omega)
    · rw [q_wI (by decide), q_wC (by decide), q_wI (by decide), q_wC (by decide)]
      exact h9
    · rw [q_wI (by decide), q_wC (by decide), q_wI (by decide), q_wC (by decide)]
      exact h10
    · rw [q_wI (by decide), q_wC (by decide)]
      exact h8
    · rw [q_wI (by decide), q_wC (by decide)]
      exact h41
    · rw [q_wI (by decide), q_wC (by decide)]
      exact h36
theorem e_sl {N k p : Nat} {x : Int32} {σ τ σC σM : jw_M} (H : q_ac 0 k σ τ σC σM) : ∃ v σC' σM', f_Z_Shade_lies N p x σC = some (v, σC') ∧ f_M_plainLies N x σM = some (v, σM') ∧ q_ac 0 k σ τ σC' σM' := by
  obtain ⟨a, b, g1, g2, g3⟩ := e_ran (N := N) (x := 10) H
  unfold f_Z_Shade_lies f_M_plainLies
  rw [g1, g2, Option.bind_some, Option.bind_some, g3.2.1]
  exact ⟨_, a, b, rfl, rfl, g3⟩
def q_lC (N p0 : Nat) (x2 : Int32) (z1 : jw_M) : Option (Int32 × jw_M) := (if p0 = 32 then f_Z_Shade_lies N p0 x2 z1 else if p0 = 33 then f_Z_Joined_lies N x2 z1 else if p0 = 34 then f_Z_Shade_lies N p0 x2 z1 else if p0 = 35 then f_Z_Coloured_lies N x2 z1 else if p0 = 36 then f_Z_Shade_lies N p0 x2 z1 else if p0 = 37 then f_Z_Shade_lies N p0 x2 z1 else none)
theorem e_lC {N k : Nat} {x : Int32} {σ τ σC σM : jw_M} (k1 : 1 ≤ k) (k5 : k ≤ 5) (H : q_ac 0 k σ τ σC σM) : ∃ v σC' σM', q_lC N (32 + k) x σC = some (v, σC') ∧ f_M_lies N x σM = some (v, σM') ∧ q_ac 0 k σ τ σC' σM' := by
  unfold q_lC f_M_lies
  rw [H.2.2.2.2.2.1]
  rcases (show k = 1 ∨ k = 2 ∨ k = 3 ∨ k = 4 ∨ k = 5 by omega) with rfl | rfl | rfl | rfl | rfl
  · rw [if_neg (by decide), if_pos rfl, if_pos (show nI 1 = 1 from rfl)]
    unfold f_Z_Joined_lies
    obtain ⟨a, b, g1, g2, g3⟩ := e_ran (N := N) (x := 20) H
    rw [g1, g2, Option.bind_some, Option.bind_some]
    obtain ⟨v, c, d, i1, i2, i3⟩ := e_sl (N := N) (p := 33) (x := x) g3
    rw [i1, i2, Option.bind_some, Option.bind_some, i3.2.2.1]
    exact ⟨_, c, d, rfl, rfl, i3⟩
  · rw [if_neg (by decide), if_neg (by decide), if_pos rfl, if_neg (show ¬ nI 2 = 1 by decide), if_neg (show ¬ nI 2 = 3 by decide)]
    obtain ⟨v, c, d, i1, i2, i3⟩ := e_sl (N := N) (p := 34) (x := x) H
    rw [i1, i2, Option.bind_some]
    exact ⟨_, c, d, rfl, rfl, i3⟩
  · rw [if_neg (by decide), if_neg (by decide), if_neg (by decide), if_pos rfl, if_neg (show ¬ nI 3 = 1 by decide), if_pos (show nI 3 = 3 from rfl)]
    unfold f_Z_Coloured_lies
    obtain ⟨a, b, g1, g2, g3⟩ := e_ran (N := N) (x := 50) H
    rw [g1, g2, Option.bind_some, Option.bind_some]
    obtain ⟨v, c, d, i1, i2, i3⟩ := e_sl (N := N) (p := 35) (x := x) g3
    rw [i1, i2, Option.bind_some, Option.bind_some]
    exact ⟨_, c, d, rfl, rfl, i3⟩
  · rw [if_neg (by decide), if_neg (by decide), if_neg (by decide), if_neg (by decide), if_pos rfl, if_neg (show ¬ nI 4 = 1 by decide), if_neg (show ¬ nI 4 = 3 by decide)]
    obtain ⟨v, c, d, i1, i2, i3⟩ := e_sl (N := N) (p := 36) (x := x) H
    rw [i1, i2, Option.bind_some]
    exact ⟨_, c, d, rfl, rfl, i3⟩
  · rw [if_neg (by decide), if_neg (by decide), if_neg (by decide), if_neg (by decide), if_neg (by decide), if_pos rfl, if_neg (show ¬ nI 5 = 1 by decide), if_neg (show ¬ nI 5 = 3 by decide)]
    obtain ⟨v, c, d, i1, i2, i3⟩ := e_sl (N := N) (p := 37) (x := x) H
    rw [i1, i2, Option.bind_some]
    exact ⟨_, c, d, rfl, rfl, i3⟩
theorem e_st {N k : Nat} {x : Int32} {σ τ σC σM : jw_M} (k1 : 1 ≤ k) (k5 : k ≤ 5) (H : q_ac 0 k σ τ σC σM) : ∃ v σC' σM', f_Z_Shade_turns N (32 + k) x σC = some (v, σC') ∧ f_M_plainTurns N x σM = some (v, σM') ∧ q_ac 0 k σ τ σC' σM' := by
  obtain ⟨a, b, g1, g2, g3⟩ := e_ran (N := N) (x := 11) H
  obtain ⟨v, c, d, i1, i2, i3⟩ := e_lC (N := N) (x := x) k1 k5 g3
  unfold f_Z_Shade_turns f_M_plainTurns
  rw [g1, g2, Option.bind_some, Option.bind_some]
  unfold q_lC at i1
  rw [i1, i2, Option.bind_some, Option.bind_some, i3.2.2.1]
  exact ⟨_, c, d, rfl, rfl, i3⟩
def q_tC (N p0 : Nat) (x2 : Int32) (z1 : jw_M) : Option (Int32 × jw_M) := (if p0 = 32 then f_Z_Shade_turns N p0 x2 z1 else if p0 = 33 then f_Z_Shade_turns N p0 x2 z1 else if p0 = 34 then f_Z_Gifted_turns N p0 x2 z1 else if p0 = 35 then f_Z_Gifted_turns N p0 x2 z1 else if p0 = 36 then f_Z_Shade_turns N p0 x2 z1 else if p0 = 37 then f_Z_Borrowed_turns N x2 z1 else none)
theorem e_tC {N k : Nat} {x : Int32} {σ τ σC σM : jw_M} (k1 : 1 ≤ k) (k5 : k ≤ 5) (H : q_ac 0 k σ τ σC σM) : ∃ v σC' σM', q_tC N (32 + k) x σC = some (v, σC') ∧ f_M_turns N x σM = some (v, σM') ∧ q_ac 0 k σ τ σC' σM' := by
  unfold q_tC f_M_turns
  rw [H.2.2.2.2.2.1]
  rcases (show k = 1 ∨ k = 2 ∨ k = 3 ∨ k = 4 ∨ k = 5 by omega) with rfl | rfl | rfl | rfl | rfl
  · rw [if_neg (by decide), if_pos rfl, if_neg (show ¬ nI 1 = 2 by decide), if_neg (show ¬ nI 1 = 3 by decide), if_neg (show ¬ nI 1 = 4 by decide), if_neg (show ¬ nI 1 = 5 by decide)]
    obtain ⟨v, c, d, i1, i2, i3⟩ := e_st (N := N) (x := x) k1 k5 H
    rw [i1, i2, Option.bind_some]
    exact ⟨_, c, d, rfl, rfl, i3⟩
  · rw [if_neg (by decide), if_neg (by decide), if_pos rfl, if_pos (show nI 2 = 2 from rfl)]
    unfold f_Z_Gifted_turns
    obtain ⟨a, b, g1, g2, g3⟩ := e_ran (N := N) (x := 30) H
    rw [g1, g2, Option.bind_some, Option.bind_some]
    obtain ⟨v, c, d, i1, i2, i3⟩ := e_st (N := N) (x := x) k1 k5 g3
    rw [i1, i2, Option.bind_some, Option.bind_some]
    exact ⟨_, c, d, rfl, rfl, i3⟩
  · rw [if_neg (by decide), if_neg (by decide), if_neg (by decide), if_pos rfl, if_neg (show ¬ nI 3 = 2 by decide), if_pos (show nI 3 = 3 from rfl)]
    unfold f_Z_Gifted_turns
    obtain ⟨a, b, g1, g2, g3⟩ := e_ran (N := N) (x := 30) H
    rw [g1, g2, Option.bind_some, Option.bind_some]
    obtain ⟨v, c, d, i1, i2, i3⟩ := e_st (N := N) (x := x) k1 k5 g3
    rw [i1, i2, Option.bind_some, Option.bind_some]
    exact ⟨_, c, d, rfl, rfl, i3⟩
  · rw [if_neg (by decide), if_neg (by decide), if_neg (by decide), if_neg (by decide), if_pos rfl, if_neg (show ¬ nI 4 = 2 by decide), if_neg (show ¬ nI 4 = 3 by decide), if_pos (show nI 4 = 4 from rfl)]
    obtain ⟨v, c, d, i1, i2, i3⟩ := e_st (N := N) (x := x) k1 k5 H
    rw [i1, i2, Option.bind_some]
    exact ⟨_, c, d, rfl, rfl, i3⟩
  · rw [if_neg (by decide), if_neg (by decide), if_neg (by decide), if_neg (by decide), if_neg (by decide), if_pos rfl, if_neg (show ¬ nI 5 = 2 by decide), if_neg (show ¬ nI 5 = 3 by decide), if_neg (show ¬ nI 5 = 4 by decide), if_pos (show nI 5 = 5 from rfl)]
    unfold f_Z_Borrowed_turns
    obtain ⟨a, b, g1, g2, g3⟩ := e_ran (N := N) (x := 60) H
    rw [g1, g2, Option.bind_some, Option.bind_some]
    obtain ⟨v, c, d, i1, i2, i3⟩ := e_st (N := N) (x := x) k1 k5 g3
    rw [show f_Z_Shade_turns N 37 x a = _ from i1, i2, Option.bind_some, Option.bind_some]
    exact ⟨_, c, d, rfl, rfl, i3⟩
theorem e_sa {N k : Nat} {x : Int32} {σ τ σC σM : jw_M} (k1 : 1 ≤ k) (k5 : k ≤ 5) (H : q_ac 0 k σ τ σC σM) : ∃ v σC' σM', f_Z_Shade_asks N (32 + k) x σC = some (v, σC') ∧ f_M_plainAsks N x σM = some (v, σM') ∧ q_ac 0 k σ τ σC' σM' := by
  obtain ⟨a, b, g1, g2, g3⟩ := e_ran (N := N) (x := 13) H
  obtain ⟨v, c, d, i1, i2, i3⟩ := e_tC (N := N) (x := x) k1 k5 g3
  unfold f_Z_Shade_asks f_M_plainAsks
  rw [g1, g2, Option.bind_some, Option.bind_some]
  unfold q_tC at i1
  rw [i1, i2, Option.bind_some, Option.bind_some]
  exact ⟨_, c, d, rfl, rfl, i3⟩
/-- parted or not -/
def q_ap (k : Nat) (σ τ : jw_M) (v w : Int32) (σC σM : jw_M) : Prop := (v = w ∧ q_ac 0 k σ τ σC σM) ∨ q_ac 1 k σ τ σC σM
theorem q_s0 {a b : Int32} (h : a - b = 0) : a = b := by
  have z := Int32.sub_add_cancel a b
  rw [h, Int32.zero_add] at z
  exact z.symm
theorem q_s1 (a : Int32) : a - a = 0 := by
  rw [Int32.sub_self]
theorem e_sf {N k p : Nat} {x : Int32} {σ τ σC σM : jw_M} (H : q_ac 0 k σ τ σC σM) : ∃ v w σC' σM', f_Z_Shade_folds N p x σC = some (v, σC') ∧ f_M_plainFolds N x σM = some (w, σM') ∧ q_ap k σ τ v w σC' σM' := by
  obtain ⟨a, b, g1, g2, g3⟩ := e_ran (N := N) (x := 12) H
  obtain ⟨hX, h9, h10, h8, h41, h36, fC, fM⟩ := id g3
  unfold f_Z_Shade_folds f_M_plainFolds
  rw [g1, g2, Option.bind_some, Option.bind_some, h41, if_pos rfl, h9, h10]
  unfold f_H_part f_M_plainFolds_25 f_M_plainFolds_30
  by_cases c : b.1 0 37 = b.1 0 38
  · rw [if_pos c, if_pos (show b.1 0 37 - b.1 0 38 = 0 by rw [c, q_s1]), Option.bind_some, if_pos (Or.inr rfl), q_wS, if_neg (show ¬ (1 : Int32) = 0 by decide)]
    refine ⟨_, _, _, _, rfl, rfl, Or.inr ⟨q_X_k hX (fun c i z => ?_) (fun c i z => ?_), ?_, ?_, q_wS, q_wS, ?_, q_fr_w fC rfl, q_fr_w fM rfl⟩⟩
    · rw [q_w, if_neg (by omega)]
    · rw [q_w, if_neg (by omega)]
    · rw [q_wI (by decide), q_wI (by decide)]
      exact h9
    · rw [q_wI (by decide), q_wI (by decide)]
      exact h10
    · rw [q_wI (by decide)]
      exact h36
  · have c2 : ¬ b.1 0 37 - b.1 0 38 = 0 := fun z => c (q_s0 z)
    rw [if_neg c, if_neg c2, if_neg c2, Option.bind_some, if_pos (Or.inl rfl), q_wS, if_pos rfl, q_wI (show (37 : Nat) ≠ 41 by decide), q_wI (show (38 : Nat) ≠ 41 by decide), if_neg c2, q_w_id h41]
    exact ⟨_, _, a, b, rfl, rfl, Or.inl ⟨rfl, g3⟩⟩
theorem e_slf {N k p : Nat} {x : Int32} {σ τ σC σM : jw_M} (H : q_ac 0 k σ τ σC σM) : ∃ v w σC' σM', f_Z_Slow_folds N p x σC = some (v, σC') ∧ f_M_slowFolds N x σM = some (w, σM') ∧ q_ap k σ τ v w σC' σM' := by
  obtain ⟨a, b, g1, g2, g3⟩ := e_ran (N := N) (x := 40) H
  obtain ⟨v, w, c, d, i1, i2, i3⟩ := e_sf (N := N) (x := x) (p := p) g3
  unfold f_Z_Slow_folds f_M_slowFolds
  rw [g1, g2, Option.bind_some, Option.bind_some, i1, i2, Option.bind_some, Option.bind_some]
  refine ⟨_, _, c, d, rfl, rfl, ?_⟩
  rcases i3 with ⟨e, i3⟩ | i3
  · exact Or.inl ⟨by rw [e], i3⟩
  · exact Or.inr i3
theorem e_ranP {N k : Nat} {x : Int32} {σ τ σC σM : jw_M} (H : q_ac 1 k σ τ σC σM) : f_H_begins N x σC = some σC := by
  unfold f_H_begins
  rw [H.2.2.2.1, if_neg (by decide)]
def q_fC (N p0 : Nat) (x2 : Int32) (z1 : jw_M) : Option (Int32 × jw_M) := (if p0 = 32 then f_Z_Shade_folds N p0 x2 z1 else if p0 = 33 then f_Z_Shade_folds N p0 x2 z1 else if p0 = 34 then f_Z_Shade_folds N p0 x2 z1 else if p0 = 35 then f_Z_Shade_folds N p0 x2 z1 else if p0 = 36 then f_Z_Slow_folds N p0 x2 z1 else if p0 = 37 then f_Z_Borrowed_folds N x2 z1 else none)
theorem e_fC {N k : Nat} {x : Int32} {σ τ σC σM : jw_M} (k1 : 1 ≤ k) (k5 : k ≤ 5) (H : q_ac 0 k σ τ σC σM) : ∃ v w σC' σM', q_fC N (32 + k) x σC = some (v, σC') ∧ f_M_folds N x σM = some (w, σM') ∧ q_ap k σ τ v w σC' σM' := by
  unfold q_fC f_M_folds
  rw [H.2.2.2.2.2.1]
  rcases (show k = 1 ∨ k = 2 ∨ k = 3 ∨ k = 4 ∨ k = 5 by omega) with rfl | rfl | rfl | rfl | rfl
  · rw [if_neg (by decide), if_pos rfl, if_neg (show ¬ nI 1 = 4 by decide), if_neg (show ¬ nI 1 = 5 by decide)]
    obtain ⟨v, w, c, d, i1, i2, i3⟩ := e_sf (N := N) (x := x) (p := 33) H
    rw [i1, i2, Option.bind_some]
    exact ⟨_, _, c, d, rfl, rfl, i3⟩
  · rw [if_neg (by decide), if_neg (by decide), if_pos rfl, if_neg (show ¬ nI 2 = 4 by decide), if_neg (show ¬ nI 2 = 5 by decide)]
    obtain ⟨v, w, c, d, i1, i2, i3⟩ := e_sf (N := N) (x := x) (p := 34) H
    rw [i1, i2, Option.bind_some]
    exact ⟨_, _, c, d, rfl, rfl, i3⟩
  · rw [if_neg (by decide), if_neg (by decide), if_neg (by decide), if_pos rfl, if_neg (show ¬ nI 3 = 4 by decide), if_neg (show ¬ nI 3 = 5 by decide)]
    obtain ⟨v, w, c, d, i1, i2, i3⟩ := e_sf (N := N) (x := x) (p := 35) H
    rw [i1, i2, Option.bind_some]
    exact ⟨_, _, c, d, rfl, rfl, i3⟩
  · rw [if_neg (by decide), if_neg (by decide), if_neg (by decide), if_neg (by decide), if_pos rfl, if_pos (show nI 4 = 4 from rfl)]
    obtain ⟨v, w, c, d, i1, i2, i3⟩ := e_slf (N := N) (x := x) (p := 36) H
    rw [i1, i2, Option.bind_some]
    exact ⟨_, _, c, d, rfl, rfl, i3⟩
  · rw [if_neg (by decide), if_neg (by decide), if_neg (by decide), if_neg (by decide), if_neg (by decide), if_pos rfl, if_neg (show ¬ nI 5 = 4 by decide), if_pos (show nI 5 = 5 from rfl)]
    unfold f_Z_Borrowed_folds
    obtain ⟨a, b, g1, g2, g3⟩ := e_ran (N := N) (x := 61) H
    rw [g1, g2, Option.bind_some, Option.bind_some]
    obtain ⟨v, w, c, d, i1, i2, i3⟩ := e_slf (N := N) (x := x) (p := 37) g3
    rw [i1, i2, Option.bind_some, Option.bind_some]
    dsimp only
    rcases i3 with ⟨rfl, i3⟩ | i3
    · rw [i3.2.2.2.2.1, if_pos rfl, i3.2.2.1]
      obtain ⟨v2, c2, d2, j1, j2, j3⟩ := e_lC (N := N) (x := d.1 0 38) k1 k5 i3
      have j1' : f_Z_Shade_lies N 37 (d.1 0 38) c = some (v2, c2) := by
        unfold q_lC at j1
        rw [if_neg (by decide), if_neg (by decide), if_neg (by decide), if_neg (by decide), if_neg (by decide), if_pos rfl] at j1
        exact j1
      rw [j1', j2, Option.bind_some, Option.bind_some]
      exact ⟨_, _, c2, d2, rfl, rfl, Or.inl ⟨rfl, j3⟩⟩
    · rw [i3.2.2.2.2.1, if_neg (show ¬ (1 : Int32) = 0 by decide)]
      unfold f_Z_Shade_lies
      rw [e_ranP i3, Option.bind_some, Option.bind_some]
      exact ⟨_, _, c, d, rfl, rfl, Or.inr i3⟩
def q_aC (N p0 : Nat) (x2 : Int32) (z1 : jw_M) : Option (Int32 × jw_M) := (if p0 = 32 then f_Z_Shade_asks N p0 x2 z1 else if p0 = 33 then f_Z_Shade_asks N p0 x2 z1 else if p0 = 34 then f_Z_Shade_asks N p0 x2 z1 else if p0 = 35 then f_Z_Coloured_asks N x2 z1 else if p0 = 36 then f_Z_Shade_asks N p0 x2 z1 else if p0 = 37 then f_Z_Shade_asks N p0 x2 z1 else none)
theorem e_aC {N k : Nat} {x : Int32} {σ τ σC σM : jw_M} (k1 : 1 ≤ k) (k5 : k ≤ 5) (H : q_ac 0 k σ τ σC σM) : ∃ v w σC' σM', q_aC N (32 + k) x σC = some (v, σC') ∧ f_M_asks N x σM = some (w, σM') ∧ q_ap k σ τ v w σC' σM' := by
  unfold q_aC f_M_asks
  rw [H.2.2.2.2.2.1]
  rcases (show k = 1 ∨ k = 2 ∨ k = 3 ∨ k = 4 ∨ k = 5 by omega) with rfl | rfl | rfl | rfl | rfl
  · rw [if_neg (by decide), if_pos rfl, if_neg (show ¬ nI 1 = 3 by decide)]
    obtain ⟨v, c, d, i1, i2, i3⟩ := e_sa (N := N) (x := x) k1 k5 H
    rw [i1, i2, Option.bind_some]
    exact ⟨_, _, c, d, rfl, rfl, Or.inl ⟨rfl, i3⟩⟩
  · rw [if_neg (by decide), if_neg (by decide), if_pos rfl, if_neg (show ¬ nI 2 = 3 by decide)]
    obtain ⟨v, c, d, i1, i2, i3⟩ := e_sa (N := N) (x := x) k1 k5 H
    rw [i1, i2, Option.bind_some]
    exact ⟨_, _, c, d, rfl, rfl, Or.inl ⟨rfl, i3⟩⟩
  · rw [if_neg (by decide), if_neg (by decide), if_neg (by decide), if_pos rfl, if_pos (show nI 3 = 3 from rfl)]
    unfold f_Z_Coloured_asks
    obtain ⟨a, b, g1, g2, g3⟩ := e_ran (N := N) (x := 51) H
    rw [g1, g2, Option.bind_some, Option.bind_some]
    obtain ⟨v, c, d, i1, i2, i3⟩ := e_sa (N := N) (x := x) k1 k5 g3
    rw [show f_Z_Shade_asks N 35 x a = _ from i1, i2, Option.bind_some, Option.bind_some]
    dsimp only
    rw [i3.2.1]
    obtain ⟨v2, w2, c2, d2, j1, j2, j3⟩ := e_fC (N := N) (x := d.1 0 37) k1 k5 i3
    have j1' : f_Z_Shade_folds N 35 (d.1 0 37) c = some (v2, c2) := by
      unfold q_fC at j1
      rw [if_neg (by decide), if_neg (by decide), if_neg (by decide), if_pos rfl] at j1
      exact j1
    rw [j1', j2, Option.bind_some, Option.bind_some]
    refine ⟨_, _, c2, d2, rfl, rfl, ?_⟩
    rcases j3 with ⟨e, j3⟩ | j3
    · exact Or.inl ⟨by rw [e], j3⟩
    · exact Or.inr j3
  · rw [if_neg (by decide), if_neg (by decide), if_neg (by decide), if_neg (by decide), if_pos rfl, if_neg (show ¬ nI 4 = 3 by decide)]
    obtain ⟨v, c, d, i1, i2, i3⟩ := e_sa (N := N) (x := x) k1 k5 H
    rw [i1, i2, Option.bind_some]
    exact ⟨_, _, c, d, rfl, rfl, Or.inl ⟨rfl, i3⟩⟩
  · rw [if_neg (by decide), if_neg (by decide), if_neg (by decide), if_neg (by decide), if_neg (by decide), if_pos rfl, if_neg (show ¬ nI 5 = 3 by decide)]
    obtain ⟨v, c, d, i1, i2, i3⟩ := e_sa (N := N) (x := x) k1 k5 H
    rw [i1, i2, Option.bind_some]
    exact ⟨_, _, c, d, rfl, rfl, Or.inl ⟨rfl, i3⟩⟩
/-- the end of an act -/
theorem e_actEnd {N k : Nat} {σ τ σC σM : jw_M} {v w : Int32} (H : q_ap k σ τ v w σC σM) : ∃ r, (if σC.1 121 8 = 0 then some (v, σC) else some ((-15 : Int32), σC)) = some (r, σC) ∧ f_M_act_121 N w σM = some (r, σM) := by
  unfold f_M_act_121
  rcases H with ⟨rfl, H⟩ | H
  · rw [H.2.2.2.1, H.2.2.2.2.1, if_pos rfl, if_pos rfl]
    exact ⟨_, rfl, rfl⟩
  · rw [H.2.2.2.1, H.2.2.2.2.1, if_neg (by decide), if_neg (by decide)]
    exact ⟨_, rfl, rfl⟩
theorem q_R_A {σC σM σC' σM' : jw_M} (hR : q_R σC σM) (fC : q_fr q_a1 σC σC') (fM : q_fr q_a2 σM σM') (hX : q_X σC' σM') : q_R σC' σM' := by
  obtain ⟨⟨L, n, m, d, h, t, H⟩, hK, hT, hW, hH, hV, _⟩ := hR
  have gC : ∀ c i, ¬ (c = 121 ∨ c = 132) → σC'.1 c i = σC.1 c i := fun c i z => fC.1 c i (by unfold q_a1; simp; omega)
  have gM : ∀ c i, (¬ (c = 0 ∧ (i = 36 ∨ i = 37 ∨ i = 38 ∨ i = 40 ∨ i = 41)) ∧ c ≠ 20) → σM'.1 c i = σM.1 c i := fun c i z => fM.1 c i (by unfold q_a2; simp; omega)
  refine ⟨⟨L, n, m, d, h, t, ?_⟩, q_K_k hK (fun c i z => gC _ _ (by omega)) (fun c i z => gM _ _ (by omega)), q_T_k hT (fun c i z => gC _ _ (by omega)) (fun c i z => gM _ _ (by omega)), q_W_k hW (fun c i z => gC _ _ (by omega)) (fun c i z => gM _ _ (by omega)), q_H_k hH (fun c i z => gC _ _ (by omega)) (fun c i z => gM _ _ (by omega)) (fun i => by rw [fM.2]), q_V_k hV (fun c i z => gC _ _ (by omega)) (fun c i z => gM _ _ (by omega)), hX⟩
  rw [show σM'.1 3 = σM.1 3 from funext fun i => gM 3 i (by omega), show σM'.1 1 = σM.1 1 from funext fun i => gM 1 i (by omega)]
  exact q_AA_k H (fun c i h1 h2 => gC _ _ (by omega))
theorem q_apX {k : Nat} {σ τ σC σM : jw_M} {v w : Int32} (H : q_ap k σ τ v w σC σM) : q_X σC σM ∧ q_fr q_a1 σ σC ∧ q_fr q_a2 τ σM := by
  rcases H with ⟨_, H⟩ | H
  · exact ⟨H.1, H.2.2.2.2.2.2.1, H.2.2.2.2.2.2.2⟩
  · exact ⟨H.1, H.2.2.2.2.2.2.1, H.2.2.2.2.2.2.2⟩
theorem u_act {N : Nat} {x y v : Int32} : q_U (f_F_act N x y v) (f_M_act N x y v) := by
  intro σC σM hR
  obtain ⟨τ, hτ⟩ : ∃ τ, τ = jx_w (jx_w σC 121 7 0) 121 8 0 := ⟨_, rfl⟩
  obtain ⟨υ, hυ⟩ : ∃ υ, υ = jx_w σM 0 40 0 := ⟨_, rfl⟩
  have fC : q_fr q_a1 σC τ := by rw [hτ]; exact q_fr_w (q_fr_w (q_fr_r _ _) rfl) rfl
  have fM : q_fr q_a2 σM υ := by rw [hυ]; exact q_fr_w (q_fr_r _ _) rfl
  have hX : q_X τ υ := ⟨0, by decide, by rw [hτ, q_wI (by decide), q_wS]; rfl, by rw [hυ, q_wS]; rfl, fun i hi => absurd hi (by omega)⟩
  have hR' : q_R τ υ := q_R_A hR fC fM hX
  have h8 : τ.1 121 8 = 0 := by rw [hτ, q_wS]
  obtain ⟨⟨L, n, m, d, h, t, hw, hq, ht, hRM, hr, hS, hP⟩, hK, hT, hW, hH, hV, _⟩ := id hR'
  have hn := hw.1
  have neg : f_S_isShadow N (-1) τ = some (0, τ) := by
    unfold f_S_isShadow
    rw [if_pos (by decide)]
  unfold f_F_act f_M_act f_H_clearTrace f_M_act_21
  rw [Option.bind_some, ← hτ, ← hυ]
  rcases q_shfD (N := N) (x := x) (σC := τ) (σM := υ) with ⟨a, b⟩ | ⟨s, hs, rfl, a, b⟩
  · rw [a, b, q_bz0, q_bz0]
    dsimp only
    unfold f_F_act_30
    rw [neg, q_bz0]
    by_cases c : y < 0 ∨ 3 < y
    · rw [e_in0 c, q_bz0]
      exact ⟨_, τ, υ, rfl, rfl, hR'⟩
    · rw [e_in1 c, q_bz1]
      exact ⟨_, τ, υ, rfl, rfl, hR'⟩
  · rw [a, b, q_bz1, q_bz1]
    dsimp only
    rcases e_kindOn (N := N) hs hV hw hS rfl with ⟨k1, ⟨q, k2, k3⟩, k4⟩ | ⟨k, k4, e1, e2, _, _, _, q, k2, k3⟩ | ⟨p, k, hp, k1, k5, e1, e2, e3, e4, e5, e6⟩
    · rw [k2, k4, Option.bind_some, Option.bind_some]
      dsimp only
      unfold f_F_act_30
      rw [k3, q_bz0]
      by_cases c : y < 0 ∨ 3 < y
      · rw [e_in0 c, q_bz0]
        exact ⟨_, τ, υ, rfl, rfl, hR'⟩
      · rw [e_in1 c, q_bz1]
        exact ⟨_, τ, υ, rfl, rfl, hR'⟩
    · rw [k2, e2, Option.bind_some, Option.bind_some]
      dsimp only
      unfold f_F_act_30
      rw [k3, q_bz0]
      by_cases c : y < 0 ∨ 3 < y
      · rw [e_in0 c, q_bz0]
        exact ⟨_, τ, υ, rfl, rfl, hR'⟩
      · rw [e_in1 c, q_bz1]
        exact ⟨_, τ, υ, rfl, rfl, hR'⟩
    · rw [e2, e4, Option.bind_some, Option.bind_some]
      dsimp only
      unfold f_F_act_30
      obtain ⟨_, ⟨q, q1, q9, eq⟩, _⟩ := hw.2.2.2.2.2.2.2.1 p hp
      have eq' : τ.1 3 p = nI q := by rw [show τ.1 3 p = _ from q_SCs hS (w := 1) (by decide) (show p < 6 by omega)]; exact eq
      rw [e3, q_bz1, q_in (show p < 6 by omega) (by decide), cond_true, nI_clamp (show p < 2 ^ 31 by omega)]
      dsimp only
      rw [q_wC (show (3 : Nat) ≠ 121 by decide), eq']
      obtain ⟨τ2, hτ2⟩ : ∃ z, z = jx_w (jx_w τ 121 9 (nI p)) 121 10 (nI q) := ⟨_, rfl⟩
      have f2 : q_fr q_a1 τ τ2 := by rw [hτ2]; exact q_fr_w (q_fr_w (q_fr_r _ _) rfl) rfl
      have g8 : τ2.1 121 8 = 0 := by
        rw [hτ2, q_wI (by decide), q_wI (by decide)]
        exact h8
      have g2 : τ2.1 2 p = nI k := by
        rw [hτ2, q_wC (by decide), q_wC (by decide)]
        exact e5
      have hX2 : ∀ {ω : jw_M}, q_X τ ω → q_X τ2 ω := by
        intro ω hω
        rw [hτ2]
        refine q_X_k hω (fun c i z => ?_) (fun c i z => rfl)
        rw [q_w, if_neg (by omega), q_w, if_neg (by omega)]
      rw [← hτ2, e_thing (by omega) k5 g2, Option.bind_some]
      dsimp only
      by_cases c : y < 0 ∨ 3 < y
      · rw [e_in0 c, q_bz0]
        have n0 : ¬ y = 0 := fun z => by subst z; revert c; decide
        have n1 : ¬ y = 1 := fun z => by subst z; revert c; decide
        have n2 : ¬ y = 2 := fun z => by subst z; revert c; decide
        have n3 : ¬ y = 3 := fun z => by subst z; revert c; decide
        rw [if_neg n0, if_neg n1, if_neg n2, if_neg n3]
        unfold f_F_act_176
        rw [g8, if_pos rfl]
        exact ⟨_, τ2, υ, rfl, rfl, q_R_A hR' f2 (q_fr_r _ _) (hX2 hX)⟩
      · rw [e_in1 c, q_bz1]
        dsimp only
        have hk15 : ¬ (nI k < 1 ∨ 5 < nI k) := fun z => z.elim (fun z => absurd ((nI_ltI (b := 1) (by omega) (by decide)).mp z) (by omega)) (fun z => absurd ((nI_ltI (a := 5) (by decide) (by omega)).mp z) (by omega))
        rw [e_in1 hk15, q_bz1]
        dsimp only
        rw [q_in hs (by decide), cond_true, nI_clamp (show s < 2 ^ 31 by omega)]
        rw [q_wS, q_wC (show (18 : Nat) ≠ 0 by decide), e6, show f_M_of N (nI p) 1 (jx_w (jx_w υ 0 36 (nI k)) 0 37 (nI p)) = _ from e_of (w := 1) (by omega) (by decide), Option.bind_some, q_wC (show (3 : Nat) ≠ 0 by decide), q_wC (show (3 : Nat) ≠ 0 by decide), eq]
        dsimp only
        obtain ⟨υ2, hυ2⟩ : ∃ z, z = jx_w (jx_w (jx_w (jx_w υ 0 36 (nI k)) 0 37 (nI p)) 0 38 (nI q)) 0 41 0 := ⟨_, rfl⟩
        have H : q_ac 0 k τ υ τ2 υ2 := by
          rw [hτ2, hυ2]
          refine ⟨q_X_k hX (fun c i z => ?_) (fun c i z => ?_), ?_, ?_, ?_, q_wS, ?_, q_fr_w (q_fr_w (q_fr_r _ _) rfl) rfl, q_fr_w (q_fr_w (q_fr_w (q_fr_w (q_fr_r _ _) rfl) rfl) rfl) rfl⟩
          · rw [q_w, if_neg (by omega), q_w, if_neg (by omega)]
          · rw [q_w, if_neg (by omega), q_w, if_neg (by omega), q_w, if_neg (by omega), q_w, if_neg (by omega)]
          · rw [q_wI (by decide), q_wS, q_wI (by decide), q_wI (by decide), q_wS]
          · rw [q_wS, q_wI (by decide), q_wS]
          · rw [q_wI (by decide), q_wI (by decide)]
            exact h8
          · rw [q_wI (by decide), q_wI (by decide), q_wI (by decide), q_wS]
        rw [← hυ2]
        have fin : ∀ {r w : Int32} {a b : jw_M}, q_ap k τ υ r w a b → ∃ r' σC' σM', (if a.1 121 8 = 0 then some (r, a) else some ((-15 : Int32), a)) = some (r', σC') ∧ f_M_act_121 N w b = some (r', σM') ∧ q_R σC' σM' := by
          intro r w a b hp
          obtain ⟨r', g1, g2⟩ := e_actEnd (N := N) hp
          obtain ⟨z1, z2, z3⟩ := q_apX hp
          exact ⟨r', a, b, g1, g2, q_R_A hR' z2 z3 z1⟩
        unfold f_F_act_123 f_F_act_138 f_F_act_153 f_F_act_168 f_F_act_126 f_F_act_141 f_F_act_156 f_F_act_171 f_F_act_176
        obtain ⟨j, _, j3, rfl⟩ := q_num 0 3 c
        rcases (show j = 0 ∨ j = 1 ∨ j = 2 ∨ j = 3 by omega) with rfl | rfl | rfl | rfl
        · rw [if_pos (show nI 0 = 0 from rfl), if_pos (show nI 0 = 0 from rfl)]
          obtain ⟨r, a, b, g1, g2, g3⟩ := e_lC (N := N) (x := v) k1 k5 H
          unfold q_lC at g1
          rw [g1, g2, Option.bind_some, Option.bind_some]
          exact fin (Or.inl ⟨rfl, g3⟩)
        · rw [if_neg (show ¬ nI 1 = 0 by decide), if_neg (show ¬ nI 1 = 0 by decide), if_pos (show nI 1 = 1 from rfl), if_pos (show nI 1 = 1 from rfl)]
          obtain ⟨r, a, b, g1, g2, g3⟩ := e_tC (N := N) (x := v) k1 k5 H
          unfold q_tC at g1
          rw [g1, g2, Option.bind_some, Option.bind_some]
          exact fin (Or.inl ⟨rfl, g3⟩)
        · rw [if_neg (show ¬ nI 2 = 0 by decide), if_neg (show ¬ nI 2 = 0 by decide), if_neg (show ¬ nI 2 = 1 by decide), if_neg (show ¬ nI 2 = 1 by decide), if_pos (show nI 2 = 2 from rfl), if_pos (show nI 2 = 2 from rfl)]
          obtain ⟨r, w, a, b, g1, g2, g3⟩ := e_fC (N := N) (x := v) k1 k5 H
          unfold q_fC at g1
          rw [g1, g2, Option.bind_some, Option.bind_some]
          exact fin g3
        · rw [if_neg (show ¬ nI 3 = 0 by decide), if_neg (show ¬ nI 3 = 0 by decide), if_neg (show ¬ nI 3 = 1 by decide), if_neg (show ¬ nI 3 = 1 by decide), if_neg (show ¬ nI 3 = 2 by decide), if_neg (show ¬ nI 3 = 2 by decide), if_pos (show nI 3 = 3 from rfl)]
          obtain ⟨r, w, a, b, g1, g2, g3⟩ := e_aC (N := N) (x := v) k1 k5 H
          unfold q_aC at g1
          rw [g1, g2, Option.bind_some, Option.bind_some]
          exact fin g3
