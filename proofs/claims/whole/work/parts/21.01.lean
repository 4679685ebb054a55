def f_H_shadowOn (N : Nat) (x1 : Int32) (σ : jw_M) : Option (Int32 × jw_M) := bif jx_in x1 4 then if (σ.1 129 (x1).toNatClampNeg) = 0 then some ((σ.1 130 (x1).toNatClampNeg), σ) else some ((-1), σ) else none
set_option maxRecDepth 20000 in
theorem s_H_shadowOn {N d : Nat} {x1 : Int32} (hd : 1 ≤ d) {σ : jw_M} {z : (Int32 × jw_M)} {Q : jw_Q} (h : f_H_shadowOn N x1 σ = some z) (hQ : Q (some (.int z.1)) (jx_ShC, z.2)) : jw_C jp_kd jp_ys d 23 [.ref 121, .int x1] (jx_ShC, σ) Q := by
  obtain ⟨d, rfl⟩ : ∃ e, d = e + 1 := ⟨d - 1, by omega⟩
  replace hd : 0 ≤ d := by omega
  refine jx_C rfl rfl ?_
  unfold f_H_shadowOn at h
  cases c1 : jx_in x1 4 with
  | false => rw [c1, cond_false] at h; cases h
  | true =>
    rw [c1, cond_true] at h
    by_cases c2 : (σ.1 129 (x1).toNatClampNeg) = 0
    · rw [if_pos c2] at h
      cases h
      exact ⟨11, And.intro (jx_in_ok c1) (And.intro (fun zz => absurd c2 zz) (fun _ => And.intro (jx_in_ok c1) (And.intro hQ (And.intro rfl rfl))))⟩
    · rw [if_neg c2] at h
      cases h
      exact ⟨7, And.intro (jx_in_ok c1) (And.intro (fun _ => And.intro hQ (And.intro rfl rfl)) (fun zz => absurd zz c2))⟩
def f_H_clearTrace (N : Nat) (σ : jw_M) : Option jw_M := some (jw_up (jw_up σ.1 121 7 (0 : Int32), σ.2).1 121 8 (0 : Int32), (jw_up σ.1 121 7 (0 : Int32), σ.2).2)
set_option maxRecDepth 20000 in
theorem s_H_clearTrace {N d : Nat} (hd : 1 ≤ d) {σ : jw_M} {z : jw_M} {Q : jw_Q} (h : f_H_clearTrace N  σ = some z) (hQ : Q none (jx_ShC, z)) : jw_C jp_kd jp_ys d 24 [.ref 121] (jx_ShC, σ) Q := by
  obtain ⟨d, rfl⟩ : ∃ e, d = e + 1 := ⟨d - 1, by omega⟩
  replace hd : 0 ≤ d := by omega
  refine jx_C rfl rfl ?_
  unfold f_H_clearTrace at h
  cases h
  exact ⟨7, And.intro (Or.inl rfl) (And.intro hQ (And.intro rfl rfl))⟩
def f_H_actOf (N : Nat) (p1 : Nat) (x2 : Int32) (x3 : Int32) (σ : jw_M) : Option (Int32 × jw_M) := if x2 = 0 then (if p1 = 32 then f_Z_Shade_lies N p1 x3 σ else if p1 = 33 then f_Z_Joined_lies N x3 σ else if p1 = 34 then f_Z_Shade_lies N p1 x3 σ else if p1 = 35 then f_Z_Coloured_lies N x3 σ else if p1 = 36 then f_Z_Shade_lies N p1 x3 σ else if p1 = 37 then f_Z_Shade_lies N p1 x3 σ else none).bind fun z1 => some (z1.1, z1.2) else if x2 = 1 then (if p1 = 32 then f_Z_Shade_turns N p1 x3 σ else if p1 = 33 then f_Z_Shade_turns N p1 x3 σ else if p1 = 34 then f_Z_Gifted_turns N p1 x3 σ else if p1 = 35 then f_Z_Gifted_turns N p1 x3 σ else if p1 = 36 then f_Z_Shade_turns N p1 x3 σ else if p1 = 37 then f_Z_Borrowed_turns N x3 σ else none).bind fun z3 => some (z3.1, z3.2) else if x2 = 2 then (if p1 = 32 then f_Z_Shade_folds N p1 x3 σ else if p1 = 33 then f_Z_Shade_folds N p1 x3 σ else if p1 = 34 then f_Z_Shade_folds N p1 x3 σ else if p1 = 35 then f_Z_Shade_folds N p1 x3 σ else if p1 = 36 then f_Z_Slow_folds N p1 x3 σ else if p1 = 37 then f_Z_Borrowed_folds N x3 σ else none).bind fun z5 => some (z5.1, z5.2) else (if p1 = 32 then f_Z_Shade_asks N p1 x3 σ else if p1 = 33 then f_Z_Shade_asks N p1 x3 σ else if p1 = 34 then f_Z_Shade_asks N p1 x3 σ else if p1 = 35 then f_Z_Coloured_asks N x3 σ else if p1 = 36 then f_Z_Shade_asks N p1 x3 σ else if p1 = 37 then f_Z_Shade_asks N p1 x3 σ else none).bind fun z7 => some (z7.1, z7.2)
set_option maxRecDepth 20000 in
theorem s_H_actOf {N d : Nat} {p1 : Nat} {x2 : Int32} {x3 : Int32} (hd : 8 ≤ d) (hp : p1 = 32 ∨ p1 = 33 ∨ p1 = 34 ∨ p1 = 35 ∨ p1 = 36 ∨ p1 = 37) {σ : jw_M} {z : (Int32 × jw_M)} {Q : jw_Q} (h : f_H_actOf N p1 x2 x3 σ = some z) (hQ : Q (some (.int z.1)) (jx_ShC, z.2)) : jw_C jp_kd jp_ys d 26 [.ref 121, .ref p1, .int x2, .int x3] (jx_ShC, σ) Q := by
  obtain ⟨d, rfl⟩ : ∃ e, d = e + 1 := ⟨d - 1, by omega⟩
  replace hd : 7 ≤ d := by omega
  refine jx_C rfl rfl ?_
  rcases hp with rfl | rfl | rfl | rfl | rfl | rfl
  · unfold f_H_actOf at h
    by_cases c11 : x2 = 0
    · rw [if_pos c11] at h
      obtain ⟨z1, h2, h⟩ := Option.bind_eq_some_iff.mp h
      rw [if_pos rfl] at h2
      cases h
      exact ⟨7, And.intro (fun _ => s_Z_Shade_lies (by omega) (by decide) h2 (And.intro hQ (And.intro rfl rfl))) (fun zz => absurd c11 zz)⟩
    · rw [if_neg c11] at h
      by_cases c10 : x2 = 1
      · rw [if_pos c10] at h
        obtain ⟨z3, h4, h⟩ := Option.bind_eq_some_iff.mp h
        rw [if_pos rfl] at h4
        cases h
        exact ⟨7, And.intro (fun zz => absurd zz c11) (fun _ => And.intro (fun _ => s_Z_Shade_turns (by omega) (by decide) h4 (And.intro hQ (And.intro rfl rfl))) (fun zz => absurd c10 zz))⟩
      · rw [if_neg c10] at h
        by_cases c9 : x2 = 2
        · rw [if_pos c9] at h
          obtain ⟨z5, h6, h⟩ := Option.bind_eq_some_iff.mp h
          rw [if_pos rfl] at h6
          cases h
          exact ⟨7, And.intro (fun zz => absurd zz c11) (fun _ => And.intro (fun zz => absurd zz c10) (fun _ => And.intro (fun _ => s_Z_Shade_folds (by omega) (by decide) h6 (And.intro hQ (And.intro rfl rfl))) (fun zz => absurd c9 zz)))⟩
        · rw [if_neg c9] at h
          obtain ⟨z7, h8, h⟩ := Option.bind_eq_some_iff.mp h
          rw [if_pos rfl] at h8
          cases h
          exact ⟨7, And.intro (fun zz => absurd zz c11) (fun _ => And.intro (fun zz => absurd zz c10) (fun _ => And.intro (fun zz => absurd zz c9) (fun _ => s_Z_Shade_asks (by omega) (by decide) h8 (And.intro hQ (And.intro rfl rfl)))))⟩
  · unfold f_H_actOf at h
    by_cases c11 : x2 = 0
    · rw [if_pos c11] at h
      obtain ⟨z1, h2, h⟩ := Option.bind_eq_some_iff.mp h
      rw [if_neg (by decide), if_pos rfl] at h2
      cases h
      exact ⟨7, And.intro (fun _ => s_Z_Joined_lies (by omega) h2 (And.intro hQ (And.intro rfl rfl))) (fun zz => absurd c11 zz)⟩
    · rw [if_neg c11] at h
      by_cases c10 : x2 = 1
      · rw [if_pos c10] at h
        obtain ⟨z3, h4, h⟩ := Option.bind_eq_some_iff.mp h
        rw [if_neg (by decide), if_pos rfl] at h4
        cases h
        exact ⟨7, And.intro (fun zz => absurd zz c11) (fun _ => And.intro (fun _ => s_Z_Shade_turns (by omega) (by decide) h4 (And.intro hQ (And.intro rfl rfl))) (fun zz => absurd c10 zz))⟩
      · rw [if_neg c10] at h
        by_cases c9 : x2 = 2
        · rw [if_pos c9] at h
          obtain ⟨z5, h6, h⟩ := Option.bind_eq_some_iff.mp h
          rw [if_neg (by decide), if_pos rfl] at h6
          cases h
          exact ⟨7, And.intro (fun zz => absurd zz c11) (fun _ => And.intro (fun zz => absurd zz c10) (fun _ => And.intro (fun _ => s_Z_Shade_folds (by omega) (by decide) h6 (And.intro hQ (And.intro rfl rfl))) (fun zz => absurd c9 zz)))⟩
        · rw [if_neg c9] at h
          obtain ⟨z7, h8, h⟩ := Option.bind_eq_some_iff.mp h
          rw [if_neg (by decide), if_pos rfl] at h8
          cases h
          exact ⟨7, And.intro (fun zz => absurd zz c11) (fun _ => And.intro (fun zz => absurd zz c10) (fun _ => And.intro (fun zz => absurd zz c9) (fun _ => s_Z_Shade_asks (by omega) (by decide) h8 (And.intro hQ (And.intro rfl rfl)))))⟩
  · unfold f_H_actOf at h
    by_cases c11 : x2 = 0
    · rw [if_pos c11] at h
      obtain ⟨z1, h2, h⟩ := Option.bind_eq_some_iff.mp h
      rw [if_neg (by decide), if_neg (by decide), if_pos rfl] at h2
      cases h
      exact ⟨7, And.intro (fun _ => s_Z_Shade_lies (by omega) (by decide) h2 (And.intro hQ (And.intro rfl rfl))) (fun zz => absurd c11 zz)⟩
    · rw [if_neg c11] at h
      by_cases c10 : x2 = 1
      · rw [if_pos c10] at h
        obtain ⟨z3, h4, h⟩ := Option.bind_eq_some_iff.mp h
        rw [if_neg (by decide), if_neg (by decide), if_pos rfl] at h4
        cases h
        exact ⟨7, And.intro (fun zz => absurd zz c11) (fun _ => And.intro (fun _ => s_Z_Gifted_turns (by omega) (by decide) h4 (And.intro hQ (And.intro rfl rfl))) (fun zz => absurd c10 zz))⟩
      · rw [if_neg c10] at h
        by_cases c9 : x2 = 2
        · rw [if_pos c9] at h
          obtain ⟨z5, h6, h⟩ := Option.bind_eq_some_iff.mp h
          rw [if_neg (by decide), if_neg (by decide), if_pos rfl] at h6
          cases h
          exact ⟨7, And.intro (fun zz => absurd zz c11) (fun _ => And.intro (fun zz => absurd zz c10) (fun _ => And.intro (fun _ => s_Z_Shade_folds (by omega) (by decide) h6 (And.intro hQ (And.intro rfl rfl))) (fun zz => absurd c9 zz)))⟩
        · rw [if_neg c9] at h
          obtain ⟨z7, h8, h⟩ := Option.bind_eq_some_iff.mp h
          rw [if_neg (by decide), if_neg (by decide), if_pos rfl] at h8
          cases h
          exact ⟨7, And.intro (fun zz => absurd zz c11) (fun _ => And.intro (fun zz => absurd zz c10) (fun _ => And.intro (fun zz => absurd zz c9) (fun _ => s_Z_Shade_asks (by omega) (by decide) h8 (And.intro hQ (And.intro rfl rfl)))))⟩
  · unfold f_H_actOf at h
    by_cases c11 : x2 = 0
    · rw [if_pos c11] at h
      obtain ⟨z1, h2, h⟩ := Option.bind_eq_some_iff.mp h
      rw [if_neg (by decide), if_neg (by decide), if_neg (by decide), if_pos rfl] at h2
      cases h
      exact ⟨7, And.intro (fun _ => s_Z_Coloured_lies (by omega) h2 (And.intro hQ (And.intro rfl rfl))) (fun zz => absurd c11 zz)⟩
    · rw [if_neg c11] at h
      by_cases c10 : x2 = 1
      · rw [if_pos c10] at h
        obtain ⟨z3, h4, h⟩ := Option.bind_eq_some_iff.mp h
        rw [if_neg (by decide), if_neg (by decide), if_neg (by decide), if_pos rfl] at h4
        cases h
        exact ⟨7, And.intro (fun zz => absurd zz c11) (fun _ => And.intro (fun _ => s_Z_Gifted_turns (by omega) (by decide) h4 (And.intro hQ (And.intro rfl rfl))) (fun zz => absurd c10 zz))⟩
      · rw [if_neg c10] at h
        by_cases c9 : x2 = 2
        · rw [if_pos c9] at h
          obtain ⟨z5, h6, h⟩ := Option.bind_eq_some_iff.mp h
          rw [if_neg (by decide), if_neg (by decide), if_neg (by decide), if_pos rfl] at h6
          cases h
          exact ⟨7, And.intro (fun zz => absurd zz c11) (fun _ => And.intro (fun zz => absurd zz c10) (fun _ => And.intro (fun _ => s_Z_Shade_folds (by omega) (by decide) h6 (And.intro hQ (And.intro rfl rfl))) (fun zz => absurd c9 zz)))⟩
        · rw [if_neg c9] at h
          obtain ⟨z7, h8, h⟩ := Option.bind_eq_some_iff.mp h
          rw [if_neg (by decide), if_neg (by decide), if_neg (by decide), if_pos rfl] at h8
          cases h
          exact ⟨7, And.intro (fun zz => absurd zz c11) (fun _ => And.intro (fun zz => absurd zz c10) (fun _ => And.intro (fun zz => absurd zz c9) (fun _ => s_Z_Coloured_asks (by omega) h8 (And.intro hQ (And.intro rfl rfl)))))⟩
  · unfold f_H_actOf at h
    by_cases c11 : x2 = 0
    · rw [if_pos c11] at h
      obtain ⟨z1, h2, h⟩ := Option.bind_eq_some_iff.mp h
      rw [if_neg (by decide), if_neg (by decide), if_neg (by decide), if_neg (by decide), if_pos rfl] at h2
      cases h
      exact ⟨7, And.intro (fun _ => s_Z_Shade_lies (by omega) (by decide) h2 (And.intro hQ (And.intro rfl rfl))) (fun zz => absurd c11 zz)⟩
    · rw [if_neg c11] at h
      by_cases c10 : x2 = 1
      · rw [if_pos c10] at h
        obtain ⟨z3, h4, h⟩ := Option.bind_eq_some_iff.mp h
        rw [if_neg (by decide), if_neg (by decide), if_neg (by decide), if_neg (by decide), if_pos rfl] at h4
        cases h
        exact ⟨7, And.intro (fun zz => absurd zz c11) (fun _ => And.intro (fun _ => s_Z_Shade_turns (by omega) (by decide) h4 (And.intro hQ (And.intro rfl rfl))) (fun zz => absurd c10 zz))⟩
      · rw [if_neg c10] at h
        by_cases c9 : x2 = 2
        · rw [if_pos c9] at h
          obtain ⟨z5, h6, h⟩ := Option.bind_eq_some_iff.mp h
          rw [if_neg (by decide), if_neg (by decide), if_neg (by decide), if_neg (by decide), if_pos rfl] at h6
          cases h
          exact ⟨7, And.intro (fun zz => absurd zz c11) (fun _ => And.intro (fun zz => absurd zz c10) (fun _ => And.intro (fun _ => s_Z_Slow_folds (by omega) (by decide) h6 (And.intro hQ (And.intro rfl rfl))) (fun zz => absurd c9 zz)))⟩
        · rw [if_neg c9] at h
          obtain ⟨z7, h8, h⟩ := Option.bind_eq_some_iff.mp h
          rw [if_neg (by decide), if_neg (by decide), if_neg (by decide), if_neg (by decide), if_pos rfl] at h8
          cases h
          exact ⟨7, And.intro (fun zz => absurd zz c11) (fun _ => And.intro (fun zz => absurd zz c10) (fun _ => And.intro (fun zz => absurd zz c9) (fun _ => s_Z_Shade_asks (by omega) (by decide) h8 (And.intro hQ (And.intro rfl rfl)))))⟩
  · unfold f_H_actOf at h
    by_cases c11 : x2 = 0
    · rw [if_pos c11] at h
      obtain ⟨z1, h2, h⟩ := Option.bind_eq_some_iff.mp h
      rw [if_neg (by decide), if_neg (by decide), if_neg (by decide), if_neg (by decide), if_neg (by decide), if_pos rfl] at h2
      cases h
      exact ⟨7, And.intro (fun _ => s_Z_Shade_lies (by omega) (by decide) h2 (And.intro hQ (And.intro rfl rfl))) (fun zz => absurd c11 zz)⟩
    · rw [if_neg c11] at h
      by_cases c10 : x2 = 1
      · rw [if_pos c10] at h
        obtain ⟨z3, h4, h⟩ := Option.bind_eq_some_iff.mp h
        rw [if_neg (by decide), if_neg (by decide), if_neg (by decide), if_neg (by decide), if_neg (by decide), if_pos rfl] at h4
        cases h
        exact ⟨7, And.intro (fun zz => absurd zz c11) (fun _ => And.intro (fun _ => s_Z_Borrowed_turns (by omega) h4 (And.intro hQ (And.intro rfl rfl))) (fun zz => absurd c10 zz))⟩
      · rw [if_neg c10] at h
        by_cases c9 : x2 = 2
        · rw [if_pos c9] at h
          obtain ⟨z5, h6, h⟩ := Option.bind_eq_some_iff.mp h
          rw [if_neg (by decide), if_neg (by decide), if_neg (by decide), if_neg (by decide), if_neg (by decide), if_pos rfl] at h6
          cases h
          exact ⟨7, And.intro (fun zz => absurd zz c11) (fun _ => And.intro (fun zz => absurd zz c10) (fun _ => And.intro (fun _ => s_Z_Borrowed_folds (by omega) h6 (And.intro hQ (And.intro rfl rfl))) (fun zz => absurd c9 zz)))⟩
        · rw [if_neg c9] at h
          obtain ⟨z7, h8, h⟩ := Option.bind_eq_some_iff.mp h
          rw [if_neg (by decide), if_neg (by decide), if_neg (by decide), if_neg (by decide), if_neg (by decide), if_pos rfl] at h8
          cases h
          exact ⟨7, And.intro (fun zz => absurd zz c11) (fun _ => And.intro (fun zz => absurd zz c10) (fun _ => And.intro (fun zz => absurd zz c9) (fun _ => s_Z_Shade_asks (by omega) (by decide) h8 (And.intro hQ (And.intro rfl rfl)))))⟩
def f_H_perform (N : Nat) (p1 : Nat) (x2 : Int32) (x3 : Int32) (x4 : Int32) (x5 : Int32) (σ : jw_M) : Option (Int32 × jw_M) := (f_H_actOf N p1 x4 x5 (jw_up (jw_up σ.1 121 9 x2, σ.2).1 121 10 x3, (jw_up σ.1 121 9 x2, σ.2).2)).bind fun z1 => if (z1.2.1 121 8) = 0 then some (z1.1, z1.2) else some ((-15), z1.2)
set_option maxRecDepth 20000 in
theorem s_H_perform {N d : Nat} {p1 : Nat} {x2 : Int32} {x3 : Int32} {x4 : Int32} {x5 : Int32} (hd : 9 ≤ d) (hp : p1 = 32 ∨ p1 = 33 ∨ p1 = 34 ∨ p1 = 35 ∨ p1 = 36 ∨ p1 = 37) {σ : jw_M} {z : (Int32 × jw_M)} {Q : jw_Q} (h : f_H_perform N p1 x2 x3 x4 x5 σ = some z) (hQ : Q (some (.int z.1)) (jx_ShC, z.2)) : jw_C jp_kd jp_ys d 25 [.ref 121, .ref p1, .int x2, .int x3, .int x4, .int x5] (jx_ShC, σ) Q := by
  obtain ⟨d, rfl⟩ : ∃ e, d = e + 1 := ⟨d - 1, by omega⟩
  replace hd : 8 ≤ d := by omega
  refine jx_C rfl rfl ?_
  rcases hp with rfl | rfl | rfl | rfl | rfl | rfl
  · unfold f_H_perform at h
    obtain ⟨z1, h2, h⟩ := Option.bind_eq_some_iff.mp h
    by_cases c3 : (z1.2.1 121 8) = 0
    · rw [if_pos c3] at h
      cases h
      exact ⟨17, s_H_actOf (by omega) (by decide) h2 (And.intro (fun _ => And.intro hQ (And.intro rfl rfl)) (fun zz => absurd c3 zz))⟩
    · rw [if_neg c3] at h
      cases h
      exact ⟨18, s_H_actOf (by omega) (by decide) h2 (And.intro (fun zz => absurd zz c3) (fun _ => And.intro hQ (And.intro rfl rfl)))⟩
  · unfold f_H_perform at h
    obtain ⟨z1, h2, h⟩ := Option.bind_eq_some_iff.mp h
    by_cases c3 : (z1.2.1 121 8) = 0
    · rw [if_pos c3] at h
      cases h
      exact ⟨17, s_H_actOf (by omega) (by decide) h2 (And.intro (fun _ => And.intro hQ (And.intro rfl rfl)) (fun zz => absurd c3 zz))⟩
    · rw [if_neg c3] at h
      cases h
      exact ⟨18, s_H_actOf (by omega) (by decide) h2 (And.intro (fun zz => absurd zz c3) (fun _ => And.intro hQ (And.intro rfl rfl)))⟩
  · unfold f_H_perform at h
    obtain ⟨z1, h2, h⟩ := Option.bind_eq_some_iff.mp h
    by_cases c3 : (z1.2.1 121 8) = 0
    · rw [if_pos c3] at h
      cases h
      exact ⟨17, s_H_actOf (by omega) (by decide) h2 (And.intro (fun _ => And.intro hQ (And.intro rfl rfl)) (fun zz => absurd c3 zz))⟩
    · rw [if_neg c3] at h
      cases h
      exact ⟨18, s_H_actOf (by omega) (by decide) h2 (And.intro (fun zz => absurd zz c3) (fun _ => And.intro hQ (And.intro rfl rfl)))⟩
  · unfold f_H_perform at h
    obtain ⟨z1, h2, h⟩ := Option.bind_eq_some_iff.mp h
    by_cases c3 : (z1.2.1 121 8) = 0
    · rw [if_pos c3] at h
      cases h
      exact ⟨17, s_H_actOf (by omega) (by decide) h2 (And.intro (fun _ => And.intro hQ (And.intro rfl rfl)) (fun zz => absurd c3 zz))⟩
    · rw [if_neg c3] at h
      cases h
      exact ⟨18, s_H_actOf (by omega) (by decide) h2 (And.intro (fun zz => absurd zz c3) (fun _ => And.intro hQ (And.intro rfl rfl)))⟩
  · unfold f_H_perform at h
    obtain ⟨z1, h2, h⟩ := Option.bind_eq_some_iff.mp h
    by_cases c3 : (z1.2.1 121 8) = 0
    · rw [if_pos c3] at h
      cases h
      exact ⟨17, s_H_actOf (by omega) (by decide) h2 (And.intro (fun _ => And.intro hQ (And.intro rfl rfl)) (fun zz => absurd c3 zz))⟩
    · rw [if_neg c3] at h
      cases h
      exact ⟨18, s_H_actOf (by omega) (by decide) h2 (And.intro (fun zz => absurd zz c3) (fun _ => And.intro hQ (And.intro rfl rfl)))⟩
  · unfold f_H_perform at h
    obtain ⟨z1, h2, h⟩ := Option.bind_eq_some_iff.mp h
    by_cases c3 : (z1.2.1 121 8) = 0
    · rw [if_pos c3] at h
      cases h
      exact ⟨17, s_H_actOf (by omega) (by decide) h2 (And.intro (fun _ => And.intro hQ (And.intro rfl rfl)) (fun zz => absurd c3 zz))⟩
    · rw [if_neg c3] at h
      cases h
      exact ⟨18, s_H_actOf (by omega) (by decide) h2 (And.intro (fun zz => absurd zz c3) (fun _ => And.intro hQ (And.intro rfl rfl)))⟩
def f_Z_Joined_paceIn (N : Nat) (x1 : Int32) (x2 : Int32) (σ : jw_M) : Option (Int32 × jw_M) := if (x1 - x1 / 4 * 4) = 3 then some (0, σ) else (f_Z_Shade_paceIn N 33 x1 x2 σ).bind fun z2 => some (z2.1, z2.2)
set_option maxRecDepth 20000 in
theorem s_Z_Joined_paceIn {N d : Nat} {x1 : Int32} {x2 : Int32} (hd : 2 ≤ d) {σ : jw_M} {z : (Int32 × jw_M)} {Q : jw_Q} (h : f_Z_Joined_paceIn N x1 x2 σ = some z) (hQ : Q (some (.int z.1)) (jx_ShC, z.2)) : jw_C jp_kd jp_ys d 30 [.ref 33, .int x1, .int x2] (jx_ShC, σ) Q := by
  obtain ⟨d, rfl⟩ : ∃ e, d = e + 1 := ⟨d - 1, by omega⟩
  replace hd : 1 ≤ d := by omega
  refine jx_C rfl rfl ?_
  unfold f_Z_Joined_paceIn at h
  by_cases c1 : (x1 - x1 / 4 * 4) = 3
  · rw [if_pos c1] at h
    cases h
    exact ⟨8, And.intro (by decide) (And.intro (fun zz => absurd c1 zz) (fun _ => And.intro hQ (And.intro rfl rfl)))⟩
  · rw [if_neg c1] at h
    obtain ⟨z2, h3, h⟩ := Option.bind_eq_some_iff.mp h
    cases h
    exact ⟨10, And.intro (by decide) (And.intro (fun _ => s_Z_Shade_paceIn (by omega) (by decide) h3 (And.intro hQ (And.intro rfl rfl))) (fun zz => absurd zz c1))⟩
def f_L_weigh_70 (N : Nat) (x3 : Int32) (σ : jw_M) : Option jw_M := some (jw_up σ.1 92 8 ((σ.1 92 8) ||| x3), σ.2)
set_option maxRecDepth 20000 in
theorem s_L_weigh_70 {N d : Nat} {Q : jw_Q} (hd : 2 ≤ d) {x3 : Int32} {σ : jw_M} {z : jw_M} (h : f_L_weigh_70 N x3 σ = some z) (hQ : Q none (jx_ShC, z)) : ∃ n, ∀ (u1 u2 : Option Value), jx_W jx_ShC d none jc_35 Q n 70 [some (.ref 92), u1, u2, some (.int x3)] [] σ := by
  unfold f_L_weigh_70 at h
  cases h
  exact ⟨7, fun _ _ => And.intro hQ (And.intro rfl rfl)⟩
def f_L_weigh_47 (N : Nat) (x2 : Int32) (x3 : Int32) (σ : jw_M) : Option jw_M := if ((σ.1 92 6) &&& (x3 ^^^ (-1))) = 0 then (f_J_min N (σ.1 92 7) x2 σ).bind fun z4 => f_L_weigh_70 N x3 (jw_up z4.2.1 92 7 z4.1, z4.2.2) else f_L_weigh_70 N x3 σ
set_option maxRecDepth 20000 in
theorem s_L_weigh_47 {N d : Nat} {Q : jw_Q} (hd : 2 ≤ d) {x2 : Int32} {x3 : Int32} {σ : jw_M} {z : jw_M} (h : f_L_weigh_47 N x2 x3 σ = some z) (hQ : Q none (jx_ShC, z)) : ∃ n, ∀ (u1 : Option Value), jx_W jx_ShC d none jc_35 Q n 47 [some (.ref 92), u1, some (.int x2), some (.int x3)] [] σ := by
  unfold f_L_weigh_47 at h
  by_cases c3 : ((σ.1 92 6) &&& (x3 ^^^ (-1))) = 0
  · rw [if_pos c3] at h
    obtain ⟨z4, h5, h⟩ := Option.bind_eq_some_iff.mp h
    obtain ⟨n, hn⟩ := s_L_weigh_70 hd h hQ
    exact ⟨n + 13, fun _ => And.intro (fun zz => absurd c3 zz) (fun _ => s_J_min (by omega) h5 (hn _ _))⟩
  · rw [if_neg c3] at h
    obtain ⟨n, hn⟩ := s_L_weigh_70 hd h hQ
    exact ⟨n + 7, fun _ => And.intro (fun _ => hn _ _) (fun zz => absurd zz c3)⟩
def f_L_weigh_29 (N : Nat) (x1 : Int32) (x2 : Int32) (x3 : Int32) (σ : jw_M) : Option jw_M := if x1 = (σ.1 92 3) then f_L_weigh_47 N x2 x3 (jw_up σ.1 92 4 ((σ.1 92 4) + 1), σ.2) else f_L_weigh_47 N x2 x3 σ
set_option maxRecDepth 20000 in
theorem s_L_weigh_29 {N d : Nat} {Q : jw_Q} (hd : 2 ≤ d) {x1 : Int32} {x2 : Int32} {x3 : Int32} {σ : jw_M} {z : jw_M} (h : f_L_weigh_29 N x1 x2 x3 σ = some z) (hQ : Q none (jx_ShC, z)) : ∃ n, jx_W jx_ShC d none jc_35 Q n 29 [some (.ref 92), some (.int x1), some (.int x2), some (.int x3)] [] σ := by
  unfold f_L_weigh_29 at h
  by_cases c2 : x1 = (σ.1 92 3)
  · rw [if_pos c2] at h
    obtain ⟨n, hn⟩ := s_L_weigh_47 hd h hQ
    exact ⟨n + 10, And.intro (fun zz => absurd c2 zz) (fun _ => hn _)⟩
  · rw [if_neg c2] at h
    obtain ⟨n, hn⟩ := s_L_weigh_47 hd h hQ
    exact ⟨n + 4, And.intro (fun _ => hn _) (fun zz => absurd zz c2)⟩
def f_L_weigh (N : Nat) (x1 : Int32) (x2 : Int32) (x3 : Int32) (σ : jw_M) : Option jw_M := if x1 ≤ (σ.1 92 3) then f_L_weigh_29 N x1 x2 x3 σ else (f_F_copyRow N 114 115 4 4 (jw_up (jw_up σ.1 92 3 x1, σ.2).1 92 4 (0 : Int32), (jw_up σ.1 92 3 x1, σ.2).2)).bind fun z6 => f_L_weigh_29 N x1 x2 x3 z6
set_option maxRecDepth 20000 in
theorem s_L_weigh {N d : Nat} {x1 : Int32} {x2 : Int32} {x3 : Int32} (hd : 3 ≤ d) {σ : jw_M} {z : jw_M} {Q : jw_Q} (h : f_L_weigh N x1 x2 x3 σ = some z) (hQ : Q none (jx_ShC, z)) : jw_C jp_kd jp_ys d 35 [.ref 92, .int x1, .int x2, .int x3] (jx_ShC, σ) Q := by
  obtain ⟨d, rfl⟩ : ∃ e, d = e + 1 := ⟨d - 1, by omega⟩
  replace hd : 2 ≤ d := by omega
  refine jx_C rfl rfl ?_
  unfold f_L_weigh at h
  by_cases c1 : x1 ≤ (σ.1 92 3)
  · rw [if_pos c1] at h
    obtain ⟨n, hn⟩ := s_L_weigh_29 hd h hQ
    exact ⟨n + 4, And.intro (fun _ => hn) (fun zz => absurd c1 zz)⟩
  · rw [if_neg c1] at h
    obtain ⟨z6, h7, h⟩ := Option.bind_eq_some_iff.mp h
    obtain ⟨n, hn⟩ := s_L_weigh_29 hd h hQ
    exact ⟨n + 15, And.intro (fun zz => absurd zz c1) (fun _ => s_F_copyRow (by omega) rfl rfl h7 (hn))⟩
def f_P_copyFrom (N : Nat) (p0 : Nat) (p1 : Nat) (σ : jw_M) : Option jw_M := (f_F_copyRow N (p1 + 1) (p0 + 1) 48 48 (jw_up (jw_up σ.1 p0 0 (σ.1 p1 0), σ.2).1 p0 1 ((jw_up σ.1 p0 0 (σ.1 p1 0), σ.2).1 p1 1), (jw_up σ.1 p0 0 (σ.1 p1 0), σ.2).2)).bind fun z1 => (f_F_copyRow N (p1 + 2) (p0 + 2) 6 6 z1).bind fun z3 => some z3
set_option maxRecDepth 20000 in
theorem s_P_copyFrom {N d : Nat} {p0 : Nat} {p1 : Nat} (hd : 3 ≤ d) (hp : (p0 = 102 ∧ p1 = 102) ∨ (p0 = 102 ∧ p1 = 106) ∨ (p0 = 102 ∧ p1 = 110) ∨ (p0 = 102 ∧ p1 = 27) ∨ (p0 = 102 ∧ p1 = 94) ∨ (p0 = 102 ∧ p1 = 98) ∨ (p0 = 106 ∧ p1 = 102) ∨ (p0 = 106 ∧ p1 = 106) ∨ (p0 = 106 ∧ p1 = 110) ∨ (p0 = 106 ∧ p1 = 27) ∨ (p0 = 106 ∧ p1 = 94) ∨ (p0 = 106 ∧ p1 = 98) ∨ (p0 = 110 ∧ p1 = 102) ∨ (p0 = 110 ∧ p1 = 106) ∨ (p0 = 110 ∧ p1 = 110) ∨ (p0 = 110 ∧ p1 = 27) ∨ (p0 = 110 ∧ p1 = 94) ∨ (p0 = 110 ∧ p1 = 98) ∨ (p0 = 27 ∧ p1 = 64) ∨ (p0 = 64 ∧ p1 = 27) ∨ (p0 = 75 ∧ p1 = 27) ∨ (p0 = 94 ∧ p1 = 102) ∨ (p0 = 94 ∧ p1 = 106) ∨ (p0 = 94 ∧ p1 = 110) ∨ (p0 = 94 ∧ p1 = 27) ∨ (p0 = 94 ∧ p1 = 94) ∨ (p0 = 94 ∧ p1 = 98) ∨ (p0 = 98 ∧ p1 = 102) ∨ (p0 = 98 ∧ p1 = 106) ∨ (p0 = 98 ∧ p1 = 110) ∨ (p0 = 98 ∧ p1 = 27) ∨ (p0 = 98 ∧ p1 = 94) ∨ (p0 = 98 ∧ p1 = 98)) {σ : jw_M} {z : jw_M} {Q : jw_Q} (h : f_P_copyFrom N p0 p1 σ = some z) (hQ : Q none (jx_ShC, z)) : jw_C jp_kd jp_ys d 42 [.ref p0, .ref p1] (jx_ShC, σ) Q := by
  obtain ⟨d, rfl⟩ : ∃ e, d = e + 1 := ⟨d - 1, by omega⟩
  replace hd : 2 ≤ d := by omega
  refine jx_C rfl rfl ?_
  rcases hp with ⟨rfl, rfl⟩ | ⟨rfl, rfl⟩ | ⟨rfl, rfl⟩ | ⟨rfl, rfl⟩ | ⟨rfl, rfl⟩ | ⟨rfl, rfl⟩ | ⟨rfl, rfl⟩ | ⟨rfl, rfl⟩ | ⟨rfl, rfl⟩ | ⟨rfl, rfl⟩ | ⟨rfl, rfl⟩ | ⟨rfl, rfl⟩ | ⟨rfl, rfl⟩ | ⟨rfl, rfl⟩ | ⟨rfl, rfl⟩ | ⟨rfl, rfl⟩ | ⟨rfl, rfl⟩ | ⟨rfl, rfl⟩ | ⟨rfl, rfl⟩ | ⟨rfl, rfl⟩ | ⟨rfl, rfl⟩ | ⟨rfl, rfl⟩ | ⟨rfl, rfl⟩ | ⟨rfl, rfl⟩ | ⟨rfl, rfl⟩ | ⟨rfl, rfl⟩ | ⟨rfl, rfl⟩ | ⟨rfl, rfl⟩ | ⟨rfl, rfl⟩ | ⟨rfl, rfl⟩ | ⟨rfl, rfl⟩ | ⟨rfl, rfl⟩ | ⟨rfl, rfl⟩
  · unfold f_P_copyFrom at h
    obtain ⟨z1, h2, h⟩ := Option.bind_eq_some_iff.mp h
    obtain ⟨z3, h4, h⟩ := Option.bind_eq_some_iff.mp h
    cases h
    exact ⟨19, s_F_copyRow (by omega) rfl rfl h2 (s_F_copyRow (by omega) rfl rfl h4 (And.intro hQ (And.intro rfl rfl)))⟩
  · unfold f_P_copyFrom at h
    obtain ⟨z1, h2, h⟩ := Option.bind_eq_some_iff.mp h
    obtain ⟨z3, h4, h⟩ := Option.bind_eq_some_iff.mp h
    cases h
    exact ⟨19, s_F_copyRow (by omega) rfl rfl h2 (s_F_copyRow (by omega) rfl rfl h4 (And.intro hQ (And.intro rfl rfl)))⟩
  · unfold f_P_copyFrom at h
    obtain ⟨z1, h2, h⟩ := Option.bind_eq_some_iff.mp h
    obtain ⟨z3, h4, h⟩ := Option.bind_eq_some_iff.mp h
    cases h
    exact ⟨19, s_F_copyRow (by omega) rfl rfl h2 (s_F_copyRow (by omega) rfl rfl h4 (And.intro hQ (And.intro rfl rfl)))⟩
  · unfold f_P_copyFrom at h
    obtain ⟨z1, h2, h⟩ := Option.bind_eq_some_iff.mp h
    obtain ⟨z3, h4, h⟩ := Option.bind_eq_some_iff.mp h
    cases h
    exact ⟨19, s_F_copyRow (by omega) rfl rfl h2 (s_F_copyRow (by omega) rfl rfl h4 (And.intro hQ (And.intro rfl rfl)))⟩
  · unfold f_P_copyFrom at h
    obtain ⟨z1, h2, h⟩ := Option.bind_eq_some_iff.mp h
    obtain ⟨z3, h4, h⟩ := Option.bind_eq_some_iff.mp h
    cases h
    exact ⟨19, s_F_copyRow (by omega) rfl rfl h2 (s_F_copyRow (by omega) rfl rfl h4 (And.intro hQ (And.intro rfl rfl)))⟩
  · unfold f_P_copyFrom at h
    obtain ⟨z1, h2, h⟩ := Option.bind_eq_some_iff.mp h
    obtain ⟨z3, h4, h⟩ := Option.bind_eq_some_iff.mp h
    cases h
    exact ⟨19, s_F_copyRow (by omega) rfl rfl h2 (s_F_copyRow (by omega) rfl rfl h4 (And.intro hQ (And.intro rfl rfl)))⟩
  · unfold f_P_copyFrom at h
    obtain ⟨z1, h2, h⟩ := Option.bind_eq_some_iff.mp h
    obtain ⟨z3, h4, h⟩ := Option.bind_eq_some_iff.mp h
    cases h
    exact ⟨19, s_F_copyRow (by omega) rfl rfl h2 (s_F_copyRow (by omega) rfl rfl h4 (And.intro hQ (And.intro rfl rfl)))⟩
  · unfold f_P_copyFrom at h
    obtain ⟨z1, h2, h⟩ := Option.bind_eq_some_iff.mp h
    obtain ⟨z3, h4, h⟩ := Option.bind_eq_some_iff.mp h
    cases h
    exact ⟨19, s_F_copyRow (by omega) rfl rfl h2 (s_F_copyRow (by omega) rfl rfl h4 (And.intro hQ (And.intro rfl rfl)))⟩
  · unfold f_P_copyFrom at h
    obtain ⟨z1, h2, h⟩ := Option.bind_eq_some_iff.mp h
    obtain ⟨z3, h4, h⟩ := Option.bind_eq_some_iff.mp h
    cases h
    exact ⟨19, s_F_copyRow (by omega) rfl rfl h2 (s_F_copyRow (by omega) rfl rfl h4 (And.intro hQ (And.intro rfl rfl)))⟩
  · unfold f_P_copyFrom at h
    obtain ⟨z1, h2, h⟩ := Option.bind_eq_some_iff.mp h
    obtain ⟨z3, h4, h⟩ := Option.bind_eq_some_iff.mp h
    cases h
    exact ⟨19, s_F_copyRow (by omega) rfl rfl h2 (s_F_copyRow (by omega) rfl rfl h4 (And.intro hQ (And.intro rfl rfl)))⟩
  · unfold f_P_copyFrom at h
    obtain ⟨z1, h2, h⟩ := Option.bind_eq_some_iff.mp h
    obtain ⟨z3, h4, h⟩ := Option.bind_eq_some_iff.mp h
    cases h
    exact ⟨19, s_F_copyRow (by omega) rfl rfl h2 (s_F_copyRow (by omega) rfl rfl h4 (And.intro hQ (And.intro rfl rfl)))⟩
  · unfold f_P_copyFrom at h
    obtain ⟨z1, h2, h⟩ := Option.bind_eq_some_iff.mp h
    obtain ⟨z3, h4, h⟩ := Option.bind_eq_some_iff.mp h
    cases h
    exact ⟨19, s_F_copyRow (by omega) rfl rfl h2 (s_F_copyRow (by omega) rfl rfl h4 (And.intro hQ (And.intro rfl rfl)))⟩
  · unfold f_P_copyFrom at h
    obtain ⟨z1, h2, h⟩ := Option.bind_eq_some_iff.mp h
    obtain ⟨z3, h4, h⟩ := Option.bind_eq_some_iff.mp h
    cases h
    exact ⟨19, s_F_copyRow (by omega) rfl rfl h2 (s_F_copyRow (by omega) rfl rfl h4 (And.intro hQ (And.intro rfl rfl)))⟩
  · unfold f_P_copyFrom at h
    obtain ⟨z1, h2, h⟩ := Option.bind_eq_some_iff.mp h
    obtain ⟨z3, h4, h⟩ := Option.bind_eq_some_iff.mp h
    cases h
    exact ⟨19, s_F_copyRow (by omega) rfl rfl h2 (s_F_copyRow (by omega) rfl rfl h4 (And.intro hQ (And.intro rfl rfl)))⟩
  · unfold f_P_copyFrom at h
    obtain ⟨z1, h2, h⟩ := Option.bind_eq_some_iff.mp h
    obtain ⟨z3, h4, h⟩ := Option.bind_eq_some_iff.mp h
    cases h
    exact ⟨19, s_F_copyRow (by omega) rfl rfl h2 (s_F_copyRow (by omega) rfl rfl h4 (And.intro hQ (And.intro rfl rfl)))⟩
  · unfold f_P_copyFrom at h
    obtain ⟨z1, h2, h⟩ := Option.bind_eq_some_iff.mp h
    obtain ⟨z3, h4, h⟩ := Option.bind_eq_some_iff.mp h
    cases h
    exact ⟨19, s_F_copyRow (by omega) rfl rfl h2 (s_F_copyRow (by omega) rfl rfl h4 (And.intro hQ (And.intro rfl rfl)))⟩
  · unfold f_P_copyFrom at h
    obtain ⟨z1, h2, h⟩ := Option.bind_eq_some_iff.mp h
    obtain ⟨z3, h4, h⟩ := Option.bind_eq_some_iff.mp h
    cases h
    exact ⟨19, s_F_copyRow (by omega) rfl rfl h2 (s_F_copyRow (by omega) rfl rfl h4 (And.intro hQ (And.intro rfl rfl)))⟩
  · unfold f_P_copyFrom at h
    obtain ⟨z1, h2, h⟩ := Option.bind_eq_some_iff.mp h
    obtain ⟨z3, h4, h⟩ := Option.bind_eq_some_iff.mp h
    cases h
    exact ⟨19, s_F_copyRow (by omega) rfl rfl h2 (s_F_copyRow (by omega) rfl rfl h4 (And.intro hQ (And.intro rfl rfl)))⟩
  · unfold f_P_copyFrom at h
    obtain ⟨z1, h2, h⟩ := Option.bind_eq_some_iff.mp h
    obtain ⟨z3, h4, h⟩ := Option.bind_eq_some_iff.mp h
    cases h
    exact ⟨19, s_F_copyRow (by omega) rfl rfl h2 (s_F_copyRow (by omega) rfl rfl h4 (And.intro hQ (And.intro rfl rfl)))⟩
  · unfold f_P_copyFrom at h
    obtain ⟨z1, h2, h⟩ := Option.bind_eq_some_iff.mp h
    obtain ⟨z3, h4, h⟩ := Option.bind_eq_some_iff.mp h
    cases h
    exact ⟨19, s_F_copyRow (by omega) rfl rfl h2 (s_F_copyRow (by omega) rfl rfl h4 (And.intro hQ (And.intro rfl rfl)))⟩
  · unfold f_P_copyFrom at h
    obtain ⟨z1, h2, h⟩ := Option.bind_eq_some_iff.mp h
    obtain ⟨z3, h4, h⟩ := Option.bind_eq_some_iff.mp h
    cases h
    exact ⟨19, s_F_copyRow (by omega) rfl rfl h2 (s_F_copyRow (by omega) rfl rfl h4 (And.intro hQ (And.intro rfl rfl)))⟩
  · unfold f_P_copyFrom at h
    obtain ⟨z1, h2, h⟩ := Option.bind_eq_some_iff.mp h
    obtain ⟨z3, h4, h⟩ := Option.bind_eq_some_iff.mp h
    cases h
    exact ⟨19, s_F_copyRow (by omega) rfl rfl h2 (s_F_copyRow (by omega) rfl rfl h4 (And.intro hQ (And.intro rfl rfl)))⟩
  · unfold f_P_copyFrom at h
    obtain ⟨z1, h2, h⟩ := Option.bind_eq_some_iff.mp h
    obtain ⟨z3, h4, h⟩ := Option.bind_eq_some_iff.mp h
    cases h
    exact ⟨19, s_F_copyRow (by omega) rfl rfl h2 (s_F_copyRow (by omega) rfl rfl h4 (And.intro hQ (And.intro rfl rfl)))⟩
  · unfold f_P_copyFrom at h
    obtain ⟨z1, h2, h⟩ := Option.bind_eq_some_iff.mp h
    obtain ⟨z3, h4, h⟩ := Option.bind_eq_some_iff.mp h
    cases h
    exact ⟨19, s_F_copyRow (by omega) rfl rfl h2 (s_F_copyRow (by omega) rfl rfl h4 (And.intro hQ (And.intro rfl rfl)))⟩
  · unfold f_P_copyFrom at h
    obtain ⟨z1, h2, h⟩ := Option.bind_eq_some_iff.mp h
    obtain ⟨z3, h4, h⟩ := Option.bind_eq_some_iff.mp h
    cases h
    exact ⟨19, s_F_copyRow (by omega) rfl rfl h2 (s_F_copyRow (by omega) rfl rfl h4 (And.intro hQ (And.intro rfl rfl)))⟩
  · unfold f_P_copyFrom at h
    obtain ⟨z1, h2, h⟩ := Option.bind_eq_some_iff.mp h
    obtain ⟨z3, h4, h⟩ := Option.bind_eq_some_iff.mp h
    cases h
    exact ⟨19, s_F_copyRow (by omega) rfl rfl h2 (s_F_copyRow (by omega) rfl rfl h4 (And.intro hQ (And.intro rfl rfl)))⟩
  · unfold f_P_copyFrom at h
    obtain ⟨z1, h2, h⟩ := Option.bind_eq_some_iff.mp h
    obtain ⟨z3, h4, h⟩ := Option.bind_eq_some_iff.mp h
    cases h
    exact ⟨19, s_F_copyRow (by omega) rfl rfl h2 (s_F_copyRow (by omega) rfl rfl h4 (And.intro hQ (And.intro rfl rfl)))⟩
  · unfold f_P_copyFrom at h
    obtain ⟨z1, h2, h⟩ := Option.bind_eq_some_iff.mp h
    obtain ⟨z3, h4, h⟩ := Option.bind_eq_some_iff.mp h
    cases h
    exact ⟨19, s_F_copyRow (by omega) rfl rfl h2 (s_F_copyRow (by omega) rfl rfl h4 (And.intro hQ (And.intro rfl rfl)))⟩
  · unfold f_P_copyFrom at h
    obtain ⟨z1, h2, h⟩ := Option.bind_eq_some_iff.mp h
    obtain ⟨z3, h4, h⟩ := Option.bind_eq_some_iff.mp h
    cases h
    exact ⟨19, s_F_copyRow (by omega) rfl rfl h2 (s_F_copyRow (by omega) rfl rfl h4 (And.intro hQ (And.intro rfl rfl)))⟩
  · unfold f_P_copyFrom at h
    obtain ⟨z1, h2, h⟩ := Option.bind_eq_some_iff.mp h
    obtain ⟨z3, h4, h⟩ := Option.bind_eq_some_iff.mp h
    cases h
    exact ⟨19, s_F_copyRow (by omega) rfl rfl h2 (s_F_copyRow (by omega) rfl rfl h4 (And.intro hQ (And.intro rfl rfl)))⟩
  · unfold f_P_copyFrom at h
    obtain ⟨z1, h2, h⟩ := Option.bind_eq_some_iff.mp h
    obtain ⟨z3, h4, h⟩ := Option.bind_eq_some_iff.mp h
    cases h
    exact ⟨19, s_F_copyRow (by omega) rfl rfl h2 (s_F_copyRow (by omega) rfl rfl h4 (And.intro hQ (And.intro rfl rfl)))⟩
  · unfold f_P_copyFrom at h
    obtain ⟨z1, h2, h⟩ := Option.bind_eq_some_iff.mp h
    obtain ⟨z3, h4, h⟩ := Option.bind_eq_some_iff.mp h
    cases h
    exact ⟨19, s_F_copyRow (by omega) rfl rfl h2 (s_F_copyRow (by omega) rfl rfl h4 (And.intro hQ (And.intro rfl rfl)))⟩
  · unfold f_P_copyFrom at h
    obtain ⟨z1, h2, h⟩ := Option.bind_eq_some_iff.mp h
    obtain ⟨z3, h4, h⟩ := Option.bind_eq_some_iff.mp h
    cases h
    exact ⟨19, s_F_copyRow (by omega) rfl rfl h2 (s_F_copyRow (by omega) rfl rfl h4 (And.intro hQ (And.intro rfl rfl)))⟩
def f_P_learntBySome_4 (N : Nat) (p0 : Nat) : Nat → Int32 → Int32 → jw_M → Option (Int32 × jw_M)
  | 0, _, _, _ => none
  | k + 1, x1, x2, σ => if 6 ≤ x2 then some (x1, σ) else bif jx_in x2 6 then f_P_learntBySome_4 N p0 k (x1 ||| (σ.1 (p0 + 2) (x2).toNatClampNeg)) (x2 + 1) σ else none
set_option maxRecDepth 20000 in
theorem s_P_learntBySome_4 {N d : Nat} {p0 : Nat} {Q : jw_Q} (hd : 0 ≤ d) (hp : p0 = 102 ∨ p0 = 106 ∨ p0 = 110 ∨ p0 = 94 ∨ p0 = 98) : ∀ (k : Nat) {x1 : Int32} {x2 : Int32} {σ : jw_M} {z : (Int32 × jw_M)}, f_P_learntBySome_4 N p0 k x1 x2 σ = some z → Q (some (.int z.1)) (jx_ShC, z.2) → ∃ n, jx_W jx_ShC d (some .int) jc_46 Q n 4 [some (.ref p0), some (.int x1), some (.int x2)] [] σ
  | 0, _, _, _, _, h, _ => by cases h
  | k + 1, x1, x2, σ, z, h, hQ => by
    rcases hp with rfl | rfl | rfl | rfl | rfl
    · rw [f_P_learntBySome_4] at h
      by_cases c1 : 6 ≤ x2
      · rw [if_pos c1] at h
        cases h
        exact ⟨5, And.intro (fun _ => And.intro hQ (And.intro rfl rfl)) (fun zz => absurd c1 zz)⟩
      · rw [if_neg c1] at h
        cases c2 : jx_in x2 6 with
        | false => rw [c2, cond_false] at h; cases h
        | true =>
          rw [c2, cond_true] at h
          obtain ⟨n, hn⟩ := s_P_learntBySome_4 hd (by decide) k h hQ
          exact ⟨n + 12, And.intro (fun zz => absurd zz c1) (fun _ => And.intro (jx_in_ok c2) (hn))⟩
    · rw [f_P_learntBySome_4] at h
      by_cases c1 : 6 ≤ x2
      · rw [if_pos c1] at h
        cases h
        exact ⟨5, And.intro (fun _ => And.intro hQ (And.intro rfl rfl)) (fun zz => absurd c1 zz)⟩
      · rw [if_neg c1] at h
        cases c2 : jx_in x2 6 with
        | false => rw [c2, cond_false] at h; cases h
        | true =>
          rw [c2, cond_true] at h
          obtain ⟨n, hn⟩ := s_P_learntBySome_4 hd (by decide) k h hQ
          exact ⟨n + 12, And.intro (fun zz => absurd zz c1) (fun _ => And.intro (jx_in_ok c2) (hn))⟩
    · rw [f_P_learntBySome_4] at h
      by_cases c1 : 6 ≤ x2
      · rw [if_pos c1] at h
        cases h
        exact ⟨5, And.intro (fun _ => And.intro hQ (And.intro rfl rfl)) (fun zz => absurd c1 zz)⟩
      · rw [if_neg c1] at h
        cases c2 : jx_in x2 6 with
        | false => rw [c2, cond_false] at h; cases h
        | true =>
          rw [c2, cond_true] at h
          obtain ⟨n, hn⟩ := s_P_learntBySome_4 hd (by decide) k h hQ
          exact ⟨n + 12, And.intro (fun zz => absurd zz c1) (fun _ => And.intro (jx_in_ok c2) (hn))⟩
    · rw [f_P_learntBySome_4] at h
      by_cases c1 : 6 ≤ x2
      · rw [if_pos c1] at h
        cases h
        exact ⟨5, And.intro (fun _ => And.intro hQ (And.intro rfl rfl)) (fun zz => absurd c1 zz)⟩
      · rw [if_neg c1] at h
        cases c2 : jx_in x2 6 with
        | false => rw [c2, cond_false] at h; cases h
        | true =>
          rw [c2, cond_true] at h
          obtain ⟨n, hn⟩ := s_P_learntBySome_4 hd (by decide) k h hQ
          exact ⟨n + 12, And.intro (fun zz => absurd zz c1) (fun _ => And.intro (jx_in_ok c2) (hn))⟩
    · rw [f_P_learntBySome_4] at h
      by_cases c1 : 6 ≤ x2
      · rw [if_pos c1] at h
        cases h
        exact ⟨5, And.intro (fun _ => And.intro hQ (And.intro rfl rfl)) (fun zz => absurd c1 zz)⟩
      · rw [if_neg c1] at h
        cases c2 : jx_in x2 6 with
        | false => rw [c2, cond_false] at h; cases h
        | true =>
          rw [c2, cond_true] at h
          obtain ⟨n, hn⟩ := s_P_learntBySome_4 hd (by decide) k h hQ
          exact ⟨n + 12, And.intro (fun zz => absurd zz c1) (fun _ => And.intro (jx_in_ok c2) (hn))⟩
def f_P_learntBySome (N : Nat) (p0 : Nat) (σ : jw_M) : Option (Int32 × jw_M) := f_P_learntBySome_4 N p0 N 0 0 σ
set_option maxRecDepth 20000 in
theorem s_P_learntBySome {N d : Nat} {p0 : Nat} (hd : 1 ≤ d) (hp : p0 = 102 ∨ p0 = 106 ∨ p0 = 110 ∨ p0 = 94 ∨ p0 = 98) {σ : jw_M} {z : (Int32 × jw_M)} {Q : jw_Q} (h : f_P_learntBySome N p0 σ = some z) (hQ : Q (some (.int z.1)) (jx_ShC, z.2)) : jw_C jp_kd jp_ys d 46 [.ref p0] (jx_ShC, σ) Q := by
  obtain ⟨d, rfl⟩ : ∃ e, d = e + 1 := ⟨d - 1, by omega⟩
  replace hd : 0 ≤ d := by omega
  refine jx_C rfl rfl ?_
  rcases hp with rfl | rfl | rfl | rfl | rfl
  · unfold f_P_learntBySome at h
    obtain ⟨n, hn⟩ := s_P_learntBySome_4 hd (by decide) N h hQ
    exact ⟨n + 4, hn⟩
  · unfold f_P_learntBySome at h
    obtain ⟨n, hn⟩ := s_P_learntBySome_4 hd (by decide) N h hQ
    exact ⟨n + 4, hn⟩
  · unfold f_P_learntBySome at h
    obtain ⟨n, hn⟩ := s_P_learntBySome_4 hd (by decide) N h hQ
    exact ⟨n + 4, hn⟩
  · unfold f_P_learntBySome at h
    obtain ⟨n, hn⟩ := s_P_learntBySome_4 hd (by decide) N h hQ
    exact ⟨n + 4, hn⟩
  · unfold f_P_learntBySome at h
    obtain ⟨n, hn⟩ := s_P_learntBySome_4 hd (by decide) N h hQ
    exact ⟨n + 4, hn⟩
def f_P_gain (N : Nat) (p0 : Nat) (x1 : Int32) (x2 : Int32) (x3 : Int32) (x4 : Int32) (σ : jw_M) : Option (Int32 × jw_M) := bif jx_in ((x1 * 8) + x2) 48 then if x4 ≤ ((jw_up σ.1 (p0 + 1) (((x1 * 8) + x2)).toNatClampNeg ((σ.1 (p0 + 1) (((x1 * 8) + x2)).toNatClampNeg) + x3), σ.2).1 (p0 + 1) (((x1 * 8) + x2)).toNatClampNeg) then bif jx_in x1 6 then some (1, (jw_up (jw_up σ.1 (p0 + 1) (((x1 * 8) + x2)).toNatClampNeg ((σ.1 (p0 + 1) (((x1 * 8) + x2)).toNatClampNeg) + x3), σ.2).1 (p0 + 2) (x1).toNatClampNeg (((jw_up σ.1 (p0 + 1) (((x1 * 8) + x2)).toNatClampNeg ((σ.1 (p0 + 1) (((x1 * 8) + x2)).toNatClampNeg) + x3), σ.2).1 (p0 + 2) (x1).toNatClampNeg) ||| ((1 : Int32) <<< (x2 &&& 31))), (jw_up σ.1 (p0 + 1) (((x1 * 8) + x2)).toNatClampNeg ((σ.1 (p0 + 1) (((x1 * 8) + x2)).toNatClampNeg) + x3), σ.2).2)) else none else some (0, (jw_up σ.1 (p0 + 1) (((x1 * 8) + x2)).toNatClampNeg ((σ.1 (p0 + 1) (((x1 * 8) + x2)).toNatClampNeg) + x3), σ.2)) else none
set_option maxRecDepth 20000 in
theorem s_P_gain {N d : Nat} {p0 : Nat} {x1 : Int32} {x2 : Int32} {x3 : Int32} {x4 : Int32} (hd : 1 ≤ d) (hp : p0 = 102 ∨ p0 = 106 ∨ p0 = 110 ∨ p0 = 27 ∨ p0 = 75 ∨ p0 = 94 ∨ p0 = 98) {σ : jw_M} {z : (Int32 × jw_M)} {Q : jw_Q} (h : f_P_gain N p0 x1 x2 x3 x4 σ = some z) (hQ : Q (some (.int z.1)) (jx_ShC, z.2)) : jw_C jp_kd jp_ys d 47 [.ref p0, .int x1, .int x2, .int x3, .int x4] (jx_ShC, σ) Q := by
  obtain ⟨d, rfl⟩ : ∃ e, d = e + 1 := ⟨d - 1, by omega⟩
  replace hd : 0 ≤ d := by omega
  refine jx_C rfl rfl ?_
  rcases hp with rfl | rfl | rfl | rfl | rfl | rfl | rfl
  · unfold f_P_gain at h
    cases c1 : jx_in ((x1 * 8) + x2) 48 with
    | false => rw [c1, cond_false] at h; cases h
    | true =>
      rw [c1, cond_true] at h
      by_cases c2 : x4 ≤ ((jw_up σ.1 (102 + 1) (((x1 * 8) + x2)).toNatClampNeg ((σ.1 (102 + 1) (((x1 * 8) + x2)).toNatClampNeg) + x3), σ.2).1 (102 + 1) (((x1 * 8) + x2)).toNatClampNeg)
      · rw [if_pos c2] at h
        cases c3 : jx_in x1 6 with
        | false => rw [c3, cond_false] at h; cases h
        | true =>
          rw [c3, cond_true] at h
          cases h
          exact ⟨32, And.intro (jx_in_ok c1) (And.intro (jx_in_ok c1) (And.intro (jx_in_ok c1) (And.intro (fun _ => And.intro (jx_in_ok c3) (And.intro (jx_in_ok c3) (And.intro (Or.inr rfl) (And.intro hQ (And.intro rfl rfl))))) (fun zz => absurd c2 zz))))⟩
      · rw [if_neg c2] at h
        cases h
        exact ⟨22, And.intro (jx_in_ok c1) (And.intro (jx_in_ok c1) (And.intro (jx_in_ok c1) (And.intro (fun zz => absurd zz c2) (fun _ => And.intro (Or.inl rfl) (And.intro hQ (And.intro rfl rfl))))))⟩
  · unfold f_P_gain at h
    cases c1 : jx_in ((x1 * 8) + x2) 48 with
    | false => rw [c1, cond_false] at h; cases h
    | true =>
      rw [c1, cond_true] at h
      by_cases c2 : x4 ≤ ((jw_up σ.1 (106 + 1) (((x1 * 8) + x2)).toNatClampNeg ((σ.1 (106 + 1) (((x1 * 8) + x2)).toNatClampNeg) + x3), σ.2).1 (106 + 1) (((x1 * 8) + x2)).toNatClampNeg)
      · rw [if_pos c2] at h
        cases c3 : jx_in x1 6 with
        | false => rw [c3, cond_false] at h; cases h
        | true =>
          rw [c3, cond_true] at h
          cases h
          exact ⟨32, And.intro (jx_in_ok c1) (And.intro (jx_in_ok c1) (And.intro (jx_in_ok c1) (And.intro (fun _ => And.intro (jx_in_ok c3) (And.intro (jx_in_ok c3) (And.intro (Or.inr rfl) (And.intro hQ (And.intro rfl rfl))))) (fun zz => absurd c2 zz))))⟩
      · rw [if_neg c2] at h
        cases h
        exact ⟨22, And.intro (jx_in_ok c1) (And.intro (jx_in_ok c1) (And.intro (jx_in_ok c1) (And.intro (fun zz => absurd zz c2) (fun _ => And.intro (Or.inl rfl) (And.intro hQ (And.intro rfl rfl))))))⟩
  · unfold f_P_gain at h
    cases c1 : jx_in ((x1 * 8) + x2) 48 with
    | false => rw [c1, cond_false] at h; cases h
    | true =>
      rw [c1, cond_true] at h
      by_cases c2 : x4 ≤ ((jw_up σ.1 (110 + 1) (((x1 * 8) + x2)).toNatClampNeg ((σ.1 (110 + 1) (((x1 * 8) + x2)).toNatClampNeg) + x3), σ.2).1 (110 + 1) (((x1 * 8) + x2)).toNatClampNeg)
      · rw [if_pos c2] at h
        cases c3 : jx_in x1 6 with
        | false => rw [c3, cond_false] at h; cases h
        | true =>
          rw [c3, cond_true] at h
          cases h
          exact ⟨32, And.intro (jx_in_ok c1) (And.intro (jx_in_ok c1) (And.intro (jx_in_ok c1) (And.intro (fun _ => And.intro (jx_in_ok c3) (And.intro (jx_in_ok c3) (And.intro (Or.inr rfl) (And.intro hQ (And.intro rfl rfl))))) (fun zz => absurd c2 zz))))⟩
      · rw [if_neg c2] at h
        cases h
        exact ⟨22, And.intro (jx_in_ok c1) (And.intro (jx_in_ok c1) (And.intro (jx_in_ok c1) (And.intro (fun zz => absurd zz c2) (fun _ => And.intro (Or.inl rfl) (And.intro hQ (And.intro rfl rfl))))))⟩
  · unfold f_P_gain at h
    cases c1 : jx_in ((x1 * 8) + x2) 48 with
    | false => rw [c1, cond_false] at h; cases h
    | true =>
      rw [c1, cond_true] at h
      by_cases c2 : x4 ≤ ((jw_up σ.1 (27 + 1) (((x1 * 8) + x2)).toNatClampNeg ((σ.1 (27 + 1) (((x1 * 8) + x2)).toNatClampNeg) + x3), σ.2).1 (27 + 1) (((x1 * 8) + x2)).toNatClampNeg)
      · rw [if_pos c2] at h
        cases c3 : jx_in x1 6 with
        | false => rw [c3, cond_false] at h; cases h
        | true =>
          rw [c3, cond_true] at h
          cases h
          exact ⟨32, And.intro (jx_in_ok c1) (And.intro (jx_in_ok c1) (And.intro (jx_in_ok c1) (And.intro (fun _ => And.intro (jx_in_ok c3) (And.intro (jx_in_ok c3) (And.intro (Or.inr rfl) (And.intro hQ (And.intro rfl rfl))))) (fun zz => absurd c2 zz))))⟩
      · rw [if_neg c2] at h
        cases h
        exact ⟨22, And.intro (jx_in_ok c1) (And.intro (jx_in_ok c1) (And.intro (jx_in_ok c1) (And.intro (fun zz => absurd zz c2) (fun _ => And.intro (Or.inl rfl) (And.intro hQ (And.intro rfl rfl))))))⟩
  · unfold f_P_gain at h
    cases c1 : jx_in ((x1 * 8) + x2) 48 with
    | false => rw [c1, cond_false] at h; cases h
    | true =>
      rw [c1, cond_true] at h
      by_cases c2 : x4 ≤ ((jw_up σ.1 (75 + 1) (((x1 * 8) + x2)).toNatClampNeg ((σ.1 (75 + 1) (((x1 * 8) + x2)).toNatClampNeg) + x3), σ.2).1 (75 + 1) (((x1 * 8) + x2)).toNatClampNeg)
      · rw [if_pos c2] at h
        cases c3 : jx_in x1 6 with
        | false => rw [c3, cond_false] at h; cases h
        | true =>
          rw [c3, cond_true] at h
          cases h
          exact ⟨32, And.intro (jx_in_ok c1) (And.intro (jx_in_ok c1) (And.intro (jx_in_ok c1) (And.intro (fun _ => And.intro (jx_in_ok c3) (And.intro (jx_in_ok c3) (And.intro (Or.inr rfl) (And.intro hQ (And.intro rfl rfl))))) (fun zz => absurd c2 zz))))⟩
      · rw [if_neg c2] at h
        cases h
        exact ⟨22, And.intro (jx_in_ok c1) (And.intro (jx_in_ok c1) (And.intro (jx_in_ok c1) (And.intro (fun zz => absurd zz c2) (fun _ => And.intro (Or.inl rfl) (And.intro hQ (And.intro rfl rfl))))))⟩
  · unfold f_P_gain at h
    cases c1 : jx_in ((x1 * 8) + x2) 48 with
    | false => rw [c1, cond_false] at h; cases h
    | true =>
      rw [c1, cond_true] at h
      by_cases c2 : x4 ≤ ((jw_up σ.1 (94 + 1) (((x1 * 8) + x2)).toNatClampNeg ((σ.1 (94 + 1) (((x1 * 8) + x2)).toNatClampNeg) + x3), σ.2).1 (94 + 1) (((x1 * 8) + x2)).toNatClampNeg)
      · rw [if_pos c2] at h
        cases c3 : jx_in x1 6 with
        | false => rw [c3, cond_false] at h; cases h
        | true =>
          rw [c3, cond_true] at h
          cases h
          exact ⟨32, And.intro (jx_in_ok c1) (And.intro (jx_in_ok c1) (And.intro (jx_in_ok c1) (And.intro (fun _ => And.intro (jx_in_ok c3) (And.intro (jx_in_ok c3) (And.intro (Or.inr rfl) (And.intro hQ (And.intro rfl rfl))))) (fun zz => absurd c2 zz))))⟩
      · rw [if_neg c2] at h
        cases h
        exact ⟨22, And.intro (jx_in_ok c1) (And.intro (jx_in_ok c1) (And.intro (jx_in_ok c1) (And.intro (fun zz => absurd zz c2) (fun _ => And.intro (Or.inl rfl) (And.intro hQ (And.intro rfl rfl))))))⟩
  · unfold f_P_gain at h
    cases c1 : jx_in ((x1 * 8) + x2) 48 with
    | false => rw [c1, cond_false] at h; cases h
    | true =>
      rw [c1, cond_true] at h
      by_cases c2 : x4 ≤ ((jw_up σ.1 (98 + 1) (((x1 * 8) + x2)).toNatClampNeg ((σ.1 (98 + 1) (((x1 * 8) + x2)).toNatClampNeg) + x3), σ.2).1 (98 + 1) (((x1 * 8) + x2)).toNatClampNeg)
      · rw [if_pos c2] at h
        cases c3 : jx_in x1 6 with
        | false => rw [c3, cond_false] at h; cases h
        | true =>
          rw [c3, cond_true] at h
          cases h
          exact ⟨32, And.intro (jx_in_ok c1) (And.intro (jx_in_ok c1) (And.intro (jx_in_ok c1) (And.intro (fun _ => And.intro (jx_in_ok c3) (And.intro (jx_in_ok c3) (And.intro (Or.inr rfl) (And.intro hQ (And.intro rfl rfl))))) (fun zz => absurd c2 zz))))⟩
      · rw [if_neg c2] at h
        cases h
        exact ⟨22, And.intro (jx_in_ok c1) (And.intro (jx_in_ok c1) (And.intro (jx_in_ok c1) (And.intro (fun zz => absurd zz c2) (fun _ => And.intro (Or.inl rfl) (And.intro hQ (And.intro rfl rfl))))))⟩
def f_S_thing_10 (N : Nat) (y1 : Int32) (σ : jw_M) : Option (Nat × jw_M) := bif jx_in y1 6 then some ((32 + (y1).toNatClampNeg), σ) else none
set_option maxRecDepth 20000 in
theorem s_S_thing_10 {N d : Nat} {Q : jw_Q} (hd : 0 ≤ d) {y1 : Int32} {σ : jw_M} {z : (Nat × jw_M)} (h : f_S_thing_10 N y1 σ = some z) (hQ : Q (some (.ref z.1)) (jx_ShC, z.2)) : ∃ n, ∀ (u0 u1 : Option Value), jx_W jx_ShC d (some (.object "ShadowSchool$Shade")) jc_87 Q n 10 [u0, u1] [.int y1, .ref 31] σ := by
  unfold f_S_thing_10 at h
  cases c2 : jx_in y1 6 with
  | false => rw [c2, cond_false] at h; cases h
  | true =>
    rw [c2, cond_true] at h
    rcases jx_ix6 (jx_in_ok c2) with rfl | rfl | rfl | rfl | rfl | rfl
    · try rw [show (32 + (0 : Int32).toNatClampNeg) = 32 from by decide] at h
      cases h
      exact ⟨2, fun _ _ => And.intro (jx_in_ok c2) (And.intro hQ (And.intro rfl rfl))⟩
    · try rw [show (32 + (1 : Int32).toNatClampNeg) = 33 from by decide] at h
      cases h
      exact ⟨2, fun _ _ => And.intro (jx_in_ok c2) (And.intro hQ (And.intro rfl rfl))⟩
    · try rw [show (32 + (2 : Int32).toNatClampNeg) = 34 from by decide] at h
      cases h
      exact ⟨2, fun _ _ => And.intro (jx_in_ok c2) (And.intro hQ (And.intro rfl rfl))⟩
    · try rw [show (32 + (3 : Int32).toNatClampNeg) = 35 from by decide] at h
      cases h
      exact ⟨2, fun _ _ => And.intro (jx_in_ok c2) (And.intro hQ (And.intro rfl rfl))⟩
    · try rw [show (32 + (4 : Int32).toNatClampNeg) = 36 from by decide] at h
      cases h
      exact ⟨2, fun _ _ => And.intro (jx_in_ok c2) (And.intro hQ (And.intro rfl rfl))⟩
    · try rw [show (32 + (5 : Int32).toNatClampNeg) = 37 from by decide] at h
      cases h
      exact ⟨2, fun _ _ => And.intro (jx_in_ok c2) (And.intro hQ (And.intro rfl rfl))⟩
def f_S_thing (N : Nat) (x1 : Int32) (σ : jw_M) : Option (Nat × jw_M) := bif jx_in x1 6 then f_S_thing_10 N (σ.1 2 (x1).toNatClampNeg) σ else none
set_option maxRecDepth 20000 in
theorem s_S_thing {N d : Nat} {x1 : Int32} (hd : 1 ≤ d) {σ : jw_M} {z : (Nat × jw_M)} {Q : jw_Q} (h : f_S_thing N x1 σ = some z) (hQ : Q (some (.ref z.1)) (jx_ShC, z.2)) : jw_C jp_kd jp_ys d 87 [.ref 1, .int x1] (jx_ShC, σ) Q := by
  obtain ⟨d, rfl⟩ : ∃ e, d = e + 1 := ⟨d - 1, by omega⟩
  replace hd : 0 ≤ d := by omega
  refine jx_C rfl rfl ?_
  unfold f_S_thing at h
  cases c1 : jx_in x1 6 with
  | false => rw [c1, cond_false] at h; cases h
  | true =>
    rw [c1, cond_true] at h
    obtain ⟨n, hn⟩ := s_S_thing_10 hd h hQ
    exact ⟨n + 6, And.intro (jx_in_ok c1) (hn _ _)⟩
theorem r_S_thing {N : Nat} {x1 : Int32} {σ : jw_M} {z : Nat × jw_M} (h : f_S_thing N x1 σ = some z) : z.1 = 32 ∨ z.1 = 33 ∨ z.1 = 34 ∨ z.1 = 35 ∨ z.1 = 36 ∨ z.1 = 37 := by
  sorry
def f_S_openTo_98 (N : Nat) (p1 : Nat) (K45 : Int32 → Int32 → Int32 → jw_M → Option (Int32 × jw_M)) (x4 : Int32) (x5 : Int32) (x6 : Int32) (σ : jw_M) : Option (Int32 × jw_M) := K45 x4 x5 (x6 + 1) σ
set_option maxRecDepth 20000 in
theorem s_S_openTo_98 {N d : Nat} {p1 : Nat} {Q : jw_Q} {K45 : Int32 → Int32 → Int32 → jw_M → Option (Int32 × jw_M)} (hd : 0 ≤ d) (hp : p1 = 102 ∨ p1 = 106 ∨ p1 = 110 ∨ p1 = 27 ∨ p1 = 75 ∨ p1 = 94 ∨ p1 = 98) (hK45 : ∀ {x4 : Int32} {x5 : Int32} {x6 : Int32} {σ : jw_M} {z : (Int32 × jw_M)}, K45 x4 x5 x6 σ = some z → Q (some (.int z.1)) (jx_ShC, z.2) → ∃ n, ∀ (u1 u2 u3 : Option Value), jx_W jx_ShC d (some .int) jc_94 Q n 45 [some (.ref 1), u1, u2, u3, some (.int x4), some (.int x5), some (.int x6)] [] σ) {x4 : Int32} {x5 : Int32} {x6 : Int32} {σ : jw_M} {z : (Int32 × jw_M)} (h : f_S_openTo_98 N p1 K45 x4 x5 x6 σ = some z) (hQ : Q (some (.int z.1)) (jx_ShC, z.2)) : ∃ n, ∀ (u1 u2 u3 : Option Value), jx_W jx_ShC d (some .int) jc_94 Q n 98 [some (.ref 1), u1, u2, u3, some (.int x4), some (.int x5), some (.int x6)] [] σ := by
  rcases hp with rfl | rfl | rfl | rfl | rfl | rfl | rfl
  · unfold f_S_openTo_98 at h
    obtain ⟨n, hn⟩ := hK45 h hQ
    exact ⟨n + 2, fun _ _ _ => hn _ _ _⟩
  · unfold f_S_openTo_98 at h
    obtain ⟨n, hn⟩ := hK45 h hQ
    exact ⟨n + 2, fun _ _ _ => hn _ _ _⟩
  · unfold f_S_openTo_98 at h
    obtain ⟨n, hn⟩ := hK45 h hQ
    exact ⟨n + 2, fun _ _ _ => hn _ _ _⟩
  · unfold f_S_openTo_98 at h
    obtain ⟨n, hn⟩ := hK45 h hQ
    exact ⟨n + 2, fun _ _ _ => hn _ _ _⟩
  · unfold f_S_openTo_98 at h
    obtain ⟨n, hn⟩ := hK45 h hQ
    exact ⟨n + 2, fun _ _ _ => hn _ _ _⟩
  · unfold f_S_openTo_98 at h
    obtain ⟨n, hn⟩ := hK45 h hQ
    exact ⟨n + 2, fun _ _ _ => hn _ _ _⟩
  · unfold f_S_openTo_98 at h
    obtain ⟨n, hn⟩ := hK45 h hQ
    exact ⟨n + 2, fun _ _ _ => hn _ _ _⟩
def f_S_openTo_45 (N : Nat) (p1 : Nat) : Nat → Int32 → Int32 → Int32 → jw_M → Option (Int32 × jw_M)
  | 0, _, _, _, _ => none
  | k + 1, x4, x5, x6, σ => if (σ.1 1 5) ≤ x6 then some (x5, σ) else if (x5 >>> (x6 &&& 31)) = 0 then some (x5, σ) else bif jx_in x6 8 then if (σ.1 7 (x6).toNatClampNeg) < 0 then f_S_openTo_98 N p1 (f_S_openTo_45 N p1 k) x4 x5 x6 σ else if ((x4 >>> ((σ.1 7 (x6).toNatClampNeg) &&& 31)) &&& 1) = 0 then f_S_openTo_98 N p1 (f_S_openTo_45 N p1 k) x4 (x5 &&& (((1 : Int32) <<< (x6 &&& 31)) ^^^ (-1))) x6 σ else f_S_openTo_98 N p1 (f_S_openTo_45 N p1 k) x4 x5 x6 σ else none
set_option maxRecDepth 20000 in
theorem s_S_openTo_45 {N d : Nat} {p1 : Nat} {Q : jw_Q} (hd : 0 ≤ d) (hp : p1 = 102 ∨ p1 = 106 ∨ p1 = 110 ∨ p1 = 27 ∨ p1 = 75 ∨ p1 = 94 ∨ p1 = 98) : ∀ (k : Nat) {x4 : Int32} {x5 : Int32} {x6 : Int32} {σ : jw_M} {z : (Int32 × jw_M)}, f_S_openTo_45 N p1 k x4 x5 x6 σ = some z → Q (some (.int z.1)) (jx_ShC, z.2) → ∃ n, ∀ (u1 u2 u3 : Option Value), jx_W jx_ShC d (some .int) jc_94 Q n 45 [some (.ref 1), u1, u2, u3, some (.int x4), some (.int x5), some (.int x6)] [] σ
  | 0, _, _, _, _, _, h, _ => by cases h
  | k + 1, x4, x5, x6, σ, z, h, hQ => by
    rcases hp with rfl | rfl | rfl | rfl | rfl | rfl | rfl
    · rw [f_S_openTo_45] at h
      by_cases c4 : (σ.1 1 5) ≤ x6
      · rw [if_pos c4] at h
        cases h
        exact ⟨6, fun _ _ _ => And.intro (fun _ => And.intro hQ (And.intro rfl rfl)) (fun zz => absurd c4 zz)⟩
      · rw [if_neg c4] at h
        by_cases c5 : (x5 >>> (x6 &&& 31)) = 0
        · rw [if_pos c5] at h
          cases h
          exact ⟨10, fun _ _ _ => And.intro (fun zz => absurd zz c4) (fun _ => And.intro (fun _ => And.intro hQ (And.intro rfl rfl)) (fun zz => absurd c5 zz))⟩
        · rw [if_neg c5] at h
          cases c6 : jx_in x6 8 with
          | false => rw [c6, cond_false] at h; cases h
          | true =>
            rw [c6, cond_true] at h
            by_cases c7 : (σ.1 7 (x6).toNatClampNeg) < 0
            · rw [if_pos c7] at h
              obtain ⟨n, hn⟩ := s_S_openTo_98 hd (by decide) (s_S_openTo_45 hd (by decide) k) h hQ
              exact ⟨n + 13, fun _ _ _ => And.intro (fun zz => absurd zz c4) (fun _ => And.intro (fun zz => absurd zz c5) (fun _ => And.intro (jx_in_ok c6) (And.intro (fun _ => hn _ _ _) (fun zz => absurd c7 zz))))⟩
            · rw [if_neg c7] at h
              by_cases c8 : ((x4 >>> ((σ.1 7 (x6).toNatClampNeg) &&& 31)) &&& 1) = 0
              · rw [if_pos c8] at h
                obtain ⟨n, hn⟩ := s_S_openTo_98 hd (by decide) (s_S_openTo_45 hd (by decide) k) h hQ
                exact ⟨n + 30, fun _ _ _ => And.intro (fun zz => absurd zz c4) (fun _ => And.intro (fun zz => absurd zz c5) (fun _ => And.intro (jx_in_ok c6) (And.intro (fun zz => absurd zz c7) (fun _ => And.intro (jx_in_ok c6) (And.intro (fun zz => absurd c8 zz) (fun _ => hn _ _ _))))))⟩
              · rw [if_neg c8] at h
                obtain ⟨n, hn⟩ := s_S_openTo_98 hd (by decide) (s_S_openTo_45 hd (by decide) k) h hQ
                exact ⟨n + 22, fun _ _ _ => And.intro (fun zz => absurd zz c4) (fun _ => And.intro (fun zz => absurd zz c5) (fun _ => And.intro (jx_in_ok c6) (And.intro (fun zz => absurd zz c7) (fun _ => And.intro (jx_in_ok c6) (And.intro (fun _ => hn _ _ _) (fun zz => absurd zz c8))))))⟩
    · rw [f_S_openTo_45] at h
      by_cases c4 : (σ.1 1 5) ≤ x6
      · rw [if_pos c4] at h
        cases h
        exact ⟨6, fun _ _ _ => And.intro (fun _ => And.intro hQ (And.intro rfl rfl)) (fun zz => absurd c4 zz)⟩
      · rw [if_neg c4] at h
        by_cases c5 : (x5 >>> (x6 &&& 31)) = 0
        · rw [if_pos c5] at h
          cases h
          exact ⟨10, fun _ _ _ => And.intro (fun zz => absurd zz c4) (fun _ => And.intro (fun _ => And.intro hQ (And.intro rfl rfl)) (fun zz => absurd c5 zz))⟩
        · rw [if_neg c5] at h
          cases c6 : jx_in x6 8 with
          | false => rw [c6, cond_false] at h; cases h
          | true =>
            rw [c6, cond_true] at h
            by_cases c7 : (σ.1 7 (x6).toNatClampNeg) < 0
            · rw [if_pos c7] at h
              obtain ⟨n, hn⟩ := s_S_openTo_98 hd (by decide) (s_S_openTo_45 hd (by decide) k) h hQ
              exact ⟨n + 13, fun _ _ _ => And.intro (fun zz => absurd zz c4) (fun _ => And.intro (fun zz => absurd zz c5) (fun _ => And.intro (jx_in_ok c6) (And.intro (fun _ => hn _ _ _) (fun zz => absurd c7 zz))))⟩
            · rw [if_neg c7] at h
              by_cases c8 : ((x4 >>> ((σ.1 7 (x6).toNatClampNeg) &&& 31)) &&& 1) = 0
              · rw [if_pos c8] at h
                obtain ⟨n, hn⟩ := s_S_openTo_98 hd (by decide) (s_S_openTo_45 hd (by decide) k) h hQ
                exact ⟨n + 30, fun _ _ _ => And.intro (fun zz => absurd zz c4) (fun _ => And.intro (fun zz => absurd zz c5) (fun _ => And.intro (jx_in_ok c6) (And.intro (fun zz => absurd zz c7) (fun _ => And.intro (jx_in_ok c6) (And.intro (fun zz => absurd c8 zz) (fun _ => hn _ _ _))))))⟩
              · rw [if_neg c8] at h
                obtain ⟨n, hn⟩ := s_S_openTo_98 hd (by decide) (s_S_openTo_45 hd (by decide) k) h hQ
                exact ⟨n + 22, fun _ _ _ => And.intro (fun zz => absurd zz c4) (fun _ => And.intro (fun zz => absurd zz c5) (fun _ => And.intro (jx_in_ok c6) (And.intro (fun zz => absurd zz c7) (fun _ => And.intro (jx_in_ok c6) (And.intro (fun _ => hn _ _ _) (fun zz => absurd zz c8))))))⟩
    · rw [f_S_openTo_45] at h
      by_cases c4 : (σ.1 1 5) ≤ x6
      · rw [if_pos c4] at h
        cases h
        exact ⟨6, fun _ _ _ => And.intro (fun _ => And.intro hQ (And.intro rfl rfl)) (fun zz => absurd c4 zz)⟩
      · rw [if_neg c4] at h
        by_cases c5 : (x5 >>> (x6 &&& 31)) = 0
        · rw [if_pos c5] at h
          cases h
          exact ⟨10, fun _ _ _ => And.intro (fun zz => absurd zz c4) (fun _ => And.intro (fun _ => And.intro hQ (And.intro rfl rfl)) (fun zz => absurd c5 zz))⟩
        · rw [if_neg c5] at h
          cases c6 : jx_in x6 8 with
          | false => rw [c6, cond_false] at h; cases h
          | true =>
            rw [c6, cond_true] at h
            by_cases c7 : (σ.1 7 (x6).toNatClampNeg) < 0
            · rw [if_pos c7] at h
              obtain ⟨n, hn⟩ := s_S_openTo_98 hd (by decide) (s_S_openTo_45 hd (by decide) k) h hQ
              exact ⟨n + 13, fun _ _ _ => And.intro (fun zz => absurd zz c4) (fun _ => And.intro (fun zz => absurd zz c5) (fun _ => And.intro (jx_in_ok c6) (And.intro (fun _ => hn _ _ _) (fun zz => absurd c7 zz))))⟩
            · rw [if_neg c7] at h
              by_cases c8 : ((x4 >>> ((σ.1 7 (x6).toNatClampNeg) &&& 31)) &&& 1) = 0
              · rw [if_pos c8] at h
                obtain ⟨n, hn⟩ := s_S_openTo_98 hd (by decide) (s_S_openTo_45 hd (by decide) k) h hQ
                exact ⟨n + 30, fun _ _ _ => And.intro (fun zz => absurd zz c4) (fun _ => And.intro (fun zz => absurd zz c5) (fun _ => And.intro (jx_in_ok c6) (And.intro (fun zz => absurd zz c7) (fun _ => And.intro (jx_in_ok c6) (And.intro (fun zz => absurd c8 zz) (fun _ => hn _ _ _))))))⟩
              · rw [if_neg c8] at h
                obtain ⟨n, hn⟩ := s_S_openTo_98 hd (by decide) (s_S_openTo_45 hd (by decide) k) h hQ
                exact ⟨n + 22, fun _ _ _ => And.intro (fun zz => absurd zz c4) (fun _ => And.intro (fun zz => absurd zz c5) (fun _ => And.intro (jx_in_ok c6) (And.intro (fun zz => absurd zz c7) (fun _ => And.intro (jx_in_ok c6) (And.intro (fun _ => hn _ _ _) (fun zz => absurd zz c8))))))⟩
    · rw [f_S_openTo_45] at h
      by_cases c4 : (σ.1 1 5) ≤ x6
      · rw [if_pos c4] at h
        cases h
        exact ⟨6, fun _ _ _ => And.intro (fun _ => And.intro hQ (And.intro rfl rfl)) (fun zz => absurd c4 zz)⟩
      · rw [if_neg c4] at h
        by_cases c5 : (x5 >>> (x6 &&& 31)) = 0
        · rw [if_pos c5] at h
          cases h
          exact ⟨10, fun _ _ _ => And.intro (fun zz => absurd zz c4) (fun _ => And.intro (fun _ => And.intro hQ (And.intro rfl rfl)) (fun zz => absurd c5 zz))⟩
        · rw [if_neg c5] at h
          cases c6 : jx_in x6 8 with
          | false => rw [c6, cond_false] at h; cases h
          | true =>
            rw [c6, cond_true] at h
            by_cases c7 : (σ.1 7 (x6).toNatClampNeg) < 0
            · rw [if_pos c7] at h
              obtain ⟨n, hn⟩ := s_S_openTo_98 hd (by decide) (s_S_openTo_45 hd (by decide) k) h hQ
              exact ⟨n + 13, fun _ _ _ => And.intro (fun zz => absurd zz c4) (fun _ => And.intro (fun zz => absurd zz c5) (fun _ => And.intro (jx_in_ok c6) (And.intro (fun _ => hn _ _ _) (fun zz => absurd c7 zz))))⟩
            · rw [if_neg c7] at h
              by_cases c8 : ((x4 >>> ((σ.1 7 (x6).toNatClampNeg) &&& 31)) &&& 1) = 0
              · rw [if_pos c8] at h
                obtain ⟨n, hn⟩ := s_S_openTo_98 hd (by decide) (s_S_openTo_45 hd (by decide) k) h hQ
                exact ⟨n + 30, fun _ _ _ => And.intro (fun zz => absurd zz c4) (fun _ => And.intro (fun zz => absurd zz c5) (fun _ => And.intro (jx_in_ok c6) (And.intro (fun zz => absurd zz c7) (fun _ => And.intro (jx_in_ok c6) (And.intro (fun zz => absurd c8 zz) (fun _ => hn _ _ _))))))⟩
              · rw [if_neg c8] at h
                obtain ⟨n, hn⟩ := s_S_openTo_98 hd (by decide) (s_S_openTo_45 hd (by decide) k) h hQ
                exact ⟨n + 22, fun _ _ _ => And.intro (fun zz => absurd zz c4) (fun _ => And.intro (fun zz => absurd zz c5) (fun _ => And.intro (jx_in_ok c6) (And.intro (fun zz => absurd zz c7) (fun _ => And.intro (jx_in_ok c6) (And.intro (fun _ => hn _ _ _) (fun zz => absurd zz c8))))))⟩
    · rw [f_S_openTo_45] at h
      by_cases c4 : (σ.1 1 5) ≤ x6
      · rw [if_pos c4] at h
        cases h
        exact ⟨6, fun _ _ _ => And.intro (fun _ => And.intro hQ (And.intro rfl rfl)) (fun zz => absurd c4 zz)⟩
      · rw [if_neg c4] at h
        by_cases c5 : (x5 >>> (x6 &&& 31)) = 0
        · rw [if_pos c5] at h
          cases h
          exact ⟨10, fun _ _ _ => And.intro (fun zz => absurd zz c4) (fun _ => And.intro (fun _ => And.intro hQ (And.intro rfl rfl)) (fun zz => absurd c5 zz))⟩
        · rw [if_neg c5] at h
          cases c6 : jx_in x6 8 with
          | false => rw [c6, cond_false] at h; cases h
          | true =>
            rw [c6, cond_true] at h
            by_cases c7 : (σ.1 7 (x6).toNatClampNeg) < 0
            · rw [if_pos c7] at h
              obtain ⟨n, hn⟩ := s_S_openTo_98 hd (by decide) (s_S_openTo_45 hd (by decide) k) h hQ
              exact ⟨n + 13, fun _ _ _ => And.intro (fun zz => absurd zz c4) (fun _ => And.intro (fun zz => absurd zz c5) (fun _ => And.intro (jx_in_ok c6) (And.intro (fun _ => hn _ _ _) (fun zz => absurd c7 zz))))⟩
            · rw [if_neg c7] at h
              by_cases c8 : ((x4 >>> ((σ.1 7 (x6).toNatClampNeg) &&& 31)) &&& 1) = 0
              · rw [if_pos c8] at h
                obtain ⟨n, hn⟩ := s_S_openTo_98 hd (by decide) (s_S_openTo_45 hd (by decide) k) h hQ
                exact ⟨n + 30, fun _ _ _ => And.intro (fun zz => absurd zz c4) (fun _ => And.intro (fun zz => absurd zz c5) (fun _ => And.intro (jx_in_ok c6) (And.intro (fun zz => absurd zz c7) (fun _ => And.intro (jx_in_ok c6) (And.intro (fun zz => absurd c8 zz) (fun _ => hn _ _ _))))))⟩
              · rw [if_neg c8] at h
                obtain ⟨n, hn⟩ := s_S_openTo_98 hd (by decide) (s_S_openTo_45 hd (by decide) k) h hQ
                exact ⟨n + 22, fun _ _ _ => And.intro (fun zz => absurd zz c4) (fun _ => And.intro (fun zz => absurd zz c5) (fun _ => And.intro (jx_in_ok c6) (And.intro (fun zz => absurd zz c7) (fun _ => And.intro (jx_in_ok c6) (And.intro (fun _ => hn _ _ _) (fun zz => absurd zz c8))))))⟩
    · rw [f_S_openTo_45] at h
      by_cases c4 : (σ.1 1 5) ≤ x6
      · rw [if_pos c4] at h
        cases h
        exact ⟨6, fun _ _ _ => And.intro (fun _ => And.intro hQ (And.intro rfl rfl)) (fun zz => absurd c4 zz)⟩
      · rw [if_neg c4] at h
        by_cases c5 : (x5 >>> (x6 &&& 31)) = 0
        · rw [if_pos c5] at h
          cases h
          exact ⟨10, fun _ _ _ => And.intro (fun zz => absurd zz c4) (fun _ => And.intro (fun _ => And.intro hQ (And.intro rfl rfl)) (fun zz => absurd c5 zz))⟩
        · rw [if_neg c5] at h
          cases c6 : jx_in x6 8 with
          | false => rw [c6, cond_false] at h; cases h
          | true =>
            rw [c6, cond_true] at h
            by_cases c7 : (σ.1 7 (x6).toNatClampNeg) < 0
            · rw [if_pos c7] at h
              obtain ⟨n, hn⟩ := s_S_openTo_98 hd (by decide) (s_S_openTo_45 hd (by decide) k) h hQ
              exact ⟨n + 13, fun _ _ _ => And.intro (fun zz => absurd zz c4) (fun _ => And.intro (fun zz => absurd zz c5) (fun _ => And.intro (jx_in_ok c6) (And.intro (fun _ => hn _ _ _) (fun zz => absurd c7 zz))))⟩
            · rw [if_neg c7] at h
              by_cases c8 : ((x4 >>> ((σ.1 7 (x6).toNatClampNeg) &&& 31)) &&& 1) = 0
              · rw [if_pos c8] at h
                obtain ⟨n, hn⟩ := s_S_openTo_98 hd (by decide) (s_S_openTo_45 hd (by decide) k) h hQ
                exact ⟨n + 30, fun _ _ _ => And.intro (fun zz => absurd zz c4) (fun _ => And.intro (fun zz => absurd zz c5) (fun _ => And.intro (jx_in_ok c6) (And.intro (fun zz => absurd zz c7) (fun _ => And.intro (jx_in_ok c6) (And.intro (fun zz => absurd c8 zz) (fun _ => hn _ _ _))))))⟩
              · rw [if_neg c8] at h
                obtain ⟨n, hn⟩ := s_S_openTo_98 hd (by decide) (s_S_openTo_45 hd (by decide) k) h hQ
                exact ⟨n + 22, fun _ _ _ => And.intro (fun zz => absurd zz c4) (fun _ => And.intro (fun zz => absurd zz c5) (fun _ => And.intro (jx_in_ok c6) (And.intro (fun zz => absurd zz c7) (fun _ => And.intro (jx_in_ok c6) (And.intro (fun _ => hn _ _ _) (fun zz => absurd zz c8))))))⟩
    · rw [f_S_openTo_45] at h
      by_cases c4 : (σ.1 1 5) ≤ x6
      · rw [if_pos c4] at h
        cases h
        exact ⟨6, fun _ _ _ => And.intro (fun _ => And.intro hQ (And.intro rfl rfl)) (fun zz => absurd c4 zz)⟩
      · rw [if_neg c4] at h
        by_cases c5 : (x5 >>> (x6 &&& 31)) = 0
        · rw [if_pos c5] at h
          cases h
          exact ⟨10, fun _ _ _ => And.intro (fun zz => absurd zz c4) (fun _ => And.intro (fun _ => And.intro hQ (And.intro rfl rfl)) (fun zz => absurd c5 zz))⟩
        · rw [if_neg c5] at h
          cases c6 : jx_in x6 8 with
          | false => rw [c6, cond_false] at h; cases h
          | true =>
            rw [c6, cond_true] at h
            by_cases c7 : (σ.1 7 (x6).toNatClampNeg) < 0
            · rw [if_pos c7] at h
              obtain ⟨n, hn⟩ := s_S_openTo_98 hd (by decide) (s_S_openTo_45 hd (by decide) k) h hQ
              exact ⟨n + 13, fun _ _ _ => And.intro (fun zz => absurd zz c4) (fun _ => And.intro (fun zz => absurd zz c5) (fun _ => And.intro (jx_in_ok c6) (And.intro (fun _ => hn _ _ _) (fun zz => absurd c7 zz))))⟩
            · rw [if_neg c7] at h
              by_cases c8 : ((x4 >>> ((σ.1 7 (x6).toNatClampNeg) &&& 31)) &&& 1) = 0
              · rw [if_pos c8] at h
                obtain ⟨n, hn⟩ := s_S_openTo_98 hd (by decide) (s_S_openTo_45 hd (by decide) k) h hQ
                exact ⟨n + 30, fun _ _ _ => And.intro (fun zz => absurd zz c4) (fun _ => And.intro (fun zz => absurd zz c5) (fun _ => And.intro (jx_in_ok c6) (And.intro (fun zz => absurd zz c7) (fun _ => And.intro (jx_in_ok c6) (And.intro (fun zz => absurd c8 zz) (fun _ => hn _ _ _))))))⟩
              · rw [if_neg c8] at h
                obtain ⟨n, hn⟩ := s_S_openTo_98 hd (by decide) (s_S_openTo_45 hd (by decide) k) h hQ
                exact ⟨n + 22, fun _ _ _ => And.intro (fun zz => absurd zz c4) (fun _ => And.intro (fun zz => absurd zz c5) (fun _ => And.intro (jx_in_ok c6) (And.intro (fun zz => absurd zz c7) (fun _ => And.intro (jx_in_ok c6) (And.intro (fun _ => hn _ _ _) (fun zz => absurd zz c8))))))⟩
def f_S_openTo (N : Nat) (p1 : Nat) (x2 : Int32) (x3 : Int32) (σ : jw_M) : Option (Int32 × jw_M) := if (σ.1 p1 0) < 17 then bif jx_in x2 6 then bif jx_in (σ.1 p1 0) 17 then f_S_openTo_45 N p1 N (σ.1 (p1 + 2) (x2).toNatClampNeg) (((σ.1 11 ((σ.1 p1 0)).toNatClampNeg) &&& ((σ.1 (p1 + 2) (x2).toNatClampNeg) ^^^ (-1))) &&& (x3 ^^^ (-1))) 0 σ else none else none else some (0, σ)
set_option maxRecDepth 20000 in
theorem s_S_openTo {N d : Nat} {p1 : Nat} {x2 : Int32} {x3 : Int32} (hd : 1 ≤ d) (hp : p1 = 102 ∨ p1 = 106 ∨ p1 = 110 ∨ p1 = 27 ∨ p1 = 75 ∨ p1 = 94 ∨ p1 = 98) {σ : jw_M} {z : (Int32 × jw_M)} {Q : jw_Q} (h : f_S_openTo N p1 x2 x3 σ = some z) (hQ : Q (some (.int z.1)) (jx_ShC, z.2)) : jw_C jp_kd jp_ys d 94 [.ref 1, .ref p1, .int x2, .int x3] (jx_ShC, σ) Q := by
  obtain ⟨d, rfl⟩ : ∃ e, d = e + 1 := ⟨d - 1, by omega⟩
  replace hd : 0 ≤ d := by omega
  refine jx_C rfl rfl ?_
  rcases hp with rfl | rfl | rfl | rfl | rfl | rfl | rfl
  · unfold f_S_openTo at h
    by_cases c1 : (σ.1 102 0) < 17
    · rw [if_pos c1] at h
      cases c2 : jx_in x2 6 with
      | false => rw [c2, cond_false] at h; cases h
      | true =>
        rw [c2, cond_true] at h
        cases c3 : jx_in (σ.1 102 0) 17 with
        | false => rw [c3, cond_false] at h; cases h
        | true =>
          rw [c3, cond_true] at h
          obtain ⟨n, hn⟩ := s_S_openTo_45 hd (by decide) N h hQ
          exact ⟨n + 27, And.intro (fun _ => And.intro (jx_in_ok c2) (And.intro (jx_in_ok c3) (hn _ _ _))) (fun zz => absurd c1 zz)⟩
    · rw [if_neg c1] at h
      cases h
      exact ⟨8, And.intro (fun zz => absurd zz c1) (fun _ => And.intro hQ (And.intro rfl rfl))⟩
  · unfold f_S_openTo at h
    by_cases c1 : (σ.1 106 0) < 17
    · rw [if_pos c1] at h
      cases c2 : jx_in x2 6 with
      | false => rw [c2, cond_false] at h; cases h
      | true =>
        rw [c2, cond_true] at h
        cases c3 : jx_in (σ.1 106 0) 17 with
        | false => rw [c3, cond_false] at h; cases h
        | true =>
          rw [c3, cond_true] at h
          obtain ⟨n, hn⟩ := s_S_openTo_45 hd (by decide) N h hQ
          exact ⟨n + 27, And.intro (fun _ => And.intro (jx_in_ok c2) (And.intro (jx_in_ok c3) (hn _ _ _))) (fun zz => absurd c1 zz)⟩
    · rw [if_neg c1] at h
      cases h
      exact ⟨8, And.intro (fun zz => absurd zz c1) (fun _ => And.intro hQ (And.intro rfl rfl))⟩
  · unfold f_S_openTo at h
    by_cases c1 : (σ.1 110 0) < 17
    · rw [if_pos c1] at h
      cases c2 : jx_in x2 6 with
      | false => rw [c2, cond_false] at h; cases h
      | true =>
        rw [c2, cond_true] at h
        cases c3 : jx_in (σ.1 110 0) 17 with
        | false => rw [c3, cond_false] at h; cases h
        | true =>
          rw [c3, cond_true] at h
          obtain ⟨n, hn⟩ := s_S_openTo_45 hd (by decide) N h hQ
          exact ⟨n + 27, And.intro (fun _ => And.intro (jx_in_ok c2) (And.intro (jx_in_ok c3) (hn _ _ _))) (fun zz => absurd c1 zz)⟩
    · rw [if_neg c1] at h
      cases h
      exact ⟨8, And.intro (fun zz => absurd zz c1) (fun _ => And.intro hQ (And.intro rfl rfl))⟩
  · unfold f_S_openTo at h
    by_cases c1 : (σ.1 27 0) < 17
    · rw [if_pos c1] at h
      cases c2 : jx_in x2 6 with
      | false => rw [c2, cond_false] at h; cases h
      | true =>
        rw [c2, cond_true] at h
        cases c3 : jx_in (σ.1 27 0) 17 with
        | false => rw [c3, cond_false] at h; cases h
        | true =>
          rw [c3, cond_true] at h
          obtain ⟨n, hn⟩ := s_S_openTo_45 hd (by decide) N h hQ
          exact ⟨n + 27, And.intro (fun _ => And.intro (jx_in_ok c2) (And.intro (jx_in_ok c3) (hn _ _ _))) (fun zz => absurd c1 zz)⟩
    · rw [if_neg c1] at h
      cases h
      exact ⟨8, And.intro (fun zz => absurd zz c1) (fun _ => And.intro hQ (And.intro rfl rfl))⟩
  · unfold f_S_openTo at h
    by_cases c1 : (σ.1 75 0) < 17
    · rw [if_pos c1] at h
      cases c2 : jx_in x2 6 with
      | false => rw [c2, cond_false] at h; cases h
      | true =>
        rw [c2, cond_true] at h
        cases c3 : jx_in (σ.1 75 0) 17 with
        | false => rw [c3, cond_false] at h; cases h
        | true =>
          rw [c3, cond_true] at h
          obtain ⟨n, hn⟩ := s_S_openTo_45 hd (by decide) N h hQ
          exact ⟨n + 27, And.intro (fun _ => And.intro (jx_in_ok c2) (And.intro (jx_in_ok c3) (hn _ _ _))) (fun zz => absurd c1 zz)⟩
    · rw [if_neg c1] at h
      cases h
      exact ⟨8, And.intro (fun zz => absurd zz c1) (fun _ => And.intro hQ (And.intro rfl rfl))⟩
  · unfold f_S_openTo at h
    by_cases c1 : (σ.1 94 0) < 17
    · rw [if_pos c1] at h
      cases c2 : jx_in x2 6 with
      | false => rw [c2, cond_false] at h; cases h
      | true =>
        rw [c2, cond_true] at h
        cases c3 : jx_in (σ.1 94 0) 17 with
        | false => rw [c3, cond_false] at h; cases h
        | true =>
          rw [c3, cond_true] at h
          obtain ⟨n, hn⟩ := s_S_openTo_45 hd (by decide) N h hQ
          exact ⟨n + 27, And.intro (fun _ => And.intro (jx_in_ok c2) (And.intro (jx_in_ok c3) (hn _ _ _))) (fun zz => absurd c1 zz)⟩
    · rw [if_neg c1] at h
      cases h
      exact ⟨8, And.intro (fun zz => absurd zz c1) (fun _ => And.intro hQ (And.intro rfl rfl))⟩
  · unfold f_S_openTo at h
    by_cases c1 : (σ.1 98 0) < 17
    · rw [if_pos c1] at h
      cases c2 : jx_in x2 6 with
      | false => rw [c2, cond_false] at h; cases h
      | true =>
        rw [c2, cond_true] at h
        cases c3 : jx_in (σ.1 98 0) 17 with
        | false => rw [c3, cond_false] at h; cases h
        | true =>
          rw [c3, cond_true] at h
          obtain ⟨n, hn⟩ := s_S_openTo_45 hd (by decide) N h hQ
          exact ⟨n + 27, And.intro (fun _ => And.intro (jx_in_ok c2) (And.intro (jx_in_ok c3) (hn _ _ _))) (fun zz => absurd c1 zz)⟩
    · rw [if_neg c1] at h
      cases h
      exact ⟨8, And.intro (fun zz => absurd zz c1) (fun _ => And.intro hQ (And.intro rfl rfl))⟩
