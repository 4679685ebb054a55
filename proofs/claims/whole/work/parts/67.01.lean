set_option maxRecDepth 20000 in
theorem s_H_shadowOn {N d : Nat} {x1 : Int32} (hd : 1 ≤ d) {σ : jw_M} {z : (Int32 × jw_M)} {Q : jw_Q} (h : f_H_shadowOn N x1 σ = some z) (hQ : Q (some (.int z.1)) (jx_ShC, z.2)) : jw_C jp_kd jp_ys d 23 [.ref 121, .int x1] (jx_ShC, σ) Q := by
  obtain ⟨d, rfl⟩ : ∃ e, d = e + 1 := ⟨d - 1, by omega⟩
  replace hd : 0 ≤ d := by omega
  refine jx_C rfl rfl ?_
  unfold f_H_shadowOn at h
  cases c1 : jx_in x1 4 with
  | false => rw [c1, cond_false] at h; cases h
  | true =>
    rw [c1, cond_true] at h
    by_cases c2 : (σ.1 129 (x1).toNatClampNeg) = 0
    · rw [if_pos c2] at h
      suffices hh : ∃ n, jx_W jx_ShC d (some .int) jc_23 Q n 9 [some (.ref 121), some (.int x1)] [] σ by
        obtain ⟨n, hn⟩ := hh
        exact ⟨n + 5, And.intro (jx_in_ok c1) (And.intro (fun zz => absurd c2 zz) (fun _ => hn))⟩
      cases h
      exact ⟨6, And.intro (jx_in_ok c1) (And.intro hQ (And.intro rfl rfl))⟩
    · rw [if_neg c2] at h
      suffices hh : ∃ n, jx_W jx_ShC d (some .int) jc_23 Q n 18 [some (.ref 121), some (.int x1)] [] σ by
        obtain ⟨n, hn⟩ := hh
        exact ⟨n + 5, And.intro (jx_in_ok c1) (And.intro (fun _ => hn) (fun zz => absurd zz c2))⟩
      cases h
      exact ⟨2, And.intro hQ (And.intro rfl rfl)⟩
set_option maxRecDepth 20000 in
theorem s_H_clearTrace {N d : Nat} (hd : 1 ≤ d) {σ : jw_M} {z : jw_M} {Q : jw_Q} (h : f_H_clearTrace N  σ = some z) (hQ : Q none (jx_ShC, z)) : jw_C jp_kd jp_ys d 24 [.ref 121] (jx_ShC, σ) Q := by
  obtain ⟨d, rfl⟩ : ∃ e, d = e + 1 := ⟨d - 1, by omega⟩
  replace hd : 0 ≤ d := by omega
  refine jx_C rfl rfl ?_
  unfold f_H_clearTrace at h
  cases h
  exact ⟨7, And.intro (Or.inl rfl) (And.intro hQ (And.intro rfl rfl))⟩
set_option maxRecDepth 20000 in
theorem s_H_actOf {N d : Nat} {p1 : Nat} {x2 : Int32} {x3 : Int32} (hd : 8 ≤ d) (hp : p1 = 32 ∨ p1 = 33 ∨ p1 = 34 ∨ p1 = 35 ∨ p1 = 36 ∨ p1 = 37) {σ : jw_M} {z : (Int32 × jw_M)} {Q : jw_Q} (h : f_H_actOf N p1 x2 x3 σ = some z) (hQ : Q (some (.int z.1)) (jx_ShC, z.2)) : jw_C jp_kd jp_ys d 26 [.ref 121, .ref p1, .int x2, .int x3] (jx_ShC, σ) Q := by
  obtain ⟨d, rfl⟩ : ∃ e, d = e + 1 := ⟨d - 1, by omega⟩
  replace hd : 7 ≤ d := by omega
  refine jx_C rfl rfl ?_
  rcases hp with rfl | rfl | rfl | rfl | rfl | rfl
  · unfold f_H_actOf at h
    by_cases c11 : x2 = 0
    · rw [if_pos c11] at h
      suffices hh : ∃ n, jx_W jx_ShC d (some .int) jc_26 Q n 28 [some (.ref 121), some (.ref 32), some (.int x2), some (.int x3)] [] σ by
        obtain ⟨n, hn⟩ := hh
        exact ⟨n + 2, And.intro (fun _ => hn) (fun zz => absurd c11 zz)⟩
      obtain ⟨z1, h2, h⟩ := Option.bind_eq_some_iff.mp h
      rw [if_pos rfl] at h2
      cases h
      exact ⟨5, s_Z_Shade_lies (by omega) (by decide) h2 (And.intro hQ (And.intro rfl rfl))⟩
    · rw [if_neg c11] at h
      by_cases c10 : x2 = 1
      · rw [if_pos c10] at h
        suffices hh : ∃ n, jx_W jx_ShC d (some .int) jc_26 Q n 35 [some (.ref 121), some (.ref 32), some (.int x2), some (.int x3)] [] σ by
          obtain ⟨n, hn⟩ := hh
          exact ⟨n + 2, And.intro (fun zz => absurd zz c11) (fun _ => And.intro (fun _ => hn) (fun zz => absurd c10 zz))⟩
        obtain ⟨z3, h4, h⟩ := Option.bind_eq_some_iff.mp h
        rw [if_pos rfl] at h4
        cases h
        exact ⟨5, s_Z_Shade_turns (by omega) (by decide) h4 (And.intro hQ (And.intro rfl rfl))⟩
      · rw [if_neg c10] at h
        by_cases c9 : x2 = 2
        · rw [if_pos c9] at h
          suffices hh : ∃ n, jx_W jx_ShC d (some .int) jc_26 Q n 42 [some (.ref 121), some (.ref 32), some (.int x2), some (.int x3)] [] σ by
            obtain ⟨n, hn⟩ := hh
            exact ⟨n + 2, And.intro (fun zz => absurd zz c11) (fun _ => And.intro (fun zz => absurd zz c10) (fun _ => And.intro (fun _ => hn) (fun zz => absurd c9 zz)))⟩
          obtain ⟨z5, h6, h⟩ := Option.bind_eq_some_iff.mp h
          rw [if_pos rfl] at h6
          cases h
          exact ⟨5, s_Z_Shade_folds (by omega) (by decide) h6 (And.intro hQ (And.intro rfl rfl))⟩
        · rw [if_neg c9] at h
          obtain ⟨z7, h8, h⟩ := Option.bind_eq_some_iff.mp h
          rw [if_pos rfl] at h8
          cases h
          exact ⟨7, And.intro (fun zz => absurd zz c11) (fun _ => And.intro (fun zz => absurd zz c10) (fun _ => And.intro (fun zz => absurd zz c9) (fun _ => s_Z_Shade_asks (by omega) (by decide) h8 (And.intro hQ (And.intro rfl rfl)))))⟩
  · unfold f_H_actOf at h
    by_cases c11 : x2 = 0
    · rw [if_pos c11] at h
      suffices hh : ∃ n, jx_W jx_ShC d (some .int) jc_26 Q n 28 [some (.ref 121), some (.ref 33), some (.int x2), some (.int x3)] [] σ by
        obtain ⟨n, hn⟩ := hh
        exact ⟨n + 2, And.intro (fun _ => hn) (fun zz => absurd c11 zz)⟩
      obtain ⟨z1, h2, h⟩ := Option.bind_eq_some_iff.mp h
      rw [if_neg (by decide), if_pos rfl] at h2
      cases h
      exact ⟨5, s_Z_Joined_lies (by omega) h2 (And.intro hQ (And.intro rfl rfl))⟩
    · rw [if_neg c11] at h
      by_cases c10 : x2 = 1
      · rw [if_pos c10] at h
        suffices hh : ∃ n, jx_W jx_ShC d (some .int) jc_26 Q n 35 [some (.ref 121), some (.ref 33), some (.int x2), some (.int x3)] [] σ by
          obtain ⟨n, hn⟩ := hh
          exact ⟨n + 2, And.intro (fun zz => absurd zz c11) (fun _ => And.intro (fun _ => hn) (fun zz => absurd c10 zz))⟩
        obtain ⟨z3, h4, h⟩ := Option.bind_eq_some_iff.mp h
        rw [if_neg (by decide), if_pos rfl] at h4
        cases h
        exact ⟨5, s_Z_Shade_turns (by omega) (by decide) h4 (And.intro hQ (And.intro rfl rfl))⟩
      · rw [if_neg c10] at h
        by_cases c9 : x2 = 2
        · rw [if_pos c9] at h
          suffices hh : ∃ n, jx_W jx_ShC d (some .int) jc_26 Q n 42 [some (.ref 121), some (.ref 33), some (.int x2), some (.int x3)] [] σ by
            obtain ⟨n, hn⟩ := hh
            exact ⟨n + 2, And.intro (fun zz => absurd zz c11) (fun _ => And.intro (fun zz => absurd zz c10) (fun _ => And.intro (fun _ => hn) (fun zz => absurd c9 zz)))⟩
          obtain ⟨z5, h6, h⟩ := Option.bind_eq_some_iff.mp h
          rw [if_neg (by decide), if_pos rfl] at h6
          cases h
          exact ⟨5, s_Z_Shade_folds (by omega) (by decide) h6 (And.intro hQ (And.intro rfl rfl))⟩
        · rw [if_neg c9] at h
          obtain ⟨z7, h8, h⟩ := Option.bind_eq_some_iff.mp h
          rw [if_neg (by decide), if_pos rfl] at h8
          cases h
          exact ⟨7, And.intro (fun zz => absurd zz c11) (fun _ => And.intro (fun zz => absurd zz c10) (fun _ => And.intro (fun zz => absurd zz c9) (fun _ => s_Z_Shade_asks (by omega) (by decide) h8 (And.intro hQ (And.intro rfl rfl)))))⟩
  · unfold f_H_actOf at h
    by_cases c11 : x2 = 0
    · rw [if_pos c11] at h
      suffices hh : ∃ n, jx_W jx_ShC d (some .int) jc_26 Q n 28 [some (.ref 121), some (.ref 34), some (.int x2), some (.int x3)] [] σ by
        obtain ⟨n, hn⟩ := hh
        exact ⟨n + 2, And.intro (fun _ => hn) (fun zz => absurd c11 zz)⟩
      obtain ⟨z1, h2, h⟩ := Option.bind_eq_some_iff.mp h
      rw [if_neg (by decide), if_neg (by decide), if_pos rfl] at h2
      cases h
      exact ⟨5, s_Z_Shade_lies (by omega) (by decide) h2 (And.intro hQ (And.intro rfl rfl))⟩
    · rw [if_neg c11] at h
      by_cases c10 : x2 = 1
      · rw [if_pos c10] at h
        suffices hh : ∃ n, jx_W jx_ShC d (some .int) jc_26 Q n 35 [some (.ref 121), some (.ref 34), some (.int x2), some (.int x3)] [] σ by
          obtain ⟨n, hn⟩ := hh
          exact ⟨n + 2, And.intro (fun zz => absurd zz c11) (fun _ => And.intro (fun _ => hn) (fun zz => absurd c10 zz))⟩
        obtain ⟨z3, h4, h⟩ := Option.bind_eq_some_iff.mp h
        rw [if_neg (by decide), if_neg (by decide), if_pos rfl] at h4
        cases h
        exact ⟨5, s_Z_Gifted_turns (by omega) (by decide) h4 (And.intro hQ (And.intro rfl rfl))⟩
      · rw [if_neg c10] at h
        by_cases c9 : x2 = 2
        · rw [if_pos c9] at h
          suffices hh : ∃ n, jx_W jx_ShC d (some .int) jc_26 Q n 42 [some (.ref 121), some (.ref 34), some (.int x2), some (.int x3)] [] σ by
            obtain ⟨n, hn⟩ := hh
            exact ⟨n + 2, And.intro (fun zz => absurd zz c11) (fun _ => And.intro (fun zz => absurd zz c10) (fun _ => And.intro (fun _ => hn) (fun zz => absurd c9 zz)))⟩
          obtain ⟨z5, h6, h⟩ := Option.bind_eq_some_iff.mp h
          rw [if_neg (by decide), if_neg (by decide), if_pos rfl] at h6
          cases h
          exact ⟨5, s_Z_Shade_folds (by omega) (by decide) h6 (And.intro hQ (And.intro rfl rfl))⟩
        · rw [if_neg c9] at h
          obtain ⟨z7, h8, h⟩ := Option.bind_eq_some_iff.mp h
          rw [if_neg (by decide), if_neg (by decide), if_pos rfl] at h8
          cases h
          exact ⟨7, And.intro (fun zz => absurd zz c11) (fun _ => And.intro (fun zz => absurd zz c10) (fun _ => And.intro (fun zz => absurd zz c9) (fun _ => s_Z_Shade_asks (by omega) (by decide) h8 (And.intro hQ (And.intro rfl rfl)))))⟩
  · unfold f_H_actOf at h
    by_cases c11 : x2 = 0
    · rw [if_pos c11] at h
      suffices hh : ∃ n, jx_W jx_ShC d (some .int) jc_26 Q n 28 [some (.ref 121), some (.ref 35), some (.int x2), some (.int x3)] [] σ by
        obtain ⟨n, hn⟩ := hh
        exact ⟨n + 2, And.intro (fun _ => hn) (fun zz => absurd c11 zz)⟩
      obtain ⟨z1, h2, h⟩ := Option.bind_eq_some_iff.mp h
      rw [if_neg (by decide), if_neg (by decide), if_neg (by decide), if_pos rfl] at h2
      cases h
      exact ⟨5, s_Z_Coloured_lies (by omega) h2 (And.intro hQ (And.intro rfl rfl))⟩
    · rw [if_neg c11] at h
      by_cases c10 : x2 = 1
      · rw [if_pos c10] at h
        suffices hh : ∃ n, jx_W jx_ShC d (some .int) jc_26 Q n 35 [some (.ref 121), some (.ref 35), some (.int x2), some (.int x3)] [] σ by
          obtain ⟨n, hn⟩ := hh
          exact ⟨n + 2, And.intro (fun zz => absurd zz c11) (fun _ => And.intro (fun _ => hn) (fun zz => absurd c10 zz))⟩
        obtain ⟨z3, h4, h⟩ := Option.bind_eq_some_iff.mp h
        rw [if_neg (by decide), if_neg (by decide), if_neg (by decide), if_pos rfl] at h4
        cases h
        exact ⟨5, s_Z_Gifted_turns (by omega) (by decide) h4 (And.intro hQ (And.intro rfl rfl))⟩
      · rw [if_neg c10] at h
        by_cases c9 : x2 = 2
        · rw [if_pos c9] at h
          suffices hh : ∃ n, jx_W jx_ShC d (some .int) jc_26 Q n 42 [some (.ref 121), some (.ref 35), some (.int x2), some (.int x3)] [] σ by
            obtain ⟨n, hn⟩ := hh
            exact ⟨n + 2, And.intro (fun zz => absurd zz c11) (fun _ => And.intro (fun zz => absurd zz c10) (fun _ => And.intro (fun _ => hn) (fun zz => absurd c9 zz)))⟩
          obtain ⟨z5, h6, h⟩ := Option.bind_eq_some_iff.mp h
          rw [if_neg (by decide), if_neg (by decide), if_neg (by decide), if_pos rfl] at h6
          cases h
          exact ⟨5, s_Z_Shade_folds (by omega) (by decide) h6 (And.intro hQ (And.intro rfl rfl))⟩
        · rw [if_neg c9] at h
          obtain ⟨z7, h8, h⟩ := Option.bind_eq_some_iff.mp h
          rw [if_neg (by decide), if_neg (by decide), if_neg (by decide), if_pos rfl] at h8
          cases h
          exact ⟨7, And.intro (fun zz => absurd zz c11) (fun _ => And.intro (fun zz => absurd zz c10) (fun _ => And.intro (fun zz => absurd zz c9) (fun _ => s_Z_Coloured_asks (by omega) h8 (And.intro hQ (And.intro rfl rfl)))))⟩
  · unfold f_H_actOf at h
    by_cases c11 : x2 = 0
    · rw [if_pos c11] at h
      suffices hh : ∃ n, jx_W jx_ShC d (some .int) jc_26 Q n 28 [some (.ref 121), some (.ref 36), some (.int x2), some (.int x3)] [] σ by
        obtain ⟨n, hn⟩ := hh
        exact ⟨n + 2, And.intro (fun _ => hn) (fun zz => absurd c11 zz)⟩
      obtain ⟨z1, h2, h⟩ := Option.bind_eq_some_iff.mp h
      rw [if_neg (by decide), if_neg (by decide), if_neg (by decide), if_neg (by decide), if_pos rfl] at h2
      cases h
      exact ⟨5, s_Z_Shade_lies (by omega) (by decide) h2 (And.intro hQ (And.intro rfl rfl))⟩
    · rw [if_neg c11] at h
      by_cases c10 : x2 = 1
      · rw [if_pos c10] at h
        suffices hh : ∃ n, jx_W jx_ShC d (some .int) jc_26 Q n 35 [some (.ref 121), some (.ref 36), some (.int x2), some (.int x3)] [] σ by
          obtain ⟨n, hn⟩ := hh
          exact ⟨n + 2, And.intro (fun zz => absurd zz c11) (fun _ => And.intro (fun _ => hn) (fun zz => absurd c10 zz))⟩
        obtain ⟨z3, h4, h⟩ := Option.bind_eq_some_iff.mp h
        rw [if_neg (by decide), if_neg (by decide), if_neg (by decide), if_neg (by decide), if_pos rfl] at h4
        cases h
        exact ⟨5, s_Z_Shade_turns (by omega) (by decide) h4 (And.intro hQ (And.intro rfl rfl))⟩
      · rw [if_neg c10] at h
        by_cases c9 : x2 = 2
        · rw [if_pos c9] at h
          suffices hh : ∃ n, jx_W jx_ShC d (some .int) jc_26 Q n 42 [some (.ref 121), some (.ref 36), some (.int x2), some (.int x3)] [] σ by
            obtain ⟨n, hn⟩ := hh
            exact ⟨n + 2, And.intro (fun zz => absurd zz c11) (fun _ => And.intro (fun zz => absurd zz c10) (fun _ => And.intro (fun _ => hn) (fun zz => absurd c9 zz)))⟩
          obtain ⟨z5, h6, h⟩ := Option.bind_eq_some_iff.mp h
          rw [if_neg (by decide), if_neg (by decide), if_neg (by decide), if_neg (by decide), if_pos rfl] at h6
          cases h
          exact ⟨5, s_Z_Slow_folds (by omega) (by decide) h6 (And.intro hQ (And.intro rfl rfl))⟩
        · rw [if_neg c9] at h
          obtain ⟨z7, h8, h⟩ := Option.bind_eq_some_iff.mp h
          rw [if_neg (by decide), if_neg (by decide), if_neg (by decide), if_neg (by decide), if_pos rfl] at h8
          cases h
          exact ⟨7, And.intro (fun zz => absurd zz c11) (fun _ => And.intro (fun zz => absurd zz c10) (fun _ => And.intro (fun zz => absurd zz c9) (fun _ => s_Z_Shade_asks (by omega) (by decide) h8 (And.intro hQ (And.intro rfl rfl)))))⟩
  · unfold f_H_actOf at h
    by_cases c11 : x2 = 0
    · rw [if_pos c11] at h
      suffices hh : ∃ n, jx_W jx_ShC d (some .int) jc_26 Q n 28 [some (.ref 121), some (.ref 37), some (.int x2), some (.int x3)] [] σ by
        obtain ⟨n, hn⟩ := hh
        exact ⟨n + 2, And.intro (fun _ => hn) (fun zz => absurd c11 zz)⟩
      obtain ⟨z1, h2, h⟩ := Option.bind_eq_some_iff.mp h
      rw [if_neg (by decide), if_neg (by decide), if_neg (by decide), if_neg (by decide), if_neg (by decide), if_pos rfl] at h2
      cases h
      exact ⟨5, s_Z_Shade_lies (by omega) (by decide) h2 (And.intro hQ (And.intro rfl rfl))⟩
    · rw [if_neg c11] at h
      by_cases c10 : x2 = 1
      · rw [if_pos c10] at h
        suffices hh : ∃ n, jx_W jx_ShC d (some .int) jc_26 Q n 35 [some (.ref 121), some (.ref 37), some (.int x2), some (.int x3)] [] σ by
          obtain ⟨n, hn⟩ := hh
          exact ⟨n + 2, And.intro (fun zz => absurd zz c11) (fun _ => And.intro (fun _ => hn) (fun zz => absurd c10 zz))⟩
        obtain ⟨z3, h4, h⟩ := Option.bind_eq_some_iff.mp h
        rw [if_neg (by decide), if_neg (by decide), if_neg (by decide), if_neg (by decide), if_neg (by decide), if_pos rfl] at h4
        cases h
        exact ⟨5, s_Z_Borrowed_turns (by omega) h4 (And.intro hQ (And.intro rfl rfl))⟩
      · rw [if_neg c10] at h
        by_cases c9 : x2 = 2
        · rw [if_pos c9] at h
          suffices hh : ∃ n, jx_W jx_ShC d (some .int) jc_26 Q n 42 [some (.ref 121), some (.ref 37), some (.int x2), some (.int x3)] [] σ by
            obtain ⟨n, hn⟩ := hh
            exact ⟨n + 2, And.intro (fun zz => absurd zz c11) (fun _ => And.intro (fun zz => absurd zz c10) (fun _ => And.intro (fun _ => hn) (fun zz => absurd c9 zz)))⟩
          obtain ⟨z5, h6, h⟩ := Option.bind_eq_some_iff.mp h
          rw [if_neg (by decide), if_neg (by decide), if_neg (by decide), if_neg (by decide), if_neg (by decide), if_pos rfl] at h6
          cases h
          exact ⟨5, s_Z_Borrowed_folds (by omega) h6 (And.intro hQ (And.intro rfl rfl))⟩
        · rw [if_neg c9] at h
          obtain ⟨z7, h8, h⟩ := Option.bind_eq_some_iff.mp h
          rw [if_neg (by decide), if_neg (by decide), if_neg (by decide), if_neg (by decide), if_neg (by decide), if_pos rfl] at h8
          cases h
          exact ⟨7, And.intro (fun zz => absurd zz c11) (fun _ => And.intro (fun zz => absurd zz c10) (fun _ => And.intro (fun zz => absurd zz c9) (fun _ => s_Z_Shade_asks (by omega) (by decide) h8 (And.intro hQ (And.intro rfl rfl)))))⟩
set_option maxRecDepth 20000 in
theorem s_H_perform {N d : Nat} {p1 : Nat} {x2 : Int32} {x3 : Int32} {x4 : Int32} {x5 : Int32} (hd : 9 ≤ d) (hp : p1 = 32 ∨ p1 = 33 ∨ p1 = 34 ∨ p1 = 35 ∨ p1 = 36 ∨ p1 = 37) {σ : jw_M} {z : (Int32 × jw_M)} {Q : jw_Q} (h : f_H_perform N p1 x2 x3 x4 x5 σ = some z) (hQ : Q (some (.int z.1)) (jx_ShC, z.2)) : jw_C jp_kd jp_ys d 25 [.ref 121, .ref p1, .int x2, .int x3, .int x4, .int x5] (jx_ShC, σ) Q := by
  obtain ⟨d, rfl⟩ : ∃ e, d = e + 1 := ⟨d - 1, by omega⟩
  replace hd : 8 ≤ d := by omega
  refine jx_C rfl rfl ?_
  rcases hp with rfl | rfl | rfl | rfl | rfl | rfl
  · unfold f_H_perform at h
    obtain ⟨z1, h2, h⟩ := Option.bind_eq_some_iff.mp h
    by_cases c3 : (z1.2.1 121 8) = 0
    · rw [if_pos c3] at h
      suffices hh : ∃ n, jx_W jx_ShC d (some .int) jc_25 Q n 33 [some (.ref 121), some (.ref 32), some (.int x2), some (.int x3), some (.int x4), some (.int x5), some (.int z1.1)] [] z1.2 by
        obtain ⟨n, hn⟩ := hh
        exact ⟨n + 15, s_H_actOf (by omega) (by decide) h2 (And.intro (fun _ => hn) (fun zz => absurd c3 zz))⟩
      cases h
      exact ⟨2, And.intro hQ (And.intro rfl rfl)⟩
    · rw [if_neg c3] at h
      suffices hh : ∃ n, jx_W jx_ShC d (some .int) jc_25 Q n 28 [some (.ref 121), some (.ref 32), some (.int x2), some (.int x3), some (.int x4), some (.int x5), some (.int z1.1)] [] z1.2 by
        obtain ⟨n, hn⟩ := hh
        exact ⟨n + 15, s_H_actOf (by omega) (by decide) h2 (And.intro (fun zz => absurd zz c3) (fun _ => hn))⟩
      cases h
      exact ⟨3, And.intro hQ (And.intro rfl rfl)⟩
  · unfold f_H_perform at h
    obtain ⟨z1, h2, h⟩ := Option.bind_eq_some_iff.mp h
    by_cases c3 : (z1.2.1 121 8) = 0
    · rw [if_pos c3] at h
      suffices hh : ∃ n, jx_W jx_ShC d (some .int) jc_25 Q n 33 [some (.ref 121), some (.ref 33), some (.int x2), some (.int x3), some (.int x4), some (.int x5), some (.int z1.1)] [] z1.2 by
        obtain ⟨n, hn⟩ := hh
        exact ⟨n + 15, s_H_actOf (by omega) (by decide) h2 (And.intro (fun _ => hn) (fun zz => absurd c3 zz))⟩
      cases h
      exact ⟨2, And.intro hQ (And.intro rfl rfl)⟩
    · rw [if_neg c3] at h
      suffices hh : ∃ n, jx_W jx_ShC d (some .int) jc_25 Q n 28 [some (.ref 121), some (.ref 33), some (.int x2), some (.int x3), some (.int x4), some (.int x5), some (.int z1.1)] [] z1.2 by
        obtain ⟨n, hn⟩ := hh
        exact ⟨n + 15, s_H_actOf (by omega) (by decide) h2 (And.intro (fun zz => absurd zz c3) (fun _ => hn))⟩
      cases h
      exact ⟨3, And.intro hQ (And.intro rfl rfl)⟩
  · unfold f_H_perform at h
    obtain ⟨z1, h2, h⟩ := Option.bind_eq_some_iff.mp h
    by_cases c3 : (z1.2.1 121 8) = 0
    · rw [if_pos c3] at h
      suffices hh : ∃ n, jx_W jx_ShC d (some .int) jc_25 Q n 33 [some (.ref 121), some (.ref 34), some (.int x2), some (.int x3), some (.int x4), some (.int x5), some (.int z1.1)] [] z1.2 by
        obtain ⟨n, hn⟩ := hh
        exact ⟨n + 15, s_H_actOf (by omega) (by decide) h2 (And.intro (fun _ => hn) (fun zz => absurd c3 zz))⟩
      cases h
      exact ⟨2, And.intro hQ (And.intro rfl rfl)⟩
    · rw [if_neg c3] at h
      suffices hh : ∃ n, jx_W jx_ShC d (some .int) jc_25 Q n 28 [some (.ref 121), some (.ref 34), some (.int x2), some (.int x3), some (.int x4), some (.int x5), some (.int z1.1)] [] z1.2 by
        obtain ⟨n, hn⟩ := hh
        exact ⟨n + 15, s_H_actOf (by omega) (by decide) h2 (And.intro (fun zz => absurd zz c3) (fun _ => hn))⟩
      cases h
      exact ⟨3, And.intro hQ (And.intro rfl rfl)⟩
  · unfold f_H_perform at h
    obtain ⟨z1, h2, h⟩ := Option.bind_eq_some_iff.mp h
    by_cases c3 : (z1.2.1 121 8) = 0
    · rw [if_pos c3] at h
      suffices hh : ∃ n, jx_W jx_ShC d (some .int) jc_25 Q n 33 [some (.ref 121), some (.ref 35), some (.int x2), some (.int x3), some (.int x4), some (.int x5), some (.int z1.1)] [] z1.2 by
        obtain ⟨n, hn⟩ := hh
        exact ⟨n + 15, s_H_actOf (by omega) (by decide) h2 (And.intro (fun _ => hn) (fun zz => absurd c3 zz))⟩
      cases h
      exact ⟨2, And.intro hQ (And.intro rfl rfl)⟩
    · rw [if_neg c3] at h
      suffices hh : ∃ n, jx_W jx_ShC d (some .int) jc_25 Q n 28 [some (.ref 121), some (.ref 35), some (.int x2), some (.int x3), some (.int x4), some (.int x5), some (.int z1.1)] [] z1.2 by
        obtain ⟨n, hn⟩ := hh
        exact ⟨n + 15, s_H_actOf (by omega) (by decide) h2 (And.intro (fun zz => absurd zz c3) (fun _ => hn))⟩
      cases h
      exact ⟨3, And.intro hQ (And.intro rfl rfl)⟩
  · unfold f_H_perform at h
    obtain ⟨z1, h2, h⟩ := Option.bind_eq_some_iff.mp h
    by_cases c3 : (z1.2.1 121 8) = 0
    · rw [if_pos c3] at h
      suffices hh : ∃ n, jx_W jx_ShC d (some .int) jc_25 Q n 33 [some (.ref 121), some (.ref 36), some (.int x2), some (.int x3), some (.int x4), some (.int x5), some (.int z1.1)] [] z1.2 by
        obtain ⟨n, hn⟩ := hh
        exact ⟨n + 15, s_H_actOf (by omega) (by decide) h2 (And.intro (fun _ => hn) (fun zz => absurd c3 zz))⟩
      cases h
      exact ⟨2, And.intro hQ (And.intro rfl rfl)⟩
    · rw [if_neg c3] at h
      suffices hh : ∃ n, jx_W jx_ShC d (some .int) jc_25 Q n 28 [some (.ref 121), some (.ref 36), some (.int x2), some (.int x3), some (.int x4), some (.int x5), some (.int z1.1)] [] z1.2 by
        obtain ⟨n, hn⟩ := hh
        exact ⟨n + 15, s_H_actOf (by omega) (by decide) h2 (And.intro (fun zz => absurd zz c3) (fun _ => hn))⟩
      cases h
      exact ⟨3, And.intro hQ (And.intro rfl rfl)⟩
  · unfold f_H_perform at h
    obtain ⟨z1, h2, h⟩ := Option.bind_eq_some_iff.mp h
    by_cases c3 : (z1.2.1 121 8) = 0
    · rw [if_pos c3] at h
      suffices hh : ∃ n, jx_W jx_ShC d (some .int) jc_25 Q n 33 [some (.ref 121), some (.ref 37), some (.int x2), some (.int x3), some (.int x4), some (.int x5), some (.int z1.1)] [] z1.2 by
        obtain ⟨n, hn⟩ := hh
        exact ⟨n + 15, s_H_actOf (by omega) (by decide) h2 (And.intro (fun _ => hn) (fun zz => absurd c3 zz))⟩
      cases h
      exact ⟨2, And.intro hQ (And.intro rfl rfl)⟩
    · rw [if_neg c3] at h
      suffices hh : ∃ n, jx_W jx_ShC d (some .int) jc_25 Q n 28 [some (.ref 121), some (.ref 37), some (.int x2), some (.int x3), some (.int x4), some (.int x5), some (.int z1.1)] [] z1.2 by
        obtain ⟨n, hn⟩ := hh
        exact ⟨n + 15, s_H_actOf (by omega) (by decide) h2 (And.intro (fun zz => absurd zz c3) (fun _ => hn))⟩
      cases h
      exact ⟨3, And.intro hQ (And.intro rfl rfl)⟩
set_option maxRecDepth 20000 in
theorem s_Z_Joined_paceIn {N d : Nat} {x1 : Int32} {x2 : Int32} (hd : 2 ≤ d) {σ : jw_M} {z : (Int32 × jw_M)} {Q : jw_Q} (h : f_Z_Joined_paceIn N x1 x2 σ = some z) (hQ : Q (some (.int z.1)) (jx_ShC, z.2)) : jw_C jp_kd jp_ys d 30 [.ref 33, .int x1, .int x2] (jx_ShC, σ) Q := by
  obtain ⟨d, rfl⟩ : ∃ e, d = e + 1 := ⟨d - 1, by omega⟩
  replace hd : 1 ≤ d := by omega
  refine jx_C rfl rfl ?_
  unfold f_Z_Joined_paceIn at h
  by_cases c1 : (x1 - x1 / 4 * 4) = 3
  · rw [if_pos c1] at h
    suffices hh : ∃ n, jx_W jx_ShC d (some .int) jc_30 Q n 7 [some (.ref 33), some (.int x1), some (.int x2)] [] σ by
      obtain ⟨n, hn⟩ := hh
      exact ⟨n + 5, And.intro (by decide) (And.intro (fun zz => absurd c1 zz) (fun _ => hn))⟩
    cases h
    exact ⟨3, And.intro hQ (And.intro rfl rfl)⟩
  · rw [if_neg c1] at h
    suffices hh : ∃ n, jx_W jx_ShC d (some .int) jc_30 Q n 11 [some (.ref 33), some (.int x1), some (.int x2)] [] σ by
      obtain ⟨n, hn⟩ := hh
      exact ⟨n + 5, And.intro (by decide) (And.intro (fun _ => hn) (fun zz => absurd zz c1))⟩
    obtain ⟨z2, h3, h⟩ := Option.bind_eq_some_iff.mp h
    cases h
    exact ⟨5, s_Z_Shade_paceIn (by omega) (by decide) h3 (And.intro hQ (And.intro rfl rfl))⟩
set_option maxRecDepth 20000 in
theorem s_L_weigh_70 {N d : Nat} {Q : jw_Q} (hd : 2 ≤ d) {x3 : Int32} {u1 : Option Value} {u2 : Option Value} {σ : jw_M} {z : jw_M} (h : f_L_weigh_70 N x3 σ = some z) (hQ : Q none (jx_ShC, z)) : ∃ n, jx_W jx_ShC d none jc_35 Q n 70 [some (.ref 92), u1, u2, some (.int x3)] [] σ := by
  unfold f_L_weigh_70 at h
  cases h
  exact ⟨7, And.intro hQ (And.intro rfl rfl)⟩
set_option maxRecDepth 20000 in
theorem s_L_weigh_47 {N d : Nat} {Q : jw_Q} (hd : 2 ≤ d) {x2 : Int32} {x3 : Int32} {u1 : Option Value} {σ : jw_M} {z : jw_M} (h : f_L_weigh_47 N x2 x3 σ = some z) (hQ : Q none (jx_ShC, z)) : ∃ n, jx_W jx_ShC d none jc_35 Q n 47 [some (.ref 92), u1, some (.int x2), some (.int x3)] [] σ := by
  unfold f_L_weigh_47 at h
  by_cases c3 : ((σ.1 92 6) &&& (x3 ^^^ (-1))) = 0
  · rw [if_pos c3] at h
    suffices hh : ∃ n, jx_W jx_ShC d none jc_35 Q n 58 [some (.ref 92), u1, some (.int x2), some (.int x3)] [] σ by
      obtain ⟨n, hn⟩ := hh
      exact ⟨n + 7, And.intro (fun zz => absurd c3 zz) (fun _ => hn)⟩
    obtain ⟨z4, h5, h⟩ := Option.bind_eq_some_iff.mp h
    obtain ⟨n, hn⟩ := s_L_weigh_70 hd (u1 := u1) (u2 := some (.int x2)) h hQ
    exact ⟨n + 6, s_J_min (by omega) h5 (hn)⟩
  · rw [if_neg c3] at h
    suffices hh : ∃ n, jx_W jx_ShC d none jc_35 Q n 70 [some (.ref 92), u1, some (.int x2), some (.int x3)] [] σ by
      obtain ⟨n, hn⟩ := hh
      exact ⟨n + 7, And.intro (fun _ => hn) (fun zz => absurd zz c3)⟩
    obtain ⟨n, hn⟩ := s_L_weigh_70 hd (u1 := u1) (u2 := some (.int x2)) h hQ
    exact ⟨n + 0, hn⟩
set_option maxRecDepth 20000 in
theorem s_L_weigh_29 {N d : Nat} {Q : jw_Q} (hd : 2 ≤ d) {x1 : Int32} {x2 : Int32} {x3 : Int32} {σ : jw_M} {z : jw_M} (h : f_L_weigh_29 N x1 x2 x3 σ = some z) (hQ : Q none (jx_ShC, z)) : ∃ n, jx_W jx_ShC d none jc_35 Q n 29 [some (.ref 92), some (.int x1), some (.int x2), some (.int x3)] [] σ := by
  unfold f_L_weigh_29 at h
  by_cases c2 : x1 = (σ.1 92 3)
  · rw [if_pos c2] at h
    suffices hh : ∃ n, jx_W jx_ShC d none jc_35 Q n 37 [some (.ref 92), some (.int x1), some (.int x2), some (.int x3)] [] σ by
      obtain ⟨n, hn⟩ := hh
      exact ⟨n + 4, And.intro (fun zz => absurd c2 zz) (fun _ => hn)⟩
    obtain ⟨n, hn⟩ := s_L_weigh_47 hd (u1 := some (.int x1)) h hQ
    exact ⟨n + 6, hn⟩
  · rw [if_neg c2] at h
    suffices hh : ∃ n, jx_W jx_ShC d none jc_35 Q n 47 [some (.ref 92), some (.int x1), some (.int x2), some (.int x3)] [] σ by
      obtain ⟨n, hn⟩ := hh
      exact ⟨n + 4, And.intro (fun _ => hn) (fun zz => absurd zz c2)⟩
    obtain ⟨n, hn⟩ := s_L_weigh_47 hd (u1 := some (.int x1)) h hQ
    exact ⟨n + 0, hn⟩
set_option maxRecDepth 20000 in
theorem s_L_weigh {N d : Nat} {x1 : Int32} {x2 : Int32} {x3 : Int32} (hd : 3 ≤ d) {σ : jw_M} {z : jw_M} {Q : jw_Q} (h : f_L_weigh N x1 x2 x3 σ = some z) (hQ : Q none (jx_ShC, z)) : jw_C jp_kd jp_ys d 35 [.ref 92, .int x1, .int x2, .int x3] (jx_ShC, σ) Q := by
  obtain ⟨d, rfl⟩ : ∃ e, d = e + 1 := ⟨d - 1, by omega⟩
  replace hd : 2 ≤ d := by omega
  refine jx_C rfl rfl ?_
  unfold f_L_weigh at h
  by_cases c1 : x1 ≤ (σ.1 92 3)
  · rw [if_pos c1] at h
    suffices hh : ∃ n, jx_W jx_ShC d none jc_35 Q n 29 [some (.ref 92), some (.int x1), some (.int x2), some (.int x3)] [] σ by
      obtain ⟨n, hn⟩ := hh
      exact ⟨n + 4, And.intro (fun _ => hn) (fun zz => absurd c1 zz)⟩
    obtain ⟨n, hn⟩ := s_L_weigh_29 hd h hQ
    exact ⟨n + 0, hn⟩
  · rw [if_neg c1] at h
    suffices hh : ∃ n, jx_W jx_ShC d none jc_35 Q n 8 [some (.ref 92), some (.int x1), some (.int x2), some (.int x3)] [] σ by
      obtain ⟨n, hn⟩ := hh
      exact ⟨n + 4, And.intro (fun zz => absurd zz c1) (fun _ => hn)⟩
    obtain ⟨z6, h7, h⟩ := Option.bind_eq_some_iff.mp h
    obtain ⟨n, hn⟩ := s_L_weigh_29 hd h hQ
    exact ⟨n + 11, s_F_copyRow (by omega) rfl rfl h7 (hn)⟩
set_option maxRecDepth 20000 in
theorem s_P_copyFrom_27 {N d : Nat} {p0 : Nat} {p1 : Nat} {Q : jw_Q} (hd : 2 ≤ d) (hp : (p0, p1) ∈ [(102, 102), (102, 106), (102, 110), (102, 27), (102, 94), (102, 98), (106, 102), (106, 106), (106, 110), (106, 27), (106, 94), (106, 98), (110, 102), (110, 106), (110, 110), (110, 27), (110, 94), (110, 98), (27, 64), (64, 27), (75, 27), (94, 102), (94, 106), (94, 110), (94, 27), (94, 94), (94, 98), (98, 102), (98, 106), (98, 110), (98, 27), (98, 94), (98, 98)]) {σ : jw_M} {z : jw_M} (h : f_P_copyFrom_27 N p0 p1  σ = some z) (hQ : Q none (jx_ShC, z)) : ∃ n, jx_W jx_ShC d none jc_42 Q n 27 [some (.ref p0), some (.ref p1)] [] σ := by
  simp only [List.mem_cons, List.not_mem_nil, or_false, Prod.mk.injEq] at hp
  rcases hp with ⟨rfl, rfl⟩ | ⟨rfl, rfl⟩ | ⟨rfl, rfl⟩ | ⟨rfl, rfl⟩ | ⟨rfl, rfl⟩ | ⟨rfl, rfl⟩ | ⟨rfl, rfl⟩ | ⟨rfl, rfl⟩ | ⟨rfl, rfl⟩ | ⟨rfl, rfl⟩ | ⟨rfl, rfl⟩ | ⟨rfl, rfl⟩ | ⟨rfl, rfl⟩ | ⟨rfl, rfl⟩ | ⟨rfl, rfl⟩ | ⟨rfl, rfl⟩ | ⟨rfl, rfl⟩ | ⟨rfl, rfl⟩ | ⟨rfl, rfl⟩ | ⟨rfl, rfl⟩ | ⟨rfl, rfl⟩ | ⟨rfl, rfl⟩ | ⟨rfl, rfl⟩ | ⟨rfl, rfl⟩ | ⟨rfl, rfl⟩ | ⟨rfl, rfl⟩ | ⟨rfl, rfl⟩ | ⟨rfl, rfl⟩ | ⟨rfl, rfl⟩ | ⟨rfl, rfl⟩ | ⟨rfl, rfl⟩ | ⟨rfl, rfl⟩ | ⟨rfl, rfl⟩
  · unfold f_P_copyFrom_27 at h
    obtain ⟨z3, h4, h⟩ := Option.bind_eq_some_iff.mp h
    cases h
    exact ⟨6, s_F_copyRow (by omega) rfl rfl h4 (And.intro hQ (And.intro rfl rfl))⟩
  · unfold f_P_copyFrom_27 at h
    obtain ⟨z3, h4, h⟩ := Option.bind_eq_some_iff.mp h
    cases h
    exact ⟨6, s_F_copyRow (by omega) rfl rfl h4 (And.intro hQ (And.intro rfl rfl))⟩
  · unfold f_P_copyFrom_27 at h
    obtain ⟨z3, h4, h⟩ := Option.bind_eq_some_iff.mp h
    cases h
    exact ⟨6, s_F_copyRow (by omega) rfl rfl h4 (And.intro hQ (And.intro rfl rfl))⟩
  · unfold f_P_copyFrom_27 at h
    obtain ⟨z3, h4, h⟩ := Option.bind_eq_some_iff.mp h
    cases h
    exact ⟨6, s_F_copyRow (by omega) rfl rfl h4 (And.intro hQ (And.intro rfl rfl))⟩
  · unfold f_P_copyFrom_27 at h
    obtain ⟨z3, h4, h⟩ := Option.bind_eq_some_iff.mp h
    cases h
    exact ⟨6, s_F_copyRow (by omega) rfl rfl h4 (And.intro hQ (And.intro rfl rfl))⟩
  · unfold f_P_copyFrom_27 at h
    obtain ⟨z3, h4, h⟩ := Option.bind_eq_some_iff.mp h
    cases h
    exact ⟨6, s_F_copyRow (by omega) rfl rfl h4 (And.intro hQ (And.intro rfl rfl))⟩
  · unfold f_P_copyFrom_27 at h
    obtain ⟨z3, h4, h⟩ := Option.bind_eq_some_iff.mp h
    cases h
    exact ⟨6, s_F_copyRow (by omega) rfl rfl h4 (And.intro hQ (And.intro rfl rfl))⟩
  · unfold f_P_copyFrom_27 at h
    obtain ⟨z3, h4, h⟩ := Option.bind_eq_some_iff.mp h
    cases h
    exact ⟨6, s_F_copyRow (by omega) rfl rfl h4 (And.intro hQ (And.intro rfl rfl))⟩
  · unfold f_P_copyFrom_27 at h
    obtain ⟨z3, h4, h⟩ := Option.bind_eq_some_iff.mp h
    cases h
    exact ⟨6, s_F_copyRow (by omega) rfl rfl h4 (And.intro hQ (And.intro rfl rfl))⟩
  · unfold f_P_copyFrom_27 at h
    obtain ⟨z3, h4, h⟩ := Option.bind_eq_some_iff.mp h
    cases h
    exact ⟨6, s_F_copyRow (by omega) rfl rfl h4 (And.intro hQ (And.intro rfl rfl))⟩
  · unfold f_P_copyFrom_27 at h
    obtain ⟨z3, h4, h⟩ := Option.bind_eq_some_iff.mp h
    cases h
    exact ⟨6, s_F_copyRow (by omega) rfl rfl h4 (And.intro hQ (And.intro rfl rfl))⟩
  · unfold f_P_copyFrom_27 at h
    obtain ⟨z3, h4, h⟩ := Option.bind_eq_some_iff.mp h
    cases h
    exact ⟨6, s_F_copyRow (by omega) rfl rfl h4 (And.intro hQ (And.intro rfl rfl))⟩
  · unfold f_P_copyFrom_27 at h
    obtain ⟨z3, h4, h⟩ := Option.bind_eq_some_iff.mp h
    cases h
    exact ⟨6, s_F_copyRow (by omega) rfl rfl h4 (And.intro hQ (And.intro rfl rfl))⟩
  · unfold f_P_copyFrom_27 at h
    obtain ⟨z3, h4, h⟩ := Option.bind_eq_some_iff.mp h
    cases h
    exact ⟨6, s_F_copyRow (by omega) rfl rfl h4 (And.intro hQ (And.intro rfl rfl))⟩
  · unfold f_P_copyFrom_27 at h
    obtain ⟨z3, h4, h⟩ := Option.bind_eq_some_iff.mp h
    cases h
    exact ⟨6, s_F_copyRow (by omega) rfl rfl h4 (And.intro hQ (And.intro rfl rfl))⟩
  · unfold f_P_copyFrom_27 at h
    obtain ⟨z3, h4, h⟩ := Option.bind_eq_some_iff.mp h
    cases h
    exact ⟨6, s_F_copyRow (by omega) rfl rfl h4 (And.intro hQ (And.intro rfl rfl))⟩
  · unfold f_P_copyFrom_27 at h
    obtain ⟨z3, h4, h⟩ := Option.bind_eq_some_iff.mp h
    cases h
    exact ⟨6, s_F_copyRow (by omega) rfl rfl h4 (And.intro hQ (And.intro rfl rfl))⟩
  · unfold f_P_copyFrom_27 at h
    obtain ⟨z3, h4, h⟩ := Option.bind_eq_some_iff.mp h
    cases h
    exact ⟨6, s_F_copyRow (by omega) rfl rfl h4 (And.intro hQ (And.intro rfl rfl))⟩
  · unfold f_P_copyFrom_27 at h
    obtain ⟨z3, h4, h⟩ := Option.bind_eq_some_iff.mp h
    cases h
    exact ⟨6, s_F_copyRow (by omega) rfl rfl h4 (And.intro hQ (And.intro rfl rfl))⟩
  · unfold f_P_copyFrom_27 at h
    obtain ⟨z3, h4, h⟩ := Option.bind_eq_some_iff.mp h
    cases h
    exact ⟨6, s_F_copyRow (by omega) rfl rfl h4 (And.intro hQ (And.intro rfl rfl))⟩
  · unfold f_P_copyFrom_27 at h
    obtain ⟨z3, h4, h⟩ := Option.bind_eq_some_iff.mp h
    cases h
    exact ⟨6, s_F_copyRow (by omega) rfl rfl h4 (And.intro hQ (And.intro rfl rfl))⟩
  · unfold f_P_copyFrom_27 at h
    obtain ⟨z3, h4, h⟩ := Option.bind_eq_some_iff.mp h
    cases h
    exact ⟨6, s_F_copyRow (by omega) rfl rfl h4 (And.intro hQ (And.intro rfl rfl))⟩
  · unfold f_P_copyFrom_27 at h
    obtain ⟨z3, h4, h⟩ := Option.bind_eq_some_iff.mp h
    cases h
    exact ⟨6, s_F_copyRow (by omega) rfl rfl h4 (And.intro hQ (And.intro rfl rfl))⟩
  · unfold f_P_copyFrom_27 at h
    obtain ⟨z3, h4, h⟩ := Option.bind_eq_some_iff.mp h
    cases h
    exact ⟨6, s_F_copyRow (by omega) rfl rfl h4 (And.intro hQ (And.intro rfl rfl))⟩
  · unfold f_P_copyFrom_27 at h
    obtain ⟨z3, h4, h⟩ := Option.bind_eq_some_iff.mp h
    cases h
    exact ⟨6, s_F_copyRow (by omega) rfl rfl h4 (And.intro hQ (And.intro rfl rfl))⟩
  · unfold f_P_copyFrom_27 at h
    obtain ⟨z3, h4, h⟩ := Option.bind_eq_some_iff.mp h
    cases h
    exact ⟨6, s_F_copyRow (by omega) rfl rfl h4 (And.intro hQ (And.intro rfl rfl))⟩
  · unfold f_P_copyFrom_27 at h
    obtain ⟨z3, h4, h⟩ := Option.bind_eq_some_iff.mp h
    cases h
    exact ⟨6, s_F_copyRow (by omega) rfl rfl h4 (And.intro hQ (And.intro rfl rfl))⟩
  · unfold f_P_copyFrom_27 at h
    obtain ⟨z3, h4, h⟩ := Option.bind_eq_some_iff.mp h
    cases h
    exact ⟨6, s_F_copyRow (by omega) rfl rfl h4 (And.intro hQ (And.intro rfl rfl))⟩
  · unfold f_P_copyFrom_27 at h
    obtain ⟨z3, h4, h⟩ := Option.bind_eq_some_iff.mp h
    cases h
    exact ⟨6, s_F_copyRow (by omega) rfl rfl h4 (And.intro hQ (And.intro rfl rfl))⟩
  · unfold f_P_copyFrom_27 at h
    obtain ⟨z3, h4, h⟩ := Option.bind_eq_some_iff.mp h
    cases h
    exact ⟨6, s_F_copyRow (by omega) rfl rfl h4 (And.intro hQ (And.intro rfl rfl))⟩
  · unfold f_P_copyFrom_27 at h
    obtain ⟨z3, h4, h⟩ := Option.bind_eq_some_iff.mp h
    cases h
    exact ⟨6, s_F_copyRow (by omega) rfl rfl h4 (And.intro hQ (And.intro rfl rfl))⟩
  · unfold f_P_copyFrom_27 at h
    obtain ⟨z3, h4, h⟩ := Option.bind_eq_some_iff.mp h
    cases h
    exact ⟨6, s_F_copyRow (by omega) rfl rfl h4 (And.intro hQ (And.intro rfl rfl))⟩
  · unfold f_P_copyFrom_27 at h
    obtain ⟨z3, h4, h⟩ := Option.bind_eq_some_iff.mp h
    cases h
    exact ⟨6, s_F_copyRow (by omega) rfl rfl h4 (And.intro hQ (And.intro rfl rfl))⟩
set_option maxRecDepth 20000 in
theorem s_P_copyFrom {N d : Nat} {p0 : Nat} {p1 : Nat} (hd : 3 ≤ d) (hp : (p0, p1) ∈ [(102, 102), (102, 106), (102, 110), (102, 27), (102, 94), (102, 98), (106, 102), (106, 106), (106, 110), (106, 27), (106, 94), (106, 98), (110, 102), (110, 106), (110, 110), (110, 27), (110, 94), (110, 98), (27, 64), (64, 27), (75, 27), (94, 102), (94, 106), (94, 110), (94, 27), (94, 94), (94, 98), (98, 102), (98, 106), (98, 110), (98, 27), (98, 94), (98, 98)]) {σ : jw_M} {z : jw_M} {Q : jw_Q} (h : f_P_copyFrom N p0 p1 σ = some z) (hQ : Q none (jx_ShC, z)) : jw_C jp_kd jp_ys d 42 [.ref p0, .ref p1] (jx_ShC, σ) Q := by
  obtain ⟨d, rfl⟩ : ∃ e, d = e + 1 := ⟨d - 1, by omega⟩
  replace hd : 2 ≤ d := by omega
  refine jx_C rfl rfl ?_
  simp only [List.mem_cons, List.not_mem_nil, or_false, Prod.mk.injEq] at hp
  rcases hp with ⟨rfl, rfl⟩ | ⟨rfl, rfl⟩ | ⟨rfl, rfl⟩ | ⟨rfl, rfl⟩ | ⟨rfl, rfl⟩ | ⟨rfl, rfl⟩ | ⟨rfl, rfl⟩ | ⟨rfl, rfl⟩ | ⟨rfl, rfl⟩ | ⟨rfl, rfl⟩ | ⟨rfl, rfl⟩ | ⟨rfl, rfl⟩ | ⟨rfl, rfl⟩ | ⟨rfl, rfl⟩ | ⟨rfl, rfl⟩ | ⟨rfl, rfl⟩ | ⟨rfl, rfl⟩ | ⟨rfl, rfl⟩ | ⟨rfl, rfl⟩ | ⟨rfl, rfl⟩ | ⟨rfl, rfl⟩ | ⟨rfl, rfl⟩ | ⟨rfl, rfl⟩ | ⟨rfl, rfl⟩ | ⟨rfl, rfl⟩ | ⟨rfl, rfl⟩ | ⟨rfl, rfl⟩ | ⟨rfl, rfl⟩ | ⟨rfl, rfl⟩ | ⟨rfl, rfl⟩ | ⟨rfl, rfl⟩ | ⟨rfl, rfl⟩ | ⟨rfl, rfl⟩
  · unfold f_P_copyFrom at h
    obtain ⟨z1, h2, h⟩ := Option.bind_eq_some_iff.mp h
    obtain ⟨n, hn⟩ := s_P_copyFrom_27 hd (by decide) h hQ
    exact ⟨n + 13, s_F_copyRow (by omega) rfl rfl h2 (hn)⟩
  · unfold f_P_copyFrom at h
    obtain ⟨z1, h2, h⟩ := Option.bind_eq_some_iff.mp h
    obtain ⟨n, hn⟩ := s_P_copyFrom_27 hd (by decide) h hQ
    exact ⟨n + 13, s_F_copyRow (by omega) rfl rfl h2 (hn)⟩
  · unfold f_P_copyFrom at h
    obtain ⟨z1, h2, h⟩ := Option.bind_eq_some_iff.mp h
    obtain ⟨n, hn⟩ := s_P_copyFrom_27 hd (by decide) h hQ
    exact ⟨n + 13, s_F_copyRow (by omega) rfl rfl h2 (hn)⟩
  · unfold f_P_copyFrom at h
    obtain ⟨z1, h2, h⟩ := Option.bind_eq_some_iff.mp h
    obtain ⟨n, hn⟩ := s_P_copyFrom_27 hd (by decide) h hQ
    exact ⟨n + 13, s_F_copyRow (by omega) rfl rfl h2 (hn)⟩
  · unfold f_P_copyFrom at h
    obtain ⟨z1, h2, h⟩ := Option.bind_eq_some_iff.mp h
    obtain ⟨n, hn⟩ := s_P_copyFrom_27 hd (by decide) h hQ
    exact ⟨n + 13, s_F_copyRow (by omega) rfl rfl h2 (hn)⟩
  · unfold f_P_copyFrom at h
    obtain ⟨z1, h2, h⟩ := Option.bind_eq_some_iff.mp h
    obtain ⟨n, hn⟩ := s_P_copyFrom_27 hd (by decide) h hQ
    exact ⟨n + 13, s_F_copyRow (by omega) rfl rfl h2 (hn)⟩
  · unfold f_P_copyFrom at h
    obtain ⟨z1, h2, h⟩ := Option.bind_eq_some_iff.mp h
    obtain ⟨n, hn⟩ := s_P_copyFrom_27 hd (by decide) h hQ
    exact ⟨n + 13, s_F_copyRow (by omega) rfl rfl h2 (hn)⟩
  · unfold f_P_copyFrom at h
    obtain ⟨z1, h2, h⟩ := Option.bind_eq_some_iff.mp h
    obtain ⟨n, hn⟩ := s_P_copyFrom_27 hd (by decide) h hQ
    exact ⟨n + 13, s_F_copyRow (by omega) rfl rfl h2 (hn)⟩
  · unfold f_P_copyFrom at h
    obtain ⟨z1, h2, h⟩ := Option.bind_eq_some_iff.mp h
    obtain ⟨n, hn⟩ := s_P_copyFrom_27 hd (by decide) h hQ
    exact ⟨n + 13, s_F_copyRow (by omega) rfl rfl h2 (hn)⟩
  · unfold f_P_copyFrom at h
    obtain ⟨z1, h2, h⟩ := Option.bind_eq_some_iff.mp h
    obtain ⟨n, hn⟩ := s_P_copyFrom_27 hd (by decide) h hQ
    exact ⟨n + 13, s_F_copyRow (by omega) rfl rfl h2 (hn)⟩
  · unfold f_P_copyFrom at h
    obtain ⟨z1, h2, h⟩ := Option.bind_eq_some_iff.mp h
    obtain ⟨n, hn⟩ := s_P_copyFrom_27 hd (by decide) h hQ
    exact ⟨n + 13, s_F_copyRow (by omega) rfl rfl h2 (hn)⟩
  · unfold f_P_copyFrom at h
    obtain ⟨z1, h2, h⟩ := Option.bind_eq_some_iff.mp h
    obtain ⟨n, hn⟩ := s_P_copyFrom_27 hd (by decide) h hQ
    exact ⟨n + 13, s_F_copyRow (by omega) rfl rfl h2 (hn)⟩
  · unfold f_P_copyFrom at h
    obtain ⟨z1, h2, h⟩ := Option.bind_eq_some_iff.mp h
    obtain ⟨n, hn⟩ := s_P_copyFrom_27 hd (by decide) h hQ
    exact ⟨n + 13, s_F_copyRow (by omega) rfl rfl h2 (hn)⟩
  · unfold f_P_copyFrom at h
    obtain ⟨z1, h2, h⟩ := Option.bind_eq_some_iff.mp h
    obtain ⟨n, hn⟩ := s_P_copyFrom_27 hd (by decide) h hQ
    exact ⟨n + 13, s_F_copyRow (by omega) rfl rfl h2 (hn)⟩
  · unfold f_P_copyFrom at h
    obtain ⟨z1, h2, h⟩ := Option.bind_eq_some_iff.mp h
    obtain ⟨n, hn⟩ := s_P_copyFrom_27 hd (by decide) h hQ
    exact ⟨n + 13, s_F_copyRow (by omega) rfl rfl h2 (hn)⟩
  · unfold f_P_copyFrom at h
    obtain ⟨z1, h2, h⟩ := Option.bind_eq_some_iff.mp h
    obtain ⟨n, hn⟩ := s_P_copyFrom_27 hd (by decide) h hQ
    exact ⟨n + 13, s_F_copyRow (by omega) rfl rfl h2 (hn)⟩
  · unfold f_P_copyFrom at h
    obtain ⟨z1, h2, h⟩ := Option.bind_eq_some_iff.mp h
    obtain ⟨n, hn⟩ := s_P_copyFrom_27 hd (by decide) h hQ
    exact ⟨n + 13, s_F_copyRow (by omega) rfl rfl h2 (hn)⟩
  · unfold f_P_copyFrom at h
    obtain ⟨z1, h2, h⟩ := Option.bind_eq_some_iff.mp h
    obtain ⟨n, hn⟩ := s_P_copyFrom_27 hd (by decide) h hQ
    exact ⟨n + 13, s_F_copyRow (by omega) rfl rfl h2 (hn)⟩
  · unfold f_P_copyFrom at h
    obtain ⟨z1, h2, h⟩ := Option.bind_eq_some_iff.mp h
    obtain ⟨n, hn⟩ := s_P_copyFrom_27 hd (by decide) h hQ
    exact ⟨n + 13, s_F_copyRow (by omega) rfl rfl h2 (hn)⟩
  · unfold f_P_copyFrom at h
    obtain ⟨z1, h2, h⟩ := Option.bind_eq_some_iff.mp h
    obtain ⟨n, hn⟩ := s_P_copyFrom_27 hd (by decide) h hQ
    exact ⟨n + 13, s_F_copyRow (by omega) rfl rfl h2 (hn)⟩
  · unfold f_P_copyFrom at h
    obtain ⟨z1, h2, h⟩ := Option.bind_eq_some_iff.mp h
    obtain ⟨n, hn⟩ := s_P_copyFrom_27 hd (by decide) h hQ
    exact ⟨n + 13, s_F_copyRow (by omega) rfl rfl h2 (hn)⟩
  · unfold f_P_copyFrom at h
    obtain ⟨z1, h2, h⟩ := Option.bind_eq_some_iff.mp h
    obtain ⟨n, hn⟩ := s_P_copyFrom_27 hd (by decide) h hQ
    exact ⟨n + 13, s_F_copyRow (by omega) rfl rfl h2 (hn)⟩
  · unfold f_P_copyFrom at h
    obtain ⟨z1, h2, h⟩ := Option.bind_eq_some_iff.mp h
    obtain ⟨n, hn⟩ := s_P_copyFrom_27 hd (by decide) h hQ
    exact ⟨n + 13, s_F_copyRow (by omega) rfl rfl h2 (hn)⟩
  · unfold f_P_copyFrom at h
    obtain ⟨z1, h2, h⟩ := Option.bind_eq_some_iff.mp h
    obtain ⟨n, hn⟩ := s_P_copyFrom_27 hd (by decide) h hQ
    exact ⟨n + 13, s_F_copyRow (by omega) rfl rfl h2 (hn)⟩
  · unfold f_P_copyFrom at h
    obtain ⟨z1, h2, h⟩ := Option.bind_eq_some_iff.mp h
    obtain ⟨n, hn⟩ := s_P_copyFrom_27 hd (by decide) h hQ
    exact ⟨n + 13, s_F_copyRow (by omega) rfl rfl h2 (hn)⟩
  · unfold f_P_copyFrom at h
    obtain ⟨z1, h2, h⟩ := Option.bind_eq_some_iff.mp h
    obtain ⟨n, hn⟩ := s_P_copyFrom_27 hd (by decide) h hQ
    exact ⟨n + 13, s_F_copyRow (by omega) rfl rfl h2 (hn)⟩
  · unfold f_P_copyFrom at h
    obtain ⟨z1, h2, h⟩ := Option.bind_eq_some_iff.mp h
    obtain ⟨n, hn⟩ := s_P_copyFrom_27 hd (by decide) h hQ
    exact ⟨n + 13, s_F_copyRow (by omega) rfl rfl h2 (hn)⟩
  · unfold f_P_copyFrom at h
    obtain ⟨z1, h2, h⟩ := Option.bind_eq_some_iff.mp h
    obtain ⟨n, hn⟩ := s_P_copyFrom_27 hd (by decide) h hQ
    exact ⟨n + 13, s_F_copyRow (by omega) rfl rfl h2 (hn)⟩
  · unfold f_P_copyFrom at h
    obtain ⟨z1, h2, h⟩ := Option.bind_eq_some_iff.mp h
    obtain ⟨n, hn⟩ := s_P_copyFrom_27 hd (by decide) h hQ
    exact ⟨n + 13, s_F_copyRow (by omega) rfl rfl h2 (hn)⟩
  · unfold f_P_copyFrom at h
    obtain ⟨z1, h2, h⟩ := Option.bind_eq_some_iff.mp h
    obtain ⟨n, hn⟩ := s_P_copyFrom_27 hd (by decide) h hQ
    exact ⟨n + 13, s_F_copyRow (by omega) rfl rfl h2 (hn)⟩
  · unfold f_P_copyFrom at h
    obtain ⟨z1, h2, h⟩ := Option.bind_eq_some_iff.mp h
    obtain ⟨n, hn⟩ := s_P_copyFrom_27 hd (by decide) h hQ
    exact ⟨n + 13, s_F_copyRow (by omega) rfl rfl h2 (hn)⟩
  · unfold f_P_copyFrom at h
    obtain ⟨z1, h2, h⟩ := Option.bind_eq_some_iff.mp h
    obtain ⟨n, hn⟩ := s_P_copyFrom_27 hd (by decide) h hQ
    exact ⟨n + 13, s_F_copyRow (by omega) rfl rfl h2 (hn)⟩
  · unfold f_P_copyFrom at h
    obtain ⟨z1, h2, h⟩ := Option.bind_eq_some_iff.mp h
    obtain ⟨n, hn⟩ := s_P_copyFrom_27 hd (by decide) h hQ
    exact ⟨n + 13, s_F_copyRow (by omega) rfl rfl h2 (hn)⟩
set_option maxRecDepth 20000 in
theorem s_P_learntBySome_4 {N d : Nat} {p0 : Nat} {Q : jw_Q} (hd : 0 ≤ d) (hp : p0 = 102 ∨ p0 = 106 ∨ p0 = 110 ∨ p0 = 94 ∨ p0 = 98) : ∀ (k : Nat) {x1 : Int32} {x2 : Int32} {σ : jw_M} {z : (Int32 × jw_M)}, f_P_learntBySome_4 N p0 k x1 x2 σ = some z → Q (some (.int z.1)) (jx_ShC, z.2) → ∃ n, jx_W jx_ShC d (some .int) jc_46 Q n 4 [some (.ref p0), some (.int x1), some (.int x2)] [] σ
  | 0, _, _, _, _, h, _ => by cases h
  | k + 1, x1, x2, σ, z, h, hQ => by
    rcases hp with rfl | rfl | rfl | rfl | rfl
    · rw [f_P_learntBySome_4] at h
      by_cases c1 : 6 ≤ x2
      · rw [if_pos c1] at h
        suffices hh : ∃ n, jx_W jx_ShC d (some .int) jc_46 Q n 25 [some (.ref 102), some (.int x1), some (.int x2)] [] σ by
          obtain ⟨n, hn⟩ := hh
          exact ⟨n + 3, And.intro (fun _ => hn) (fun zz => absurd c1 zz)⟩
        cases h
        exact ⟨2, And.intro hQ (And.intro rfl rfl)⟩
      · rw [if_neg c1] at h
        suffices hh : ∃ n, jx_W jx_ShC d (some .int) jc_46 Q n 10 [some (.ref 102), some (.int x1), some (.int x2)] [] σ by
          obtain ⟨n, hn⟩ := hh
          exact ⟨n + 3, And.intro (fun zz => absurd zz c1) (fun _ => hn)⟩
        cases c2 : jx_in x2 6 with
        | false => rw [c2, cond_false] at h; cases h
        | true =>
          rw [c2, cond_true] at h
          obtain ⟨n, hn⟩ := s_P_learntBySome_4 hd (by decide) k h hQ
          exact ⟨n + 9, And.intro (jx_in_ok c2) (hn)⟩
    · rw [f_P_learntBySome_4] at h
      by_cases c1 : 6 ≤ x2
      · rw [if_pos c1] at h
        suffices hh : ∃ n, jx_W jx_ShC d (some .int) jc_46 Q n 25 [some (.ref 106), some (.int x1), some (.int x2)] [] σ by
          obtain ⟨n, hn⟩ := hh
          exact ⟨n + 3, And.intro (fun _ => hn) (fun zz => absurd c1 zz)⟩
        cases h
        exact ⟨2, And.intro hQ (And.intro rfl rfl)⟩
      · rw [if_neg c1] at h
        suffices hh : ∃ n, jx_W jx_ShC d (some .int) jc_46 Q n 10 [some (.ref 106), some (.int x1), some (.int x2)] [] σ by
          obtain ⟨n, hn⟩ := hh
          exact ⟨n + 3, And.intro (fun zz => absurd zz c1) (fun _ => hn)⟩
        cases c2 : jx_in x2 6 with
        | false => rw [c2, cond_false] at h; cases h
        | true =>
          rw [c2, cond_true] at h
          obtain ⟨n, hn⟩ := s_P_learntBySome_4 hd (by decide) k h hQ
          exact ⟨n + 9, And.intro (jx_in_ok c2) (hn)⟩
    · rw [f_P_learntBySome_4] at h
      by_cases c1 : 6 ≤ x2
      · rw [if_pos c1] at h
        suffices hh : ∃ n, jx_W jx_ShC d (some .int) jc_46 Q n 25 [some (.ref 110), some (.int x1), some (.int x2)] [] σ by
          obtain ⟨n, hn⟩ := hh
          exact ⟨n + 3, And.intro (fun _ => hn) (fun zz => absurd c1 zz)⟩
        cases h
        exact ⟨2, And.intro hQ (And.intro rfl rfl)⟩
      · rw [if_neg c1] at h
        suffices hh : ∃ n, jx_W jx_ShC d (some .int) jc_46 Q n 10 [some (.ref 110), some (.int x1), some (.int x2)] [] σ by
          obtain ⟨n, hn⟩ := hh
          exact ⟨n + 3, And.intro (fun zz => absurd zz c1) (fun _ => hn)⟩
        cases c2 : jx_in x2 6 with
        | false => rw [c2, cond_false] at h; cases h
        | true =>
          rw [c2, cond_true] at h
          obtain ⟨n, hn⟩ := s_P_learntBySome_4 hd (by decide) k h hQ
          exact ⟨n + 9, And.intro (jx_in_ok c2) (hn)⟩
    · rw [f_P_learntBySome_4] at h
      by_cases c1 : 6 ≤ x2
      · rw [if_pos c1] at h
        suffices hh : ∃ n, jx_W jx_ShC d (some .int) jc_46 Q n 25 [some (.ref 94), some (.int x1), some (.int x2)] [] σ by
          obtain ⟨n, hn⟩ := hh
          exact ⟨n + 3, And.intro (fun _ => hn) (fun zz => absurd c1 zz)⟩
        cases h
        exact ⟨2, And.intro hQ (And.intro rfl rfl)⟩
      · rw [if_neg c1] at h
        suffices hh : ∃ n, jx_W jx_ShC d (some .int) jc_46 Q n 10 [some (.ref 94), some (.int x1), some (.int x2)] [] σ by
          obtain ⟨n, hn⟩ := hh
          exact ⟨n + 3, And.intro (fun zz => absurd zz c1) (fun _ => hn)⟩
        cases c2 : jx_in x2 6 with
        | false => rw [c2, cond_false] at h; cases h
        | true =>
          rw [c2, cond_true] at h
          obtain ⟨n, hn⟩ := s_P_learntBySome_4 hd (by decide) k h hQ
          exact ⟨n + 9, And.intro (jx_in_ok c2) (hn)⟩
    · rw [f_P_learntBySome_4] at h
      by_cases c1 : 6 ≤ x2
      · rw [if_pos c1] at h
        suffices hh : ∃ n, jx_W jx_ShC d (some .int) jc_46 Q n 25 [some (.ref 98), some (.int x1), some (.int x2)] [] σ by
          obtain ⟨n, hn⟩ := hh
          exact ⟨n + 3, And.intro (fun _ => hn) (fun zz => absurd c1 zz)⟩
        cases h
        exact ⟨2, And.intro hQ (And.intro rfl rfl)⟩
      · rw [if_neg c1] at h
        suffices hh : ∃ n, jx_W jx_ShC d (some .int) jc_46 Q n 10 [some (.ref 98), some (.int x1), some (.int x2)] [] σ by
          obtain ⟨n, hn⟩ := hh
          exact ⟨n + 3, And.intro (fun zz => absurd zz c1) (fun _ => hn)⟩
        cases c2 : jx_in x2 6 with
        | false => rw [c2, cond_false] at h; cases h
        | true =>
          rw [c2, cond_true] at h
          obtain ⟨n, hn⟩ := s_P_learntBySome_4 hd (by decide) k h hQ
          exact ⟨n + 9, And.intro (jx_in_ok c2) (hn)⟩
set_option maxRecDepth 20000 in
theorem s_P_learntBySome {N d : Nat} {p0 : Nat} (hd : 1 ≤ d) (hp : p0 = 102 ∨ p0 = 106 ∨ p0 = 110 ∨ p0 = 94 ∨ p0 = 98) {σ : jw_M} {z : (Int32 × jw_M)} {Q : jw_Q} (h : f_P_learntBySome N p0 σ = some z) (hQ : Q (some (.int z.1)) (jx_ShC, z.2)) : jw_C jp_kd jp_ys d 46 [.ref p0] (jx_ShC, σ) Q := by
  obtain ⟨d, rfl⟩ : ∃ e, d = e + 1 := ⟨d - 1, by omega⟩
  replace hd : 0 ≤ d := by omega
  refine jx_C rfl rfl ?_
  unfold f_P_learntBySome at h
  obtain ⟨n, hn⟩ := s_P_learntBySome_4 hd hp N h hQ
  exact ⟨n + 4, hn⟩
set_option maxRecDepth 20000 in
theorem s_P_gain {N d : Nat} {p0 : Nat} {x1 : Int32} {x2 : Int32} {x3 : Int32} {x4 : Int32} (hd : 1 ≤ d) (hp : p0 = 102 ∨ p0 = 106 ∨ p0 = 110 ∨ p0 = 27 ∨ p0 = 75 ∨ p0 = 94 ∨ p0 = 98) {σ : jw_M} {z : (Int32 × jw_M)} {Q : jw_Q} (h : f_P_gain N p0 x1 x2 x3 x4 σ = some z) (hQ : Q (some (.int z.1)) (jx_ShC, z.2)) : jw_C jp_kd jp_ys d 47 [.ref p0, .int x1, .int x2, .int x3, .int x4] (jx_ShC, σ) Q := by
  obtain ⟨d, rfl⟩ : ∃ e, d = e + 1 := ⟨d - 1, by omega⟩
  replace hd : 0 ≤ d := by omega
  refine jx_C rfl rfl ?_
  rcases hp with rfl | rfl | rfl | rfl | rfl | rfl | rfl
  · unfold f_P_gain at h
    cases c1 : jx_in ((x1 * 8) + x2) 48 with
    | false => rw [c1, cond_false] at h; cases h
    | true =>
      rw [c1, cond_true] at h
      by_cases c2 : x4 ≤ ((jx_w σ (102 + 1) (((x1 * 8) + x2)).toNatClampNeg ((σ.1 (102 + 1) (((x1 * 8) + x2)).toNatClampNeg) + x3)).1 (102 + 1) (((x1 * 8) + x2)).toNatClampNeg)
      · rw [if_pos c2] at h
        suffices hh : ∃ n, jx_W jx_ShC d (some .boolean) jc_47 Q n 33 [some (.ref 102), some (.int x1), some (.int x2), some (.int x3), some (.int x4), some (.int ((x1 * 8) + x2))] [] (jx_w σ (102 + 1) (((x1 * 8) + x2)).toNatClampNeg ((σ.1 (102 + 1) (((x1 * 8) + x2)).toNatClampNeg) + x3)) by
          obtain ⟨n, hn⟩ := hh
          exact ⟨n + 20, And.intro (jx_in_ok c1) (And.intro (jx_in_ok c1) (And.intro (jx_in_ok c1) (And.intro (fun _ => hn) (fun zz => absurd c2 zz))))⟩
        cases c3 : jx_in x1 6 with
        | false => rw [c3, cond_false] at h; cases h
        | true =>
          rw [c3, cond_true] at h
          cases h
          exact ⟨12, And.intro (jx_in_ok c3) (And.intro (jx_in_ok c3) (And.intro (Or.inr rfl) (And.intro hQ (And.intro rfl rfl))))⟩
      · rw [if_neg c2] at h
        suffices hh : ∃ n, jx_W jx_ShC d (some .boolean) jc_47 Q n 31 [some (.ref 102), some (.int x1), some (.int x2), some (.int x3), some (.int x4), some (.int ((x1 * 8) + x2))] [] (jx_w σ (102 + 1) (((x1 * 8) + x2)).toNatClampNeg ((σ.1 (102 + 1) (((x1 * 8) + x2)).toNatClampNeg) + x3)) by
          obtain ⟨n, hn⟩ := hh
          exact ⟨n + 20, And.intro (jx_in_ok c1) (And.intro (jx_in_ok c1) (And.intro (jx_in_ok c1) (And.intro (fun zz => absurd zz c2) (fun _ => hn))))⟩
        cases h
        exact ⟨2, And.intro (Or.inl rfl) (And.intro hQ (And.intro rfl rfl))⟩
  · unfold f_P_gain at h
    cases c1 : jx_in ((x1 * 8) + x2) 48 with
    | false => rw [c1, cond_false] at h; cases h
    | true =>
      rw [c1, cond_true] at h
      by_cases c2 : x4 ≤ ((jx_w σ (106 + 1) (((x1 * 8) + x2)).toNatClampNeg ((σ.1 (106 + 1) (((x1 * 8) + x2)).toNatClampNeg) + x3)).1 (106 + 1) (((x1 * 8) + x2)).toNatClampNeg)
      · rw [if_pos c2] at h
        suffices hh : ∃ n, jx_W jx_ShC d (some .boolean) jc_47 Q n 33 [some (.ref 106), some (.int x1), some (.int x2), some (.int x3), some (.int x4), some (.int ((x1 * 8) + x2))] [] (jx_w σ (106 + 1) (((x1 * 8) + x2)).toNatClampNeg ((σ.1 (106 + 1) (((x1 * 8) + x2)).toNatClampNeg) + x3)) by
          obtain ⟨n, hn⟩ := hh
          exact ⟨n + 20, And.intro (jx_in_ok c1) (And.intro (jx_in_ok c1) (And.intro (jx_in_ok c1) (And.intro (fun _ => hn) (fun zz => absurd c2 zz))))⟩
        cases c3 : jx_in x1 6 with
        | false => rw [c3, cond_false] at h; cases h
        | true =>
          rw [c3, cond_true] at h
          cases h
          exact ⟨12, And.intro (jx_in_ok c3) (And.intro (jx_in_ok c3) (And.intro (Or.inr rfl) (And.intro hQ (And.intro rfl rfl))))⟩
      · rw [if_neg c2] at h
        suffices hh : ∃ n, jx_W jx_ShC d (some .boolean) jc_47 Q n 31 [some (.ref 106), some (.int x1), some (.int x2), some (.int x3), some (.int x4), some (.int ((x1 * 8) + x2))] [] (jx_w σ (106 + 1) (((x1 * 8) + x2)).toNatClampNeg ((σ.1 (106 + 1) (((x1 * 8) + x2)).toNatClampNeg) + x3)) by
          obtain ⟨n, hn⟩ := hh
          exact ⟨n + 20, And.intro (jx_in_ok c1) (And.intro (jx_in_ok c1) (And.intro (jx_in_ok c1) (And.intro (fun zz => absurd zz c2) (fun _ => hn))))⟩
        cases h
        exact ⟨2, And.intro (Or.inl rfl) (And.intro hQ (And.intro rfl rfl))⟩
  · unfold f_P_gain at h
    cases c1 : jx_in ((x1 * 8) + x2) 48 with
    | false => rw [c1, cond_false] at h; cases h
    | true =>
      rw [c1, cond_true] at h
      by_cases c2 : x4 ≤ ((jx_w σ (110 + 1) (((x1 * 8) + x2)).toNatClampNeg ((σ.1 (110 + 1) (((x1 * 8) + x2)).toNatClampNeg) + x3)).1 (110 + 1) (((x1 * 8) + x2)).toNatClampNeg)
      · rw [if_pos c2] at h
        suffices hh : ∃ n, jx_W jx_ShC d (some .boolean) jc_47 Q n 33 [some (.ref 110), some (.int x1), some (.int x2), some (.int x3), some (.int x4), some (.int ((x1 * 8) + x2))] [] (jx_w σ (110 + 1) (((x1 * 8) + x2)).toNatClampNeg ((σ.1 (110 + 1) (((x1 * 8) + x2)).toNatClampNeg) + x3)) by
          obtain ⟨n, hn⟩ := hh
          exact ⟨n + 20, And.intro (jx_in_ok c1) (And.intro (jx_in_ok c1) (And.intro (jx_in_ok c1) (And.intro (fun _ => hn) (fun zz => absurd c2 zz))))⟩
        cases c3 : jx_in x1 6 with
        | false => rw [c3, cond_false] at h; cases h
        | true =>
          rw [c3, cond_true] at h
          cases h
          exact ⟨12, And.intro (jx_in_ok c3) (And.intro (jx_in_ok c3) (And.intro (Or.inr rfl) (And.intro hQ (And.intro rfl rfl))))⟩
      · rw [if_neg c2] at h
        suffices hh : ∃ n, jx_W jx_ShC d (some .boolean) jc_47 Q n 31 [some (.ref 110), some (.int x1), some (.int x2), some (.int x3), some (.int x4), some (.int ((x1 * 8) + x2))] [] (jx_w σ (110 + 1) (((x1 * 8) + x2)).toNatClampNeg ((σ.1 (110 + 1) (((x1 * 8) + x2)).toNatClampNeg) + x3)) by
          obtain ⟨n, hn⟩ := hh
          exact ⟨n + 20, And.intro (jx_in_ok c1) (And.intro (jx_in_ok c1) (And.intro (jx_in_ok c1) (And.intro (fun zz => absurd zz c2) (fun _ => hn))))⟩
        cases h
        exact ⟨2, And.intro (Or.inl rfl) (And.intro hQ (And.intro rfl rfl))⟩
  · unfold f_P_gain at h
    cases c1 : jx_in ((x1 * 8) + x2) 48 with
    | false => rw [c1, cond_false] at h; cases h
    | true =>
      rw [c1, cond_true] at h
      by_cases c2 : x4 ≤ ((jx_w σ (27 + 1) (((x1 * 8) + x2)).toNatClampNeg ((σ.1 (27 + 1) (((x1 * 8) + x2)).toNatClampNeg) + x3)).1 (27 + 1) (((x1 * 8) + x2)).toNatClampNeg)
      · rw [if_pos c2] at h
        suffices hh : ∃ n, jx_W jx_ShC d (some .boolean) jc_47 Q n 33 [some (.ref 27), some (.int x1), some (.int x2), some (.int x3), some (.int x4), some (.int ((x1 * 8) + x2))] [] (jx_w σ (27 + 1) (((x1 * 8) + x2)).toNatClampNeg ((σ.1 (27 + 1) (((x1 * 8) + x2)).toNatClampNeg) + x3)) by
          obtain ⟨n, hn⟩ := hh
          exact ⟨n + 20, And.intro (jx_in_ok c1) (And.intro (jx_in_ok c1) (And.intro (jx_in_ok c1) (And.intro (fun _ => hn) (fun zz => absurd c2 zz))))⟩
        cases c3 : jx_in x1 6 with
        | false => rw [c3, cond_false] at h; cases h
        | true =>
          rw [c3, cond_true] at h
          cases h
          exact ⟨12, And.intro (jx_in_ok c3) (And.intro (jx_in_ok c3) (And.intro (Or.inr rfl) (And.intro hQ (And.intro rfl rfl))))⟩
      · rw [if_neg c2] at h
        suffices hh : ∃ n, jx_W jx_ShC d (some .boolean) jc_47 Q n 31 [some (.ref 27), some (.int x1), some (.int x2), some (.int x3), some (.int x4), some (.int ((x1 * 8) + x2))] [] (jx_w σ (27 + 1) (((x1 * 8) + x2)).toNatClampNeg ((σ.1 (27 + 1) (((x1 * 8) + x2)).toNatClampNeg) + x3)) by
          obtain ⟨n, hn⟩ := hh
          exact ⟨n + 20, And.intro (jx_in_ok c1) (And.intro (jx_in_ok c1) (And.intro (jx_in_ok c1) (And.intro (fun zz => absurd zz c2) (fun _ => hn))))⟩
        cases h
        exact ⟨2, And.intro (Or.inl rfl) (And.intro hQ (And.intro rfl rfl))⟩
  · unfold f_P_gain at h
    cases c1 : jx_in ((x1 * 8) + x2) 48 with
    | false => rw [c1, cond_false] at h; cases h
    | true =>
      rw [c1, cond_true] at h
      by_cases c2 : x4 ≤ ((jx_w σ (75 + 1) (((x1 * 8) + x2)).toNatClampNeg ((σ.1 (75 + 1) (((x1 * 8) + x2)).toNatClampNeg) + x3)).1 (75 + 1) (((x1 * 8) + x2)).toNatClampNeg)
      · rw [if_pos c2] at h
        suffices hh : ∃ n, jx_W jx_ShC d (some .boolean) jc_47 Q n 33 [some (.ref 75), some (.int x1), some (.int x2), some (.int x3), some (.int x4), some (.int ((x1 * 8) + x2))] [] (jx_w σ (75 + 1) (((x1 * 8) + x2)).toNatClampNeg ((σ.1 (75 + 1) (((x1 * 8) + x2)).toNatClampNeg) + x3)) by
          obtain ⟨n, hn⟩ := hh
          exact ⟨n + 20, And.intro (jx_in_ok c1) (And.intro (jx_in_ok c1) (And.intro (jx_in_ok c1) (And.intro (fun _ => hn) (fun zz => absurd c2 zz))))⟩
        cases c3 : jx_in x1 6 with
        | false => rw [c3, cond_false] at h; cases h
        | true =>
          rw [c3, cond_true] at h
          cases h
          exact ⟨12, And.intro (jx_in_ok c3) (And.intro (jx_in_ok c3) (And.intro (Or.inr rfl) (And.intro hQ (And.intro rfl rfl))))⟩
      · rw [if_neg c2] at h
        suffices hh : ∃ n, jx_W jx_ShC d (some .boolean) jc_47 Q n 31 [some (.ref 75), some (.int x1), some (.int x2), some (.int x3), some (.int x4), some (.int ((x1 * 8) + x2))] [] (jx_w σ (75 + 1) (((x1 * 8) + x2)).toNatClampNeg ((σ.1 (75 + 1) (((x1 * 8) + x2)).toNatClampNeg) + x3)) by
          obtain ⟨n, hn⟩ := hh
          exact ⟨n + 20, And.intro (jx_in_ok c1) (And.intro (jx_in_ok c1) (And.intro (jx_in_ok c1) (And.intro (fun zz => absurd zz c2) (fun _ => hn))))⟩
        cases h
        exact ⟨2, And.intro (Or.inl rfl) (And.intro hQ (And.intro rfl rfl))⟩
  · unfold f_P_gain at h
    cases c1 : jx_in ((x1 * 8) + x2) 48 with
    | false => rw [c1, cond_false] at h; cases h
    | true =>
      rw [c1, cond_true] at h
      by_cases c2 : x4 ≤ ((jx_w σ (94 + 1) (((x1 * 8) + x2)).toNatClampNeg ((σ.1 (94 + 1) (((x1 * 8) + x2)).toNatClampNeg) + x3)).1 (94 + 1) (((x1 * 8) + x2)).toNatClampNeg)
      · rw [if_pos c2] at h
        suffices hh : ∃ n, jx_W jx_ShC d (some .boolean) jc_47 Q n 33 [some (.ref 94), some (.int x1), some (.int x2), some (.int x3), some (.int x4), some (.int ((x1 * 8) + x2))] [] (jx_w σ (94 + 1) (((x1 * 8) + x2)).toNatClampNeg ((σ.1 (94 + 1) (((x1 * 8) + x2)).toNatClampNeg) + x3)) by
          obtain ⟨n, hn⟩ := hh
          exact ⟨n + 20, And.intro (jx_in_ok c1) (And.intro (jx_in_ok c1) (And.intro (jx_in_ok c1) (And.intro (fun _ => hn) (fun zz => absurd c2 zz))))⟩
        cases c3 : jx_in x1 6 with
        | false => rw [c3, cond_false] at h; cases h
        | true =>
          rw [c3, cond_true] at h
          cases h
          exact ⟨12, And.intro (jx_in_ok c3) (And.intro (jx_in_ok c3) (And.intro (Or.inr rfl) (And.intro hQ (And.intro rfl rfl))))⟩
      · rw [if_neg c2] at h
        suffices hh : ∃ n, jx_W jx_ShC d (some .boolean) jc_47 Q n 31 [some (.ref 94), some (.int x1), some (.int x2), some (.int x3), some (.int x4), some (.int ((x1 * 8) + x2))] [] (jx_w σ (94 + 1) (((x1 * 8) + x2)).toNatClampNeg ((σ.1 (94 + 1) (((x1 * 8) + x2)).toNatClampNeg) + x3)) by
          obtain ⟨n, hn⟩ := hh
          exact ⟨n + 20, And.intro (jx_in_ok c1) (And.intro (jx_in_ok c1) (And.intro (jx_in_ok c1) (And.intro (fun zz => absurd zz c2) (fun _ => hn))))⟩
        cases h
        exact ⟨2, And.intro (Or.inl rfl) (And.intro hQ (And.intro rfl rfl))⟩
  · unfold f_P_gain at h
    cases c1 : jx_in ((x1 * 8) + x2) 48 with
    | false => rw [c1, cond_false] at h; cases h
    | true =>
      rw [c1, cond_true] at h
      by_cases c2 : x4 ≤ ((jx_w σ (98 + 1) (((x1 * 8) + x2)).toNatClampNeg ((σ.1 (98 + 1) (((x1 * 8) + x2)).toNatClampNeg) + x3)).1 (98 + 1) (((x1 * 8) + x2)).toNatClampNeg)
      · rw [if_pos c2] at h
        suffices hh : ∃ n, jx_W jx_ShC d (some .boolean) jc_47 Q n 33 [some (.ref 98), some (.int x1), some (.int x2), some (.int x3), some (.int x4), some (.int ((x1 * 8) + x2))] [] (jx_w σ (98 + 1) (((x1 * 8) + x2)).toNatClampNeg ((σ.1 (98 + 1) (((x1 * 8) + x2)).toNatClampNeg) + x3)) by
          obtain ⟨n, hn⟩ := hh
          exact ⟨n + 20, And.intro (jx_in_ok c1) (And.intro (jx_in_ok c1) (And.intro (jx_in_ok c1) (And.intro (fun _ => hn) (fun zz => absurd c2 zz))))⟩
        cases c3 : jx_in x1 6 with
        | false => rw [c3, cond_false] at h; cases h
        | true =>
          rw [c3, cond_true] at h
          cases h
          exact ⟨12, And.intro (jx_in_ok c3) (And.intro (jx_in_ok c3) (And.intro (Or.inr rfl) (And.intro hQ (And.intro rfl rfl))))⟩
      · rw [if_neg c2] at h
        suffices hh : ∃ n, jx_W jx_ShC d (some .boolean) jc_47 Q n 31 [some (.ref 98), some (.int x1), some (.int x2), some (.int x3), some (.int x4), some (.int ((x1 * 8) + x2))] [] (jx_w σ (98 + 1) (((x1 * 8) + x2)).toNatClampNeg ((σ.1 (98 + 1) (((x1 * 8) + x2)).toNatClampNeg) + x3)) by
          obtain ⟨n, hn⟩ := hh
          exact ⟨n + 20, And.intro (jx_in_ok c1) (And.intro (jx_in_ok c1) (And.intro (jx_in_ok c1) (And.intro (fun zz => absurd zz c2) (fun _ => hn))))⟩
        cases h
        exact ⟨2, And.intro (Or.inl rfl) (And.intro hQ (And.intro rfl rfl))⟩
