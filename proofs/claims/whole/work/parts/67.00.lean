set_option maxRecDepth 20000 in
theorem s_Z_Shade_paceIn {N d : Nat} {p0 : Nat} {x1 : Int32} {x2 : Int32} (hd : 1 ≤ d) (hp : p0 = 32 ∨ p0 = 33 ∨ p0 = 34 ∨ p0 = 35 ∨ p0 = 36 ∨ p0 = 37) {σ : jw_M} {z : (Int32 × jw_M)} {Q : jw_Q} (h : f_Z_Shade_paceIn N p0 x1 x2 σ = some z) (hQ : Q (some (.int z.1)) (jx_ShC, z.2)) : jw_C jp_kd jp_ys d 99 [.ref p0, .int x1, .int x2] (jx_ShC, σ) Q := by
  obtain ⟨d, rfl⟩ : ∃ e, d = e + 1 := ⟨d - 1, by omega⟩
  replace hd : 0 ≤ d := by omega
  refine jx_C rfl rfl ?_
  unfold f_Z_Shade_paceIn at h
  cases h
  exact ⟨2, And.intro hQ (And.intro rfl rfl)⟩
set_option maxRecDepth 20000 in
theorem s_Z_Slow_paceIn {N d : Nat} {p0 : Nat} {x1 : Int32} {x2 : Int32} (hd : 2 ≤ d) (hp : p0 = 36 ∨ p0 = 37) {σ : jw_M} {z : (Int32 × jw_M)} {Q : jw_Q} (h : f_Z_Slow_paceIn N p0 x1 x2 σ = some z) (hQ : Q (some (.int z.1)) (jx_ShC, z.2)) : jw_C jp_kd jp_ys d 106 [.ref p0, .int x1, .int x2] (jx_ShC, σ) Q := by
  obtain ⟨d, rfl⟩ : ∃ e, d = e + 1 := ⟨d - 1, by omega⟩
  replace hd : 1 ≤ d := by omega
  refine jx_C rfl rfl ?_
  rcases hp with rfl | rfl
  · unfold f_Z_Slow_paceIn at h
    obtain ⟨z1, h2, h⟩ := Option.bind_eq_some_iff.mp h
    cases h
    exact ⟨9, s_Z_Shade_paceIn (by omega) (by decide) h2 (And.intro (by decide) (And.intro hQ (And.intro rfl rfl)))⟩
  · unfold f_Z_Slow_paceIn at h
    obtain ⟨z1, h2, h⟩ := Option.bind_eq_some_iff.mp h
    cases h
    exact ⟨9, s_Z_Shade_paceIn (by omega) (by decide) h2 (And.intro (by decide) (And.intro hQ (And.intro rfl rfl)))⟩
set_option maxRecDepth 20000 in
theorem s_Z_Borrowed_paceIn {N d : Nat} {x1 : Int32} {x2 : Int32} (hd : 3 ≤ d) {σ : jw_M} {z : (Int32 × jw_M)} {Q : jw_Q} (h : f_Z_Borrowed_paceIn N x1 x2 σ = some z) (hQ : Q (some (.int z.1)) (jx_ShC, z.2)) : jw_C jp_kd jp_ys d 1 [.ref 37, .int x1, .int x2] (jx_ShC, σ) Q := by
  obtain ⟨d, rfl⟩ : ∃ e, d = e + 1 := ⟨d - 1, by omega⟩
  replace hd : 2 ≤ d := by omega
  refine jx_C rfl rfl ?_
  unfold f_Z_Borrowed_paceIn at h
  obtain ⟨z1, h2, h⟩ := Option.bind_eq_some_iff.mp h
  cases h
  exact ⟨9, s_Z_Slow_paceIn (by omega) (by decide) h2 (And.intro (by decide) (And.intro hQ (And.intro rfl rfl)))⟩
set_option maxRecDepth 20000 in
theorem s_J_abs {N d : Nat} {x0 : Int32} (hd : 1 ≤ d) {σ : jw_M} {z : (Int32 × jw_M)} {Q : jw_Q} (h : f_J_abs N x0 σ = some z) (hQ : Q (some (.int z.1)) (jx_ShC, z.2)) : jw_C jp_kd jp_ys d 320 [.int x0] (jx_ShC, σ) Q := by
  obtain ⟨d, rfl⟩ : ∃ e, d = e + 1 := ⟨d - 1, by omega⟩
  replace hd : 0 ≤ d := by omega
  refine jx_C rfl rfl ?_
  unfold f_J_abs at h
  by_cases c1 : 0 ≤ x0
  · rw [if_pos c1] at h
    suffices hh : ∃ n, jx_W jx_ShC d (some .int) jc_320 Q n 9 [some (.int x0)] [] σ by
      obtain ⟨n, hn⟩ := hh
      exact ⟨n + 2, And.intro (fun _ => hn) (fun zz => absurd c1 zz)⟩
    cases h
    exact ⟨2, And.intro hQ (And.intro rfl rfl)⟩
  · rw [if_neg c1] at h
    suffices hh : ∃ n, jx_W jx_ShC d (some .int) jc_320 Q n 4 [some (.int x0)] [] σ by
      obtain ⟨n, hn⟩ := hh
      exact ⟨n + 2, And.intro (fun zz => absurd zz c1) (fun _ => hn)⟩
    cases h
    exact ⟨4, And.intro hQ (And.intro rfl rfl)⟩
set_option maxRecDepth 20000 in
theorem s_Z_Slow_lengthIn {N d : Nat} {p0 : Nat} {x1 : Int32} {x2 : Int32} (hd : 2 ≤ d) (hp : p0 = 36 ∨ p0 = 37) {σ : jw_M} {z : (Int32 × jw_M)} {Q : jw_Q} (h : f_Z_Slow_lengthIn N p0 x1 x2 σ = some z) (hQ : Q (some (.int z.1)) (jx_ShC, z.2)) : jw_C jp_kd jp_ys d 107 [.ref p0, .int x1, .int x2] (jx_ShC, σ) Q := by
  obtain ⟨d, rfl⟩ : ∃ e, d = e + 1 := ⟨d - 1, by omega⟩
  replace hd : 1 ≤ d := by omega
  refine jx_C rfl rfl ?_
  unfold f_Z_Slow_lengthIn at h
  obtain ⟨z1, h2, h⟩ := Option.bind_eq_some_iff.mp h
  cases h
  exact ⟨7, s_J_abs (by omega) h2 (And.intro hQ (And.intro rfl rfl))⟩
set_option maxRecDepth 20000 in
theorem s_Z_Borrowed_lengthIn {N d : Nat} {x1 : Int32} {x2 : Int32} (hd : 3 ≤ d) {σ : jw_M} {z : (Int32 × jw_M)} {Q : jw_Q} (h : f_Z_Borrowed_lengthIn N x1 x2 σ = some z) (hQ : Q (some (.int z.1)) (jx_ShC, z.2)) : jw_C jp_kd jp_ys d 2 [.ref 37, .int x1, .int x2] (jx_ShC, σ) Q := by
  obtain ⟨d, rfl⟩ : ∃ e, d = e + 1 := ⟨d - 1, by omega⟩
  replace hd : 2 ≤ d := by omega
  refine jx_C rfl rfl ?_
  unfold f_Z_Borrowed_lengthIn at h
  obtain ⟨z1, h2, h⟩ := Option.bind_eq_some_iff.mp h
  cases h
  exact ⟨7, s_Z_Slow_lengthIn (by omega) (by decide) h2 (And.intro hQ (And.intro rfl rfl))⟩
set_option maxRecDepth 20000 in
theorem s_H_begins {N d : Nat} {x1 : Int32} (hd : 1 ≤ d) {σ : jw_M} {z : jw_M} {Q : jw_Q} (h : f_H_begins N x1 σ = some z) (hQ : Q none (jx_ShC, z)) : jw_C jp_kd jp_ys d 25 [.ref 121, .int x1] (jx_ShC, σ) Q := by
  obtain ⟨d, rfl⟩ : ∃ e, d = e + 1 := ⟨d - 1, by omega⟩
  replace hd : 0 ≤ d := by omega
  refine jx_C rfl rfl ?_
  unfold f_H_begins at h
  by_cases c1 : (σ.1 121 8) = 0
  · rw [if_pos c1] at h
    suffices hh : ∃ n, jx_W jx_ShC d none jc_25 Q n 7 [some (.ref 121), some (.int x1)] [] σ by
      obtain ⟨n, hn⟩ := hh
      exact ⟨n + 3, And.intro (fun zz => absurd c1 zz) (fun _ => hn)⟩
    by_cases c2 : 30 ≤ (σ.1 121 7)
    · rw [if_pos c2] at h
      suffices hh : ∃ n, jx_W jx_ShC d none jc_25 Q n 36 [some (.ref 121), some (.int x1)] [] σ by
        obtain ⟨n, hn⟩ := hh
        exact ⟨n + 4, And.intro (fun _ => hn) (fun zz => absurd c2 zz)⟩
      cases h
      exact ⟨1, And.intro hQ (And.intro rfl rfl)⟩
    · rw [if_neg c2] at h
      suffices hh : ∃ n, jx_W jx_ShC d none jc_25 Q n 16 [some (.ref 121), some (.int x1)] [] σ by
        obtain ⟨n, hn⟩ := hh
        exact ⟨n + 4, And.intro (fun zz => absurd zz c2) (fun _ => hn)⟩
      cases c3 : jx_in (σ.1 121 7) 30 with
      | false => rw [c3, cond_false] at h; cases h
      | true =>
        rw [c3, cond_true] at h
        cases h
        exact ⟨13, And.intro (jx_in_ok c3) (And.intro hQ (And.intro rfl rfl))⟩
  · rw [if_neg c1] at h
    suffices hh : ∃ n, jx_W jx_ShC d none jc_25 Q n 36 [some (.ref 121), some (.int x1)] [] σ by
      obtain ⟨n, hn⟩ := hh
      exact ⟨n + 3, And.intro (fun _ => hn) (fun zz => absurd zz c1)⟩
    cases h
    exact ⟨1, And.intro hQ (And.intro rfl rfl)⟩
set_option maxRecDepth 20000 in
theorem s_Z_Shade_lies {N d : Nat} {p0 : Nat} {x2 : Int32} (hd : 2 ≤ d) (hp : p0 = 32 ∨ p0 = 33 ∨ p0 = 34 ∨ p0 = 35 ∨ p0 = 36 ∨ p0 = 37) {σ : jw_M} {z : (Int32 × jw_M)} {Q : jw_Q} (h : f_Z_Shade_lies N p0 x2 σ = some z) (hQ : Q (some (.int z.1)) (jx_ShC, z.2)) : jw_C jp_kd jp_ys d 101 [.ref p0, .ref 121, .int x2] (jx_ShC, σ) Q := by
  obtain ⟨d, rfl⟩ : ∃ e, d = e + 1 := ⟨d - 1, by omega⟩
  replace hd : 1 ≤ d := by omega
  refine jx_C rfl rfl ?_
  unfold f_Z_Shade_lies at h
  obtain ⟨z1, h2, h⟩ := Option.bind_eq_some_iff.mp h
  cases h
  exact ⟨10, s_H_begins (by omega) h2 (And.intro hQ (And.intro rfl rfl))⟩
set_option maxRecDepth 20000 in
theorem s_Z_Coloured_lies {N d : Nat} {x2 : Int32} (hd : 3 ≤ d) {σ : jw_M} {z : (Int32 × jw_M)} {Q : jw_Q} (h : f_Z_Coloured_lies N x2 σ = some z) (hQ : Q (some (.int z.1)) (jx_ShC, z.2)) : jw_C jp_kd jp_ys d 8 [.ref 35, .ref 121, .int x2] (jx_ShC, σ) Q := by
  obtain ⟨d, rfl⟩ : ∃ e, d = e + 1 := ⟨d - 1, by omega⟩
  replace hd : 2 ≤ d := by omega
  refine jx_C rfl rfl ?_
  unfold f_Z_Coloured_lies at h
  obtain ⟨z1, h2, h⟩ := Option.bind_eq_some_iff.mp h
  obtain ⟨z3, h4, h⟩ := Option.bind_eq_some_iff.mp h
  cases h
  exact ⟨10, s_H_begins (by omega) h2 (s_Z_Shade_lies (by omega) (by decide) h4 (And.intro hQ (And.intro rfl rfl)))⟩
set_option maxRecDepth 20000 in
theorem s_Z_Joined_lies {N d : Nat} {x2 : Int32} (hd : 3 ≤ d) {σ : jw_M} {z : (Int32 × jw_M)} {Q : jw_Q} (h : f_Z_Joined_lies N x2 σ = some z) (hQ : Q (some (.int z.1)) (jx_ShC, z.2)) : jw_C jp_kd jp_ys d 29 [.ref 33, .ref 121, .int x2] (jx_ShC, σ) Q := by
  obtain ⟨d, rfl⟩ : ∃ e, d = e + 1 := ⟨d - 1, by omega⟩
  replace hd : 2 ≤ d := by omega
  refine jx_C rfl rfl ?_
  unfold f_Z_Joined_lies at h
  obtain ⟨z1, h2, h⟩ := Option.bind_eq_some_iff.mp h
  obtain ⟨z3, h4, h⟩ := Option.bind_eq_some_iff.mp h
  cases h
  exact ⟨11, s_H_begins (by omega) h2 (s_Z_Shade_lies (by omega) (by decide) h4 (And.intro hQ (And.intro rfl rfl)))⟩
set_option maxRecDepth 20000 in
theorem s_Z_Shade_turns {N d : Nat} {p0 : Nat} {x2 : Int32} (hd : 4 ≤ d) (hp : p0 = 32 ∨ p0 = 33 ∨ p0 = 34 ∨ p0 = 35 ∨ p0 = 36 ∨ p0 = 37) {σ : jw_M} {z : (Int32 × jw_M)} {Q : jw_Q} (h : f_Z_Shade_turns N p0 x2 σ = some z) (hQ : Q (some (.int z.1)) (jx_ShC, z.2)) : jw_C jp_kd jp_ys d 102 [.ref p0, .ref 121, .int x2] (jx_ShC, σ) Q := by
  obtain ⟨d, rfl⟩ : ∃ e, d = e + 1 := ⟨d - 1, by omega⟩
  replace hd : 3 ≤ d := by omega
  refine jx_C rfl rfl ?_
  rcases hp with rfl | rfl | rfl | rfl | rfl | rfl
  · unfold f_Z_Shade_turns at h
    obtain ⟨z1, h2, h⟩ := Option.bind_eq_some_iff.mp h
    obtain ⟨z3, h4, h⟩ := Option.bind_eq_some_iff.mp h
    rw [if_pos rfl] at h4
    cases h
    exact ⟨11, s_H_begins (by omega) h2 (s_Z_Shade_lies (by omega) (by decide) h4 (And.intro hQ (And.intro rfl rfl)))⟩
  · unfold f_Z_Shade_turns at h
    obtain ⟨z1, h2, h⟩ := Option.bind_eq_some_iff.mp h
    obtain ⟨z3, h4, h⟩ := Option.bind_eq_some_iff.mp h
    rw [if_neg (by decide), if_pos rfl] at h4
    cases h
    exact ⟨11, s_H_begins (by omega) h2 (s_Z_Joined_lies (by omega) h4 (And.intro hQ (And.intro rfl rfl)))⟩
  · unfold f_Z_Shade_turns at h
    obtain ⟨z1, h2, h⟩ := Option.bind_eq_some_iff.mp h
    obtain ⟨z3, h4, h⟩ := Option.bind_eq_some_iff.mp h
    rw [if_neg (by decide), if_neg (by decide), if_pos rfl] at h4
    cases h
    exact ⟨11, s_H_begins (by omega) h2 (s_Z_Shade_lies (by omega) (by decide) h4 (And.intro hQ (And.intro rfl rfl)))⟩
  · unfold f_Z_Shade_turns at h
    obtain ⟨z1, h2, h⟩ := Option.bind_eq_some_iff.mp h
    obtain ⟨z3, h4, h⟩ := Option.bind_eq_some_iff.mp h
    rw [if_neg (by decide), if_neg (by decide), if_neg (by decide), if_pos rfl] at h4
    cases h
    exact ⟨11, s_H_begins (by omega) h2 (s_Z_Coloured_lies (by omega) h4 (And.intro hQ (And.intro rfl rfl)))⟩
  · unfold f_Z_Shade_turns at h
    obtain ⟨z1, h2, h⟩ := Option.bind_eq_some_iff.mp h
    obtain ⟨z3, h4, h⟩ := Option.bind_eq_some_iff.mp h
    rw [if_neg (by decide), if_neg (by decide), if_neg (by decide), if_neg (by decide), if_pos rfl] at h4
    cases h
    exact ⟨11, s_H_begins (by omega) h2 (s_Z_Shade_lies (by omega) (by decide) h4 (And.intro hQ (And.intro rfl rfl)))⟩
  · unfold f_Z_Shade_turns at h
    obtain ⟨z1, h2, h⟩ := Option.bind_eq_some_iff.mp h
    obtain ⟨z3, h4, h⟩ := Option.bind_eq_some_iff.mp h
    rw [if_neg (by decide), if_neg (by decide), if_neg (by decide), if_neg (by decide), if_neg (by decide), if_pos rfl] at h4
    cases h
    exact ⟨11, s_H_begins (by omega) h2 (s_Z_Shade_lies (by omega) (by decide) h4 (And.intro hQ (And.intro rfl rfl)))⟩
set_option maxRecDepth 20000 in
theorem s_Z_Borrowed_turns {N d : Nat} {x2 : Int32} (hd : 5 ≤ d) {σ : jw_M} {z : (Int32 × jw_M)} {Q : jw_Q} (h : f_Z_Borrowed_turns N x2 σ = some z) (hQ : Q (some (.int z.1)) (jx_ShC, z.2)) : jw_C jp_kd jp_ys d 3 [.ref 37, .ref 121, .int x2] (jx_ShC, σ) Q := by
  obtain ⟨d, rfl⟩ : ∃ e, d = e + 1 := ⟨d - 1, by omega⟩
  replace hd : 4 ≤ d := by omega
  refine jx_C rfl rfl ?_
  unfold f_Z_Borrowed_turns at h
  obtain ⟨z1, h2, h⟩ := Option.bind_eq_some_iff.mp h
  obtain ⟨z3, h4, h⟩ := Option.bind_eq_some_iff.mp h
  cases h
  exact ⟨10, s_H_begins (by omega) h2 (s_Z_Shade_turns (by omega) (by decide) h4 (And.intro hQ (And.intro rfl rfl)))⟩
set_option maxRecDepth 20000 in
theorem s_H_part {N d : Nat} {x1 : Int32} {x2 : Int32} (hd : 1 ≤ d) {σ : jw_M} {z : (Int32 × jw_M)} {Q : jw_Q} (h : f_H_part N x1 x2 σ = some z) (hQ : Q (some (.int z.1)) (jx_ShC, z.2)) : jw_C jp_kd jp_ys d 26 [.ref 121, .int x1, .int x2] (jx_ShC, σ) Q := by
  obtain ⟨d, rfl⟩ : ∃ e, d = e + 1 := ⟨d - 1, by omega⟩
  replace hd : 0 ≤ d := by omega
  refine jx_C rfl rfl ?_
  unfold f_H_part at h
  by_cases c1 : x2 = 0
  · rw [if_pos c1] at h
    suffices hh : ∃ n, jx_W jx_ShC d (some .int) jc_26 Q n 4 [some (.ref 121), some (.int x1), some (.int x2)] [] σ by
      obtain ⟨n, hn⟩ := hh
      exact ⟨n + 2, And.intro (fun zz => absurd c1 zz) (fun _ => hn)⟩
    cases h
    exact ⟨5, And.intro (Or.inr rfl) (And.intro hQ (And.intro rfl rfl))⟩
  · rw [if_neg c1] at h
    suffices hh : ∃ n, jx_W jx_ShC d (some .int) jc_26 Q n 11 [some (.ref 121), some (.int x1), some (.int x2)] [] σ by
      obtain ⟨n, hn⟩ := hh
      exact ⟨n + 2, And.intro (fun _ => hn) (fun zz => absurd zz c1)⟩
    by_cases c2 : x2 = 0
    · rw [if_pos c2] at h
      cases h
    · rw [if_neg c2] at h
      cases h
      exact ⟨4, And.intro c2 (And.intro hQ (And.intro rfl rfl))⟩
set_option maxRecDepth 20000 in
theorem s_Z_Shade_folds {N d : Nat} {p0 : Nat} {x2 : Int32} (hd : 2 ≤ d) (hp : p0 = 32 ∨ p0 = 33 ∨ p0 = 34 ∨ p0 = 35 ∨ p0 = 36 ∨ p0 = 37) {σ : jw_M} {z : (Int32 × jw_M)} {Q : jw_Q} (h : f_Z_Shade_folds N p0 x2 σ = some z) (hQ : Q (some (.int z.1)) (jx_ShC, z.2)) : jw_C jp_kd jp_ys d 103 [.ref p0, .ref 121, .int x2] (jx_ShC, σ) Q := by
  obtain ⟨d, rfl⟩ : ∃ e, d = e + 1 := ⟨d - 1, by omega⟩
  replace hd : 1 ≤ d := by omega
  refine jx_C rfl rfl ?_
  unfold f_Z_Shade_folds at h
  obtain ⟨z1, h2, h⟩ := Option.bind_eq_some_iff.mp h
  obtain ⟨z3, h4, h⟩ := Option.bind_eq_some_iff.mp h
  cases h
  exact ⟨12, s_H_begins (by omega) h2 (s_H_part (by omega) h4 (And.intro hQ (And.intro rfl rfl)))⟩
set_option maxRecDepth 20000 in
theorem s_Z_Slow_folds {N d : Nat} {p0 : Nat} {x2 : Int32} (hd : 3 ≤ d) (hp : p0 = 36 ∨ p0 = 37) {σ : jw_M} {z : (Int32 × jw_M)} {Q : jw_Q} (h : f_Z_Slow_folds N p0 x2 σ = some z) (hQ : Q (some (.int z.1)) (jx_ShC, z.2)) : jw_C jp_kd jp_ys d 108 [.ref p0, .ref 121, .int x2] (jx_ShC, σ) Q := by
  obtain ⟨d, rfl⟩ : ∃ e, d = e + 1 := ⟨d - 1, by omega⟩
  replace hd : 2 ≤ d := by omega
  refine jx_C rfl rfl ?_
  rcases hp with rfl | rfl
  · unfold f_Z_Slow_folds at h
    obtain ⟨z1, h2, h⟩ := Option.bind_eq_some_iff.mp h
    obtain ⟨z3, h4, h⟩ := Option.bind_eq_some_iff.mp h
    cases h
    exact ⟨10, s_H_begins (by omega) h2 (s_Z_Shade_folds (by omega) (by decide) h4 (And.intro hQ (And.intro rfl rfl)))⟩
  · unfold f_Z_Slow_folds at h
    obtain ⟨z1, h2, h⟩ := Option.bind_eq_some_iff.mp h
    obtain ⟨z3, h4, h⟩ := Option.bind_eq_some_iff.mp h
    cases h
    exact ⟨10, s_H_begins (by omega) h2 (s_Z_Shade_folds (by omega) (by decide) h4 (And.intro hQ (And.intro rfl rfl)))⟩
set_option maxRecDepth 20000 in
theorem s_Z_Borrowed_folds {N d : Nat} {x2 : Int32} (hd : 4 ≤ d) {σ : jw_M} {z : (Int32 × jw_M)} {Q : jw_Q} (h : f_Z_Borrowed_folds N x2 σ = some z) (hQ : Q (some (.int z.1)) (jx_ShC, z.2)) : jw_C jp_kd jp_ys d 4 [.ref 37, .ref 121, .int x2] (jx_ShC, σ) Q := by
  obtain ⟨d, rfl⟩ : ∃ e, d = e + 1 := ⟨d - 1, by omega⟩
  replace hd : 3 ≤ d := by omega
  refine jx_C rfl rfl ?_
  unfold f_Z_Borrowed_folds at h
  obtain ⟨z1, h2, h⟩ := Option.bind_eq_some_iff.mp h
  obtain ⟨z3, h4, h⟩ := Option.bind_eq_some_iff.mp h
  obtain ⟨z5, h6, h⟩ := Option.bind_eq_some_iff.mp h
  cases h
  exact ⟨16, s_H_begins (by omega) h2 (s_Z_Slow_folds (by omega) (by decide) h4 (s_Z_Shade_lies (by omega) (by decide) h6 (And.intro hQ (And.intro rfl rfl))))⟩
set_option maxRecDepth 20000 in
theorem s_Z_Gifted_paceIn {N d : Nat} {p0 : Nat} {x1 : Int32} {x2 : Int32} (hd : 2 ≤ d) (hp : p0 = 34 ∨ p0 = 35) {σ : jw_M} {z : (Int32 × jw_M)} {Q : jw_Q} (h : f_Z_Gifted_paceIn N p0 x1 x2 σ = some z) (hQ : Q (some (.int z.1)) (jx_ShC, z.2)) : jw_C jp_kd jp_ys d 11 [.ref p0, .int x1, .int x2] (jx_ShC, σ) Q := by
  obtain ⟨d, rfl⟩ : ∃ e, d = e + 1 := ⟨d - 1, by omega⟩
  replace hd : 1 ≤ d := by omega
  refine jx_C rfl rfl ?_
  rcases hp with rfl | rfl
  · unfold f_Z_Gifted_paceIn at h
    by_cases c1 : x1 = 6
    · rw [if_pos c1] at h
      suffices hh : ∃ n, jx_W jx_ShC d (some .int) jc_11 Q n 6 [some (.ref 34), some (.int x1), some (.int x2)] [] σ by
        obtain ⟨n, hn⟩ := hh
        exact ⟨n + 3, And.intro (fun zz => absurd c1 zz) (fun _ => hn)⟩
      cases h
      exact ⟨3, And.intro hQ (And.intro rfl rfl)⟩
    · rw [if_neg c1] at h
      suffices hh : ∃ n, jx_W jx_ShC d (some .int) jc_11 Q n 10 [some (.ref 34), some (.int x1), some (.int x2)] [] σ by
        obtain ⟨n, hn⟩ := hh
        exact ⟨n + 3, And.intro (fun _ => hn) (fun zz => absurd zz c1)⟩
      obtain ⟨z2, h3, h⟩ := Option.bind_eq_some_iff.mp h
      cases h
      exact ⟨7, s_Z_Shade_paceIn (by omega) (by decide) h3 (And.intro hQ (And.intro rfl rfl))⟩
  · unfold f_Z_Gifted_paceIn at h
    by_cases c1 : x1 = 6
    · rw [if_pos c1] at h
      suffices hh : ∃ n, jx_W jx_ShC d (some .int) jc_11 Q n 6 [some (.ref 35), some (.int x1), some (.int x2)] [] σ by
        obtain ⟨n, hn⟩ := hh
        exact ⟨n + 3, And.intro (fun zz => absurd c1 zz) (fun _ => hn)⟩
      cases h
      exact ⟨3, And.intro hQ (And.intro rfl rfl)⟩
    · rw [if_neg c1] at h
      suffices hh : ∃ n, jx_W jx_ShC d (some .int) jc_11 Q n 10 [some (.ref 35), some (.int x1), some (.int x2)] [] σ by
        obtain ⟨n, hn⟩ := hh
        exact ⟨n + 3, And.intro (fun _ => hn) (fun zz => absurd zz c1)⟩
      obtain ⟨z2, h3, h⟩ := Option.bind_eq_some_iff.mp h
      cases h
      exact ⟨7, s_Z_Shade_paceIn (by omega) (by decide) h3 (And.intro hQ (And.intro rfl rfl))⟩
set_option maxRecDepth 20000 in
theorem s_Z_Coloured_paceIn {N d : Nat} {x1 : Int32} {x2 : Int32} (hd : 3 ≤ d) {σ : jw_M} {z : (Int32 × jw_M)} {Q : jw_Q} (h : f_Z_Coloured_paceIn N x1 x2 σ = some z) (hQ : Q (some (.int z.1)) (jx_ShC, z.2)) : jw_C jp_kd jp_ys d 6 [.ref 35, .int x1, .int x2] (jx_ShC, σ) Q := by
  obtain ⟨d, rfl⟩ : ∃ e, d = e + 1 := ⟨d - 1, by omega⟩
  replace hd : 2 ≤ d := by omega
  refine jx_C rfl rfl ?_
  unfold f_Z_Coloured_paceIn at h
  obtain ⟨z1, h2, h⟩ := Option.bind_eq_some_iff.mp h
  cases h
  exact ⟨7, s_Z_Gifted_paceIn (by omega) (by decide) h2 (And.intro hQ (And.intro rfl rfl))⟩
set_option maxRecDepth 20000 in
theorem s_Z_Shade_lengthIn {N d : Nat} {p0 : Nat} {x1 : Int32} {x2 : Int32} (hd : 2 ≤ d) (hp : p0 = 32 ∨ p0 = 33 ∨ p0 = 34 ∨ p0 = 35) {σ : jw_M} {z : (Int32 × jw_M)} {Q : jw_Q} (h : f_Z_Shade_lengthIn N p0 x1 x2 σ = some z) (hQ : Q (some (.int z.1)) (jx_ShC, z.2)) : jw_C jp_kd jp_ys d 100 [.ref p0, .int x1, .int x2] (jx_ShC, σ) Q := by
  obtain ⟨d, rfl⟩ : ∃ e, d = e + 1 := ⟨d - 1, by omega⟩
  replace hd : 1 ≤ d := by omega
  refine jx_C rfl rfl ?_
  unfold f_Z_Shade_lengthIn at h
  obtain ⟨z1, h2, h⟩ := Option.bind_eq_some_iff.mp h
  cases h
  exact ⟨7, s_J_abs (by omega) h2 (And.intro hQ (And.intro rfl rfl))⟩
set_option maxRecDepth 20000 in
theorem s_J_max {N d : Nat} {x0 : Int32} {x1 : Int32} (hd : 1 ≤ d) {σ : jw_M} {z : (Int32 × jw_M)} {Q : jw_Q} (h : f_J_max N x0 x1 σ = some z) (hQ : Q (some (.int z.1)) (jx_ShC, z.2)) : jw_C jp_kd jp_ys d 321 [.int x0, .int x1] (jx_ShC, σ) Q := by
  obtain ⟨d, rfl⟩ : ∃ e, d = e + 1 := ⟨d - 1, by omega⟩
  replace hd : 0 ≤ d := by omega
  refine jx_C rfl rfl ?_
  unfold f_J_max at h
  by_cases c1 : x0 < x1
  · rw [if_pos c1] at h
    suffices hh : ∃ n, jx_W jx_ShC d (some .int) jc_321 Q n 9 [some (.int x0), some (.int x1)] [] σ by
      obtain ⟨n, hn⟩ := hh
      exact ⟨n + 3, And.intro (fun _ => hn) (fun zz => absurd c1 zz)⟩
    cases h
    exact ⟨2, And.intro hQ (And.intro rfl rfl)⟩
  · rw [if_neg c1] at h
    suffices hh : ∃ n, jx_W jx_ShC d (some .int) jc_321 Q n 5 [some (.int x0), some (.int x1)] [] σ by
      obtain ⟨n, hn⟩ := hh
      exact ⟨n + 3, And.intro (fun zz => absurd zz c1) (fun _ => hn)⟩
    cases h
    exact ⟨3, And.intro hQ (And.intro rfl rfl)⟩
set_option maxRecDepth 20000 in
theorem s_Z_Coloured_lengthIn {N d : Nat} {x1 : Int32} {x2 : Int32} (hd : 3 ≤ d) {σ : jw_M} {z : (Int32 × jw_M)} {Q : jw_Q} (h : f_Z_Coloured_lengthIn N x1 x2 σ = some z) (hQ : Q (some (.int z.1)) (jx_ShC, z.2)) : jw_C jp_kd jp_ys d 7 [.ref 35, .int x1, .int x2] (jx_ShC, σ) Q := by
  obtain ⟨d, rfl⟩ : ∃ e, d = e + 1 := ⟨d - 1, by omega⟩
  replace hd : 2 ≤ d := by omega
  refine jx_C rfl rfl ?_
  unfold f_Z_Coloured_lengthIn at h
  obtain ⟨z1, h2, h⟩ := Option.bind_eq_some_iff.mp h
  obtain ⟨z3, h4, h⟩ := Option.bind_eq_some_iff.mp h
  cases h
  exact ⟨9, s_Z_Shade_lengthIn (by omega) (by decide) h2 (s_J_max (by omega) h4 (And.intro hQ (And.intro rfl rfl)))⟩
set_option maxRecDepth 20000 in
theorem s_Z_Gifted_turns {N d : Nat} {p0 : Nat} {x2 : Int32} (hd : 5 ≤ d) (hp : p0 = 34 ∨ p0 = 35) {σ : jw_M} {z : (Int32 × jw_M)} {Q : jw_Q} (h : f_Z_Gifted_turns N p0 x2 σ = some z) (hQ : Q (some (.int z.1)) (jx_ShC, z.2)) : jw_C jp_kd jp_ys d 12 [.ref p0, .ref 121, .int x2] (jx_ShC, σ) Q := by
  obtain ⟨d, rfl⟩ : ∃ e, d = e + 1 := ⟨d - 1, by omega⟩
  replace hd : 4 ≤ d := by omega
  refine jx_C rfl rfl ?_
  rcases hp with rfl | rfl
  · unfold f_Z_Gifted_turns at h
    obtain ⟨z1, h2, h⟩ := Option.bind_eq_some_iff.mp h
    obtain ⟨z3, h4, h⟩ := Option.bind_eq_some_iff.mp h
    cases h
    exact ⟨10, s_H_begins (by omega) h2 (s_Z_Shade_turns (by omega) (by decide) h4 (And.intro hQ (And.intro rfl rfl)))⟩
  · unfold f_Z_Gifted_turns at h
    obtain ⟨z1, h2, h⟩ := Option.bind_eq_some_iff.mp h
    obtain ⟨z3, h4, h⟩ := Option.bind_eq_some_iff.mp h
    cases h
    exact ⟨10, s_H_begins (by omega) h2 (s_Z_Shade_turns (by omega) (by decide) h4 (And.intro hQ (And.intro rfl rfl)))⟩
set_option maxRecDepth 20000 in
theorem s_Z_Shade_asks {N d : Nat} {p0 : Nat} {x2 : Int32} (hd : 6 ≤ d) (hp : p0 = 32 ∨ p0 = 33 ∨ p0 = 34 ∨ p0 = 35 ∨ p0 = 36 ∨ p0 = 37) {σ : jw_M} {z : (Int32 × jw_M)} {Q : jw_Q} (h : f_Z_Shade_asks N p0 x2 σ = some z) (hQ : Q (some (.int z.1)) (jx_ShC, z.2)) : jw_C jp_kd jp_ys d 104 [.ref p0, .ref 121, .int x2] (jx_ShC, σ) Q := by
  obtain ⟨d, rfl⟩ : ∃ e, d = e + 1 := ⟨d - 1, by omega⟩
  replace hd : 5 ≤ d := by omega
  refine jx_C rfl rfl ?_
  rcases hp with rfl | rfl | rfl | rfl | rfl | rfl
  · unfold f_Z_Shade_asks at h
    obtain ⟨z1, h2, h⟩ := Option.bind_eq_some_iff.mp h
    obtain ⟨z3, h4, h⟩ := Option.bind_eq_some_iff.mp h
    rw [if_pos rfl] at h4
    cases h
    exact ⟨10, s_H_begins (by omega) h2 (s_Z_Shade_turns (by omega) (by decide) h4 (And.intro hQ (And.intro rfl rfl)))⟩
  · unfold f_Z_Shade_asks at h
    obtain ⟨z1, h2, h⟩ := Option.bind_eq_some_iff.mp h
    obtain ⟨z3, h4, h⟩ := Option.bind_eq_some_iff.mp h
    rw [if_neg (by decide), if_pos rfl] at h4
    cases h
    exact ⟨10, s_H_begins (by omega) h2 (s_Z_Shade_turns (by omega) (by decide) h4 (And.intro hQ (And.intro rfl rfl)))⟩
  · unfold f_Z_Shade_asks at h
    obtain ⟨z1, h2, h⟩ := Option.bind_eq_some_iff.mp h
    obtain ⟨z3, h4, h⟩ := Option.bind_eq_some_iff.mp h
    rw [if_neg (by decide), if_neg (by decide), if_pos rfl] at h4
    cases h
    exact ⟨10, s_H_begins (by omega) h2 (s_Z_Gifted_turns (by omega) (by decide) h4 (And.intro hQ (And.intro rfl rfl)))⟩
  · unfold f_Z_Shade_asks at h
    obtain ⟨z1, h2, h⟩ := Option.bind_eq_some_iff.mp h
    obtain ⟨z3, h4, h⟩ := Option.bind_eq_some_iff.mp h
    rw [if_neg (by decide), if_neg (by decide), if_neg (by decide), if_pos rfl] at h4
    cases h
    exact ⟨10, s_H_begins (by omega) h2 (s_Z_Gifted_turns (by omega) (by decide) h4 (And.intro hQ (And.intro rfl rfl)))⟩
  · unfold f_Z_Shade_asks at h
    obtain ⟨z1, h2, h⟩ := Option.bind_eq_some_iff.mp h
    obtain ⟨z3, h4, h⟩ := Option.bind_eq_some_iff.mp h
    rw [if_neg (by decide), if_neg (by decide), if_neg (by decide), if_neg (by decide), if_pos rfl] at h4
    cases h
    exact ⟨10, s_H_begins (by omega) h2 (s_Z_Shade_turns (by omega) (by decide) h4 (And.intro hQ (And.intro rfl rfl)))⟩
  · unfold f_Z_Shade_asks at h
    obtain ⟨z1, h2, h⟩ := Option.bind_eq_some_iff.mp h
    obtain ⟨z3, h4, h⟩ := Option.bind_eq_some_iff.mp h
    rw [if_neg (by decide), if_neg (by decide), if_neg (by decide), if_neg (by decide), if_neg (by decide), if_pos rfl] at h4
    cases h
    exact ⟨10, s_H_begins (by omega) h2 (s_Z_Borrowed_turns (by omega) h4 (And.intro hQ (And.intro rfl rfl)))⟩
set_option maxRecDepth 20000 in
theorem s_Z_Coloured_asks {N d : Nat} {x2 : Int32} (hd : 7 ≤ d) {σ : jw_M} {z : (Int32 × jw_M)} {Q : jw_Q} (h : f_Z_Coloured_asks N x2 σ = some z) (hQ : Q (some (.int z.1)) (jx_ShC, z.2)) : jw_C jp_kd jp_ys d 9 [.ref 35, .ref 121, .int x2] (jx_ShC, σ) Q := by
  obtain ⟨d, rfl⟩ : ∃ e, d = e + 1 := ⟨d - 1, by omega⟩
  replace hd : 6 ≤ d := by omega
  refine jx_C rfl rfl ?_
  unfold f_Z_Coloured_asks at h
  obtain ⟨z1, h2, h⟩ := Option.bind_eq_some_iff.mp h
  obtain ⟨z3, h4, h⟩ := Option.bind_eq_some_iff.mp h
  obtain ⟨z5, h6, h⟩ := Option.bind_eq_some_iff.mp h
  cases h
  exact ⟨16, s_H_begins (by omega) h2 (s_Z_Shade_asks (by omega) (by decide) h4 (s_Z_Shade_folds (by omega) (by decide) h6 (And.intro hQ (And.intro rfl rfl))))⟩
set_option maxRecDepth 20000 in
theorem s_H_isSheet {N d : Nat} {x1 : Int32} (hd : 1 ≤ d) {σ : jw_M} {z : (Int32 × jw_M)} {Q : jw_Q} (h : f_H_isSheet N x1 σ = some z) (hQ : Q (some (.int z.1)) (jx_ShC, z.2)) : jw_C jp_kd jp_ys d 14 [.ref 121, .int x1] (jx_ShC, σ) Q := by
  obtain ⟨d, rfl⟩ : ∃ e, d = e + 1 := ⟨d - 1, by omega⟩
  replace hd : 0 ≤ d := by omega
  refine jx_C rfl rfl ?_
  unfold f_H_isSheet at h
  by_cases c1 : x1 < 0
  · rw [if_pos c1] at h
    suffices hh : ∃ n, jx_W jx_ShC d (some .boolean) jc_14 Q n 13 [some (.ref 121), some (.int x1)] [] σ by
      obtain ⟨n, hn⟩ := hh
      exact ⟨n + 2, And.intro (fun _ => hn) (fun zz => absurd c1 zz)⟩
    cases h
    exact ⟨2, And.intro (Or.inl rfl) (And.intro hQ (And.intro rfl rfl))⟩
  · rw [if_neg c1] at h
    suffices hh : ∃ n, jx_W jx_ShC d (some .boolean) jc_14 Q n 4 [some (.ref 121), some (.int x1)] [] σ by
      obtain ⟨n, hn⟩ := hh
      exact ⟨n + 2, And.intro (fun zz => absurd zz c1) (fun _ => hn)⟩
    by_cases c2 : 4 ≤ x1
    · rw [if_pos c2] at h
      suffices hh : ∃ n, jx_W jx_ShC d (some .boolean) jc_14 Q n 13 [some (.ref 121), some (.int x1)] [] σ by
        obtain ⟨n, hn⟩ := hh
        exact ⟨n + 3, And.intro (fun _ => hn) (fun zz => absurd c2 zz)⟩
      cases h
      exact ⟨2, And.intro (Or.inl rfl) (And.intro hQ (And.intro rfl rfl))⟩
    · rw [if_neg c2] at h
      suffices hh : ∃ n, jx_W jx_ShC d (some .boolean) jc_14 Q n 9 [some (.ref 121), some (.int x1)] [] σ by
        obtain ⟨n, hn⟩ := hh
        exact ⟨n + 3, And.intro (fun zz => absurd zz c2) (fun _ => hn)⟩
      cases h
      exact ⟨3, And.intro (Or.inr rfl) (And.intro hQ (And.intro rfl rfl))⟩
set_option maxRecDepth 20000 in
theorem s_H_isShelf {N d : Nat} {x1 : Int32} (hd : 1 ≤ d) {σ : jw_M} {z : (Int32 × jw_M)} {Q : jw_Q} (h : f_H_isShelf N x1 σ = some z) (hQ : Q (some (.int z.1)) (jx_ShC, z.2)) : jw_C jp_kd jp_ys d 15 [.ref 121, .int x1] (jx_ShC, σ) Q := by
  obtain ⟨d, rfl⟩ : ∃ e, d = e + 1 := ⟨d - 1, by omega⟩
  replace hd : 0 ≤ d := by omega
  refine jx_C rfl rfl ?_
  unfold f_H_isShelf at h
  by_cases c1 : x1 < 0
  · rw [if_pos c1] at h
    suffices hh : ∃ n, jx_W jx_ShC d (some .boolean) jc_15 Q n 13 [some (.ref 121), some (.int x1)] [] σ by
      obtain ⟨n, hn⟩ := hh
      exact ⟨n + 2, And.intro (fun _ => hn) (fun zz => absurd c1 zz)⟩
    cases h
    exact ⟨2, And.intro (Or.inl rfl) (And.intro hQ (And.intro rfl rfl))⟩
  · rw [if_neg c1] at h
    suffices hh : ∃ n, jx_W jx_ShC d (some .boolean) jc_15 Q n 4 [some (.ref 121), some (.int x1)] [] σ by
      obtain ⟨n, hn⟩ := hh
      exact ⟨n + 2, And.intro (fun zz => absurd zz c1) (fun _ => hn)⟩
    by_cases c2 : 4 ≤ x1
    · rw [if_pos c2] at h
      suffices hh : ∃ n, jx_W jx_ShC d (some .boolean) jc_15 Q n 13 [some (.ref 121), some (.int x1)] [] σ by
        obtain ⟨n, hn⟩ := hh
        exact ⟨n + 3, And.intro (fun _ => hn) (fun zz => absurd c2 zz)⟩
      cases h
      exact ⟨2, And.intro (Or.inl rfl) (And.intro hQ (And.intro rfl rfl))⟩
    · rw [if_neg c2] at h
      suffices hh : ∃ n, jx_W jx_ShC d (some .boolean) jc_15 Q n 9 [some (.ref 121), some (.int x1)] [] σ by
        obtain ⟨n, hn⟩ := hh
        exact ⟨n + 3, And.intro (fun zz => absurd zz c2) (fun _ => hn)⟩
      cases h
      exact ⟨3, And.intro (Or.inr rfl) (And.intro hQ (And.intro rfl rfl))⟩
set_option maxRecDepth 20000 in
theorem s_H_hasItem {N d : Nat} {x1 : Int32} {x2 : Int32} (hd : 1 ≤ d) {σ : jw_M} {z : (Int32 × jw_M)} {Q : jw_Q} (h : f_H_hasItem N x1 x2 σ = some z) (hQ : Q (some (.int z.1)) (jx_ShC, z.2)) : jw_C jp_kd jp_ys d 16 [.ref 121, .int x1, .int x2] (jx_ShC, σ) Q := by
  obtain ⟨d, rfl⟩ : ∃ e, d = e + 1 := ⟨d - 1, by omega⟩
  replace hd : 0 ≤ d := by omega
  refine jx_C rfl rfl ?_
  unfold f_H_hasItem at h
  by_cases c1 : x2 < 0
  · rw [if_pos c1] at h
    suffices hh : ∃ n, jx_W jx_ShC d (some .boolean) jc_16 Q n 18 [some (.ref 121), some (.int x1), some (.int x2)] [] σ by
      obtain ⟨n, hn⟩ := hh
      exact ⟨n + 2, And.intro (fun _ => hn) (fun zz => absurd c1 zz)⟩
    cases h
    exact ⟨2, And.intro (Or.inl rfl) (And.intro hQ (And.intro rfl rfl))⟩
  · rw [if_neg c1] at h
    suffices hh : ∃ n, jx_W jx_ShC d (some .boolean) jc_16 Q n 4 [some (.ref 121), some (.int x1), some (.int x2)] [] σ by
      obtain ⟨n, hn⟩ := hh
      exact ⟨n + 2, And.intro (fun zz => absurd zz c1) (fun _ => hn)⟩
    cases c2 : jx_in x1 4 with
    | false => rw [c2, cond_false] at h; cases h
    | true =>
      rw [c2, cond_true] at h
      by_cases c3 : (σ.1 123 (x1).toNatClampNeg) ≤ x2
      · rw [if_pos c3] at h
        suffices hh : ∃ n, jx_W jx_ShC d (some .boolean) jc_16 Q n 18 [some (.ref 121), some (.int x1), some (.int x2)] [] σ by
          obtain ⟨n, hn⟩ := hh
          exact ⟨n + 6, And.intro (jx_in_ok c2) (And.intro (fun _ => hn) (fun zz => absurd c3 zz))⟩
        cases h
        exact ⟨2, And.intro (Or.inl rfl) (And.intro hQ (And.intro rfl rfl))⟩
      · rw [if_neg c3] at h
        suffices hh : ∃ n, jx_W jx_ShC d (some .boolean) jc_16 Q n 14 [some (.ref 121), some (.int x1), some (.int x2)] [] σ by
          obtain ⟨n, hn⟩ := hh
          exact ⟨n + 6, And.intro (jx_in_ok c2) (And.intro (fun zz => absurd zz c3) (fun _ => hn))⟩
        cases h
        exact ⟨3, And.intro (Or.inr rfl) (And.intro hQ (And.intro rfl rfl))⟩
set_option maxRecDepth 20000 in
theorem s_H_hasItems {N d : Nat} {x1 : Int32} {x2 : Int32} {x3 : Int32} (hd : 1 ≤ d) {σ : jw_M} {z : (Int32 × jw_M)} {Q : jw_Q} (h : f_H_hasItems N x1 x2 x3 σ = some z) (hQ : Q (some (.int z.1)) (jx_ShC, z.2)) : jw_C jp_kd jp_ys d 17 [.ref 121, .int x1, .int x2, .int x3] (jx_ShC, σ) Q := by
  obtain ⟨d, rfl⟩ : ∃ e, d = e + 1 := ⟨d - 1, by omega⟩
  replace hd : 0 ≤ d := by omega
  refine jx_C rfl rfl ?_
  unfold f_H_hasItems at h
  by_cases c1 : x2 < 0
  · rw [if_pos c1] at h
    suffices hh : ∃ n, jx_W jx_ShC d (some .boolean) jc_17 Q n 20 [some (.ref 121), some (.int x1), some (.int x2), some (.int x3)] [] σ by
      obtain ⟨n, hn⟩ := hh
      exact ⟨n + 2, And.intro (fun _ => hn) (fun zz => absurd c1 zz)⟩
    cases h
    exact ⟨2, And.intro (Or.inl rfl) (And.intro hQ (And.intro rfl rfl))⟩
  · rw [if_neg c1] at h
    suffices hh : ∃ n, jx_W jx_ShC d (some .boolean) jc_17 Q n 4 [some (.ref 121), some (.int x1), some (.int x2), some (.int x3)] [] σ by
      obtain ⟨n, hn⟩ := hh
      exact ⟨n + 2, And.intro (fun zz => absurd zz c1) (fun _ => hn)⟩
    cases c2 : jx_in x1 4 with
    | false => rw [c2, cond_false] at h; cases h
    | true =>
      rw [c2, cond_true] at h
      by_cases c3 : ((σ.1 123 (x1).toNatClampNeg) - x3) < x2
      · rw [if_pos c3] at h
        suffices hh : ∃ n, jx_W jx_ShC d (some .boolean) jc_17 Q n 20 [some (.ref 121), some (.int x1), some (.int x2), some (.int x3)] [] σ by
          obtain ⟨n, hn⟩ := hh
          exact ⟨n + 8, And.intro (jx_in_ok c2) (And.intro (fun _ => hn) (fun zz => absurd c3 zz))⟩
        cases h
        exact ⟨2, And.intro (Or.inl rfl) (And.intro hQ (And.intro rfl rfl))⟩
      · rw [if_neg c3] at h
        suffices hh : ∃ n, jx_W jx_ShC d (some .boolean) jc_17 Q n 16 [some (.ref 121), some (.int x1), some (.int x2), some (.int x3)] [] σ by
          obtain ⟨n, hn⟩ := hh
          exact ⟨n + 8, And.intro (jx_in_ok c2) (And.intro (fun zz => absurd zz c3) (fun _ => hn))⟩
        cases h
        exact ⟨3, And.intro (Or.inr rfl) (And.intro hQ (And.intro rfl rfl))⟩
set_option maxRecDepth 20000 in
theorem s_H_refusalAs {N d : Nat} {x1 : Int32} {x2 : Int32} (hd : 1 ≤ d) {σ : jw_M} {z : (Int32 × jw_M)} {Q : jw_Q} (h : f_H_refusalAs N x1 x2 σ = some z) (hQ : Q (some (.int z.1)) (jx_ShC, z.2)) : jw_C jp_kd jp_ys d 18 [.ref 121, .int x1, .int x2] (jx_ShC, σ) Q := by
  obtain ⟨d, rfl⟩ : ∃ e, d = e + 1 := ⟨d - 1, by omega⟩
  replace hd : 0 ≤ d := by omega
  refine jx_C rfl rfl ?_
  unfold f_H_refusalAs at h
  cases c1 : jx_in x1 4 with
  | false => rw [c1, cond_false] at h; cases h
  | true =>
    rw [c1, cond_true] at h
    by_cases c2 : (σ.1 122 (x1).toNatClampNeg) = (-1)
    · rw [if_pos c2] at h
      suffices hh : ∃ n, jx_W jx_ShC d (some .int) jc_18 Q n 10 [some (.ref 121), some (.int x1), some (.int x2)] [] σ by
        obtain ⟨n, hn⟩ := hh
        exact ⟨n + 6, And.intro (jx_in_ok c1) (And.intro (fun zz => absurd c2 zz) (fun _ => hn))⟩
      cases h
      exact ⟨2, And.intro hQ (And.intro rfl rfl)⟩
    · rw [if_neg c2] at h
      suffices hh : ∃ n, jx_W jx_ShC d (some .int) jc_18 Q n 13 [some (.ref 121), some (.int x1), some (.int x2)] [] σ by
        obtain ⟨n, hn⟩ := hh
        exact ⟨n + 6, And.intro (jx_in_ok c1) (And.intro (fun _ => hn) (fun zz => absurd zz c2))⟩
      by_cases c3 : (σ.1 122 (x1).toNatClampNeg) = x2
      · rw [if_pos c3] at h
        suffices hh : ∃ n, jx_W jx_ShC d (some .int) jc_18 Q n 23 [some (.ref 121), some (.int x1), some (.int x2)] [] σ by
          obtain ⟨n, hn⟩ := hh
          exact ⟨n + 6, And.intro (jx_in_ok c1) (And.intro (fun zz => absurd c3 zz) (fun _ => hn))⟩
        cases h
        exact ⟨3, And.intro hQ (And.intro rfl rfl)⟩
      · rw [if_neg c3] at h
        suffices hh : ∃ n, jx_W jx_ShC d (some .int) jc_18 Q n 27 [some (.ref 121), some (.int x1), some (.int x2)] [] σ by
          obtain ⟨n, hn⟩ := hh
          exact ⟨n + 6, And.intro (jx_in_ok c1) (And.intro (fun _ => hn) (fun zz => absurd zz c3))⟩
        cases h
        exact ⟨2, And.intro hQ (And.intro rfl rfl)⟩
set_option maxRecDepth 20000 in
theorem s_H_makeRow_29 {N d : Nat} {Q : jw_Q} (hd : 2 ≤ d) {r_0 : Nat} {u0 : Option Value} {u1 : Option Value} {u2 : Option Value} {u3 : Option Value} {σ : jw_M} {z : jw_M} (hr_0 : r_0 = 125 ∨ r_0 = 126 ∨ r_0 = 127 ∨ r_0 = 128) (h : f_H_makeRow_29 N r_0 σ = some z) (hQ : Q none (jx_ShC, z)) : ∃ n, jx_W jx_ShC d none jc_19 Q n 29 [u0, u1, u2, u3] [.ref r_0] σ := by
  rcases hr_0 with rfl | rfl | rfl | rfl
  · unfold f_H_makeRow_29 at h
    obtain ⟨z5, h6, h⟩ := Option.bind_eq_some_iff.mp h
    cases h
    exact ⟨3, s_J_fill (by omega) rfl h6 (And.intro hQ (And.intro rfl rfl))⟩
  · unfold f_H_makeRow_29 at h
    obtain ⟨z5, h6, h⟩ := Option.bind_eq_some_iff.mp h
    cases h
    exact ⟨3, s_J_fill (by omega) rfl h6 (And.intro hQ (And.intro rfl rfl))⟩
  · unfold f_H_makeRow_29 at h
    obtain ⟨z5, h6, h⟩ := Option.bind_eq_some_iff.mp h
    cases h
    exact ⟨3, s_J_fill (by omega) rfl h6 (And.intro hQ (And.intro rfl rfl))⟩
  · unfold f_H_makeRow_29 at h
    obtain ⟨z5, h6, h⟩ := Option.bind_eq_some_iff.mp h
    cases h
    exact ⟨3, s_J_fill (by omega) rfl h6 (And.intro hQ (And.intro rfl rfl))⟩
set_option maxRecDepth 20000 in
theorem s_H_makeRow_28 {N d : Nat} {Q : jw_Q} (hd : 2 ≤ d) {y1 : Int32} {u0 : Option Value} {u1 : Option Value} {u2 : Option Value} {u3 : Option Value} {σ : jw_M} {z : jw_M} (h : f_H_makeRow_28 N y1 σ = some z) (hQ : Q none (jx_ShC, z)) : ∃ n, jx_W jx_ShC d none jc_19 Q n 28 [u0, u1, u2, u3] [.int y1, .ref 124] σ := by
  unfold f_H_makeRow_28 at h
  cases c4 : jx_in y1 4 with
  | false => rw [c4, cond_false] at h; cases h
  | true =>
    rw [c4, cond_true] at h
    rcases jx_ix4 (jx_in_ok c4) with rfl | rfl | rfl | rfl
    · try rw [show (125 + (0 : Int32).toNatClampNeg) = 125 from by decide] at h
      obtain ⟨n, hn⟩ := s_H_makeRow_29 hd (u0 := u0) (u1 := u1) (u2 := u2) (u3 := u3) (by decide) h hQ
      exact ⟨n + 1, And.intro (jx_in_ok c4) (hn)⟩
    · try rw [show (125 + (1 : Int32).toNatClampNeg) = 126 from by decide] at h
      obtain ⟨n, hn⟩ := s_H_makeRow_29 hd (u0 := u0) (u1 := u1) (u2 := u2) (u3 := u3) (by decide) h hQ
      exact ⟨n + 1, And.intro (jx_in_ok c4) (hn)⟩
    · try rw [show (125 + (2 : Int32).toNatClampNeg) = 127 from by decide] at h
      obtain ⟨n, hn⟩ := s_H_makeRow_29 hd (u0 := u0) (u1 := u1) (u2 := u2) (u3 := u3) (by decide) h hQ
      exact ⟨n + 1, And.intro (jx_in_ok c4) (hn)⟩
    · try rw [show (125 + (3 : Int32).toNatClampNeg) = 128 from by decide] at h
      obtain ⟨n, hn⟩ := s_H_makeRow_29 hd (u0 := u0) (u1 := u1) (u2 := u2) (u3 := u3) (by decide) h hQ
      exact ⟨n + 1, And.intro (jx_in_ok c4) (hn)⟩
set_option maxRecDepth 20000 in
theorem s_H_makeRow_22 {N d : Nat} {Q : jw_Q} (hd : 2 ≤ d) {x1 : Int32} {y1 : Int32} {y2 : Int32} {u2 : Option Value} {u3 : Option Value} {σ : jw_M} {z : jw_M} (h : f_H_makeRow_22 N x1 y1 y2 σ = some z) (hQ : Q none (jx_ShC, z)) : ∃ n, jx_W jx_ShC d none jc_19 Q n 22 [some (.ref 121), some (.int x1), u2, u3] [.int y2, .int y1, .ref 123] σ := by
  unfold f_H_makeRow_22 at h
  cases c3 : jx_in y1 4 with
  | false => rw [c3, cond_false] at h; cases h
  | true =>
    rw [c3, cond_true] at h
    obtain ⟨n, hn⟩ := s_H_makeRow_28 hd (u0 := some (.ref 121)) (u1 := some (.int x1)) (u2 := u2) (u3 := u3) h hQ
    exact ⟨n + 4, And.intro (jx_in_ok c3) (hn)⟩
set_option maxRecDepth 20000 in
theorem s_H_makeRow {N d : Nat} {x1 : Int32} {x2 : Int32} {x3 : Int32} (hd : 3 ≤ d) {σ : jw_M} {z : jw_M} {Q : jw_Q} (h : f_H_makeRow N x1 x2 x3 σ = some z) (hQ : Q none (jx_ShC, z)) : jw_C jp_kd jp_ys d 19 [.ref 121, .int x1, .int x2, .int x3] (jx_ShC, σ) Q := by
  obtain ⟨d, rfl⟩ : ∃ e, d = e + 1 := ⟨d - 1, by omega⟩
  replace hd : 2 ≤ d := by omega
  refine jx_C rfl rfl ?_
  unfold f_H_makeRow at h
  cases c1 : jx_in x1 4 with
  | false => rw [c1, cond_false] at h; cases h
  | true =>
    rw [c1, cond_true] at h
    by_cases c2 : x2 = (-1)
    · rw [if_pos c2] at h
      suffices hh : ∃ n, jx_W jx_ShC d none jc_19 Q n 17 [some (.ref 121), some (.int x1), some (.int x2), some (.int x3)] [.int x1, .ref 123] (jx_w σ 122 (x1).toNatClampNeg x2) by
        obtain ⟨n, hn⟩ := hh
        exact ⟨n + 11, And.intro (jx_in_ok c1) (And.intro (fun zz => absurd c2 zz) (fun _ => hn))⟩
      obtain ⟨n, hn⟩ := s_H_makeRow_22 hd (u2 := some (.int x2)) (u3 := some (.int x3)) h hQ
      exact ⟨n + 2, hn⟩
    · rw [if_neg c2] at h
      suffices hh : ∃ n, jx_W jx_ShC d none jc_19 Q n 21 [some (.ref 121), some (.int x1), some (.int x2), some (.int x3)] [.int x1, .ref 123] (jx_w σ 122 (x1).toNatClampNeg x2) by
        obtain ⟨n, hn⟩ := hh
        exact ⟨n + 11, And.intro (jx_in_ok c1) (And.intro (fun _ => hn) (fun zz => absurd zz c2))⟩
      obtain ⟨n, hn⟩ := s_H_makeRow_22 hd (u2 := some (.int x2)) (u3 := some (.int x3)) h hQ
      exact ⟨n + 1, hn⟩
set_option maxRecDepth 20000 in
theorem s_H_itemAt_6 {N d : Nat} {Q : jw_Q} (hd : 0 ≤ d) {x2 : Int32} {r_0 : Nat} {u0 : Option Value} {u1 : Option Value} {σ : jw_M} {z : (Int32 × jw_M)} (hr_0 : r_0 = 125 ∨ r_0 = 126 ∨ r_0 = 127 ∨ r_0 = 128) (h : f_H_itemAt_6 N x2 r_0 σ = some z) (hQ : Q (some (.int z.1)) (jx_ShC, z.2)) : ∃ n, jx_W jx_ShC d (some .int) jc_20 Q n 6 [u0, u1, some (.int x2)] [.ref r_0] σ := by
  rcases hr_0 with rfl | rfl | rfl | rfl
  · unfold f_H_itemAt_6 at h
    cases c2 : jx_in x2 40 with
    | false => rw [c2, cond_false] at h; cases h
    | true =>
      rw [c2, cond_true] at h
      cases h
      exact ⟨3, And.intro (jx_in_ok c2) (And.intro hQ (And.intro rfl rfl))⟩
  · unfold f_H_itemAt_6 at h
    cases c2 : jx_in x2 40 with
    | false => rw [c2, cond_false] at h; cases h
    | true =>
      rw [c2, cond_true] at h
      cases h
      exact ⟨3, And.intro (jx_in_ok c2) (And.intro hQ (And.intro rfl rfl))⟩
  · unfold f_H_itemAt_6 at h
    cases c2 : jx_in x2 40 with
    | false => rw [c2, cond_false] at h; cases h
    | true =>
      rw [c2, cond_true] at h
      cases h
      exact ⟨3, And.intro (jx_in_ok c2) (And.intro hQ (And.intro rfl rfl))⟩
  · unfold f_H_itemAt_6 at h
    cases c2 : jx_in x2 40 with
    | false => rw [c2, cond_false] at h; cases h
    | true =>
      rw [c2, cond_true] at h
      cases h
      exact ⟨3, And.intro (jx_in_ok c2) (And.intro hQ (And.intro rfl rfl))⟩
set_option maxRecDepth 20000 in
theorem s_H_itemAt_5 {N d : Nat} {Q : jw_Q} (hd : 0 ≤ d) {x2 : Int32} {y1 : Int32} {u0 : Option Value} {u1 : Option Value} {σ : jw_M} {z : (Int32 × jw_M)} (h : f_H_itemAt_5 N x2 y1 σ = some z) (hQ : Q (some (.int z.1)) (jx_ShC, z.2)) : ∃ n, jx_W jx_ShC d (some .int) jc_20 Q n 5 [u0, u1, some (.int x2)] [.int y1, .ref 124] σ := by
  unfold f_H_itemAt_5 at h
  cases c1 : jx_in y1 4 with
  | false => rw [c1, cond_false] at h; cases h
  | true =>
    rw [c1, cond_true] at h
    rcases jx_ix4 (jx_in_ok c1) with rfl | rfl | rfl | rfl
    · try rw [show (125 + (0 : Int32).toNatClampNeg) = 125 from by decide] at h
      obtain ⟨n, hn⟩ := s_H_itemAt_6 hd (u0 := u0) (u1 := u1) (by decide) h hQ
      exact ⟨n + 1, And.intro (jx_in_ok c1) (hn)⟩
    · try rw [show (125 + (1 : Int32).toNatClampNeg) = 126 from by decide] at h
      obtain ⟨n, hn⟩ := s_H_itemAt_6 hd (u0 := u0) (u1 := u1) (by decide) h hQ
      exact ⟨n + 1, And.intro (jx_in_ok c1) (hn)⟩
    · try rw [show (125 + (2 : Int32).toNatClampNeg) = 127 from by decide] at h
      obtain ⟨n, hn⟩ := s_H_itemAt_6 hd (u0 := u0) (u1 := u1) (by decide) h hQ
      exact ⟨n + 1, And.intro (jx_in_ok c1) (hn)⟩
    · try rw [show (125 + (3 : Int32).toNatClampNeg) = 128 from by decide] at h
      obtain ⟨n, hn⟩ := s_H_itemAt_6 hd (u0 := u0) (u1 := u1) (by decide) h hQ
      exact ⟨n + 1, And.intro (jx_in_ok c1) (hn)⟩
set_option maxRecDepth 20000 in
theorem s_H_itemAt {N d : Nat} {x1 : Int32} {x2 : Int32} (hd : 1 ≤ d) {σ : jw_M} {z : (Int32 × jw_M)} {Q : jw_Q} (h : f_H_itemAt N x1 x2 σ = some z) (hQ : Q (some (.int z.1)) (jx_ShC, z.2)) : jw_C jp_kd jp_ys d 20 [.ref 121, .int x1, .int x2] (jx_ShC, σ) Q := by
  obtain ⟨d, rfl⟩ : ∃ e, d = e + 1 := ⟨d - 1, by omega⟩
  replace hd : 0 ≤ d := by omega
  refine jx_C rfl rfl ?_
  unfold f_H_itemAt at h
  obtain ⟨n, hn⟩ := s_H_itemAt_5 hd (u0 := some (.ref 121)) (u1 := some (.int x1)) h hQ
  exact ⟨n + 3, hn⟩
set_option maxRecDepth 20000 in
theorem s_H_putItem_46 {N d : Nat} {Q : jw_Q} (hd : 0 ≤ d) {x2 : Int32} {x3 : Int32} {r_0 : Nat} {u0 : Option Value} {u1 : Option Value} {σ : jw_M} {z : jw_M} (hr_0 : r_0 = 125 ∨ r_0 = 126 ∨ r_0 = 127 ∨ r_0 = 128) (h : f_H_putItem_46 N x2 x3 r_0 σ = some z) (hQ : Q none (jx_ShC, z)) : ∃ n, jx_W jx_ShC d none jc_21 Q n 46 [u0, u1, some (.int x2), some (.int x3)] [.ref r_0] σ := by
  rcases hr_0 with rfl | rfl | rfl | rfl
  · unfold f_H_putItem_46 at h
    cases c3 : jx_in x2 40 with
    | false => rw [c3, cond_false] at h; cases h
    | true =>
      rw [c3, cond_true] at h
      cases h
      exact ⟨6, And.intro (jx_in_ok c3) (And.intro hQ (And.intro rfl rfl))⟩
  · unfold f_H_putItem_46 at h
    cases c3 : jx_in x2 40 with
    | false => rw [c3, cond_false] at h; cases h
    | true =>
      rw [c3, cond_true] at h
      cases h
      exact ⟨6, And.intro (jx_in_ok c3) (And.intro hQ (And.intro rfl rfl))⟩
  · unfold f_H_putItem_46 at h
    cases c3 : jx_in x2 40 with
    | false => rw [c3, cond_false] at h; cases h
    | true =>
      rw [c3, cond_true] at h
      cases h
      exact ⟨6, And.intro (jx_in_ok c3) (And.intro hQ (And.intro rfl rfl))⟩
  · unfold f_H_putItem_46 at h
    cases c3 : jx_in x2 40 with
    | false => rw [c3, cond_false] at h; cases h
    | true =>
      rw [c3, cond_true] at h
      cases h
      exact ⟨6, And.intro (jx_in_ok c3) (And.intro hQ (And.intro rfl rfl))⟩
set_option maxRecDepth 20000 in
theorem s_H_putItem_45 {N d : Nat} {Q : jw_Q} (hd : 0 ≤ d) {x2 : Int32} {x3 : Int32} {y1 : Int32} {u0 : Option Value} {u1 : Option Value} {σ : jw_M} {z : jw_M} (h : f_H_putItem_45 N x2 x3 y1 σ = some z) (hQ : Q none (jx_ShC, z)) : ∃ n, jx_W jx_ShC d none jc_21 Q n 45 [u0, u1, some (.int x2), some (.int x3)] [.int y1, .ref 124] σ := by
  unfold f_H_putItem_45 at h
  cases c2 : jx_in y1 4 with
  | false => rw [c2, cond_false] at h; cases h
  | true =>
    rw [c2, cond_true] at h
    rcases jx_ix4 (jx_in_ok c2) with rfl | rfl | rfl | rfl
    · try rw [show (125 + (0 : Int32).toNatClampNeg) = 125 from by decide] at h
      obtain ⟨n, hn⟩ := s_H_putItem_46 hd (u0 := u0) (u1 := u1) (by decide) h hQ
      exact ⟨n + 1, And.intro (jx_in_ok c2) (hn)⟩
    · try rw [show (125 + (1 : Int32).toNatClampNeg) = 126 from by decide] at h
      obtain ⟨n, hn⟩ := s_H_putItem_46 hd (u0 := u0) (u1 := u1) (by decide) h hQ
      exact ⟨n + 1, And.intro (jx_in_ok c2) (hn)⟩
    · try rw [show (125 + (2 : Int32).toNatClampNeg) = 127 from by decide] at h
      obtain ⟨n, hn⟩ := s_H_putItem_46 hd (u0 := u0) (u1 := u1) (by decide) h hQ
      exact ⟨n + 1, And.intro (jx_in_ok c2) (hn)⟩
    · try rw [show (125 + (3 : Int32).toNatClampNeg) = 128 from by decide] at h
      obtain ⟨n, hn⟩ := s_H_putItem_46 hd (u0 := u0) (u1 := u1) (by decide) h hQ
      exact ⟨n + 1, And.intro (jx_in_ok c2) (hn)⟩
set_option maxRecDepth 20000 in
theorem s_H_putItem_59 {N d : Nat} {Q : jw_Q} (hd : 0 ≤ d) {x2 : Int32} {x3 : Int32} {r_0 : Nat} {u0 : Option Value} {u1 : Option Value} {σ : jw_M} {z : jw_M} (hr_0 : r_0 = 125 ∨ r_0 = 126 ∨ r_0 = 127 ∨ r_0 = 128) (h : f_H_putItem_59 N x2 x3 r_0 σ = some z) (hQ : Q none (jx_ShC, z)) : ∃ n, jx_W jx_ShC d none jc_21 Q n 59 [u0, u1, some (.int x2), some (.int x3)] [.ref r_0] σ := by
  rcases hr_0 with rfl | rfl | rfl | rfl
  · unfold f_H_putItem_59 at h
    cases c5 : jx_in x2 40 with
    | false => rw [c5, cond_false] at h; cases h
    | true =>
      rw [c5, cond_true] at h
      cases h
      exact ⟨6, And.intro (jx_in_ok c5) (And.intro hQ (And.intro rfl rfl))⟩
  · unfold f_H_putItem_59 at h
    cases c5 : jx_in x2 40 with
    | false => rw [c5, cond_false] at h; cases h
    | true =>
      rw [c5, cond_true] at h
      cases h
      exact ⟨6, And.intro (jx_in_ok c5) (And.intro hQ (And.intro rfl rfl))⟩
  · unfold f_H_putItem_59 at h
    cases c5 : jx_in x2 40 with
    | false => rw [c5, cond_false] at h; cases h
    | true =>
      rw [c5, cond_true] at h
      cases h
      exact ⟨6, And.intro (jx_in_ok c5) (And.intro hQ (And.intro rfl rfl))⟩
  · unfold f_H_putItem_59 at h
    cases c5 : jx_in x2 40 with
    | false => rw [c5, cond_false] at h; cases h
    | true =>
      rw [c5, cond_true] at h
      cases h
      exact ⟨6, And.intro (jx_in_ok c5) (And.intro hQ (And.intro rfl rfl))⟩
set_option maxRecDepth 20000 in
theorem s_H_putItem_58 {N d : Nat} {Q : jw_Q} (hd : 0 ≤ d) {x2 : Int32} {x3 : Int32} {y1 : Int32} {u0 : Option Value} {u1 : Option Value} {σ : jw_M} {z : jw_M} (h : f_H_putItem_58 N x2 x3 y1 σ = some z) (hQ : Q none (jx_ShC, z)) : ∃ n, jx_W jx_ShC d none jc_21 Q n 58 [u0, u1, some (.int x2), some (.int x3)] [.int y1, .ref 124] σ := by
  unfold f_H_putItem_58 at h
  cases c4 : jx_in y1 4 with
  | false => rw [c4, cond_false] at h; cases h
  | true =>
    rw [c4, cond_true] at h
    rcases jx_ix4 (jx_in_ok c4) with rfl | rfl | rfl | rfl
    · try rw [show (125 + (0 : Int32).toNatClampNeg) = 125 from by decide] at h
      obtain ⟨n, hn⟩ := s_H_putItem_59 hd (u0 := u0) (u1 := u1) (by decide) h hQ
      exact ⟨n + 1, And.intro (jx_in_ok c4) (hn)⟩
    · try rw [show (125 + (1 : Int32).toNatClampNeg) = 126 from by decide] at h
      obtain ⟨n, hn⟩ := s_H_putItem_59 hd (u0 := u0) (u1 := u1) (by decide) h hQ
      exact ⟨n + 1, And.intro (jx_in_ok c4) (hn)⟩
    · try rw [show (125 + (2 : Int32).toNatClampNeg) = 127 from by decide] at h
      obtain ⟨n, hn⟩ := s_H_putItem_59 hd (u0 := u0) (u1 := u1) (by decide) h hQ
      exact ⟨n + 1, And.intro (jx_in_ok c4) (hn)⟩
    · try rw [show (125 + (3 : Int32).toNatClampNeg) = 128 from by decide] at h
      obtain ⟨n, hn⟩ := s_H_putItem_59 hd (u0 := u0) (u1 := u1) (by decide) h hQ
      exact ⟨n + 1, And.intro (jx_in_ok c4) (hn)⟩
set_option maxRecDepth 20000 in
theorem s_H_putItem_92 {N d : Nat} {Q : jw_Q} (hd : 0 ≤ d) {x2 : Int32} {x3 : Int32} {r_0 : Nat} {u0 : Option Value} {u1 : Option Value} {σ : jw_M} {z : jw_M} (hr_0 : r_0 = 125 ∨ r_0 = 126 ∨ r_0 = 127 ∨ r_0 = 128) (h : f_H_putItem_92 N x2 x3 r_0 σ = some z) (hQ : Q none (jx_ShC, z)) : ∃ n, jx_W jx_ShC d none jc_21 Q n 92 [u0, u1, some (.int x2), some (.int x3)] [.ref r_0] σ := by
  rcases hr_0 with rfl | rfl | rfl | rfl
  · unfold f_H_putItem_92 at h
    cases c7 : jx_in x2 40 with
    | false => rw [c7, cond_false] at h; cases h
    | true =>
      rw [c7, cond_true] at h
      cases h
      exact ⟨4, And.intro (jx_in_ok c7) (And.intro hQ (And.intro rfl rfl))⟩
  · unfold f_H_putItem_92 at h
    cases c7 : jx_in x2 40 with
    | false => rw [c7, cond_false] at h; cases h
    | true =>
      rw [c7, cond_true] at h
      cases h
      exact ⟨4, And.intro (jx_in_ok c7) (And.intro hQ (And.intro rfl rfl))⟩
  · unfold f_H_putItem_92 at h
    cases c7 : jx_in x2 40 with
    | false => rw [c7, cond_false] at h; cases h
    | true =>
      rw [c7, cond_true] at h
      cases h
      exact ⟨4, And.intro (jx_in_ok c7) (And.intro hQ (And.intro rfl rfl))⟩
  · unfold f_H_putItem_92 at h
    cases c7 : jx_in x2 40 with
    | false => rw [c7, cond_false] at h; cases h
    | true =>
      rw [c7, cond_true] at h
      cases h
      exact ⟨4, And.intro (jx_in_ok c7) (And.intro hQ (And.intro rfl rfl))⟩
set_option maxRecDepth 20000 in
theorem s_H_putItem_91 {N d : Nat} {Q : jw_Q} (hd : 0 ≤ d) {x2 : Int32} {x3 : Int32} {y1 : Int32} {u0 : Option Value} {u1 : Option Value} {σ : jw_M} {z : jw_M} (h : f_H_putItem_91 N x2 x3 y1 σ = some z) (hQ : Q none (jx_ShC, z)) : ∃ n, jx_W jx_ShC d none jc_21 Q n 91 [u0, u1, some (.int x2), some (.int x3)] [.int y1, .ref 124] σ := by
  unfold f_H_putItem_91 at h
  cases c6 : jx_in y1 4 with
  | false => rw [c6, cond_false] at h; cases h
  | true =>
    rw [c6, cond_true] at h
    rcases jx_ix4 (jx_in_ok c6) with rfl | rfl | rfl | rfl
    · try rw [show (125 + (0 : Int32).toNatClampNeg) = 125 from by decide] at h
      obtain ⟨n, hn⟩ := s_H_putItem_92 hd (u0 := u0) (u1 := u1) (by decide) h hQ
      exact ⟨n + 1, And.intro (jx_in_ok c6) (hn)⟩
    · try rw [show (125 + (1 : Int32).toNatClampNeg) = 126 from by decide] at h
      obtain ⟨n, hn⟩ := s_H_putItem_92 hd (u0 := u0) (u1 := u1) (by decide) h hQ
      exact ⟨n + 1, And.intro (jx_in_ok c6) (hn)⟩
    · try rw [show (125 + (2 : Int32).toNatClampNeg) = 127 from by decide] at h
      obtain ⟨n, hn⟩ := s_H_putItem_92 hd (u0 := u0) (u1 := u1) (by decide) h hQ
      exact ⟨n + 1, And.intro (jx_in_ok c6) (hn)⟩
    · try rw [show (125 + (3 : Int32).toNatClampNeg) = 128 from by decide] at h
      obtain ⟨n, hn⟩ := s_H_putItem_92 hd (u0 := u0) (u1 := u1) (by decide) h hQ
      exact ⟨n + 1, And.intro (jx_in_ok c6) (hn)⟩
set_option maxRecDepth 20000 in
theorem s_H_putItem_82 {N d : Nat} {Q : jw_Q} (hd : 0 ≤ d) {r_0 : Nat} {y1 : Int32} {y2 : Int32} {u0 : Option Value} {u1 : Option Value} {u2 : Option Value} {u3 : Option Value} {σ : jw_M} {z : jw_M} (hr_0 : r_0 = 125 ∨ r_0 = 126 ∨ r_0 = 127 ∨ r_0 = 128) (h : f_H_putItem_82 N r_0 y1 y2 σ = some z) (hQ : Q none (jx_ShC, z)) : ∃ n, jx_W jx_ShC d none jc_21 Q n 82 [u0, u1, u2, u3] [.int y2, .int y1, .ref r_0] σ := by
  rcases hr_0 with rfl | rfl | rfl | rfl
  · unfold f_H_putItem_82 at h
    cases c10 : jx_in y1 40 with
    | false => rw [c10, cond_false] at h; cases h
    | true =>
      rw [c10, cond_true] at h
      cases h
      exact ⟨3, And.intro (jx_in_ok c10) (And.intro hQ (And.intro rfl rfl))⟩
  · unfold f_H_putItem_82 at h
    cases c10 : jx_in y1 40 with
    | false => rw [c10, cond_false] at h; cases h
    | true =>
      rw [c10, cond_true] at h
      cases h
      exact ⟨3, And.intro (jx_in_ok c10) (And.intro hQ (And.intro rfl rfl))⟩
  · unfold f_H_putItem_82 at h
    cases c10 : jx_in y1 40 with
    | false => rw [c10, cond_false] at h; cases h
    | true =>
      rw [c10, cond_true] at h
      cases h
      exact ⟨3, And.intro (jx_in_ok c10) (And.intro hQ (And.intro rfl rfl))⟩
  · unfold f_H_putItem_82 at h
    cases c10 : jx_in y1 40 with
    | false => rw [c10, cond_false] at h; cases h
    | true =>
      rw [c10, cond_true] at h
      cases h
      exact ⟨3, And.intro (jx_in_ok c10) (And.intro hQ (And.intro rfl rfl))⟩
set_option maxRecDepth 20000 in
theorem s_H_putItem_72 {N d : Nat} {Q : jw_Q} (hd : 0 ≤ d) {x2 : Int32} {x3 : Int32} {r_0 : Nat} {u0 : Option Value} {u1 : Option Value} {σ : jw_M} {z : jw_M} (hr_0 : r_0 = 125 ∨ r_0 = 126 ∨ r_0 = 127 ∨ r_0 = 128) (h : f_H_putItem_72 N x2 x3 r_0 σ = some z) (hQ : Q none (jx_ShC, z)) : ∃ n, jx_W jx_ShC d none jc_21 Q n 72 [u0, u1, some (.int x2), some (.int x3)] [.ref r_0] σ := by
  unfold f_H_putItem_72 at h
  by_cases c9 : x3 = 0
  · rw [if_pos c9] at h
    suffices hh : ∃ n, jx_W jx_ShC d none jc_21 Q n 81 [u0, u1, some (.int x2), some (.int x3)] [.int x2, .ref r_0] σ by
      obtain ⟨n, hn⟩ := hh
      exact ⟨n + 3, And.intro (fun _ => hn) (fun zz => absurd c9 zz)⟩
    obtain ⟨n, hn⟩ := s_H_putItem_82 hd (u0 := u0) (u1 := u1) (u2 := some (.int x2)) (u3 := some (.int x3)) hr_0 h hQ
    exact ⟨n + 1, hn⟩
  · rw [if_neg c9] at h
    suffices hh : ∃ n, jx_W jx_ShC d none jc_21 Q n 77 [u0, u1, some (.int x2), some (.int x3)] [.int x2, .ref r_0] σ by
      obtain ⟨n, hn⟩ := hh
      exact ⟨n + 3, And.intro (fun zz => absurd zz c9) (fun _ => hn)⟩
    obtain ⟨n, hn⟩ := s_H_putItem_82 hd (u0 := u0) (u1 := u1) (u2 := some (.int x2)) (u3 := some (.int x3)) hr_0 h hQ
    exact ⟨n + 2, hn⟩
set_option maxRecDepth 20000 in
theorem s_H_putItem_71 {N d : Nat} {Q : jw_Q} (hd : 0 ≤ d) {x2 : Int32} {x3 : Int32} {y1 : Int32} {u0 : Option Value} {u1 : Option Value} {σ : jw_M} {z : jw_M} (h : f_H_putItem_71 N x2 x3 y1 σ = some z) (hQ : Q none (jx_ShC, z)) : ∃ n, jx_W jx_ShC d none jc_21 Q n 71 [u0, u1, some (.int x2), some (.int x3)] [.int y1, .ref 124] σ := by
  unfold f_H_putItem_71 at h
  cases c8 : jx_in y1 4 with
  | false => rw [c8, cond_false] at h; cases h
  | true =>
    rw [c8, cond_true] at h
    rcases jx_ix4 (jx_in_ok c8) with rfl | rfl | rfl | rfl
    · try rw [show (125 + (0 : Int32).toNatClampNeg) = 125 from by decide] at h
      obtain ⟨n, hn⟩ := s_H_putItem_72 hd (u0 := u0) (u1 := u1) (by decide) h hQ
      exact ⟨n + 1, And.intro (jx_in_ok c8) (hn)⟩
    · try rw [show (125 + (1 : Int32).toNatClampNeg) = 126 from by decide] at h
      obtain ⟨n, hn⟩ := s_H_putItem_72 hd (u0 := u0) (u1 := u1) (by decide) h hQ
      exact ⟨n + 1, And.intro (jx_in_ok c8) (hn)⟩
    · try rw [show (125 + (2 : Int32).toNatClampNeg) = 127 from by decide] at h
      obtain ⟨n, hn⟩ := s_H_putItem_72 hd (u0 := u0) (u1 := u1) (by decide) h hQ
      exact ⟨n + 1, And.intro (jx_in_ok c8) (hn)⟩
    · try rw [show (125 + (3 : Int32).toNatClampNeg) = 128 from by decide] at h
      obtain ⟨n, hn⟩ := s_H_putItem_72 hd (u0 := u0) (u1 := u1) (by decide) h hQ
      exact ⟨n + 1, And.intro (jx_in_ok c8) (hn)⟩
set_option maxRecDepth 20000 in
theorem s_H_putItem {N d : Nat} {x1 : Int32} {x2 : Int32} {x3 : Int32} (hd : 1 ≤ d) {σ : jw_M} {z : jw_M} {Q : jw_Q} (h : f_H_putItem N x1 x2 x3 σ = some z) (hQ : Q none (jx_ShC, z)) : jw_C jp_kd jp_ys d 21 [.ref 121, .int x1, .int x2, .int x3] (jx_ShC, σ) Q := by
  obtain ⟨d, rfl⟩ : ∃ e, d = e + 1 := ⟨d - 1, by omega⟩
  replace hd : 0 ≤ d := by omega
  refine jx_C rfl rfl ?_
  unfold f_H_putItem at h
  cases c1 : jx_in x1 4 with
  | false => rw [c1, cond_false] at h; cases h
  | true =>
    rw [c1, cond_true] at h
    by_cases c15 : (σ.1 122 (x1).toNatClampNeg) = 0
    · rw [if_pos c15] at h
      suffices hh : ∃ n, jx_W jx_ShC d none jc_21 Q n 40 [some (.ref 121), some (.int x1), some (.int x2), some (.int x3)] [] σ by
        obtain ⟨n, hn⟩ := hh
        exact ⟨n + 5, And.intro (jx_in_ok c1) (And.intro (fun _ => hn) (fun zz => absurd c15 zz))⟩
      obtain ⟨n, hn⟩ := s_H_putItem_45 hd (u0 := some (.ref 121)) (u1 := some (.int x1)) h hQ
      exact ⟨n + 3, hn⟩
    · rw [if_neg c15] at h
      by_cases c14 : (σ.1 122 (x1).toNatClampNeg) = 1
      · rw [if_pos c14] at h
        suffices hh : ∃ n, jx_W jx_ShC d none jc_21 Q n 53 [some (.ref 121), some (.int x1), some (.int x2), some (.int x3)] [] σ by
          obtain ⟨n, hn⟩ := hh
          exact ⟨n + 5, And.intro (jx_in_ok c1) (And.intro (fun zz => absurd zz c15) (fun _ => And.intro (fun _ => hn) (fun zz => absurd c14 zz)))⟩
        obtain ⟨n, hn⟩ := s_H_putItem_58 hd (u0 := some (.ref 121)) (u1 := some (.int x1)) h hQ
        exact ⟨n + 3, hn⟩
      · rw [if_neg c14] at h
        by_cases c13 : (σ.1 122 (x1).toNatClampNeg) = 2
        · rw [if_pos c13] at h
          suffices hh : ∃ n, jx_W jx_ShC d none jc_21 Q n 86 [some (.ref 121), some (.int x1), some (.int x2), some (.int x3)] [] σ by
            obtain ⟨n, hn⟩ := hh
            exact ⟨n + 5, And.intro (jx_in_ok c1) (And.intro (fun zz => absurd zz c15) (fun _ => And.intro (fun zz => absurd zz c14) (fun _ => And.intro (fun _ => hn) (fun zz => absurd c13 zz))))⟩
          obtain ⟨n, hn⟩ := s_H_putItem_91 hd (u0 := some (.ref 121)) (u1 := some (.int x1)) h hQ
          exact ⟨n + 3, hn⟩
        · rw [if_neg c13] at h
          by_cases c12 : (σ.1 122 (x1).toNatClampNeg) = 3
          · rw [if_pos c12] at h
            suffices hh : ∃ n, jx_W jx_ShC d none jc_21 Q n 86 [some (.ref 121), some (.int x1), some (.int x2), some (.int x3)] [] σ by
              obtain ⟨n, hn⟩ := hh
              exact ⟨n + 5, And.intro (jx_in_ok c1) (And.intro (fun zz => absurd zz c15) (fun _ => And.intro (fun zz => absurd zz c14) (fun _ => And.intro (fun zz => absurd zz c13) (fun _ => And.intro (fun _ => hn) (fun zz => absurd c12 zz)))))⟩
            obtain ⟨n, hn⟩ := s_H_putItem_91 hd (u0 := some (.ref 121)) (u1 := some (.int x1)) h hQ
            exact ⟨n + 3, hn⟩
          · rw [if_neg c12] at h
            by_cases c11 : (σ.1 122 (x1).toNatClampNeg) = 4
            · rw [if_pos c11] at h
              suffices hh : ∃ n, jx_W jx_ShC d none jc_21 Q n 66 [some (.ref 121), some (.int x1), some (.int x2), some (.int x3)] [] σ by
                obtain ⟨n, hn⟩ := hh
                exact ⟨n + 5, And.intro (jx_in_ok c1) (And.intro (fun zz => absurd zz c15) (fun _ => And.intro (fun zz => absurd zz c14) (fun _ => And.intro (fun zz => absurd zz c13) (fun _ => And.intro (fun zz => absurd zz c12) (fun _ => And.intro (fun _ => hn) (fun zz => absurd c11 zz))))))⟩
              obtain ⟨n, hn⟩ := s_H_putItem_71 hd (u0 := some (.ref 121)) (u1 := some (.int x1)) h hQ
              exact ⟨n + 3, hn⟩
            · rw [if_neg c11] at h
              obtain ⟨n, hn⟩ := s_H_putItem_91 hd (u0 := some (.ref 121)) (u1 := some (.int x1)) h hQ
              exact ⟨n + 8, And.intro (jx_in_ok c1) (And.intro (fun zz => absurd zz c15) (fun _ => And.intro (fun zz => absurd zz c14) (fun _ => And.intro (fun zz => absurd zz c13) (fun _ => And.intro (fun zz => absurd zz c12) (fun _ => And.intro (fun zz => absurd zz c11) (fun _ => hn))))))⟩
set_option maxRecDepth 20000 in
theorem s_H_put_39 {N d : Nat} {Q : jw_Q} (hd : 0 ≤ d) {x1 : Int32} {x3 : Int32} {y1 : Int32} {y2 : Int32} {u2 : Option Value} {σ : jw_M} {z : jw_M} (h : f_H_put_39 N x1 x3 y1 y2 σ = some z) (hQ : Q none (jx_ShC, z)) : ∃ n, jx_W jx_ShC d none jc_22 Q n 39 [some (.ref 121), some (.int x1), u2, some (.int x3)] [.int y2, .int y1, .ref 129] σ := by
  unfold f_H_put_39 at h
  cases c5 : jx_in y1 4 with
  | false => rw [c5, cond_false] at h; cases h
  | true =>
    rw [c5, cond_true] at h
    cases c6 : jx_in x3 4 with
    | false => rw [c6, cond_false] at h; cases h
    | true =>
      rw [c6, cond_true] at h
      cases c7 : jx_in x1 4 with
      | false => rw [c7, cond_false] at h; cases h
      | true =>
        rw [c7, cond_true] at h
        cases h
        exact ⟨18, And.intro (jx_in_ok c5) (And.intro (jx_in_ok c6) (And.intro (jx_in_ok c7) (And.intro (jx_in_ok c6) (And.intro (jx_in_ok c7) (And.intro hQ (And.intro rfl rfl))))))⟩
set_option maxRecDepth 20000 in
theorem s_H_put {N d : Nat} {x1 : Int32} {x2 : Int32} {x3 : Int32} (hd : 1 ≤ d) {σ : jw_M} {z : jw_M} {Q : jw_Q} (h : f_H_put N x1 x2 x3 σ = some z) (hQ : Q none (jx_ShC, z)) : jw_C jp_kd jp_ys d 22 [.ref 121, .int x1, .int x2, .int x3] (jx_ShC, σ) Q := by
  obtain ⟨d, rfl⟩ : ∃ e, d = e + 1 := ⟨d - 1, by omega⟩
  replace hd : 0 ≤ d := by omega
  refine jx_C rfl rfl ?_
  unfold f_H_put at h
  cases c1 : jx_in x1 4 with
  | false => rw [c1, cond_false] at h; cases h
  | true =>
    rw [c1, cond_true] at h
    by_cases c2 : x2 = 1
    · rw [if_pos c2] at h
      suffices hh : ∃ n, jx_W jx_ShC d none jc_22 Q n 19 [some (.ref 121), some (.int x1), some (.int x2), some (.int x3)] [] (jx_w (jx_w σ 129 (x1).toNatClampNeg x2) 130 (x1).toNatClampNeg x3) by
        obtain ⟨n, hn⟩ := hh
        exact ⟨n + 13, And.intro (jx_in_ok c1) (And.intro (jx_in_ok c1) (And.intro (fun zz => absurd c2 zz) (fun _ => hn)))⟩
      cases c3 : jx_in x3 4 with
      | false => rw [c3, cond_false] at h; cases h
      | true =>
        rw [c3, cond_true] at h
        by_cases c4 : ((jx_w (jx_w σ 129 (x1).toNatClampNeg x2) 130 (x1).toNatClampNeg x3).1 122 (x3).toNatClampNeg) = (-1)
        · rw [if_pos c4] at h
          suffices hh : ∃ n, jx_W jx_ShC d none jc_22 Q n 34 [some (.ref 121), some (.int x1), some (.int x2), some (.int x3)] [.int x1, .ref 129] (jx_w (jx_w σ 129 (x1).toNatClampNeg x2) 130 (x1).toNatClampNeg x3) by
            obtain ⟨n, hn⟩ := hh
            exact ⟨n + 9, And.intro (jx_in_ok c3) (And.intro (fun zz => absurd c4 zz) (fun _ => hn))⟩
          obtain ⟨n, hn⟩ := s_H_put_39 hd (u2 := some (.int x2)) h hQ
          exact ⟨n + 2, hn⟩
        · rw [if_neg c4] at h
          suffices hh : ∃ n, jx_W jx_ShC d none jc_22 Q n 38 [some (.ref 121), some (.int x1), some (.int x2), some (.int x3)] [.int x1, .ref 129] (jx_w (jx_w σ 129 (x1).toNatClampNeg x2) 130 (x1).toNatClampNeg x3) by
            obtain ⟨n, hn⟩ := hh
            exact ⟨n + 9, And.intro (jx_in_ok c3) (And.intro (fun _ => hn) (fun zz => absurd zz c4))⟩
          obtain ⟨n, hn⟩ := s_H_put_39 hd (u2 := some (.int x2)) h hQ
          exact ⟨n + 1, hn⟩
    · rw [if_neg c2] at h
      suffices hh : ∃ n, jx_W jx_ShC d none jc_22 Q n 64 [some (.ref 121), some (.int x1), some (.int x2), some (.int x3)] [] (jx_w (jx_w σ 129 (x1).toNatClampNeg x2) 130 (x1).toNatClampNeg x3) by
        obtain ⟨n, hn⟩ := hh
        exact ⟨n + 13, And.intro (jx_in_ok c1) (And.intro (jx_in_ok c1) (And.intro (fun _ => hn) (fun zz => absurd zz c2)))⟩
      cases h
      exact ⟨1, And.intro hQ (And.intro rfl rfl)⟩
