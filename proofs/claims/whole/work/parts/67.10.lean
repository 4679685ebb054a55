set_option maxRecDepth 20000 in
theorem s_F_quarrel {N d : Nat} {x1 : Int32} {x2 : Int32} {x3 : Int32} (hd : 2 ≤ d) {σ : jw_M} {z : (Int32 × jw_M)} {Q : jw_Q} (h : f_F_quarrel N x1 x2 x3 σ = some z) (hQ : Q (some (.int z.1)) (jx_ShC, z.2)) : jw_C jp_kd jp_ys d 133 [.ref 0, .int x1, .int x2, .int x3] (jx_ShC, σ) Q := by
  obtain ⟨d, rfl⟩ : ∃ e, d = e + 1 := ⟨d - 1, by omega⟩
  replace hd : 1 ≤ d := by omega
  refine jx_C rfl rfl ?_
  unfold f_F_quarrel at h
  obtain ⟨z1, h2, h⟩ := Option.bind_eq_some_iff.mp h
  by_cases c3 : z1.1 = 0
  · rw [if_pos c3] at h
    suffices hh : ∃ n, jx_W jx_ShC d (some .int) jc_133 Q n 36 [some (.ref 0), some (.int x1), some (.int x2), some (.int x3), none] [] z1.2 by
      obtain ⟨n, hn⟩ := hh
      exact ⟨n + 5, s_S_isShadow (by omega) h2 (And.intro (fun _ => hn) (fun zz => absurd c3 zz))⟩
    cases h
    exact ⟨2, And.intro hQ (And.intro rfl rfl)⟩
  · rw [if_neg c3] at h
    suffices hh : ∃ n, jx_W jx_ShC d (some .int) jc_133 Q n 11 [some (.ref 0), some (.int x1), some (.int x2), some (.int x3), none] [] z1.2 by
      obtain ⟨n, hn⟩ := hh
      exact ⟨n + 5, s_S_isShadow (by omega) h2 (And.intro (fun zz => absurd zz c3) (fun _ => hn))⟩
    obtain ⟨z4, h5, h⟩ := Option.bind_eq_some_iff.mp h
    by_cases c6 : z4.1 = 0
    · rw [if_pos c6] at h
      suffices hh : ∃ n, jx_W jx_ShC d (some .int) jc_133 Q n 36 [some (.ref 0), some (.int x1), some (.int x2), some (.int x3), none] [] z4.2 by
        obtain ⟨n, hn⟩ := hh
        exact ⟨n + 5, s_S_isShadow (by omega) h5 (And.intro (fun _ => hn) (fun zz => absurd c6 zz))⟩
      cases h
      exact ⟨2, And.intro hQ (And.intro rfl rfl)⟩
    · rw [if_neg c6] at h
      suffices hh : ∃ n, jx_W jx_ShC d (some .int) jc_133 Q n 22 [some (.ref 0), some (.int x1), some (.int x2), some (.int x3), none] [] z4.2 by
        obtain ⟨n, hn⟩ := hh
        exact ⟨n + 5, s_S_isShadow (by omega) h5 (And.intro (fun zz => absurd zz c6) (fun _ => hn))⟩
      by_cases c7 : x1 = x2
      · rw [if_pos c7] at h
        suffices hh : ∃ n, jx_W jx_ShC d (some .int) jc_133 Q n 36 [some (.ref 0), some (.int x1), some (.int x2), some (.int x3), none] [] z4.2 by
          obtain ⟨n, hn⟩ := hh
          exact ⟨n + 3, And.intro (fun _ => hn) (fun zz => absurd c7 zz)⟩
        cases h
        exact ⟨2, And.intro hQ (And.intro rfl rfl)⟩
      · rw [if_neg c7] at h
        suffices hh : ∃ n, jx_W jx_ShC d (some .int) jc_133 Q n 27 [some (.ref 0), some (.int x1), some (.int x2), some (.int x3), none] [] z4.2 by
          obtain ⟨n, hn⟩ := hh
          exact ⟨n + 3, And.intro (fun zz => absurd zz c7) (fun _ => hn)⟩
        obtain ⟨z8, h9, h⟩ := Option.bind_eq_some_iff.mp h
        by_cases c10 : z8.1 = 0
        · rw [if_pos c10] at h
          suffices hh : ∃ n, jx_W jx_ShC d (some .int) jc_133 Q n 36 [some (.ref 0), some (.int x1), some (.int x2), some (.int x3), none] [] z8.2 by
            obtain ⟨n, hn⟩ := hh
            exact ⟨n + 5, s_F_isWithin (by omega) h9 (And.intro (fun zz => absurd c10 zz) (fun _ => hn))⟩
          cases h
          exact ⟨2, And.intro hQ (And.intro rfl rfl)⟩
        · rw [if_neg c10] at h
          suffices hh : ∃ n, jx_W jx_ShC d (some .int) jc_133 Q n 38 [some (.ref 0), some (.int x1), some (.int x2), some (.int x3), none] [] z8.2 by
            obtain ⟨n, hn⟩ := hh
            exact ⟨n + 5, s_F_isWithin (by omega) h9 (And.intro (fun _ => hn) (fun zz => absurd zz c10))⟩
          cases c11 : jx_in x1 6 with
          | false => rw [c11, cond_false] at h; cases h
          | true =>
            rw [c11, cond_true] at h
            obtain ⟨z12, h13, h⟩ := Option.bind_eq_some_iff.mp h
            cases h
            exact ⟨18, And.intro (jx_in_ok c11) (s_S_setQuarrel (by omega) h13 (And.intro hQ (And.intro rfl rfl)))⟩
set_option maxRecDepth 20000 in
theorem s_F_quarrels {N d : Nat} {x1 : Int32} (hd : 2 ≤ d) {σ : jw_M} {z : (Int32 × jw_M)} {Q : jw_Q} (h : f_F_quarrels N x1 σ = some z) (hQ : Q (some (.int z.1)) (jx_ShC, z.2)) : jw_C jp_kd jp_ys d 134 [.ref 0, .int x1] (jx_ShC, σ) Q := by
  obtain ⟨d, rfl⟩ : ∃ e, d = e + 1 := ⟨d - 1, by omega⟩
  replace hd : 1 ≤ d := by omega
  refine jx_C rfl rfl ?_
  unfold f_F_quarrels at h
  obtain ⟨z1, h2, h⟩ := Option.bind_eq_some_iff.mp h
  by_cases c3 : z1.1 = 0
  · rw [if_pos c3] at h
    suffices hh : ∃ n, jx_W jx_ShC d (some .int) jc_134 Q n 23 [some (.ref 0), some (.int x1)] [] z1.2 by
      obtain ⟨n, hn⟩ := hh
      exact ⟨n + 5, s_S_isShadow (by omega) h2 (And.intro (fun _ => hn) (fun zz => absurd c3 zz))⟩
    cases h
    exact ⟨2, And.intro hQ (And.intro rfl rfl)⟩
  · rw [if_neg c3] at h
    suffices hh : ∃ n, jx_W jx_ShC d (some .int) jc_134 Q n 11 [some (.ref 0), some (.int x1)] [] z1.2 by
      obtain ⟨n, hn⟩ := hh
      exact ⟨n + 5, s_S_isShadow (by omega) h2 (And.intro (fun zz => absurd zz c3) (fun _ => hn))⟩
    cases c4 : jx_in x1 6 with
    | false => rw [c4, cond_false] at h; cases h
    | true =>
      rw [c4, cond_true] at h
      cases h
      exact ⟨7, And.intro (jx_in_ok c4) (And.intro hQ (And.intro rfl rfl))⟩
set_option maxRecDepth 20000 in
theorem s_F_mayTake_36 {N d : Nat} {Q : jw_Q} {K2 : Int32 → Int32 → Int32 → jw_M → Option (Int32 × jw_M)} (hd : 0 ≤ d) (hK2 : ∀ {x1 : Int32} {x2 : Int32} {x3 : Int32} {σ : jw_M} {z : (Int32 × jw_M)}, K2 x1 x2 x3 σ = some z → Q (some (.int z.1)) (jx_ShC, z.2) → ∃ n, jx_W jx_ShC d (some .boolean) jc_142 Q n 2 [some (.ref 0), some (.int x1), some (.int x2), some (.int x3)] [] σ) {x1 : Int32} {x2 : Int32} {x3 : Int32} {σ : jw_M} {z : (Int32 × jw_M)} (h : f_F_mayTake_36 N K2 x1 x2 x3 σ = some z) (hQ : Q (some (.int z.1)) (jx_ShC, z.2)) : ∃ n, jx_W jx_ShC d (some .boolean) jc_142 Q n 36 [some (.ref 0), some (.int x1), some (.int x2), some (.int x3)] [] σ := by
  unfold f_F_mayTake_36 at h
  obtain ⟨n, hn⟩ := hK2 h hQ
  exact ⟨n + 2, hn⟩
set_option maxRecDepth 20000 in
theorem s_F_mayTake_2 {N d : Nat} {Q : jw_Q} (hd : 0 ≤ d) : ∀ (k : Nat) {x1 : Int32} {x2 : Int32} {x3 : Int32} {σ : jw_M} {z : (Int32 × jw_M)}, f_F_mayTake_2 N k x1 x2 x3 σ = some z → Q (some (.int z.1)) (jx_ShC, z.2) → ∃ n, jx_W jx_ShC d (some .boolean) jc_142 Q n 2 [some (.ref 0), some (.int x1), some (.int x2), some (.int x3)] [] σ
  | 0, _, _, _, _, _, h, _ => by cases h
  | k + 1, x1, x2, x3, σ, z, h, hQ => by
    rw [f_F_mayTake_2] at h
    by_cases c1 : x1 ≤ x3
    · rw [if_pos c1] at h
      suffices hh : ∃ n, jx_W jx_ShC d (some .boolean) jc_142 Q n 42 [some (.ref 0), some (.int x1), some (.int x2), some (.int x3)] [] σ by
        obtain ⟨n, hn⟩ := hh
        exact ⟨n + 3, And.intro (fun _ => hn) (fun zz => absurd c1 zz)⟩
      cases h
      exact ⟨2, And.intro (Or.inr rfl) (And.intro hQ (And.intro rfl rfl))⟩
    · rw [if_neg c1] at h
      suffices hh : ∃ n, jx_W jx_ShC d (some .boolean) jc_142 Q n 7 [some (.ref 0), some (.int x1), some (.int x2), some (.int x3)] [] σ by
        obtain ⟨n, hn⟩ := hh
        exact ⟨n + 3, And.intro (fun zz => absurd zz c1) (fun _ => hn)⟩
      cases c2 : jx_in x3 6 with
      | false => rw [c2, cond_false] at h; cases h
      | true =>
        rw [c2, cond_true] at h
        by_cases c3 : (σ.1 79 (x3).toNatClampNeg) = x2
        · rw [if_pos c3] at h
          suffices hh : ∃ n, jx_W jx_ShC d (some .boolean) jc_142 Q n 17 [some (.ref 0), some (.int x1), some (.int x2), some (.int x3)] [] σ by
            obtain ⟨n, hn⟩ := hh
            exact ⟨n + 6, And.intro (jx_in_ok c2) (And.intro (fun zz => absurd c3 zz) (fun _ => hn))⟩
          cases c4 : jx_in x1 6 with
          | false => rw [c4, cond_false] at h; cases h
          | true =>
            rw [c4, cond_true] at h
            by_cases c5 : (((σ.1 5 (x1).toNatClampNeg) >>> (x3 &&& 31)) &&& 1) = 1
            · rw [if_pos c5] at h
              suffices hh : ∃ n, jx_W jx_ShC d (some .boolean) jc_142 Q n 34 [some (.ref 0), some (.int x1), some (.int x2), some (.int x3)] [] σ by
                obtain ⟨n, hn⟩ := hh
                exact ⟨n + 11, And.intro (jx_in_ok c4) (And.intro (fun zz => absurd c5 zz) (fun _ => hn))⟩
              cases h
              exact ⟨2, And.intro (Or.inl rfl) (And.intro hQ (And.intro rfl rfl))⟩
            · rw [if_neg c5] at h
              suffices hh : ∃ n, jx_W jx_ShC d (some .boolean) jc_142 Q n 36 [some (.ref 0), some (.int x1), some (.int x2), some (.int x3)] [] σ by
                obtain ⟨n, hn⟩ := hh
                exact ⟨n + 11, And.intro (jx_in_ok c4) (And.intro (fun _ => hn) (fun zz => absurd zz c5))⟩
              obtain ⟨n, hn⟩ := s_F_mayTake_36 hd (s_F_mayTake_2 hd k) h hQ
              exact ⟨n + 0, hn⟩
        · rw [if_neg c3] at h
          suffices hh : ∃ n, jx_W jx_ShC d (some .boolean) jc_142 Q n 36 [some (.ref 0), some (.int x1), some (.int x2), some (.int x3)] [] σ by
            obtain ⟨n, hn⟩ := hh
            exact ⟨n + 6, And.intro (jx_in_ok c2) (And.intro (fun _ => hn) (fun zz => absurd zz c3))⟩
          obtain ⟨n, hn⟩ := s_F_mayTake_36 hd (s_F_mayTake_2 hd k) h hQ
          exact ⟨n + 0, hn⟩
set_option maxRecDepth 20000 in
theorem s_F_mayTake {N d : Nat} {x1 : Int32} {x2 : Int32} (hd : 1 ≤ d) {σ : jw_M} {z : (Int32 × jw_M)} {Q : jw_Q} (h : f_F_mayTake N x1 x2 σ = some z) (hQ : Q (some (.int z.1)) (jx_ShC, z.2)) : jw_C jp_kd jp_ys d 142 [.ref 0, .int x1, .int x2] (jx_ShC, σ) Q := by
  obtain ⟨d, rfl⟩ : ∃ e, d = e + 1 := ⟨d - 1, by omega⟩
  replace hd : 0 ≤ d := by omega
  refine jx_C rfl rfl ?_
  unfold f_F_mayTake at h
  obtain ⟨n, hn⟩ := s_F_mayTake_2 hd N h hQ
  exact ⟨n + 2, hn⟩
set_option maxRecDepth 20000 in
theorem s_F_findSeats_49 {N d : Nat} {Dr : Nat} {Rec : Int32 → Int32 → jw_M → Option (Int32 × jw_M)} {Q : jw_Q} {K15 : Int32 → Int32 → Int32 → jw_M → Option (Int32 × jw_M)} (hRec : ∀ {d : Nat} {a1 : Int32} {a2 : Int32} {σ : jw_M} {z : (Int32 × jw_M)} {Q : jw_Q}, Dr ≤ d → Rec a1 a2 σ = some z → Q (some (.int z.1)) (jx_ShC, z.2) → jw_C jp_kd jp_ys d 140 [.ref 0, .int a1, .int a2] (jx_ShC, σ) Q) (hd0 : 0 + Dr ≤ d) (hd : 1 ≤ d) (hK15 : ∀ {x1 : Int32} {x2 : Int32} {x3 : Int32} {σ : jw_M} {z : (Int32 × jw_M)}, K15 x1 x2 x3 σ = some z → Q (some (.int z.1)) (jx_ShC, z.2) → ∃ n, jx_W jx_ShC d (some .boolean) jc_140 Q n 15 [some (.ref 0), some (.int x1), some (.int x2), some (.int x3)] [] σ) {x1 : Int32} {x2 : Int32} {x3 : Int32} {σ : jw_M} {z : (Int32 × jw_M)} (h : f_F_findSeats_49 N Rec K15 x1 x2 x3 σ = some z) (hQ : Q (some (.int z.1)) (jx_ShC, z.2)) : ∃ n, jx_W jx_ShC d (some .boolean) jc_140 Q n 49 [some (.ref 0), some (.int x1), some (.int x2), some (.int x3)] [] σ := by
  unfold f_F_findSeats_49 at h
  obtain ⟨n, hn⟩ := hK15 h hQ
  exact ⟨n + 2, hn⟩
set_option maxRecDepth 20000 in
theorem s_F_findSeats_15 {N d : Nat} {Dr : Nat} {Rec : Int32 → Int32 → jw_M → Option (Int32 × jw_M)} {Q : jw_Q} (hRec : ∀ {d : Nat} {a1 : Int32} {a2 : Int32} {σ : jw_M} {z : (Int32 × jw_M)} {Q : jw_Q}, Dr ≤ d → Rec a1 a2 σ = some z → Q (some (.int z.1)) (jx_ShC, z.2) → jw_C jp_kd jp_ys d 140 [.ref 0, .int a1, .int a2] (jx_ShC, σ) Q) (hd0 : 0 + Dr ≤ d) (hd : 1 ≤ d) : ∀ (k : Nat) {x1 : Int32} {x2 : Int32} {x3 : Int32} {σ : jw_M} {z : (Int32 × jw_M)}, f_F_findSeats_15 N Rec k x1 x2 x3 σ = some z → Q (some (.int z.1)) (jx_ShC, z.2) → ∃ n, jx_W jx_ShC d (some .boolean) jc_140 Q n 15 [some (.ref 0), some (.int x1), some (.int x2), some (.int x3)] [] σ
  | 0, _, _, _, _, _, h, _ => by cases h
  | k + 1, x1, x2, x3, σ, z, h, hQ => by
    rw [f_F_findSeats_15] at h
    by_cases c2 : x2 ≤ x3
    · rw [if_pos c2] at h
      suffices hh : ∃ n, jx_W jx_ShC d (some .boolean) jc_140 Q n 55 [some (.ref 0), some (.int x1), some (.int x2), some (.int x3)] [] σ by
        obtain ⟨n, hn⟩ := hh
        exact ⟨n + 3, And.intro (fun _ => hn) (fun zz => absurd c2 zz)⟩
      cases h
      exact ⟨2, And.intro (Or.inl rfl) (And.intro hQ (And.intro rfl rfl))⟩
    · rw [if_neg c2] at h
      suffices hh : ∃ n, jx_W jx_ShC d (some .boolean) jc_140 Q n 20 [some (.ref 0), some (.int x1), some (.int x2), some (.int x3)] [] σ by
        obtain ⟨n, hn⟩ := hh
        exact ⟨n + 3, And.intro (fun zz => absurd zz c2) (fun _ => hn)⟩
      obtain ⟨z3, h4, h⟩ := Option.bind_eq_some_iff.mp h
      by_cases c5 : z3.1 = 0
      · rw [if_pos c5] at h
        suffices hh : ∃ n, jx_W jx_ShC d (some .boolean) jc_140 Q n 49 [some (.ref 0), some (.int x1), some (.int x2), some (.int x3)] [] z3.2 by
          obtain ⟨n, hn⟩ := hh
          exact ⟨n + 5, s_F_mayTake (by omega) h4 (And.intro (fun _ => hn) (fun zz => absurd c5 zz))⟩
        obtain ⟨n, hn⟩ := s_F_findSeats_49 hRec hd0 hd (s_F_findSeats_15 hRec hd0 hd k) h hQ
        exact ⟨n + 0, hn⟩
      · rw [if_neg c5] at h
        suffices hh : ∃ n, jx_W jx_ShC d (some .boolean) jc_140 Q n 29 [some (.ref 0), some (.int x1), some (.int x2), some (.int x3)] [] z3.2 by
          obtain ⟨n, hn⟩ := hh
          exact ⟨n + 5, s_F_mayTake (by omega) h4 (And.intro (fun zz => absurd zz c5) (fun _ => hn))⟩
        cases c6 : jx_in x1 6 with
        | false => rw [c6, cond_false] at h; cases h
        | true =>
          rw [c6, cond_true] at h
          obtain ⟨z7, h8, h⟩ := Option.bind_eq_some_iff.mp h
          by_cases c9 : z7.1 = 0
          · rw [if_pos c9] at h
            suffices hh : ∃ n, jx_W jx_ShC d (some .boolean) jc_140 Q n 49 [some (.ref 0), some (.int x1), some (.int x2), some (.int x3)] [] z7.2 by
              obtain ⟨n, hn⟩ := hh
              exact ⟨n + 12, And.intro (jx_in_ok c6) (hRec (by omega) h8 (And.intro (fun _ => hn) (fun zz => absurd c9 zz)))⟩
            obtain ⟨n, hn⟩ := s_F_findSeats_49 hRec hd0 hd (s_F_findSeats_15 hRec hd0 hd k) h hQ
            exact ⟨n + 0, hn⟩
          · rw [if_neg c9] at h
            suffices hh : ∃ n, jx_W jx_ShC d (some .boolean) jc_140 Q n 47 [some (.ref 0), some (.int x1), some (.int x2), some (.int x3)] [] z7.2 by
              obtain ⟨n, hn⟩ := hh
              exact ⟨n + 12, And.intro (jx_in_ok c6) (hRec (by omega) h8 (And.intro (fun zz => absurd zz c9) (fun _ => hn)))⟩
            cases h
            exact ⟨2, And.intro (Or.inr rfl) (And.intro hQ (And.intro rfl rfl))⟩
set_option maxRecDepth 20000 in
theorem s_F_findSeats {N : Nat} : ∀ (r : Nat) {d : Nat} {x1 : Int32} {x2 : Int32} {σ : jw_M} {z : (Int32 × jw_M)} {Q : jw_Q}, 2 + 1 * r ≤ d → f_F_findSeats N r x1 x2 σ = some z → Q (some (.int z.1)) (jx_ShC, z.2) → jw_C jp_kd jp_ys d 140 [.ref 0, .int x1, .int x2] (jx_ShC, σ) Q
  | 0, _, _, _, _, _, _, _, h, _ => by cases h
  | r + 1, d, x1, x2, σ, z, Q, hd, h, hQ => by
    obtain ⟨d, rfl⟩ : ∃ e, d = e + 1 := ⟨d - 1, by omega⟩
    have hd0 : 0 + (2 + 1 * r) ≤ d := by omega
    replace hd : 1 ≤ d := by omega
    have hRec := @s_F_findSeats N r
    refine jx_C rfl rfl ?_
    rw [f_F_findSeats] at h
    by_cases c1 : x1 < (σ.1 1 0)
    · rw [if_pos c1] at h
      suffices hh : ∃ n, jx_W jx_ShC d (some .boolean) jc_140 Q n 13 [some (.ref 0), some (.int x1), some (.int x2), none] [] σ by
        obtain ⟨n, hn⟩ := hh
        exact ⟨n + 5, And.intro (fun _ => hn) (fun zz => absurd c1 zz)⟩
      obtain ⟨n, hn⟩ := s_F_findSeats_15 hRec hd0 hd N h hQ
      exact ⟨n + 2, hn⟩
    · rw [if_neg c1] at h
      suffices hh : ∃ n, jx_W jx_ShC d (some .boolean) jc_140 Q n 11 [some (.ref 0), some (.int x1), some (.int x2), none] [] σ by
        obtain ⟨n, hn⟩ := hh
        exact ⟨n + 5, And.intro (fun zz => absurd zz c1) (fun _ => hn)⟩
      cases h
      exact ⟨2, And.intro (Or.inr rfl) (And.intro hQ (And.intro rfl rfl))⟩
set_option maxRecDepth 20000 in
theorem s_F_fewestRooms_2 {N d : Nat} {Q : jw_Q} (hd : 66 ≤ d) : ∀ (k : Nat) {x1 : Int32} {σ : jw_M} {z : (Int32 × jw_M)}, f_F_fewestRooms_2 N k x1 σ = some z → Q (some (.int z.1)) (jx_ShC, z.2) → ∃ n, jx_W jx_ShC d (some .int) jc_139 Q n 2 [some (.ref 0), some (.int x1)] [] σ
  | 0, _, _, _, h, _ => by cases h
  | k + 1, x1, σ, z, h, hQ => by
    rw [f_F_fewestRooms_2] at h
    by_cases c1 : 6 < x1
    · rw [if_pos c1] at h
      suffices hh : ∃ n, jx_W jx_ShC d (some .int) jc_139 Q n 25 [some (.ref 0), some (.int x1)] [] σ by
        obtain ⟨n, hn⟩ := hh
        exact ⟨n + 3, And.intro (fun _ => hn) (fun zz => absurd c1 zz)⟩
      cases h
      exact ⟨2, And.intro hQ (And.intro rfl rfl)⟩
    · rw [if_neg c1] at h
      suffices hh : ∃ n, jx_W jx_ShC d (some .int) jc_139 Q n 8 [some (.ref 0), some (.int x1)] [] σ by
        obtain ⟨n, hn⟩ := hh
        exact ⟨n + 3, And.intro (fun zz => absurd zz c1) (fun _ => hn)⟩
      obtain ⟨z2, h3, h⟩ := Option.bind_eq_some_iff.mp h
      by_cases c4 : z2.1 = 0
      · rw [if_pos c4] at h
        suffices hh : ∃ n, jx_W jx_ShC d (some .int) jc_139 Q n 19 [some (.ref 0), some (.int x1)] [] z2.2 by
          obtain ⟨n, hn⟩ := hh
          exact ⟨n + 5, s_F_findSeats 64 (by omega) h3 (And.intro (fun _ => hn) (fun zz => absurd c4 zz))⟩
        obtain ⟨n, hn⟩ := s_F_fewestRooms_2 hd k h hQ
        exact ⟨n + 2, hn⟩
      · rw [if_neg c4] at h
        suffices hh : ∃ n, jx_W jx_ShC d (some .int) jc_139 Q n 17 [some (.ref 0), some (.int x1)] [] z2.2 by
          obtain ⟨n, hn⟩ := hh
          exact ⟨n + 5, s_F_findSeats 64 (by omega) h3 (And.intro (fun zz => absurd zz c4) (fun _ => hn))⟩
        cases h
        exact ⟨2, And.intro hQ (And.intro rfl rfl)⟩
set_option maxRecDepth 20000 in
theorem s_F_fewestRooms {N d : Nat} (hd : 67 ≤ d) {σ : jw_M} {z : (Int32 × jw_M)} {Q : jw_Q} (h : f_F_fewestRooms N  σ = some z) (hQ : Q (some (.int z.1)) (jx_ShC, z.2)) : jw_C jp_kd jp_ys d 139 [.ref 0] (jx_ShC, σ) Q := by
  obtain ⟨d, rfl⟩ : ∃ e, d = e + 1 := ⟨d - 1, by omega⟩
  replace hd : 66 ≤ d := by omega
  refine jx_C rfl rfl ?_
  unfold f_F_fewestRooms at h
  obtain ⟨n, hn⟩ := s_F_fewestRooms_2 hd N h hQ
  exact ⟨n + 2, hn⟩
set_option maxRecDepth 20000 in
theorem s_F_rooms {N d : Nat} (hd : 68 ≤ d) {σ : jw_M} {z : (Int32 × jw_M)} {Q : jw_Q} (h : f_F_rooms N  σ = some z) (hQ : Q (some (.int z.1)) (jx_ShC, z.2)) : jw_C jp_kd jp_ys d 135 [.ref 0] (jx_ShC, σ) Q := by
  obtain ⟨d, rfl⟩ : ∃ e, d = e + 1 := ⟨d - 1, by omega⟩
  replace hd : 67 ≤ d := by omega
  refine jx_C rfl rfl ?_
  unfold f_F_rooms at h
  obtain ⟨z1, h2, h⟩ := Option.bind_eq_some_iff.mp h
  cases h
  exact ⟨3, s_F_fewestRooms (by omega) h2 (And.intro hQ (And.intro rfl rfl))⟩
set_option maxRecDepth 20000 in
theorem s_F_seat {N d : Nat} {x1 : Int32} (hd : 68 ≤ d) {σ : jw_M} {z : (Int32 × jw_M)} {Q : jw_Q} (h : f_F_seat N x1 σ = some z) (hQ : Q (some (.int z.1)) (jx_ShC, z.2)) : jw_C jp_kd jp_ys d 136 [.ref 0, .int x1] (jx_ShC, σ) Q := by
  obtain ⟨d, rfl⟩ : ∃ e, d = e + 1 := ⟨d - 1, by omega⟩
  replace hd : 67 ≤ d := by omega
  refine jx_C rfl rfl ?_
  unfold f_F_seat at h
  obtain ⟨z1, h2, h⟩ := Option.bind_eq_some_iff.mp h
  by_cases c3 : z1.1 = 0
  · rw [if_pos c3] at h
    suffices hh : ∃ n, jx_W jx_ShC d (some .int) jc_136 Q n 11 [some (.ref 0), some (.int x1)] [] z1.2 by
      obtain ⟨n, hn⟩ := hh
      exact ⟨n + 5, s_S_isShadow (by omega) h2 (And.intro (fun zz => absurd c3 zz) (fun _ => hn))⟩
    cases h
    exact ⟨2, And.intro hQ (And.intro rfl rfl)⟩
  · rw [if_neg c3] at h
    suffices hh : ∃ n, jx_W jx_ShC d (some .int) jc_136 Q n 13 [some (.ref 0), some (.int x1)] [] z1.2 by
      obtain ⟨n, hn⟩ := hh
      exact ⟨n + 5, s_S_isShadow (by omega) h2 (And.intro (fun _ => hn) (fun zz => absurd zz c3))⟩
    obtain ⟨z4, h5, h⟩ := Option.bind_eq_some_iff.mp h
    cases c6 : jx_in x1 6 with
    | false => rw [c6, cond_false] at h; cases h
    | true =>
      rw [c6, cond_true] at h
      cases h
      exact ⟨8, s_F_fewestRooms (by omega) h5 (And.intro (jx_in_ok c6) (And.intro hQ (And.intro rfl rfl)))⟩
set_option maxRecDepth 20000 in
theorem s_F_countSeatings_53 {N d : Nat} {Dr : Nat} {Rec : Int32 → Int32 → jw_M → Option (Int32 × jw_M)} {Q : jw_Q} {K18 : Int32 → Int32 → Int32 → Int32 → jw_M → Option (Int32 × jw_M)} (hRec : ∀ {d : Nat} {a1 : Int32} {a2 : Int32} {σ : jw_M} {z : (Int32 × jw_M)} {Q : jw_Q}, Dr ≤ d → Rec a1 a2 σ = some z → Q (some (.int z.1)) (jx_ShC, z.2) → jw_C jp_kd jp_ys d 141 [.ref 0, .int a1, .int a2] (jx_ShC, σ) Q) (hd0 : 0 + Dr ≤ d) (hd : 1 ≤ d) (hK18 : ∀ {x1 : Int32} {x2 : Int32} {x3 : Int32} {x4 : Int32} {σ : jw_M} {z : (Int32 × jw_M)}, K18 x1 x2 x3 x4 σ = some z → Q (some (.int z.1)) (jx_ShC, z.2) → ∃ n, jx_W jx_ShC d (some .int) jc_141 Q n 18 [some (.ref 0), some (.int x1), some (.int x2), some (.int x3), some (.int x4)] [] σ) {x1 : Int32} {x2 : Int32} {x3 : Int32} {x4 : Int32} {σ : jw_M} {z : (Int32 × jw_M)} (h : f_F_countSeatings_53 N Rec K18 x1 x2 x3 x4 σ = some z) (hQ : Q (some (.int z.1)) (jx_ShC, z.2)) : ∃ n, jx_W jx_ShC d (some .int) jc_141 Q n 53 [some (.ref 0), some (.int x1), some (.int x2), some (.int x3), some (.int x4)] [] σ := by
  unfold f_F_countSeatings_53 at h
  obtain ⟨n, hn⟩ := hK18 h hQ
  exact ⟨n + 2, hn⟩
set_option maxRecDepth 20000 in
theorem s_F_countSeatings_18 {N d : Nat} {Dr : Nat} {Rec : Int32 → Int32 → jw_M → Option (Int32 × jw_M)} {Q : jw_Q} (hRec : ∀ {d : Nat} {a1 : Int32} {a2 : Int32} {σ : jw_M} {z : (Int32 × jw_M)} {Q : jw_Q}, Dr ≤ d → Rec a1 a2 σ = some z → Q (some (.int z.1)) (jx_ShC, z.2) → jw_C jp_kd jp_ys d 141 [.ref 0, .int a1, .int a2] (jx_ShC, σ) Q) (hd0 : 0 + Dr ≤ d) (hd : 1 ≤ d) : ∀ (k : Nat) {x1 : Int32} {x2 : Int32} {x3 : Int32} {x4 : Int32} {σ : jw_M} {z : (Int32 × jw_M)}, f_F_countSeatings_18 N Rec k x1 x2 x3 x4 σ = some z → Q (some (.int z.1)) (jx_ShC, z.2) → ∃ n, jx_W jx_ShC d (some .int) jc_141 Q n 18 [some (.ref 0), some (.int x1), some (.int x2), some (.int x3), some (.int x4)] [] σ
  | 0, _, _, _, _, _, _, h, _ => by cases h
  | k + 1, x1, x2, x3, x4, σ, z, h, hQ => by
    rw [f_F_countSeatings_18] at h
    by_cases c2 : x2 ≤ x4
    · rw [if_pos c2] at h
      suffices hh : ∃ n, jx_W jx_ShC d (some .int) jc_141 Q n 59 [some (.ref 0), some (.int x1), some (.int x2), some (.int x3), some (.int x4)] [] σ by
        obtain ⟨n, hn⟩ := hh
        exact ⟨n + 3, And.intro (fun _ => hn) (fun zz => absurd c2 zz)⟩
      cases h
      exact ⟨2, And.intro hQ (And.intro rfl rfl)⟩
    · rw [if_neg c2] at h
      suffices hh : ∃ n, jx_W jx_ShC d (some .int) jc_141 Q n 24 [some (.ref 0), some (.int x1), some (.int x2), some (.int x3), some (.int x4)] [] σ by
        obtain ⟨n, hn⟩ := hh
        exact ⟨n + 3, And.intro (fun zz => absurd zz c2) (fun _ => hn)⟩
      obtain ⟨z3, h4, h⟩ := Option.bind_eq_some_iff.mp h
      by_cases c5 : z3.1 = 0
      · rw [if_pos c5] at h
        suffices hh : ∃ n, jx_W jx_ShC d (some .int) jc_141 Q n 53 [some (.ref 0), some (.int x1), some (.int x2), some (.int x3), some (.int x4)] [] z3.2 by
          obtain ⟨n, hn⟩ := hh
          exact ⟨n + 5, s_F_mayTake (by omega) h4 (And.intro (fun _ => hn) (fun zz => absurd c5 zz))⟩
        obtain ⟨n, hn⟩ := s_F_countSeatings_53 hRec hd0 hd (s_F_countSeatings_18 hRec hd0 hd k) h hQ
        exact ⟨n + 0, hn⟩
      · rw [if_neg c5] at h
        suffices hh : ∃ n, jx_W jx_ShC d (some .int) jc_141 Q n 34 [some (.ref 0), some (.int x1), some (.int x2), some (.int x3), some (.int x4)] [] z3.2 by
          obtain ⟨n, hn⟩ := hh
          exact ⟨n + 5, s_F_mayTake (by omega) h4 (And.intro (fun zz => absurd zz c5) (fun _ => hn))⟩
        cases c6 : jx_in x1 6 with
        | false => rw [c6, cond_false] at h; cases h
        | true =>
          rw [c6, cond_true] at h
          obtain ⟨z7, h8, h⟩ := Option.bind_eq_some_iff.mp h
          obtain ⟨n, hn⟩ := s_F_countSeatings_53 hRec hd0 hd (s_F_countSeatings_18 hRec hd0 hd k) h hQ
          exact ⟨n + 14, And.intro (jx_in_ok c6) (hRec (by omega) h8 (hn))⟩
set_option maxRecDepth 20000 in
theorem s_F_countSeatings {N : Nat} : ∀ (r : Nat) {d : Nat} {x1 : Int32} {x2 : Int32} {σ : jw_M} {z : (Int32 × jw_M)} {Q : jw_Q}, 2 + 1 * r ≤ d → f_F_countSeatings N r x1 x2 σ = some z → Q (some (.int z.1)) (jx_ShC, z.2) → jw_C jp_kd jp_ys d 141 [.ref 0, .int x1, .int x2] (jx_ShC, σ) Q
  | 0, _, _, _, _, _, _, _, h, _ => by cases h
  | r + 1, d, x1, x2, σ, z, Q, hd, h, hQ => by
    obtain ⟨d, rfl⟩ : ∃ e, d = e + 1 := ⟨d - 1, by omega⟩
    have hd0 : 0 + (2 + 1 * r) ≤ d := by omega
    replace hd : 1 ≤ d := by omega
    have hRec := @s_F_countSeatings N r
    refine jx_C rfl rfl ?_
    rw [f_F_countSeatings] at h
    by_cases c1 : x1 < (σ.1 1 0)
    · rw [if_pos c1] at h
      suffices hh : ∃ n, jx_W jx_ShC d (some .int) jc_141 Q n 13 [some (.ref 0), some (.int x1), some (.int x2), none, none] [] σ by
        obtain ⟨n, hn⟩ := hh
        exact ⟨n + 5, And.intro (fun _ => hn) (fun zz => absurd c1 zz)⟩
      obtain ⟨n, hn⟩ := s_F_countSeatings_18 hRec hd0 hd N h hQ
      exact ⟨n + 4, hn⟩
    · rw [if_neg c1] at h
      suffices hh : ∃ n, jx_W jx_ShC d (some .int) jc_141 Q n 11 [some (.ref 0), some (.int x1), some (.int x2), none, none] [] σ by
        obtain ⟨n, hn⟩ := hh
        exact ⟨n + 5, And.intro (fun zz => absurd zz c1) (fun _ => hn)⟩
      cases h
      exact ⟨2, And.intro hQ (And.intro rfl rfl)⟩
set_option maxRecDepth 20000 in
theorem s_F_seatings {N d : Nat} {x1 : Int32} (hd : 67 ≤ d) {σ : jw_M} {z : (Int32 × jw_M)} {Q : jw_Q} (h : f_F_seatings N x1 σ = some z) (hQ : Q (some (.int z.1)) (jx_ShC, z.2)) : jw_C jp_kd jp_ys d 137 [.ref 0, .int x1] (jx_ShC, σ) Q := by
  obtain ⟨d, rfl⟩ : ∃ e, d = e + 1 := ⟨d - 1, by omega⟩
  replace hd : 66 ≤ d := by omega
  refine jx_C rfl rfl ?_
  unfold f_F_seatings at h
  obtain ⟨z1, h2, h⟩ := Option.bind_eq_some_iff.mp h
  by_cases c3 : z1.1 = 0
  · rw [if_pos c3] at h
    suffices hh : ∃ n, jx_W jx_ShC d (some .int) jc_137 Q n 18 [some (.ref 0), some (.int x1)] [] z1.2 by
      obtain ⟨n, hn⟩ := hh
      exact ⟨n + 5, s_F_isWithin (by omega) h2 (And.intro (fun _ => hn) (fun zz => absurd c3 zz))⟩
    cases h
    exact ⟨2, And.intro hQ (And.intro rfl rfl)⟩
  · rw [if_neg c3] at h
    suffices hh : ∃ n, jx_W jx_ShC d (some .int) jc_137 Q n 9 [some (.ref 0), some (.int x1)] [] z1.2 by
      obtain ⟨n, hn⟩ := hh
      exact ⟨n + 5, s_F_isWithin (by omega) h2 (And.intro (fun zz => absurd zz c3) (fun _ => hn))⟩
    obtain ⟨z4, h5, h⟩ := Option.bind_eq_some_iff.mp h
    cases h
    exact ⟨6, s_F_countSeatings 64 (by omega) h5 (And.intro hQ (And.intro rfl rfl))⟩
set_option maxRecDepth 20000 in
theorem s_F_countGifts_93 {N d : Nat} {Dr : Nat} {Rec : Int32 → Int32 → Int32 → Int32 → Int32 → jw_M → Option (Int32 × jw_M)} {Q : jw_Q} {K19 : Int32 → Int32 → Int32 → Int32 → Int32 → Int32 → Int32 → jw_M → Option (Int32 × jw_M)} (hRec : ∀ {d : Nat} {a1 : Int32} {a2 : Int32} {a3 : Int32} {a4 : Int32} {a5 : Int32} {σ : jw_M} {z : (Int32 × jw_M)} {Q : jw_Q}, Dr ≤ d → Rec a1 a2 a3 a4 a5 σ = some z → Q (some (.int z.1)) (jx_ShC, z.2) → jw_C jp_kd jp_ys d 143 [.ref 0, .int a1, .int a2, .int a3, .int a4, .int a5] (jx_ShC, σ) Q) (hd0 : 0 + Dr ≤ d) (hd : 4 ≤ d) (hK19 : ∀ {x1 : Int32} {x2 : Int32} {x3 : Int32} {x4 : Int32} {x5 : Int32} {x6 : Int32} {x7 : Int32} {σ : jw_M} {z : (Int32 × jw_M)}, K19 x1 x2 x3 x4 x5 x6 x7 σ = some z → Q (some (.int z.1)) (jx_ShC, z.2) → ∃ n, jx_W jx_ShC d (some .int) jc_143 Q n 19 [some (.ref 0), some (.int x1), some (.int x2), some (.int x3), some (.int x4), some (.int x5), some (.int x6), some (.int x7)] [] σ) {x1 : Int32} {x2 : Int32} {x3 : Int32} {x4 : Int32} {x5 : Int32} {x6 : Int32} {x7 : Int32} {σ : jw_M} {z : (Int32 × jw_M)} (h : f_F_countGifts_93 N Rec K19 x1 x2 x3 x4 x5 x6 x7 σ = some z) (hQ : Q (some (.int z.1)) (jx_ShC, z.2)) : ∃ n, jx_W jx_ShC d (some .int) jc_143 Q n 93 [some (.ref 0), some (.int x1), some (.int x2), some (.int x3), some (.int x4), some (.int x5), some (.int x6), some (.int x7)] [] σ := by
  unfold f_F_countGifts_93 at h
  obtain ⟨n, hn⟩ := hK19 h hQ
  exact ⟨n + 2, hn⟩
set_option maxRecDepth 20000 in
theorem s_F_countGifts_19 {N d : Nat} {Dr : Nat} {Rec : Int32 → Int32 → Int32 → Int32 → Int32 → jw_M → Option (Int32 × jw_M)} {Q : jw_Q} (hRec : ∀ {d : Nat} {a1 : Int32} {a2 : Int32} {a3 : Int32} {a4 : Int32} {a5 : Int32} {σ : jw_M} {z : (Int32 × jw_M)} {Q : jw_Q}, Dr ≤ d → Rec a1 a2 a3 a4 a5 σ = some z → Q (some (.int z.1)) (jx_ShC, z.2) → jw_C jp_kd jp_ys d 143 [.ref 0, .int a1, .int a2, .int a3, .int a4, .int a5] (jx_ShC, σ) Q) (hd0 : 0 + Dr ≤ d) (hd : 4 ≤ d) : ∀ (k : Nat) {x1 : Int32} {x2 : Int32} {x3 : Int32} {x4 : Int32} {x5 : Int32} {x6 : Int32} {x7 : Int32} {σ : jw_M} {z : (Int32 × jw_M)}, f_F_countGifts_19 N Rec k x1 x2 x3 x4 x5 x6 x7 σ = some z → Q (some (.int z.1)) (jx_ShC, z.2) → ∃ n, jx_W jx_ShC d (some .int) jc_143 Q n 19 [some (.ref 0), some (.int x1), some (.int x2), some (.int x3), some (.int x4), some (.int x5), some (.int x6), some (.int x7)] [] σ
  | 0, _, _, _, _, _, _, _, _, _, h, _ => by cases h
  | k + 1, x1, x2, x3, x4, x5, x6, x7, σ, z, h, hQ => by
    rw [f_F_countGifts_19] at h
    by_cases c2 : (σ.1 1 0) ≤ x7
    · rw [if_pos c2] at h
      suffices hh : ∃ n, jx_W jx_ShC d (some .int) jc_143 Q n 99 [some (.ref 0), some (.int x1), some (.int x2), some (.int x3), some (.int x4), some (.int x5), some (.int x6), some (.int x7)] [] σ by
        obtain ⟨n, hn⟩ := hh
        exact ⟨n + 5, And.intro (fun _ => hn) (fun zz => absurd c2 zz)⟩
      cases h
      exact ⟨2, And.intro hQ (And.intro rfl rfl)⟩
    · rw [if_neg c2] at h
      suffices hh : ∃ n, jx_W jx_ShC d (some .int) jc_143 Q n 31 [some (.ref 0), some (.int x1), some (.int x2), some (.int x3), some (.int x4), some (.int x5), some (.int x6), some (.int x7)] [] σ by
        obtain ⟨n, hn⟩ := hh
        exact ⟨n + 5, And.intro (fun zz => absurd zz c2) (fun _ => hn)⟩
      by_cases c3 : ((x2 >>> (x7 &&& 31)) &&& 1) = 0
      · rw [if_pos c3] at h
        suffices hh : ∃ n, jx_W jx_ShC d (some .int) jc_143 Q n 40 [some (.ref 0), some (.int x1), some (.int x2), some (.int x3), some (.int x4), some (.int x5), some (.int x6), some (.int x7)] [] σ by
          obtain ⟨n, hn⟩ := hh
          exact ⟨n + 6, And.intro (fun zz => absurd c3 zz) (fun _ => hn)⟩
        obtain ⟨z4, h5, h⟩ := Option.bind_eq_some_iff.mp h
        obtain ⟨z6, h7, h⟩ := Option.bind_eq_some_iff.mp h
        obtain ⟨z8, h9, h⟩ := Option.bind_eq_some_iff.mp h
        by_cases c10 : x5 < z8.1
        · rw [if_pos c10] at h
          suffices hh : ∃ n, jx_W jx_ShC d (some .int) jc_143 Q n 93 [some (.ref 0), some (.int x1), some (.int x2), some (.int x3), some (.int x4), some (.int x5), some (.int x6), some (.int x7)] [] z8.2 by
            obtain ⟨n, hn⟩ := hh
            exact ⟨n + 15, s_H_itemAt (by omega) h5 (s_S_lengthOf (by omega) h7 (s_J_abs (by omega) h9 (And.intro (fun _ => hn) (fun zz => absurd c10 zz))))⟩
          obtain ⟨n, hn⟩ := s_F_countGifts_93 hRec hd0 hd (s_F_countGifts_19 hRec hd0 hd k) h hQ
          exact ⟨n + 0, hn⟩
        · rw [if_neg c10] at h
          suffices hh : ∃ n, jx_W jx_ShC d (some .int) jc_143 Q n 70 [some (.ref 0), some (.int x1), some (.int x2), some (.int x3), some (.int x4), some (.int x5), some (.int x6), some (.int x7)] [] z8.2 by
            obtain ⟨n, hn⟩ := hh
            exact ⟨n + 15, s_H_itemAt (by omega) h5 (s_S_lengthOf (by omega) h7 (s_J_abs (by omega) h9 (And.intro (fun zz => absurd zz c10) (fun _ => hn))))⟩
          obtain ⟨z11, h12, h⟩ := Option.bind_eq_some_iff.mp h
          obtain ⟨n, hn⟩ := s_F_countGifts_93 hRec hd0 hd (s_F_countGifts_19 hRec hd0 hd k) h hQ
          exact ⟨n + 16, hRec (by omega) h12 (hn)⟩
      · rw [if_neg c3] at h
        suffices hh : ∃ n, jx_W jx_ShC d (some .int) jc_143 Q n 93 [some (.ref 0), some (.int x1), some (.int x2), some (.int x3), some (.int x4), some (.int x5), some (.int x6), some (.int x7)] [] σ by
          obtain ⟨n, hn⟩ := hh
          exact ⟨n + 6, And.intro (fun _ => hn) (fun zz => absurd zz c3)⟩
        obtain ⟨n, hn⟩ := s_F_countGifts_93 hRec hd0 hd (s_F_countGifts_19 hRec hd0 hd k) h hQ
        exact ⟨n + 0, hn⟩
set_option maxRecDepth 20000 in
theorem s_F_countGifts {N : Nat} : ∀ (r : Nat) {d : Nat} {x1 : Int32} {x2 : Int32} {x3 : Int32} {x4 : Int32} {x5 : Int32} {σ : jw_M} {z : (Int32 × jw_M)} {Q : jw_Q}, 5 + 1 * r ≤ d → f_F_countGifts N r x1 x2 x3 x4 x5 σ = some z → Q (some (.int z.1)) (jx_ShC, z.2) → jw_C jp_kd jp_ys d 143 [.ref 0, .int x1, .int x2, .int x3, .int x4, .int x5] (jx_ShC, σ) Q
  | 0, _, _, _, _, _, _, _, _, _, _, h, _ => by cases h
  | r + 1, d, x1, x2, x3, x4, x5, σ, z, Q, hd, h, hQ => by
    obtain ⟨d, rfl⟩ : ∃ e, d = e + 1 := ⟨d - 1, by omega⟩
    have hd0 : 0 + (5 + 1 * r) ≤ d := by omega
    replace hd : 4 ≤ d := by omega
    have hRec := @s_F_countGifts N r
    refine jx_C rfl rfl ?_
    rw [f_F_countGifts] at h
    by_cases c1 : x1 < (σ.1 1 0)
    · rw [if_pos c1] at h
      suffices hh : ∃ n, jx_W jx_ShC d (some .int) jc_143 Q n 13 [some (.ref 0), some (.int x1), some (.int x2), some (.int x3), some (.int x4), some (.int x5), none, none] [] σ by
        obtain ⟨n, hn⟩ := hh
        exact ⟨n + 5, And.intro (fun _ => hn) (fun zz => absurd c1 zz)⟩
      obtain ⟨n, hn⟩ := s_F_countGifts_19 hRec hd0 hd N h hQ
      exact ⟨n + 4, hn⟩
    · rw [if_neg c1] at h
      suffices hh : ∃ n, jx_W jx_ShC d (some .int) jc_143 Q n 11 [some (.ref 0), some (.int x1), some (.int x2), some (.int x3), some (.int x4), some (.int x5), none, none] [] σ by
        obtain ⟨n, hn⟩ := hh
        exact ⟨n + 5, And.intro (fun zz => absurd zz c1) (fun _ => hn)⟩
      cases h
      exact ⟨2, And.intro hQ (And.intro rfl rfl)⟩
set_option maxRecDepth 20000 in
theorem s_F_match {N d : Nat} {x1 : Int32} {x2 : Int32} {x3 : Int32} (hd : 70 ≤ d) {σ : jw_M} {z : (Int32 × jw_M)} {Q : jw_Q} (h : f_F_match N x1 x2 x3 σ = some z) (hQ : Q (some (.int z.1)) (jx_ShC, z.2)) : jw_C jp_kd jp_ys d 138 [.ref 0, .int x1, .int x2, .int x3] (jx_ShC, σ) Q := by
  obtain ⟨d, rfl⟩ : ∃ e, d = e + 1 := ⟨d - 1, by omega⟩
  replace hd : 69 ≤ d := by omega
  refine jx_C rfl rfl ?_
  unfold f_F_match at h
  obtain ⟨z1, h2, h⟩ := Option.bind_eq_some_iff.mp h
  by_cases c3 : z1.1 = 0
  · rw [if_pos c3] at h
    suffices hh : ∃ n, jx_W jx_ShC d (some .int) jc_138 Q n 21 [some (.ref 0), some (.int x1), some (.int x2), some (.int x3), none] [] z1.2 by
      obtain ⟨n, hn⟩ := hh
      exact ⟨n + 5, s_H_isSheet (by omega) h2 (And.intro (fun _ => hn) (fun zz => absurd c3 zz))⟩
    cases h
    exact ⟨2, And.intro hQ (And.intro rfl rfl)⟩
  · rw [if_neg c3] at h
    suffices hh : ∃ n, jx_W jx_ShC d (some .int) jc_138 Q n 11 [some (.ref 0), some (.int x1), some (.int x2), some (.int x3), none] [] z1.2 by
      obtain ⟨n, hn⟩ := hh
      exact ⟨n + 5, s_H_isSheet (by omega) h2 (And.intro (fun zz => absurd zz c3) (fun _ => hn))⟩
    obtain ⟨z4, h5, h⟩ := Option.bind_eq_some_iff.mp h
    by_cases c6 : z4.1 = 0
    · rw [if_pos c6] at h
      suffices hh : ∃ n, jx_W jx_ShC d (some .int) jc_138 Q n 21 [some (.ref 0), some (.int x1), some (.int x2), some (.int x3), none] [] z4.2 by
        obtain ⟨n, hn⟩ := hh
        exact ⟨n + 5, s_F_isWithin (by omega) h5 (And.intro (fun zz => absurd c6 zz) (fun _ => hn))⟩
      cases h
      exact ⟨2, And.intro hQ (And.intro rfl rfl)⟩
    · rw [if_neg c6] at h
      suffices hh : ∃ n, jx_W jx_ShC d (some .int) jc_138 Q n 23 [some (.ref 0), some (.int x1), some (.int x2), some (.int x3), none] [] z4.2 by
        obtain ⟨n, hn⟩ := hh
        exact ⟨n + 5, s_F_isWithin (by omega) h5 (And.intro (fun _ => hn) (fun zz => absurd zz c6))⟩
      obtain ⟨z7, h8, h⟩ := Option.bind_eq_some_iff.mp h
      by_cases c9 : z7.1 = 0
      · rw [if_pos c9] at h
        suffices hh : ∃ n, jx_W jx_ShC d (some .int) jc_138 Q n 42 [some (.ref 0), some (.int x1), some (.int x2), some (.int x3), some (.int z7.1)] [] z7.2 by
          obtain ⟨n, hn⟩ := hh
          exact ⟨n + 8, s_H_refusalAs (by omega) h8 (And.intro (fun _ => hn) (fun zz => absurd c9 zz))⟩
        obtain ⟨z10, h11, h⟩ := Option.bind_eq_some_iff.mp h
        by_cases c12 : z10.1 = 0
        · rw [if_pos c12] at h
          suffices hh : ∃ n, jx_W jx_ShC d (some .int) jc_138 Q n 73 [some (.ref 0), some (.int x1), some (.int x2), some (.int x3), some (.int z7.1)] [] z10.2 by
            obtain ⟨n, hn⟩ := hh
            exact ⟨n + 9, s_H_hasItems (by omega) h11 (And.intro (fun _ => hn) (fun zz => absurd c12 zz))⟩
          cases h
          exact ⟨2, And.intro hQ (And.intro rfl rfl)⟩
        · rw [if_neg c12] at h
          suffices hh : ∃ n, jx_W jx_ShC d (some .int) jc_138 Q n 61 [some (.ref 0), some (.int x1), some (.int x2), some (.int x3), some (.int z7.1)] [] z10.2 by
            obtain ⟨n, hn⟩ := hh
            exact ⟨n + 9, s_H_hasItems (by omega) h11 (And.intro (fun zz => absurd zz c12) (fun _ => hn))⟩
          obtain ⟨z13, h14, h⟩ := Option.bind_eq_some_iff.mp h
          cases h
          exact ⟨9, s_F_countGifts 64 (by omega) h14 (And.intro hQ (And.intro rfl rfl))⟩
      · rw [if_neg c9] at h
        suffices hh : ∃ n, jx_W jx_ShC d (some .int) jc_138 Q n 39 [some (.ref 0), some (.int x1), some (.int x2), some (.int x3), some (.int z7.1)] [] z7.2 by
          obtain ⟨n, hn⟩ := hh
          exact ⟨n + 8, s_H_refusalAs (by omega) h8 (And.intro (fun zz => absurd zz c9) (fun _ => hn))⟩
        cases h
        exact ⟨2, And.intro hQ (And.intro rfl rfl)⟩
set_option maxRecDepth 20000 in
theorem s_F_best {N d : Nat} {x1 : Int32} (hd : 72 ≤ d) {σ : jw_M} {z : (Int32 × jw_M)} {Q : jw_Q} (h : f_F_best N x1 σ = some z) (hQ : Q (some (.int z.1)) (jx_ShC, z.2)) : jw_C jp_kd jp_ys d 144 [.ref 0, .int x1] (jx_ShC, σ) Q := by
  obtain ⟨d, rfl⟩ : ∃ e, d = e + 1 := ⟨d - 1, by omega⟩
  replace hd : 71 ≤ d := by omega
  refine jx_C rfl rfl ?_
  unfold f_F_best at h
  obtain ⟨z1, h2, h⟩ := Option.bind_eq_some_iff.mp h
  by_cases c3 : z1.1 = 0
  · rw [if_pos c3] at h
    suffices hh : ∃ n, jx_W jx_ShC d (some .int) jc_144 Q n 9 [some (.ref 0), some (.int x1)] [] z1.2 by
      obtain ⟨n, hn⟩ := hh
      exact ⟨n + 5, s_F_isWithin (by omega) h2 (And.intro (fun zz => absurd c3 zz) (fun _ => hn))⟩
    cases h
    exact ⟨2, And.intro hQ (And.intro rfl rfl)⟩
  · rw [if_neg c3] at h
    suffices hh : ∃ n, jx_W jx_ShC d (some .int) jc_144 Q n 11 [some (.ref 0), some (.int x1)] [] z1.2 by
      obtain ⟨n, hn⟩ := hh
      exact ⟨n + 5, s_F_isWithin (by omega) h2 (And.intro (fun _ => hn) (fun zz => absurd zz c3))⟩
    obtain ⟨z4, h5, h⟩ := Option.bind_eq_some_iff.mp h
    cases h
    exact ⟨11, s_L_walkAll (by omega) h5 (And.intro hQ (And.intro rfl rfl))⟩
set_option maxRecDepth 20000 in
theorem s_F_ith {N d : Nat} {x1 : Int32} {x2 : Int32} (hd : 72 ≤ d) {σ : jw_M} {z : (Int32 × jw_M)} {Q : jw_Q} (h : f_F_ith N x1 x2 σ = some z) (hQ : Q (some (.int z.1)) (jx_ShC, z.2)) : jw_C jp_kd jp_ys d 145 [.ref 0, .int x1, .int x2] (jx_ShC, σ) Q := by
  obtain ⟨d, rfl⟩ : ∃ e, d = e + 1 := ⟨d - 1, by omega⟩
  replace hd : 71 ≤ d := by omega
  refine jx_C rfl rfl ?_
  unfold f_F_ith at h
  obtain ⟨z1, h2, h⟩ := Option.bind_eq_some_iff.mp h
  by_cases c3 : z1.1 = 0
  · rw [if_pos c3] at h
    suffices hh : ∃ n, jx_W jx_ShC d (some .int) jc_145 Q n 18 [some (.ref 0), some (.int x1), some (.int x2)] [] z1.2 by
      obtain ⟨n, hn⟩ := hh
      exact ⟨n + 5, s_F_isWithin (by omega) h2 (And.intro (fun _ => hn) (fun zz => absurd c3 zz))⟩
    cases h
    exact ⟨2, And.intro hQ (And.intro rfl rfl)⟩
  · rw [if_neg c3] at h
    suffices hh : ∃ n, jx_W jx_ShC d (some .int) jc_145 Q n 9 [some (.ref 0), some (.int x1), some (.int x2)] [] z1.2 by
      obtain ⟨n, hn⟩ := hh
      exact ⟨n + 5, s_F_isWithin (by omega) h2 (And.intro (fun zz => absurd zz c3) (fun _ => hn))⟩
    obtain ⟨z4, h5, h⟩ := Option.bind_eq_some_iff.mp h
    by_cases c6 : z4.1 = 0
    · rw [if_pos c6] at h
      suffices hh : ∃ n, jx_W jx_ShC d (some .int) jc_145 Q n 18 [some (.ref 0), some (.int x1), some (.int x2)] [] z4.2 by
        obtain ⟨n, hn⟩ := hh
        exact ⟨n + 5, s_F_isWithin (by omega) h5 (And.intro (fun zz => absurd c6 zz) (fun _ => hn))⟩
      cases h
      exact ⟨2, And.intro hQ (And.intro rfl rfl)⟩
    · rw [if_neg c6] at h
      suffices hh : ∃ n, jx_W jx_ShC d (some .int) jc_145 Q n 20 [some (.ref 0), some (.int x1), some (.int x2)] [] z4.2 by
        obtain ⟨n, hn⟩ := hh
        exact ⟨n + 5, s_F_isWithin (by omega) h5 (And.intro (fun _ => hn) (fun zz => absurd zz c6))⟩
      obtain ⟨z7, h8, h⟩ := Option.bind_eq_some_iff.mp h
      by_cases c9 : (z7.1 92 2) ≤ x2
      · rw [if_pos c9] at h
        suffices hh : ∃ n, jx_W jx_ShC d (some .int) jc_145 Q n 56 [some (.ref 0), some (.int x1), some (.int x2)] [] z7 by
          obtain ⟨n, hn⟩ := hh
          exact ⟨n + 12, s_L_walkAll (by omega) h8 (And.intro (fun _ => hn) (fun zz => absurd c9 zz))⟩
        cases h
        exact ⟨2, And.intro hQ (And.intro rfl rfl)⟩
      · rw [if_neg c9] at h
        suffices hh : ∃ n, jx_W jx_ShC d (some .int) jc_145 Q n 44 [some (.ref 0), some (.int x1), some (.int x2)] [] z7 by
          obtain ⟨n, hn⟩ := hh
          exact ⟨n + 12, s_L_walkAll (by omega) h8 (And.intro (fun zz => absurd zz c9) (fun _ => hn))⟩
        cases c10 : jx_in x2 4 with
        | false => rw [c10, cond_false] at h; cases h
        | true =>
          rw [c10, cond_true] at h
          cases h
          exact ⟨7, And.intro (jx_in_ok c10) (And.intro hQ (And.intro rfl rfl))⟩
set_option maxRecDepth 20000 in
theorem s_F_ways {N d : Nat} {x1 : Int32} (hd : 72 ≤ d) {σ : jw_M} {z : (Int32 × jw_M)} {Q : jw_Q} (h : f_F_ways N x1 σ = some z) (hQ : Q (some (.int z.1)) (jx_ShC, z.2)) : jw_C jp_kd jp_ys d 146 [.ref 0, .int x1] (jx_ShC, σ) Q := by
  obtain ⟨d, rfl⟩ : ∃ e, d = e + 1 := ⟨d - 1, by omega⟩
  replace hd : 71 ≤ d := by omega
  refine jx_C rfl rfl ?_
  unfold f_F_ways at h
  obtain ⟨z1, h2, h⟩ := Option.bind_eq_some_iff.mp h
  by_cases c3 : z1.1 = 0
  · rw [if_pos c3] at h
    suffices hh : ∃ n, jx_W jx_ShC d (some .int) jc_146 Q n 9 [some (.ref 0), some (.int x1)] [] z1.2 by
      obtain ⟨n, hn⟩ := hh
      exact ⟨n + 5, s_F_isWithin (by omega) h2 (And.intro (fun zz => absurd c3 zz) (fun _ => hn))⟩
    cases h
    exact ⟨2, And.intro hQ (And.intro rfl rfl)⟩
  · rw [if_neg c3] at h
    suffices hh : ∃ n, jx_W jx_ShC d (some .int) jc_146 Q n 11 [some (.ref 0), some (.int x1)] [] z1.2 by
      obtain ⟨n, hn⟩ := hh
      exact ⟨n + 5, s_F_isWithin (by omega) h2 (And.intro (fun _ => hn) (fun zz => absurd zz c3))⟩
    obtain ⟨z4, h5, h⟩ := Option.bind_eq_some_iff.mp h
    cases h
    exact ⟨11, s_L_walkAll (by omega) h5 (And.intro hQ (And.intro rfl rfl))⟩
set_option maxRecDepth 20000 in
theorem s_F_taught {N d : Nat} {x1 : Int32} {x2 : Int32} (hd : 72 ≤ d) {σ : jw_M} {z : (Int32 × jw_M)} {Q : jw_Q} (h : f_F_taught N x1 x2 σ = some z) (hQ : Q (some (.int z.1)) (jx_ShC, z.2)) : jw_C jp_kd jp_ys d 147 [.ref 0, .int x1, .int x2] (jx_ShC, σ) Q := by
  obtain ⟨d, rfl⟩ : ∃ e, d = e + 1 := ⟨d - 1, by omega⟩
  replace hd : 71 ≤ d := by omega
  refine jx_C rfl rfl ?_
  unfold f_F_taught at h
  obtain ⟨z1, h2, h⟩ := Option.bind_eq_some_iff.mp h
  by_cases c3 : z1.1 = 0
  · rw [if_pos c3] at h
    suffices hh : ∃ n, jx_W jx_ShC d (some .int) jc_147 Q n 20 [some (.ref 0), some (.int x1), some (.int x2)] [] z1.2 by
      obtain ⟨n, hn⟩ := hh
      exact ⟨n + 5, s_F_isWithin (by omega) h2 (And.intro (fun _ => hn) (fun zz => absurd c3 zz))⟩
    cases h
    exact ⟨2, And.intro hQ (And.intro rfl rfl)⟩
  · rw [if_neg c3] at h
    suffices hh : ∃ n, jx_W jx_ShC d (some .int) jc_147 Q n 9 [some (.ref 0), some (.int x1), some (.int x2)] [] z1.2 by
      obtain ⟨n, hn⟩ := hh
      exact ⟨n + 5, s_F_isWithin (by omega) h2 (And.intro (fun zz => absurd zz c3) (fun _ => hn))⟩
    obtain ⟨z4, h5, h⟩ := Option.bind_eq_some_iff.mp h
    by_cases c6 : z4.1 = 0
    · rw [if_pos c6] at h
      suffices hh : ∃ n, jx_W jx_ShC d (some .int) jc_147 Q n 20 [some (.ref 0), some (.int x1), some (.int x2)] [] z4.2 by
        obtain ⟨n, hn⟩ := hh
        exact ⟨n + 5, s_S_isSetOfLessons (by omega) h5 (And.intro (fun zz => absurd c6 zz) (fun _ => hn))⟩
      cases h
      exact ⟨2, And.intro hQ (And.intro rfl rfl)⟩
    · rw [if_neg c6] at h
      suffices hh : ∃ n, jx_W jx_ShC d (some .int) jc_147 Q n 22 [some (.ref 0), some (.int x1), some (.int x2)] [] z4.2 by
        obtain ⟨n, hn⟩ := hh
        exact ⟨n + 5, s_S_isSetOfLessons (by omega) h5 (And.intro (fun _ => hn) (fun zz => absurd zz c6))⟩
      obtain ⟨z7, h8, h⟩ := Option.bind_eq_some_iff.mp h
      by_cases c9 : 4 < (z7.1 92 7)
      · rw [if_pos c9] at h
        suffices hh : ∃ n, jx_W jx_ShC d (some .int) jc_147 Q n 56 [some (.ref 0), some (.int x1), some (.int x2)] [] z7 by
          obtain ⟨n, hn⟩ := hh
          exact ⟨n + 12, s_L_walkAll (by omega) h8 (And.intro (fun _ => hn) (fun zz => absurd c9 zz))⟩
        cases h
        exact ⟨2, And.intro hQ (And.intro rfl rfl)⟩
      · rw [if_neg c9] at h
        suffices hh : ∃ n, jx_W jx_ShC d (some .int) jc_147 Q n 46 [some (.ref 0), some (.int x1), some (.int x2)] [] z7 by
          obtain ⟨n, hn⟩ := hh
          exact ⟨n + 12, s_L_walkAll (by omega) h8 (And.intro (fun zz => absurd zz c9) (fun _ => hn))⟩
        cases h
        exact ⟨5, And.intro hQ (And.intro rfl rfl)⟩
set_option maxRecDepth 20000 in
theorem s_F_bars {N d : Nat} {x1 : Int32} {x2 : Int32} (hd : 72 ≤ d) {σ : jw_M} {z : (Int32 × jw_M)} {Q : jw_Q} (h : f_F_bars N x1 x2 σ = some z) (hQ : Q (some (.int z.1)) (jx_ShC, z.2)) : jw_C jp_kd jp_ys d 148 [.ref 0, .int x1, .int x2] (jx_ShC, σ) Q := by
  obtain ⟨d, rfl⟩ : ∃ e, d = e + 1 := ⟨d - 1, by omega⟩
  replace hd : 71 ≤ d := by omega
  refine jx_C rfl rfl ?_
  unfold f_F_bars at h
  obtain ⟨z1, h2, h⟩ := Option.bind_eq_some_iff.mp h
  by_cases c3 : z1.1 = 0
  · rw [if_pos c3] at h
    suffices hh : ∃ n, jx_W jx_ShC d (some .int) jc_148 Q n 20 [some (.ref 0), some (.int x1), some (.int x2), none] [] z1.2 by
      obtain ⟨n, hn⟩ := hh
      exact ⟨n + 5, s_F_isWithin (by omega) h2 (And.intro (fun _ => hn) (fun zz => absurd c3 zz))⟩
    cases h
    exact ⟨2, And.intro hQ (And.intro rfl rfl)⟩
  · rw [if_neg c3] at h
    suffices hh : ∃ n, jx_W jx_ShC d (some .int) jc_148 Q n 9 [some (.ref 0), some (.int x1), some (.int x2), none] [] z1.2 by
      obtain ⟨n, hn⟩ := hh
      exact ⟨n + 5, s_F_isWithin (by omega) h2 (And.intro (fun zz => absurd zz c3) (fun _ => hn))⟩
    obtain ⟨z4, h5, h⟩ := Option.bind_eq_some_iff.mp h
    by_cases c6 : z4.1 = 0
    · rw [if_pos c6] at h
      suffices hh : ∃ n, jx_W jx_ShC d (some .int) jc_148 Q n 20 [some (.ref 0), some (.int x1), some (.int x2), none] [] z4.2 by
        obtain ⟨n, hn⟩ := hh
        exact ⟨n + 5, s_S_isSetOfLessons (by omega) h5 (And.intro (fun zz => absurd c6 zz) (fun _ => hn))⟩
      cases h
      exact ⟨2, And.intro hQ (And.intro rfl rfl)⟩
    · rw [if_neg c6] at h
      suffices hh : ∃ n, jx_W jx_ShC d (some .int) jc_148 Q n 22 [some (.ref 0), some (.int x1), some (.int x2), none] [] z4.2 by
        obtain ⟨n, hn⟩ := hh
        exact ⟨n + 5, s_S_isSetOfLessons (by omega) h5 (And.intro (fun _ => hn) (fun zz => absurd zz c6))⟩
      obtain ⟨z7, h8, h⟩ := Option.bind_eq_some_iff.mp h
      by_cases c9 : (x2 &&& ((z7.1 92 8) ^^^ (-1))) = 0
      · rw [if_pos c9] at h
        suffices hh : ∃ n, jx_W jx_ShC d (some .int) jc_148 Q n 51 [some (.ref 0), some (.int x1), some (.int x2), some (.int (x2 &&& ((z7.1 92 8) ^^^ (-1))))] [] z7 by
          obtain ⟨n, hn⟩ := hh
          exact ⟨n + 17, s_L_walkAll (by omega) h8 (And.intro (fun zz => absurd c9 zz) (fun _ => hn))⟩
        cases h
        exact ⟨3, And.intro hQ (And.intro rfl rfl)⟩
      · rw [if_neg c9] at h
        suffices hh : ∃ n, jx_W jx_ShC d (some .int) jc_148 Q n 56 [some (.ref 0), some (.int x1), some (.int x2), some (.int (x2 &&& ((z7.1 92 8) ^^^ (-1))))] [] z7 by
          obtain ⟨n, hn⟩ := hh
          exact ⟨n + 17, s_L_walkAll (by omega) h8 (And.intro (fun _ => hn) (fun zz => absurd zz c9))⟩
        obtain ⟨z10, h11, h⟩ := Option.bind_eq_some_iff.mp h
        cases h
        exact ⟨3, s_J_numberOfTrailingZeros (by omega) h11 (And.intro hQ (And.intro rfl rfl))⟩
set_option maxRecDepth 20000 in
theorem s_F_game {N d : Nat} {x1 : Int32} (hd : 72 ≤ d) {σ : jw_M} {z : (Int32 × jw_M)} {Q : jw_Q} (h : f_F_game N x1 σ = some z) (hQ : Q (some (.int z.1)) (jx_ShC, z.2)) : jw_C jp_kd jp_ys d 149 [.ref 0, .int x1] (jx_ShC, σ) Q := by
  obtain ⟨d, rfl⟩ : ∃ e, d = e + 1 := ⟨d - 1, by omega⟩
  replace hd : 71 ≤ d := by omega
  refine jx_C rfl rfl ?_
  unfold f_F_game at h
  obtain ⟨z1, h2, h⟩ := Option.bind_eq_some_iff.mp h
  by_cases c3 : z1.1 = 0
  · rw [if_pos c3] at h
    suffices hh : ∃ n, jx_W jx_ShC d (some .int) jc_149 Q n 24 [some (.ref 0), some (.int x1)] [] z1.2 by
      obtain ⟨n, hn⟩ := hh
      exact ⟨n + 5, s_F_isWithin (by omega) h2 (And.intro (fun _ => hn) (fun zz => absurd c3 zz))⟩
    cases h
    exact ⟨2, And.intro hQ (And.intro rfl rfl)⟩
  · rw [if_neg c3] at h
    suffices hh : ∃ n, jx_W jx_ShC d (some .int) jc_149 Q n 9 [some (.ref 0), some (.int x1)] [] z1.2 by
      obtain ⟨n, hn⟩ := hh
      exact ⟨n + 5, s_F_isWithin (by omega) h2 (And.intro (fun zz => absurd zz c3) (fun _ => hn))⟩
    obtain ⟨z4, h5, h⟩ := Option.bind_eq_some_iff.mp h
    cases h
    exact ⟨8, s_L_valueOfGame (by omega) h5 (And.intro hQ (And.intro rfl rfl))⟩
set_option maxRecDepth 20000 in
theorem s_F_play {N d : Nat} {x1 : Int32} (hd : 72 ≤ d) {σ : jw_M} {z : (Int32 × jw_M)} {Q : jw_Q} (h : f_F_play N x1 σ = some z) (hQ : Q (some (.int z.1)) (jx_ShC, z.2)) : jw_C jp_kd jp_ys d 150 [.ref 0, .int x1] (jx_ShC, σ) Q := by
  obtain ⟨d, rfl⟩ : ∃ e, d = e + 1 := ⟨d - 1, by omega⟩
  replace hd : 71 ≤ d := by omega
  refine jx_C rfl rfl ?_
  unfold f_F_play at h
  obtain ⟨z1, h2, h⟩ := Option.bind_eq_some_iff.mp h
  by_cases c3 : z1.1 = 0
  · rw [if_pos c3] at h
    suffices hh : ∃ n, jx_W jx_ShC d (some .int) jc_150 Q n 9 [some (.ref 0), some (.int x1)] [] z1.2 by
      obtain ⟨n, hn⟩ := hh
      exact ⟨n + 5, s_F_isWithin (by omega) h2 (And.intro (fun zz => absurd c3 zz) (fun _ => hn))⟩
    cases h
    exact ⟨2, And.intro hQ (And.intro rfl rfl)⟩
  · rw [if_neg c3] at h
    suffices hh : ∃ n, jx_W jx_ShC d (some .int) jc_150 Q n 11 [some (.ref 0), some (.int x1)] [] z1.2 by
      obtain ⟨n, hn⟩ := hh
      exact ⟨n + 5, s_F_isWithin (by omega) h2 (And.intro (fun _ => hn) (fun zz => absurd zz c3))⟩
    obtain ⟨z4, h5, h⟩ := Option.bind_eq_some_iff.mp h
    by_cases c6 : z4.1 = 0
    · rw [if_pos c6] at h
      suffices hh : ∃ n, jx_W jx_ShC d (some .int) jc_150 Q n 31 [some (.ref 0), some (.int x1)] [] z4.2 by
        obtain ⟨n, hn⟩ := hh
        exact ⟨n + 7, s_S_isOver (by omega) (by decide) h5 (And.intro (fun _ => hn) (fun zz => absurd c6 zz))⟩
      obtain ⟨z7, h8, h⟩ := Option.bind_eq_some_iff.mp h
      cases h
      exact ⟨11, s_L_valueOfGame (by omega) h8 (And.intro hQ (And.intro rfl rfl))⟩
    · rw [if_neg c6] at h
      suffices hh : ∃ n, jx_W jx_ShC d (some .int) jc_150 Q n 28 [some (.ref 0), some (.int x1)] [] z4.2 by
        obtain ⟨n, hn⟩ := hh
        exact ⟨n + 7, s_S_isOver (by omega) (by decide) h5 (And.intro (fun zz => absurd zz c6) (fun _ => hn))⟩
      cases h
      exact ⟨2, And.intro hQ (And.intro rfl rfl)⟩
set_option maxRecDepth 20000 in
theorem s_F_report {N d : Nat} {x1 : Int32} {x2 : Int32} {x3 : Int32} {x4 : Int32} (hd : 2 ≤ d) {σ : jw_M} {z : (Int32 × jw_M)} {Q : jw_Q} (h : f_F_report N x1 x2 x3 x4 σ = some z) (hQ : Q (some (.int z.1)) (jx_ShC, z.2)) : jw_C jp_kd jp_ys d 151 [.ref 0, .int x1, .int x2, .int x3, .int x4] (jx_ShC, σ) Q := by
  obtain ⟨d, rfl⟩ : ∃ e, d = e + 1 := ⟨d - 1, by omega⟩
  replace hd : 1 ≤ d := by omega
  refine jx_C rfl rfl ?_
  unfold f_F_report at h
  obtain ⟨z1, h2, h⟩ := Option.bind_eq_some_iff.mp h
  by_cases c3 : z1.1 = 0
  · rw [if_pos c3] at h
    suffices hh : ∃ n, jx_W jx_ShC d (some .int) jc_151 Q n 42 [some (.ref 0), some (.int x1), some (.int x2), some (.int x3), some (.int x4)] [] z1.2 by
      obtain ⟨n, hn⟩ := hh
      exact ⟨n + 5, s_F_isWithin (by omega) h2 (And.intro (fun _ => hn) (fun zz => absurd c3 zz))⟩
    cases h
    exact ⟨2, And.intro hQ (And.intro rfl rfl)⟩
  · rw [if_neg c3] at h
    suffices hh : ∃ n, jx_W jx_ShC d (some .int) jc_151 Q n 9 [some (.ref 0), some (.int x1), some (.int x2), some (.int x3), some (.int x4)] [] z1.2 by
      obtain ⟨n, hn⟩ := hh
      exact ⟨n + 5, s_F_isWithin (by omega) h2 (And.intro (fun zz => absurd zz c3) (fun _ => hn))⟩
    obtain ⟨z4, h5, h⟩ := Option.bind_eq_some_iff.mp h
    by_cases c6 : z4.1 = 0
    · rw [if_pos c6] at h
      suffices hh : ∃ n, jx_W jx_ShC d (some .int) jc_151 Q n 42 [some (.ref 0), some (.int x1), some (.int x2), some (.int x3), some (.int x4)] [] z4.2 by
        obtain ⟨n, hn⟩ := hh
        exact ⟨n + 5, s_F_isWithin (by omega) h5 (And.intro (fun _ => hn) (fun zz => absurd c6 zz))⟩
      cases h
      exact ⟨2, And.intro hQ (And.intro rfl rfl)⟩
    · rw [if_neg c6] at h
      suffices hh : ∃ n, jx_W jx_ShC d (some .int) jc_151 Q n 19 [some (.ref 0), some (.int x1), some (.int x2), some (.int x3), some (.int x4)] [] z4.2 by
        obtain ⟨n, hn⟩ := hh
        exact ⟨n + 5, s_F_isWithin (by omega) h5 (And.intro (fun zz => absurd zz c6) (fun _ => hn))⟩
      obtain ⟨z7, h8, h⟩ := Option.bind_eq_some_iff.mp h
      by_cases c9 : z7.1 = 0
      · rw [if_pos c9] at h
        suffices hh : ∃ n, jx_W jx_ShC d (some .int) jc_151 Q n 42 [some (.ref 0), some (.int x1), some (.int x2), some (.int x3), some (.int x4)] [] z7.2 by
          obtain ⟨n, hn⟩ := hh
          exact ⟨n + 5, s_F_isWithin (by omega) h8 (And.intro (fun _ => hn) (fun zz => absurd c9 zz))⟩
        cases h
        exact ⟨2, And.intro hQ (And.intro rfl rfl)⟩
      · rw [if_neg c9] at h
        suffices hh : ∃ n, jx_W jx_ShC d (some .int) jc_151 Q n 30 [some (.ref 0), some (.int x1), some (.int x2), some (.int x3), some (.int x4)] [] z7.2 by
          obtain ⟨n, hn⟩ := hh
          exact ⟨n + 5, s_F_isWithin (by omega) h8 (And.intro (fun zz => absurd zz c9) (fun _ => hn))⟩
        obtain ⟨z10, h11, h⟩ := Option.bind_eq_some_iff.mp h
        by_cases c12 : z10.1 = 0
        · rw [if_pos c12] at h
          suffices hh : ∃ n, jx_W jx_ShC d (some .int) jc_151 Q n 42 [some (.ref 0), some (.int x1), some (.int x2), some (.int x3), some (.int x4)] [] z10.2 by
            obtain ⟨n, hn⟩ := hh
            exact ⟨n + 5, s_F_isWithin (by omega) h11 (And.intro (fun zz => absurd c12 zz) (fun _ => hn))⟩
          cases h
          exact ⟨2, And.intro hQ (And.intro rfl rfl)⟩
        · rw [if_neg c12] at h
          suffices hh : ∃ n, jx_W jx_ShC d (some .int) jc_151 Q n 44 [some (.ref 0), some (.int x1), some (.int x2), some (.int x3), some (.int x4)] [] z10.2 by
            obtain ⟨n, hn⟩ := hh
            exact ⟨n + 5, s_F_isWithin (by omega) h11 (And.intro (fun _ => hn) (fun zz => absurd zz c12))⟩
          by_cases c13 : (z10.2.1 1 12) < 6
          · rw [if_pos c13] at h
            suffices hh : ∃ n, jx_W jx_ShC d (some .int) jc_151 Q n 61 [some (.ref 0), some (.int x1), some (.int x2), some (.int x3), some (.int x4)] [] z10.2 by
              obtain ⟨n, hn⟩ := hh
              exact ⟨n + 5, And.intro (fun _ => hn) (fun zz => absurd c13 zz)⟩
            obtain ⟨z14, h15, h⟩ := Option.bind_eq_some_iff.mp h
            cases h
            exact ⟨8, s_S_addReport (by omega) h15 (And.intro hQ (And.intro rfl rfl))⟩
          · rw [if_neg c13] at h
            suffices hh : ∃ n, jx_W jx_ShC d (some .int) jc_151 Q n 56 [some (.ref 0), some (.int x1), some (.int x2), some (.int x3), some (.int x4)] [] z10.2 by
              obtain ⟨n, hn⟩ := hh
              exact ⟨n + 5, And.intro (fun zz => absurd zz c13) (fun _ => hn)⟩
            cases h
            exact ⟨3, And.intro hQ (And.intro rfl rfl)⟩
set_option maxRecDepth 20000 in
theorem s_F_forget {N d : Nat} (hd : 1 ≤ d) {σ : jw_M} {z : (Int32 × jw_M)} {Q : jw_Q} (h : f_F_forget N  σ = some z) (hQ : Q (some (.int z.1)) (jx_ShC, z.2)) : jw_C jp_kd jp_ys d 152 [.ref 0] (jx_ShC, σ) Q := by
  obtain ⟨d, rfl⟩ : ∃ e, d = e + 1 := ⟨d - 1, by omega⟩
  replace hd : 0 ≤ d := by omega
  refine jx_C rfl rfl ?_
  unfold f_F_forget at h
  cases h
  exact ⟨10, And.intro hQ (And.intro rfl rfl)⟩
set_option maxRecDepth 20000 in
theorem s_F_span {N d : Nat} {x1 : Int32} (hd : 6 ≤ d) {σ : jw_M} {z : (Int32 × jw_M)} {Q : jw_Q} (h : f_F_span N x1 σ = some z) (hQ : Q (some (.int z.1)) (jx_ShC, z.2)) : jw_C jp_kd jp_ys d 153 [.ref 0, .int x1] (jx_ShC, σ) Q := by
  obtain ⟨d, rfl⟩ : ∃ e, d = e + 1 := ⟨d - 1, by omega⟩
  replace hd : 5 ≤ d := by omega
  refine jx_C rfl rfl ?_
  unfold f_F_span at h
  obtain ⟨z1, h2, h⟩ := Option.bind_eq_some_iff.mp h
  by_cases c3 : z1.1 = 0
  · rw [if_pos c3] at h
    suffices hh : ∃ n, jx_W jx_ShC d (some .int) jc_153 Q n 9 [some (.ref 0), some (.int x1), none] [] z1.2 by
      obtain ⟨n, hn⟩ := hh
      exact ⟨n + 5, s_F_isWithin (by omega) h2 (And.intro (fun zz => absurd c3 zz) (fun _ => hn))⟩
    cases h
    exact ⟨2, And.intro hQ (And.intro rfl rfl)⟩
  · rw [if_neg c3] at h
    suffices hh : ∃ n, jx_W jx_ShC d (some .int) jc_153 Q n 11 [some (.ref 0), some (.int x1), none] [] z1.2 by
      obtain ⟨n, hn⟩ := hh
      exact ⟨n + 5, s_F_isWithin (by omega) h2 (And.intro (fun _ => hn) (fun zz => absurd zz c3))⟩
    by_cases c4 : x1 = 0
    · rw [if_pos c4] at h
      suffices hh : ∃ n, jx_W jx_ShC d (some .int) jc_153 Q n 15 [some (.ref 0), some (.int x1), none] [] z1.2 by
        obtain ⟨n, hn⟩ := hh
        exact ⟨n + 2, And.intro (fun zz => absurd c4 zz) (fun _ => hn)⟩
      obtain ⟨z5, h6, h⟩ := Option.bind_eq_some_iff.mp h
      cases h
      exact ⟨4, s_S_howManyFit (by omega) h6 (And.intro hQ (And.intro rfl rfl))⟩
    · rw [if_neg c4] at h
      suffices hh : ∃ n, jx_W jx_ShC d (some .int) jc_153 Q n 23 [some (.ref 0), some (.int x1), none] [] z1.2 by
        obtain ⟨n, hn⟩ := hh
        exact ⟨n + 2, And.intro (fun _ => hn) (fun zz => absurd zz c4)⟩
      obtain ⟨z7, h8, h⟩ := Option.bind_eq_some_iff.mp h
      by_cases c9 : 0 ≤ z7.1
      · rw [if_pos c9] at h
        suffices hh : ∃ n, jx_W jx_ShC d (some .int) jc_153 Q n 40 [some (.ref 0), some (.int x1), some (.int z7.1)] [] z7.2 by
          obtain ⟨n, hn⟩ := hh
          exact ⟨n + 7, s_S_firstFit (by omega) h8 (And.intro (fun _ => hn) (fun zz => absurd c9 zz))⟩
        by_cases c10 : x1 = 1
        · rw [if_pos c10] at h
          suffices hh : ∃ n, jx_W jx_ShC d (some .int) jc_153 Q n 45 [some (.ref 0), some (.int x1), some (.int z7.1)] [] z7.2 by
            obtain ⟨n, hn⟩ := hh
            exact ⟨n + 3, And.intro (fun zz => absurd c10 zz) (fun _ => hn)⟩
          cases h
          exact ⟨5, And.intro (by decide) (And.intro hQ (And.intro rfl rfl))⟩
        · rw [if_neg c10] at h
          suffices hh : ∃ n, jx_W jx_ShC d (some .int) jc_153 Q n 51 [some (.ref 0), some (.int x1), some (.int z7.1)] [] z7.2 by
            obtain ⟨n, hn⟩ := hh
            exact ⟨n + 3, And.intro (fun _ => hn) (fun zz => absurd zz c10)⟩
          cases h
          exact ⟨6, And.intro (by decide) (And.intro hQ (And.intro rfl rfl))⟩
      · rw [if_neg c9] at h
        suffices hh : ∃ n, jx_W jx_ShC d (some .int) jc_153 Q n 37 [some (.ref 0), some (.int x1), some (.int z7.1)] [] z7.2 by
          obtain ⟨n, hn⟩ := hh
          exact ⟨n + 7, s_S_firstFit (by omega) h8 (And.intro (fun zz => absurd zz c9) (fun _ => hn))⟩
        cases h
        exact ⟨2, And.intro hQ (And.intro rfl rfl)⟩
set_option maxRecDepth 20000 in
theorem s_F_liar_17 {N d : Nat} {Q : jw_Q} (hd : 5 ≤ d) : ∀ (k : Nat) {x1 : Int32} {σ : jw_M} {z : (Int32 × jw_M)}, f_F_liar_17 N k x1 σ = some z → Q (some (.int z.1)) (jx_ShC, z.2) → ∃ n, jx_W jx_ShC d (some .int) jc_154 Q n 17 [some (.ref 0), some (.int x1)] [] σ
  | 0, _, _, _, h, _ => by cases h
  | k + 1, x1, σ, z, h, hQ => by
    rw [f_F_liar_17] at h
    by_cases c4 : (σ.1 1 12) ≤ x1
    · rw [if_pos c4] at h
      suffices hh : ∃ n, jx_W jx_ShC d (some .int) jc_154 Q n 47 [some (.ref 0), some (.int x1)] [] σ by
        obtain ⟨n, hn⟩ := hh
        exact ⟨n + 5, And.intro (fun _ => hn) (fun zz => absurd c4 zz)⟩
      cases h
      exact ⟨2, And.intro hQ (And.intro rfl rfl)⟩
    · rw [if_neg c4] at h
      suffices hh : ∃ n, jx_W jx_ShC d (some .int) jc_154 Q n 28 [some (.ref 0), some (.int x1)] [] σ by
        obtain ⟨n, hn⟩ := hh
        exact ⟨n + 5, And.intro (fun zz => absurd zz c4) (fun _ => hn)⟩
      obtain ⟨z5, h6, h⟩ := Option.bind_eq_some_iff.mp h
      by_cases c7 : z5.1 < 0
      · rw [if_pos c7] at h
        suffices hh : ∃ n, jx_W jx_ShC d (some .int) jc_154 Q n 41 [some (.ref 0), some (.int x1)] [] z5.2 by
          obtain ⟨n, hn⟩ := hh
          exact ⟨n + 5, s_S_firstFit (by omega) h6 (And.intro (fun _ => hn) (fun zz => absurd c7 zz))⟩
        obtain ⟨n, hn⟩ := s_F_liar_17 hd k h hQ
        exact ⟨n + 2, hn⟩
      · rw [if_neg c7] at h
        suffices hh : ∃ n, jx_W jx_ShC d (some .int) jc_154 Q n 39 [some (.ref 0), some (.int x1)] [] z5.2 by
          obtain ⟨n, hn⟩ := hh
          exact ⟨n + 5, s_S_firstFit (by omega) h6 (And.intro (fun zz => absurd zz c7) (fun _ => hn))⟩
        cases h
        exact ⟨2, And.intro hQ (And.intro rfl rfl)⟩
set_option maxRecDepth 20000 in
theorem s_F_liar {N d : Nat} (hd : 6 ≤ d) {σ : jw_M} {z : (Int32 × jw_M)} {Q : jw_Q} (h : f_F_liar N  σ = some z) (hQ : Q (some (.int z.1)) (jx_ShC, z.2)) : jw_C jp_kd jp_ys d 154 [.ref 0] (jx_ShC, σ) Q := by
  obtain ⟨d, rfl⟩ : ∃ e, d = e + 1 := ⟨d - 1, by omega⟩
  replace hd : 5 ≤ d := by omega
  refine jx_C rfl rfl ?_
  unfold f_F_liar at h
  obtain ⟨z1, h2, h⟩ := Option.bind_eq_some_iff.mp h
  by_cases c3 : z1.1 < 0
  · rw [if_pos c3] at h
    suffices hh : ∃ n, jx_W jx_ShC d (some .int) jc_154 Q n 15 [some (.ref 0), none] [] z1.2 by
      obtain ⟨n, hn⟩ := hh
      exact ⟨n + 5, s_S_firstFit (by omega) h2 (And.intro (fun _ => hn) (fun zz => absurd c3 zz))⟩
    obtain ⟨n, hn⟩ := s_F_liar_17 hd N h hQ
    exact ⟨n + 2, hn⟩
  · rw [if_neg c3] at h
    suffices hh : ∃ n, jx_W jx_ShC d (some .int) jc_154 Q n 12 [some (.ref 0), none] [] z1.2 by
      obtain ⟨n, hn⟩ := hh
      exact ⟨n + 5, s_S_firstFit (by omega) h2 (And.intro (fun zz => absurd zz c3) (fun _ => hn))⟩
    cases h
    exact ⟨2, And.intro hQ (And.intro rfl rfl)⟩
