set_option maxRecDepth 20000 in
theorem s_L_walkAll {N d : Nat} {x2 : Int32} {x3 : Int32} (hd : 71 ≤ d) {σ : jw_M} {z : jw_M} {Q : jw_Q} (h : f_L_walkAll N x2 x3 σ = some z) (hQ : Q none (jx_ShC, z)) : jw_C jp_kd jp_ys d 31 [.ref 92, .ref 1, .int x2, .int x3] (jx_ShC, σ) Q := by
  obtain ⟨d, rfl⟩ : ∃ e, d = e + 1 := ⟨d - 1, by omega⟩
  replace hd : 70 ≤ d := by omega
  refine jx_C rfl rfl ?_
  unfold f_L_walkAll at h
  obtain ⟨z1, h2, h⟩ := Option.bind_eq_some_iff.mp h
  obtain ⟨z3, h4, h⟩ := Option.bind_eq_some_iff.mp h
  obtain ⟨z5, h6, h⟩ := Option.bind_eq_some_iff.mp h
  cases h
  exact ⟨39, And.intro (jx_in_ok rfl) (s_P_copyFrom (by omega) (by decide) h2 (s_J_min (by omega) h4 (s_L_walk 64 (by omega) h6 (And.intro hQ (And.intro rfl rfl)))))⟩
set_option maxRecDepth 20000 in
theorem s_S_isOver {N d : Nat} {p1 : Nat} (hd : 1 ≤ d) (hp : p1 = 102 ∨ p1 = 106 ∨ p1 = 110 ∨ p1 = 27 ∨ p1 = 75 ∨ p1 = 94 ∨ p1 = 98) {σ : jw_M} {z : (Int32 × jw_M)} {Q : jw_Q} (h : f_S_isOver N p1 σ = some z) (hQ : Q (some (.int z.1)) (jx_ShC, z.2)) : jw_C jp_kd jp_ys d 81 [.ref 1, .ref p1] (jx_ShC, σ) Q := by
  obtain ⟨d, rfl⟩ : ∃ e, d = e + 1 := ⟨d - 1, by omega⟩
  replace hd : 0 ≤ d := by omega
  refine jx_C rfl rfl ?_
  rcases hp with rfl | rfl | rfl | rfl | rfl | rfl | rfl
  · unfold f_S_isOver at h
    by_cases c1 : (σ.1 102 0) < (σ.1 1 14)
    · rw [if_pos c1] at h
      suffices hh : ∃ n, jx_W jx_ShC d (some .boolean) jc_81 Q n 15 [some (.ref 1), some (.ref 102)] [] σ by
        obtain ⟨n, hn⟩ := hh
        exact ⟨n + 5, And.intro (fun _ => hn) (fun zz => absurd c1 zz)⟩
      cases h
      exact ⟨2, And.intro (Or.inl rfl) (And.intro hQ (And.intro rfl rfl))⟩
    · rw [if_neg c1] at h
      suffices hh : ∃ n, jx_W jx_ShC d (some .boolean) jc_81 Q n 11 [some (.ref 1), some (.ref 102)] [] σ by
        obtain ⟨n, hn⟩ := hh
        exact ⟨n + 5, And.intro (fun zz => absurd zz c1) (fun _ => hn)⟩
      cases h
      exact ⟨3, And.intro (Or.inr rfl) (And.intro hQ (And.intro rfl rfl))⟩
  · unfold f_S_isOver at h
    by_cases c1 : (σ.1 106 0) < (σ.1 1 14)
    · rw [if_pos c1] at h
      suffices hh : ∃ n, jx_W jx_ShC d (some .boolean) jc_81 Q n 15 [some (.ref 1), some (.ref 106)] [] σ by
        obtain ⟨n, hn⟩ := hh
        exact ⟨n + 5, And.intro (fun _ => hn) (fun zz => absurd c1 zz)⟩
      cases h
      exact ⟨2, And.intro (Or.inl rfl) (And.intro hQ (And.intro rfl rfl))⟩
    · rw [if_neg c1] at h
      suffices hh : ∃ n, jx_W jx_ShC d (some .boolean) jc_81 Q n 11 [some (.ref 1), some (.ref 106)] [] σ by
        obtain ⟨n, hn⟩ := hh
        exact ⟨n + 5, And.intro (fun zz => absurd zz c1) (fun _ => hn)⟩
      cases h
      exact ⟨3, And.intro (Or.inr rfl) (And.intro hQ (And.intro rfl rfl))⟩
  · unfold f_S_isOver at h
    by_cases c1 : (σ.1 110 0) < (σ.1 1 14)
    · rw [if_pos c1] at h
      suffices hh : ∃ n, jx_W jx_ShC d (some .boolean) jc_81 Q n 15 [some (.ref 1), some (.ref 110)] [] σ by
        obtain ⟨n, hn⟩ := hh
        exact ⟨n + 5, And.intro (fun _ => hn) (fun zz => absurd c1 zz)⟩
      cases h
      exact ⟨2, And.intro (Or.inl rfl) (And.intro hQ (And.intro rfl rfl))⟩
    · rw [if_neg c1] at h
      suffices hh : ∃ n, jx_W jx_ShC d (some .boolean) jc_81 Q n 11 [some (.ref 1), some (.ref 110)] [] σ by
        obtain ⟨n, hn⟩ := hh
        exact ⟨n + 5, And.intro (fun zz => absurd zz c1) (fun _ => hn)⟩
      cases h
      exact ⟨3, And.intro (Or.inr rfl) (And.intro hQ (And.intro rfl rfl))⟩
  · unfold f_S_isOver at h
    by_cases c1 : (σ.1 27 0) < (σ.1 1 14)
    · rw [if_pos c1] at h
      suffices hh : ∃ n, jx_W jx_ShC d (some .boolean) jc_81 Q n 15 [some (.ref 1), some (.ref 27)] [] σ by
        obtain ⟨n, hn⟩ := hh
        exact ⟨n + 5, And.intro (fun _ => hn) (fun zz => absurd c1 zz)⟩
      cases h
      exact ⟨2, And.intro (Or.inl rfl) (And.intro hQ (And.intro rfl rfl))⟩
    · rw [if_neg c1] at h
      suffices hh : ∃ n, jx_W jx_ShC d (some .boolean) jc_81 Q n 11 [some (.ref 1), some (.ref 27)] [] σ by
        obtain ⟨n, hn⟩ := hh
        exact ⟨n + 5, And.intro (fun zz => absurd zz c1) (fun _ => hn)⟩
      cases h
      exact ⟨3, And.intro (Or.inr rfl) (And.intro hQ (And.intro rfl rfl))⟩
  · unfold f_S_isOver at h
    by_cases c1 : (σ.1 75 0) < (σ.1 1 14)
    · rw [if_pos c1] at h
      suffices hh : ∃ n, jx_W jx_ShC d (some .boolean) jc_81 Q n 15 [some (.ref 1), some (.ref 75)] [] σ by
        obtain ⟨n, hn⟩ := hh
        exact ⟨n + 5, And.intro (fun _ => hn) (fun zz => absurd c1 zz)⟩
      cases h
      exact ⟨2, And.intro (Or.inl rfl) (And.intro hQ (And.intro rfl rfl))⟩
    · rw [if_neg c1] at h
      suffices hh : ∃ n, jx_W jx_ShC d (some .boolean) jc_81 Q n 11 [some (.ref 1), some (.ref 75)] [] σ by
        obtain ⟨n, hn⟩ := hh
        exact ⟨n + 5, And.intro (fun zz => absurd zz c1) (fun _ => hn)⟩
      cases h
      exact ⟨3, And.intro (Or.inr rfl) (And.intro hQ (And.intro rfl rfl))⟩
  · unfold f_S_isOver at h
    by_cases c1 : (σ.1 94 0) < (σ.1 1 14)
    · rw [if_pos c1] at h
      suffices hh : ∃ n, jx_W jx_ShC d (some .boolean) jc_81 Q n 15 [some (.ref 1), some (.ref 94)] [] σ by
        obtain ⟨n, hn⟩ := hh
        exact ⟨n + 5, And.intro (fun _ => hn) (fun zz => absurd c1 zz)⟩
      cases h
      exact ⟨2, And.intro (Or.inl rfl) (And.intro hQ (And.intro rfl rfl))⟩
    · rw [if_neg c1] at h
      suffices hh : ∃ n, jx_W jx_ShC d (some .boolean) jc_81 Q n 11 [some (.ref 1), some (.ref 94)] [] σ by
        obtain ⟨n, hn⟩ := hh
        exact ⟨n + 5, And.intro (fun zz => absurd zz c1) (fun _ => hn)⟩
      cases h
      exact ⟨3, And.intro (Or.inr rfl) (And.intro hQ (And.intro rfl rfl))⟩
  · unfold f_S_isOver at h
    by_cases c1 : (σ.1 98 0) < (σ.1 1 14)
    · rw [if_pos c1] at h
      suffices hh : ∃ n, jx_W jx_ShC d (some .boolean) jc_81 Q n 15 [some (.ref 1), some (.ref 98)] [] σ by
        obtain ⟨n, hn⟩ := hh
        exact ⟨n + 5, And.intro (fun _ => hn) (fun zz => absurd c1 zz)⟩
      cases h
      exact ⟨2, And.intro (Or.inl rfl) (And.intro hQ (And.intro rfl rfl))⟩
    · rw [if_neg c1] at h
      suffices hh : ∃ n, jx_W jx_ShC d (some .boolean) jc_81 Q n 11 [some (.ref 1), some (.ref 98)] [] σ by
        obtain ⟨n, hn⟩ := hh
        exact ⟨n + 5, And.intro (fun zz => absurd zz c1) (fun _ => hn)⟩
      cases h
      exact ⟨3, And.intro (Or.inr rfl) (And.intro hQ (And.intro rfl rfl))⟩
set_option maxRecDepth 20000 in
theorem s_L_valueFrom_139 {N d : Nat} {Dr : Nat} {Rec : Int32 → Int32 → jw_M → Option (Int32 × jw_M)} {Q : jw_Q} {K54 : Int32 → Int32 → Int32 → Nat → Int32 → Int32 → jw_M → Option (Int32 × jw_M)} (hRec : ∀ {d : Nat} {a2 : Int32} {a3 : Int32} {σ : jw_M} {z : (Int32 × jw_M)} {Q : jw_Q}, Dr ≤ d → Rec a2 a3 σ = some z → Q (some (.int z.1)) (jx_ShC, z.2) → jw_C jp_kd jp_ys d 35 [.ref 92, .ref 1, .int a2, .int a3] (jx_ShC, σ) Q) (hd0 : 0 + Dr ≤ d) (hd : 5 ≤ d) (hK54 : ∀ {x2 : Int32} {x3 : Int32} {x4 : Int32} {r5 : Nat} {x6 : Int32} {x7 : Int32} {σ : jw_M} {z : (Int32 × jw_M)} {u8 : Option Value} {u9 : Option Value}, (r5 = 94 ∨ r5 = 98 ∨ r5 = 102 ∨ r5 = 106 ∨ r5 = 110) → K54 x2 x3 x4 r5 x6 x7 σ = some z → Q (some (.int z.1)) (jx_ShC, z.2) → ∃ n, jx_W jx_ShC d (some .int) jc_35 Q n 54 [some (.ref 92), some (.ref 1), some (.int x2), some (.int x3), some (.int x4), some (.ref r5), some (.int x6), some (.int x7), u8, u9] [] σ) {x2 : Int32} {x3 : Int32} {x4 : Int32} {r5 : Nat} {x6 : Int32} {x7 : Int32} {u8 : Option Value} {u9 : Option Value} {σ : jw_M} {z : (Int32 × jw_M)} (hr5 : r5 = 94 ∨ r5 = 98 ∨ r5 = 102 ∨ r5 = 106 ∨ r5 = 110) (h : f_L_valueFrom_139 N Rec K54 x2 x3 x4 r5 x6 x7 σ = some z) (hQ : Q (some (.int z.1)) (jx_ShC, z.2)) : ∃ n, jx_W jx_ShC d (some .int) jc_35 Q n 139 [some (.ref 92), some (.ref 1), some (.int x2), some (.int x3), some (.int x4), some (.ref r5), some (.int x6), some (.int x7), u8, u9] [] σ := by
  unfold f_L_valueFrom_139 at h
  obtain ⟨n, hn⟩ := hK54 (u8 := u8) (u9 := u9) hr5 h hQ
  exact ⟨n + 2, hn⟩
set_option maxRecDepth 20000 in
theorem s_L_valueFrom_125 {N d : Nat} {Dr : Nat} {Rec : Int32 → Int32 → jw_M → Option (Int32 × jw_M)} {Q : jw_Q} {K54 : Int32 → Int32 → Int32 → Nat → Int32 → Int32 → jw_M → Option (Int32 × jw_M)} (hRec : ∀ {d : Nat} {a2 : Int32} {a3 : Int32} {σ : jw_M} {z : (Int32 × jw_M)} {Q : jw_Q}, Dr ≤ d → Rec a2 a3 σ = some z → Q (some (.int z.1)) (jx_ShC, z.2) → jw_C jp_kd jp_ys d 35 [.ref 92, .ref 1, .int a2, .int a3] (jx_ShC, σ) Q) (hd0 : 0 + Dr ≤ d) (hd : 5 ≤ d) (hK54 : ∀ {x2 : Int32} {x3 : Int32} {x4 : Int32} {r5 : Nat} {x6 : Int32} {x7 : Int32} {σ : jw_M} {z : (Int32 × jw_M)} {u8 : Option Value} {u9 : Option Value}, (r5 = 94 ∨ r5 = 98 ∨ r5 = 102 ∨ r5 = 106 ∨ r5 = 110) → K54 x2 x3 x4 r5 x6 x7 σ = some z → Q (some (.int z.1)) (jx_ShC, z.2) → ∃ n, jx_W jx_ShC d (some .int) jc_35 Q n 54 [some (.ref 92), some (.ref 1), some (.int x2), some (.int x3), some (.int x4), some (.ref r5), some (.int x6), some (.int x7), u8, u9] [] σ) {x2 : Int32} {x3 : Int32} {x4 : Int32} {r5 : Nat} {x7 : Int32} {x9 : Int32} {u6 : Option Value} {u8 : Option Value} {σ : jw_M} {z : (Int32 × jw_M)} (hr5 : r5 = 94 ∨ r5 = 98 ∨ r5 = 102 ∨ r5 = 106 ∨ r5 = 110) (h : f_L_valueFrom_125 N Rec K54 x2 x3 x4 r5 x7 x9 σ = some z) (hQ : Q (some (.int z.1)) (jx_ShC, z.2)) : ∃ n, jx_W jx_ShC d (some .int) jc_35 Q n 125 [some (.ref 92), some (.ref 1), some (.int x2), some (.int x3), some (.int x4), some (.ref r5), u6, some (.int x7), u8, some (.int x9)] [] σ := by
  unfold f_L_valueFrom_125 at h
  by_cases c18 : x2 = 0
  · rw [if_pos c18] at h
    suffices hh : ∃ n, jx_W jx_ShC d (some .int) jc_35 Q n 133 [some (.ref 92), some (.ref 1), some (.int x2), some (.int x3), some (.int x4), some (.ref r5), some (.int x9), some (.int x7), u8, some (.int x9)] [] σ by
      obtain ⟨n, hn⟩ := hh
      exact ⟨n + 4, And.intro (fun zz => absurd c18 zz) (fun _ => hn)⟩
    obtain ⟨n, hn⟩ := s_L_valueFrom_139 hRec hd0 hd hK54 (u8 := u8) (u9 := some (.int x9)) hr5 h hQ
    exact ⟨n + 3, hn⟩
  · rw [if_neg c18] at h
    suffices hh : ∃ n, jx_W jx_ShC d (some .int) jc_35 Q n 139 [some (.ref 92), some (.ref 1), some (.int x2), some (.int x3), some (.int x4), some (.ref r5), some (.int x9), some (.int x7), u8, some (.int x9)] [] σ by
      obtain ⟨n, hn⟩ := hh
      exact ⟨n + 4, And.intro (fun _ => hn) (fun zz => absurd zz c18)⟩
    obtain ⟨n, hn⟩ := s_L_valueFrom_139 hRec hd0 hd hK54 (u8 := u8) (u9 := some (.int x9)) hr5 h hQ
    exact ⟨n + 0, hn⟩
set_option maxRecDepth 20000 in
theorem s_L_valueFrom_74 {N d : Nat} {Dr : Nat} {Rec : Int32 → Int32 → jw_M → Option (Int32 × jw_M)} {Q : jw_Q} {K54 : Int32 → Int32 → Int32 → Nat → Int32 → Int32 → jw_M → Option (Int32 × jw_M)} (hRec : ∀ {d : Nat} {a2 : Int32} {a3 : Int32} {σ : jw_M} {z : (Int32 × jw_M)} {Q : jw_Q}, Dr ≤ d → Rec a2 a3 σ = some z → Q (some (.int z.1)) (jx_ShC, z.2) → jw_C jp_kd jp_ys d 35 [.ref 92, .ref 1, .int a2, .int a3] (jx_ShC, σ) Q) (hd0 : 0 + Dr ≤ d) (hd : 5 ≤ d) (hK54 : ∀ {x2 : Int32} {x3 : Int32} {x4 : Int32} {r5 : Nat} {x6 : Int32} {x7 : Int32} {σ : jw_M} {z : (Int32 × jw_M)} {u8 : Option Value} {u9 : Option Value}, (r5 = 94 ∨ r5 = 98 ∨ r5 = 102 ∨ r5 = 106 ∨ r5 = 110) → K54 x2 x3 x4 r5 x6 x7 σ = some z → Q (some (.int z.1)) (jx_ShC, z.2) → ∃ n, jx_W jx_ShC d (some .int) jc_35 Q n 54 [some (.ref 92), some (.ref 1), some (.int x2), some (.int x3), some (.int x4), some (.ref r5), some (.int x6), some (.int x7), u8, u9] [] σ) {x2 : Int32} {x3 : Int32} {x4 : Int32} {r5 : Nat} {x6 : Int32} {x7 : Int32} {u8 : Option Value} {u9 : Option Value} {σ : jw_M} {z : (Int32 × jw_M)} (hr5 : r5 = 94 ∨ r5 = 98 ∨ r5 = 102 ∨ r5 = 106 ∨ r5 = 110) (h : f_L_valueFrom_74 N Rec K54 x2 x3 x4 r5 x6 x7 σ = some z) (hQ : Q (some (.int z.1)) (jx_ShC, z.2)) : ∃ n, jx_W jx_ShC d (some .int) jc_35 Q n 74 [some (.ref 92), some (.ref 1), some (.int x2), some (.int x3), some (.int x4), some (.ref r5), some (.int x6), some (.int x7), u8, u9] [] σ := by
  rcases hr5 with rfl | rfl | rfl | rfl | rfl
  · unfold f_L_valueFrom_74 at h
    obtain ⟨z13, h14, h⟩ := Option.bind_eq_some_iff.mp h
    obtain ⟨z15, h16, h⟩ := Option.bind_eq_some_iff.mp h
    by_cases c17 : x7 = 0
    · rw [if_pos c17] at h
      suffices hh : ∃ n, jx_W jx_ShC d (some .int) jc_35 Q n 125 [some (.ref 92), some (.ref 1), some (.int x2), some (.int x3), some (.int x4), some (.ref 94), some (.int x6), some (.int x7), some (.int z13.1), some (.int (z13.1 + z15.1))] [] z15.2 by
        obtain ⟨n, hn⟩ := hh
        exact ⟨n + 17, s_S_goBy (by omega) (by decide) h14 (hRec (by omega) h16 (And.intro (fun _ => hn) (fun zz => absurd c17 zz)))⟩
      obtain ⟨n, hn⟩ := s_L_valueFrom_125 hRec hd0 hd hK54 (u6 := some (.int x6)) (u8 := some (.int z13.1)) (by decide) h hQ
      exact ⟨n + 0, hn⟩
    · rw [if_neg c17] at h
      suffices hh : ∃ n, jx_W jx_ShC d (some .int) jc_35 Q n 103 [some (.ref 92), some (.ref 1), some (.int x2), some (.int x3), some (.int x4), some (.ref 94), some (.int x6), some (.int x7), some (.int z13.1), some (.int (z13.1 + z15.1))] [] z15.2 by
        obtain ⟨n, hn⟩ := hh
        exact ⟨n + 17, s_S_goBy (by omega) (by decide) h14 (hRec (by omega) h16 (And.intro (fun zz => absurd zz c17) (fun _ => hn)))⟩
      by_cases c19 : x4 = 0
      · rw [if_pos c19] at h
        suffices hh : ∃ n, jx_W jx_ShC d (some .int) jc_35 Q n 118 [some (.ref 92), some (.ref 1), some (.int x2), some (.int x3), some (.int x4), some (.ref 94), some (.int x6), some (.int x7), some (.int z13.1), some (.int (z13.1 + z15.1))] [] z15.2 by
          obtain ⟨n, hn⟩ := hh
          exact ⟨n + 2, And.intro (fun _ => hn) (fun zz => absurd c19 zz)⟩
        by_cases c20 : x6 ≤ (z13.1 + z15.1)
        · rw [if_pos c20] at h
          suffices hh : ∃ n, jx_W jx_ShC d (some .int) jc_35 Q n 139 [some (.ref 92), some (.ref 1), some (.int x2), some (.int x3), some (.int x4), some (.ref 94), some (.int x6), some (.int x7), some (.int z13.1), some (.int (z13.1 + z15.1))] [] z15.2 by
            obtain ⟨n, hn⟩ := hh
            exact ⟨n + 3, And.intro (fun _ => hn) (fun zz => absurd c20 zz)⟩
          obtain ⟨n, hn⟩ := s_L_valueFrom_139 hRec hd0 hd hK54 (u8 := some (.int z13.1)) (u9 := some (.int (z13.1 + z15.1))) (by decide) h hQ
          exact ⟨n + 0, hn⟩
        · rw [if_neg c20] at h
          suffices hh : ∃ n, jx_W jx_ShC d (some .int) jc_35 Q n 125 [some (.ref 92), some (.ref 1), some (.int x2), some (.int x3), some (.int x4), some (.ref 94), some (.int x6), some (.int x7), some (.int z13.1), some (.int (z13.1 + z15.1))] [] z15.2 by
            obtain ⟨n, hn⟩ := hh
            exact ⟨n + 3, And.intro (fun zz => absurd zz c20) (fun _ => hn)⟩
          obtain ⟨n, hn⟩ := s_L_valueFrom_125 hRec hd0 hd hK54 (u6 := some (.int x6)) (u8 := some (.int z13.1)) (by decide) h hQ
          exact ⟨n + 0, hn⟩
      · rw [if_neg c19] at h
        suffices hh : ∃ n, jx_W jx_ShC d (some .int) jc_35 Q n 108 [some (.ref 92), some (.ref 1), some (.int x2), some (.int x3), some (.int x4), some (.ref 94), some (.int x6), some (.int x7), some (.int z13.1), some (.int (z13.1 + z15.1))] [] z15.2 by
          obtain ⟨n, hn⟩ := hh
          exact ⟨n + 2, And.intro (fun zz => absurd zz c19) (fun _ => hn)⟩
        by_cases c21 : (z13.1 + z15.1) ≤ x6
        · rw [if_pos c21] at h
          suffices hh : ∃ n, jx_W jx_ShC d (some .int) jc_35 Q n 139 [some (.ref 92), some (.ref 1), some (.int x2), some (.int x3), some (.int x4), some (.ref 94), some (.int x6), some (.int x7), some (.int z13.1), some (.int (z13.1 + z15.1))] [] z15.2 by
            obtain ⟨n, hn⟩ := hh
            exact ⟨n + 3, And.intro (fun _ => hn) (fun zz => absurd c21 zz)⟩
          obtain ⟨n, hn⟩ := s_L_valueFrom_139 hRec hd0 hd hK54 (u8 := some (.int z13.1)) (u9 := some (.int (z13.1 + z15.1))) (by decide) h hQ
          exact ⟨n + 0, hn⟩
        · rw [if_neg c21] at h
          suffices hh : ∃ n, jx_W jx_ShC d (some .int) jc_35 Q n 115 [some (.ref 92), some (.ref 1), some (.int x2), some (.int x3), some (.int x4), some (.ref 94), some (.int x6), some (.int x7), some (.int z13.1), some (.int (z13.1 + z15.1))] [] z15.2 by
            obtain ⟨n, hn⟩ := hh
            exact ⟨n + 3, And.intro (fun zz => absurd zz c21) (fun _ => hn)⟩
          obtain ⟨n, hn⟩ := s_L_valueFrom_125 hRec hd0 hd hK54 (u6 := some (.int x6)) (u8 := some (.int z13.1)) (by decide) h hQ
          exact ⟨n + 1, hn⟩
  · unfold f_L_valueFrom_74 at h
    obtain ⟨z13, h14, h⟩ := Option.bind_eq_some_iff.mp h
    obtain ⟨z15, h16, h⟩ := Option.bind_eq_some_iff.mp h
    by_cases c17 : x7 = 0
    · rw [if_pos c17] at h
      suffices hh : ∃ n, jx_W jx_ShC d (some .int) jc_35 Q n 125 [some (.ref 92), some (.ref 1), some (.int x2), some (.int x3), some (.int x4), some (.ref 98), some (.int x6), some (.int x7), some (.int z13.1), some (.int (z13.1 + z15.1))] [] z15.2 by
        obtain ⟨n, hn⟩ := hh
        exact ⟨n + 17, s_S_goBy (by omega) (by decide) h14 (hRec (by omega) h16 (And.intro (fun _ => hn) (fun zz => absurd c17 zz)))⟩
      obtain ⟨n, hn⟩ := s_L_valueFrom_125 hRec hd0 hd hK54 (u6 := some (.int x6)) (u8 := some (.int z13.1)) (by decide) h hQ
      exact ⟨n + 0, hn⟩
    · rw [if_neg c17] at h
      suffices hh : ∃ n, jx_W jx_ShC d (some .int) jc_35 Q n 103 [some (.ref 92), some (.ref 1), some (.int x2), some (.int x3), some (.int x4), some (.ref 98), some (.int x6), some (.int x7), some (.int z13.1), some (.int (z13.1 + z15.1))] [] z15.2 by
        obtain ⟨n, hn⟩ := hh
        exact ⟨n + 17, s_S_goBy (by omega) (by decide) h14 (hRec (by omega) h16 (And.intro (fun zz => absurd zz c17) (fun _ => hn)))⟩
      by_cases c19 : x4 = 0
      · rw [if_pos c19] at h
        suffices hh : ∃ n, jx_W jx_ShC d (some .int) jc_35 Q n 118 [some (.ref 92), some (.ref 1), some (.int x2), some (.int x3), some (.int x4), some (.ref 98), some (.int x6), some (.int x7), some (.int z13.1), some (.int (z13.1 + z15.1))] [] z15.2 by
          obtain ⟨n, hn⟩ := hh
          exact ⟨n + 2, And.intro (fun _ => hn) (fun zz => absurd c19 zz)⟩
        by_cases c20 : x6 ≤ (z13.1 + z15.1)
        · rw [if_pos c20] at h
          suffices hh : ∃ n, jx_W jx_ShC d (some .int) jc_35 Q n 139 [some (.ref 92), some (.ref 1), some (.int x2), some (.int x3), some (.int x4), some (.ref 98), some (.int x6), some (.int x7), some (.int z13.1), some (.int (z13.1 + z15.1))] [] z15.2 by
            obtain ⟨n, hn⟩ := hh
            exact ⟨n + 3, And.intro (fun _ => hn) (fun zz => absurd c20 zz)⟩
          obtain ⟨n, hn⟩ := s_L_valueFrom_139 hRec hd0 hd hK54 (u8 := some (.int z13.1)) (u9 := some (.int (z13.1 + z15.1))) (by decide) h hQ
          exact ⟨n + 0, hn⟩
        · rw [if_neg c20] at h
          suffices hh : ∃ n, jx_W jx_ShC d (some .int) jc_35 Q n 125 [some (.ref 92), some (.ref 1), some (.int x2), some (.int x3), some (.int x4), some (.ref 98), some (.int x6), some (.int x7), some (.int z13.1), some (.int (z13.1 + z15.1))] [] z15.2 by
            obtain ⟨n, hn⟩ := hh
            exact ⟨n + 3, And.intro (fun zz => absurd zz c20) (fun _ => hn)⟩
          obtain ⟨n, hn⟩ := s_L_valueFrom_125 hRec hd0 hd hK54 (u6 := some (.int x6)) (u8 := some (.int z13.1)) (by decide) h hQ
          exact ⟨n + 0, hn⟩
      · rw [if_neg c19] at h
        suffices hh : ∃ n, jx_W jx_ShC d (some .int) jc_35 Q n 108 [some (.ref 92), some (.ref 1), some (.int x2), some (.int x3), some (.int x4), some (.ref 98), some (.int x6), some (.int x7), some (.int z13.1), some (.int (z13.1 + z15.1))] [] z15.2 by
          obtain ⟨n, hn⟩ := hh
          exact ⟨n + 2, And.intro (fun zz => absurd zz c19) (fun _ => hn)⟩
        by_cases c21 : (z13.1 + z15.1) ≤ x6
        · rw [if_pos c21] at h
          suffices hh : ∃ n, jx_W jx_ShC d (some .int) jc_35 Q n 139 [some (.ref 92), some (.ref 1), some (.int x2), some (.int x3), some (.int x4), some (.ref 98), some (.int x6), some (.int x7), some (.int z13.1), some (.int (z13.1 + z15.1))] [] z15.2 by
            obtain ⟨n, hn⟩ := hh
            exact ⟨n + 3, And.intro (fun _ => hn) (fun zz => absurd c21 zz)⟩
          obtain ⟨n, hn⟩ := s_L_valueFrom_139 hRec hd0 hd hK54 (u8 := some (.int z13.1)) (u9 := some (.int (z13.1 + z15.1))) (by decide) h hQ
          exact ⟨n + 0, hn⟩
        · rw [if_neg c21] at h
          suffices hh : ∃ n, jx_W jx_ShC d (some .int) jc_35 Q n 115 [some (.ref 92), some (.ref 1), some (.int x2), some (.int x3), some (.int x4), some (.ref 98), some (.int x6), some (.int x7), some (.int z13.1), some (.int (z13.1 + z15.1))] [] z15.2 by
            obtain ⟨n, hn⟩ := hh
            exact ⟨n + 3, And.intro (fun zz => absurd zz c21) (fun _ => hn)⟩
          obtain ⟨n, hn⟩ := s_L_valueFrom_125 hRec hd0 hd hK54 (u6 := some (.int x6)) (u8 := some (.int z13.1)) (by decide) h hQ
          exact ⟨n + 1, hn⟩
  · unfold f_L_valueFrom_74 at h
    obtain ⟨z13, h14, h⟩ := Option.bind_eq_some_iff.mp h
    obtain ⟨z15, h16, h⟩ := Option.bind_eq_some_iff.mp h
    by_cases c17 : x7 = 0
    · rw [if_pos c17] at h
      suffices hh : ∃ n, jx_W jx_ShC d (some .int) jc_35 Q n 125 [some (.ref 92), some (.ref 1), some (.int x2), some (.int x3), some (.int x4), some (.ref 102), some (.int x6), some (.int x7), some (.int z13.1), some (.int (z13.1 + z15.1))] [] z15.2 by
        obtain ⟨n, hn⟩ := hh
        exact ⟨n + 17, s_S_goBy (by omega) (by decide) h14 (hRec (by omega) h16 (And.intro (fun _ => hn) (fun zz => absurd c17 zz)))⟩
      obtain ⟨n, hn⟩ := s_L_valueFrom_125 hRec hd0 hd hK54 (u6 := some (.int x6)) (u8 := some (.int z13.1)) (by decide) h hQ
      exact ⟨n + 0, hn⟩
    · rw [if_neg c17] at h
      suffices hh : ∃ n, jx_W jx_ShC d (some .int) jc_35 Q n 103 [some (.ref 92), some (.ref 1), some (.int x2), some (.int x3), some (.int x4), some (.ref 102), some (.int x6), some (.int x7), some (.int z13.1), some (.int (z13.1 + z15.1))] [] z15.2 by
        obtain ⟨n, hn⟩ := hh
        exact ⟨n + 17, s_S_goBy (by omega) (by decide) h14 (hRec (by omega) h16 (And.intro (fun zz => absurd zz c17) (fun _ => hn)))⟩
      by_cases c19 : x4 = 0
      · rw [if_pos c19] at h
        suffices hh : ∃ n, jx_W jx_ShC d (some .int) jc_35 Q n 118 [some (.ref 92), some (.ref 1), some (.int x2), some (.int x3), some (.int x4), some (.ref 102), some (.int x6), some (.int x7), some (.int z13.1), some (.int (z13.1 + z15.1))] [] z15.2 by
          obtain ⟨n, hn⟩ := hh
          exact ⟨n + 2, And.intro (fun _ => hn) (fun zz => absurd c19 zz)⟩
        by_cases c20 : x6 ≤ (z13.1 + z15.1)
        · rw [if_pos c20] at h
          suffices hh : ∃ n, jx_W jx_ShC d (some .int) jc_35 Q n 139 [some (.ref 92), some (.ref 1), some (.int x2), some (.int x3), some (.int x4), some (.ref 102), some (.int x6), some (.int x7), some (.int z13.1), some (.int (z13.1 + z15.1))] [] z15.2 by
            obtain ⟨n, hn⟩ := hh
            exact ⟨n + 3, And.intro (fun _ => hn) (fun zz => absurd c20 zz)⟩
          obtain ⟨n, hn⟩ := s_L_valueFrom_139 hRec hd0 hd hK54 (u8 := some (.int z13.1)) (u9 := some (.int (z13.1 + z15.1))) (by decide) h hQ
          exact ⟨n + 0, hn⟩
        · rw [if_neg c20] at h
          suffices hh : ∃ n, jx_W jx_ShC d (some .int) jc_35 Q n 125 [some (.ref 92), some (.ref 1), some (.int x2), some (.int x3), some (.int x4), some (.ref 102), some (.int x6), some (.int x7), some (.int z13.1), some (.int (z13.1 + z15.1))] [] z15.2 by
            obtain ⟨n, hn⟩ := hh
            exact ⟨n + 3, And.intro (fun zz => absurd zz c20) (fun _ => hn)⟩
          obtain ⟨n, hn⟩ := s_L_valueFrom_125 hRec hd0 hd hK54 (u6 := some (.int x6)) (u8 := some (.int z13.1)) (by decide) h hQ
          exact ⟨n + 0, hn⟩
      · rw [if_neg c19] at h
        suffices hh : ∃ n, jx_W jx_ShC d (some .int) jc_35 Q n 108 [some (.ref 92), some (.ref 1), some (.int x2), some (.int x3), some (.int x4), some (.ref 102), some (.int x6), some (.int x7), some (.int z13.1), some (.int (z13.1 + z15.1))] [] z15.2 by
          obtain ⟨n, hn⟩ := hh
          exact ⟨n + 2, And.intro (fun zz => absurd zz c19) (fun _ => hn)⟩
        by_cases c21 : (z13.1 + z15.1) ≤ x6
        · rw [if_pos c21] at h
          suffices hh : ∃ n, jx_W jx_ShC d (some .int) jc_35 Q n 139 [some (.ref 92), some (.ref 1), some (.int x2), some (.int x3), some (.int x4), some (.ref 102), some (.int x6), some (.int x7), some (.int z13.1), some (.int (z13.1 + z15.1))] [] z15.2 by
            obtain ⟨n, hn⟩ := hh
            exact ⟨n + 3, And.intro (fun _ => hn) (fun zz => absurd c21 zz)⟩
          obtain ⟨n, hn⟩ := s_L_valueFrom_139 hRec hd0 hd hK54 (u8 := some (.int z13.1)) (u9 := some (.int (z13.1 + z15.1))) (by decide) h hQ
          exact ⟨n + 0, hn⟩
        · rw [if_neg c21] at h
          suffices hh : ∃ n, jx_W jx_ShC d (some .int) jc_35 Q n 115 [some (.ref 92), some (.ref 1), some (.int x2), some (.int x3), some (.int x4), some (.ref 102), some (.int x6), some (.int x7), some (.int z13.1), some (.int (z13.1 + z15.1))] [] z15.2 by
            obtain ⟨n, hn⟩ := hh
            exact ⟨n + 3, And.intro (fun zz => absurd zz c21) (fun _ => hn)⟩
          obtain ⟨n, hn⟩ := s_L_valueFrom_125 hRec hd0 hd hK54 (u6 := some (.int x6)) (u8 := some (.int z13.1)) (by decide) h hQ
          exact ⟨n + 1, hn⟩
  · unfold f_L_valueFrom_74 at h
    obtain ⟨z13, h14, h⟩ := Option.bind_eq_some_iff.mp h
    obtain ⟨z15, h16, h⟩ := Option.bind_eq_some_iff.mp h
    by_cases c17 : x7 = 0
    · rw [if_pos c17] at h
      suffices hh : ∃ n, jx_W jx_ShC d (some .int) jc_35 Q n 125 [some (.ref 92), some (.ref 1), some (.int x2), some (.int x3), some (.int x4), some (.ref 106), some (.int x6), some (.int x7), some (.int z13.1), some (.int (z13.1 + z15.1))] [] z15.2 by
        obtain ⟨n, hn⟩ := hh
        exact ⟨n + 17, s_S_goBy (by omega) (by decide) h14 (hRec (by omega) h16 (And.intro (fun _ => hn) (fun zz => absurd c17 zz)))⟩
      obtain ⟨n, hn⟩ := s_L_valueFrom_125 hRec hd0 hd hK54 (u6 := some (.int x6)) (u8 := some (.int z13.1)) (by decide) h hQ
      exact ⟨n + 0, hn⟩
    · rw [if_neg c17] at h
      suffices hh : ∃ n, jx_W jx_ShC d (some .int) jc_35 Q n 103 [some (.ref 92), some (.ref 1), some (.int x2), some (.int x3), some (.int x4), some (.ref 106), some (.int x6), some (.int x7), some (.int z13.1), some (.int (z13.1 + z15.1))] [] z15.2 by
        obtain ⟨n, hn⟩ := hh
        exact ⟨n + 17, s_S_goBy (by omega) (by decide) h14 (hRec (by omega) h16 (And.intro (fun zz => absurd zz c17) (fun _ => hn)))⟩
      by_cases c19 : x4 = 0
      · rw [if_pos c19] at h
        suffices hh : ∃ n, jx_W jx_ShC d (some .int) jc_35 Q n 118 [some (.ref 92), some (.ref 1), some (.int x2), some (.int x3), some (.int x4), some (.ref 106), some (.int x6), some (.int x7), some (.int z13.1), some (.int (z13.1 + z15.1))] [] z15.2 by
          obtain ⟨n, hn⟩ := hh
          exact ⟨n + 2, And.intro (fun _ => hn) (fun zz => absurd c19 zz)⟩
        by_cases c20 : x6 ≤ (z13.1 + z15.1)
        · rw [if_pos c20] at h
          suffices hh : ∃ n, jx_W jx_ShC d (some .int) jc_35 Q n 139 [some (.ref 92), some (.ref 1), some (.int x2), some (.int x3), some (.int x4), some (.ref 106), some (.int x6), some (.int x7), some (.int z13.1), some (.int (z13.1 + z15.1))] [] z15.2 by
            obtain ⟨n, hn⟩ := hh
            exact ⟨n + 3, And.intro (fun _ => hn) (fun zz => absurd c20 zz)⟩
          obtain ⟨n, hn⟩ := s_L_valueFrom_139 hRec hd0 hd hK54 (u8 := some (.int z13.1)) (u9 := some (.int (z13.1 + z15.1))) (by decide) h hQ
          exact ⟨n + 0, hn⟩
        · rw [if_neg c20] at h
          suffices hh : ∃ n, jx_W jx_ShC d (some .int) jc_35 Q n 125 [some (.ref 92), some (.ref 1), some (.int x2), some (.int x3), some (.int x4), some (.ref 106), some (.int x6), some (.int x7), some (.int z13.1), some (.int (z13.1 + z15.1))] [] z15.2 by
            obtain ⟨n, hn⟩ := hh
            exact ⟨n + 3, And.intro (fun zz => absurd zz c20) (fun _ => hn)⟩
          obtain ⟨n, hn⟩ := s_L_valueFrom_125 hRec hd0 hd hK54 (u6 := some (.int x6)) (u8 := some (.int z13.1)) (by decide) h hQ
          exact ⟨n + 0, hn⟩
      · rw [if_neg c19] at h
        suffices hh : ∃ n, jx_W jx_ShC d (some .int) jc_35 Q n 108 [some (.ref 92), some (.ref 1), some (.int x2), some (.int x3), some (.int x4), some (.ref 106), some (.int x6), some (.int x7), some (.int z13.1), some (.int (z13.1 + z15.1))] [] z15.2 by
          obtain ⟨n, hn⟩ := hh
          exact ⟨n + 2, And.intro (fun zz => absurd zz c19) (fun _ => hn)⟩
        by_cases c21 : (z13.1 + z15.1) ≤ x6
        · rw [if_pos c21] at h
          suffices hh : ∃ n, jx_W jx_ShC d (some .int) jc_35 Q n 139 [some (.ref 92), some (.ref 1), some (.int x2), some (.int x3), some (.int x4), some (.ref 106), some (.int x6), some (.int x7), some (.int z13.1), some (.int (z13.1 + z15.1))] [] z15.2 by
            obtain ⟨n, hn⟩ := hh
            exact ⟨n + 3, And.intro (fun _ => hn) (fun zz => absurd c21 zz)⟩
          obtain ⟨n, hn⟩ := s_L_valueFrom_139 hRec hd0 hd hK54 (u8 := some (.int z13.1)) (u9 := some (.int (z13.1 + z15.1))) (by decide) h hQ
          exact ⟨n + 0, hn⟩
        · rw [if_neg c21] at h
          suffices hh : ∃ n, jx_W jx_ShC d (some .int) jc_35 Q n 115 [some (.ref 92), some (.ref 1), some (.int x2), some (.int x3), some (.int x4), some (.ref 106), some (.int x6), some (.int x7), some (.int z13.1), some (.int (z13.1 + z15.1))] [] z15.2 by
            obtain ⟨n, hn⟩ := hh
            exact ⟨n + 3, And.intro (fun zz => absurd zz c21) (fun _ => hn)⟩
          obtain ⟨n, hn⟩ := s_L_valueFrom_125 hRec hd0 hd hK54 (u6 := some (.int x6)) (u8 := some (.int z13.1)) (by decide) h hQ
          exact ⟨n + 1, hn⟩
  · unfold f_L_valueFrom_74 at h
    obtain ⟨z13, h14, h⟩ := Option.bind_eq_some_iff.mp h
    obtain ⟨z15, h16, h⟩ := Option.bind_eq_some_iff.mp h
    by_cases c17 : x7 = 0
    · rw [if_pos c17] at h
      suffices hh : ∃ n, jx_W jx_ShC d (some .int) jc_35 Q n 125 [some (.ref 92), some (.ref 1), some (.int x2), some (.int x3), some (.int x4), some (.ref 110), some (.int x6), some (.int x7), some (.int z13.1), some (.int (z13.1 + z15.1))] [] z15.2 by
        obtain ⟨n, hn⟩ := hh
        exact ⟨n + 17, s_S_goBy (by omega) (by decide) h14 (hRec (by omega) h16 (And.intro (fun _ => hn) (fun zz => absurd c17 zz)))⟩
      obtain ⟨n, hn⟩ := s_L_valueFrom_125 hRec hd0 hd hK54 (u6 := some (.int x6)) (u8 := some (.int z13.1)) (by decide) h hQ
      exact ⟨n + 0, hn⟩
    · rw [if_neg c17] at h
      suffices hh : ∃ n, jx_W jx_ShC d (some .int) jc_35 Q n 103 [some (.ref 92), some (.ref 1), some (.int x2), some (.int x3), some (.int x4), some (.ref 110), some (.int x6), some (.int x7), some (.int z13.1), some (.int (z13.1 + z15.1))] [] z15.2 by
        obtain ⟨n, hn⟩ := hh
        exact ⟨n + 17, s_S_goBy (by omega) (by decide) h14 (hRec (by omega) h16 (And.intro (fun zz => absurd zz c17) (fun _ => hn)))⟩
      by_cases c19 : x4 = 0
      · rw [if_pos c19] at h
        suffices hh : ∃ n, jx_W jx_ShC d (some .int) jc_35 Q n 118 [some (.ref 92), some (.ref 1), some (.int x2), some (.int x3), some (.int x4), some (.ref 110), some (.int x6), some (.int x7), some (.int z13.1), some (.int (z13.1 + z15.1))] [] z15.2 by
          obtain ⟨n, hn⟩ := hh
          exact ⟨n + 2, And.intro (fun _ => hn) (fun zz => absurd c19 zz)⟩
        by_cases c20 : x6 ≤ (z13.1 + z15.1)
        · rw [if_pos c20] at h
          suffices hh : ∃ n, jx_W jx_ShC d (some .int) jc_35 Q n 139 [some (.ref 92), some (.ref 1), some (.int x2), some (.int x3), some (.int x4), some (.ref 110), some (.int x6), some (.int x7), some (.int z13.1), some (.int (z13.1 + z15.1))] [] z15.2 by
            obtain ⟨n, hn⟩ := hh
            exact ⟨n + 3, And.intro (fun _ => hn) (fun zz => absurd c20 zz)⟩
          obtain ⟨n, hn⟩ := s_L_valueFrom_139 hRec hd0 hd hK54 (u8 := some (.int z13.1)) (u9 := some (.int (z13.1 + z15.1))) (by decide) h hQ
          exact ⟨n + 0, hn⟩
        · rw [if_neg c20] at h
          suffices hh : ∃ n, jx_W jx_ShC d (some .int) jc_35 Q n 125 [some (.ref 92), some (.ref 1), some (.int x2), some (.int x3), some (.int x4), some (.ref 110), some (.int x6), some (.int x7), some (.int z13.1), some (.int (z13.1 + z15.1))] [] z15.2 by
            obtain ⟨n, hn⟩ := hh
            exact ⟨n + 3, And.intro (fun zz => absurd zz c20) (fun _ => hn)⟩
          obtain ⟨n, hn⟩ := s_L_valueFrom_125 hRec hd0 hd hK54 (u6 := some (.int x6)) (u8 := some (.int z13.1)) (by decide) h hQ
          exact ⟨n + 0, hn⟩
      · rw [if_neg c19] at h
        suffices hh : ∃ n, jx_W jx_ShC d (some .int) jc_35 Q n 108 [some (.ref 92), some (.ref 1), some (.int x2), some (.int x3), some (.int x4), some (.ref 110), some (.int x6), some (.int x7), some (.int z13.1), some (.int (z13.1 + z15.1))] [] z15.2 by
          obtain ⟨n, hn⟩ := hh
          exact ⟨n + 2, And.intro (fun zz => absurd zz c19) (fun _ => hn)⟩
        by_cases c21 : (z13.1 + z15.1) ≤ x6
        · rw [if_pos c21] at h
          suffices hh : ∃ n, jx_W jx_ShC d (some .int) jc_35 Q n 139 [some (.ref 92), some (.ref 1), some (.int x2), some (.int x3), some (.int x4), some (.ref 110), some (.int x6), some (.int x7), some (.int z13.1), some (.int (z13.1 + z15.1))] [] z15.2 by
            obtain ⟨n, hn⟩ := hh
            exact ⟨n + 3, And.intro (fun _ => hn) (fun zz => absurd c21 zz)⟩
          obtain ⟨n, hn⟩ := s_L_valueFrom_139 hRec hd0 hd hK54 (u8 := some (.int z13.1)) (u9 := some (.int (z13.1 + z15.1))) (by decide) h hQ
          exact ⟨n + 0, hn⟩
        · rw [if_neg c21] at h
          suffices hh : ∃ n, jx_W jx_ShC d (some .int) jc_35 Q n 115 [some (.ref 92), some (.ref 1), some (.int x2), some (.int x3), some (.int x4), some (.ref 110), some (.int x6), some (.int x7), some (.int z13.1), some (.int (z13.1 + z15.1))] [] z15.2 by
            obtain ⟨n, hn⟩ := hh
            exact ⟨n + 3, And.intro (fun zz => absurd zz c21) (fun _ => hn)⟩
          obtain ⟨n, hn⟩ := s_L_valueFrom_125 hRec hd0 hd hK54 (u6 := some (.int x6)) (u8 := some (.int z13.1)) (by decide) h hQ
          exact ⟨n + 1, hn⟩
set_option maxRecDepth 20000 in
theorem s_L_valueFrom_71 {N d : Nat} {Dr : Nat} {Rec : Int32 → Int32 → jw_M → Option (Int32 × jw_M)} {Q : jw_Q} {K54 : Int32 → Int32 → Int32 → Nat → Int32 → Int32 → jw_M → Option (Int32 × jw_M)} (hRec : ∀ {d : Nat} {a2 : Int32} {a3 : Int32} {σ : jw_M} {z : (Int32 × jw_M)} {Q : jw_Q}, Dr ≤ d → Rec a2 a3 σ = some z → Q (some (.int z.1)) (jx_ShC, z.2) → jw_C jp_kd jp_ys d 35 [.ref 92, .ref 1, .int a2, .int a3] (jx_ShC, σ) Q) (hd0 : 0 + Dr ≤ d) (hd : 5 ≤ d) (hK54 : ∀ {x2 : Int32} {x3 : Int32} {x4 : Int32} {r5 : Nat} {x6 : Int32} {x7 : Int32} {σ : jw_M} {z : (Int32 × jw_M)} {u8 : Option Value} {u9 : Option Value}, (r5 = 94 ∨ r5 = 98 ∨ r5 = 102 ∨ r5 = 106 ∨ r5 = 110) → K54 x2 x3 x4 r5 x6 x7 σ = some z → Q (some (.int z.1)) (jx_ShC, z.2) → ∃ n, jx_W jx_ShC d (some .int) jc_35 Q n 54 [some (.ref 92), some (.ref 1), some (.int x2), some (.int x3), some (.int x4), some (.ref r5), some (.int x6), some (.int x7), u8, u9] [] σ) {x2 : Int32} {x3 : Int32} {x4 : Int32} {r5 : Nat} {x6 : Int32} {x7 : Int32} {r_1 : Nat} {u8 : Option Value} {u9 : Option Value} {σ : jw_M} {z : (Int32 × jw_M)} (hr5 : r5 = 94 ∨ r5 = 98 ∨ r5 = 102 ∨ r5 = 106 ∨ r5 = 110) (hr_1 : r_1 = 94 ∨ r_1 = 98 ∨ r_1 = 102 ∨ r_1 = 106 ∨ r_1 = 110) (h : f_L_valueFrom_71 N Rec K54 x2 x3 x4 r5 x6 x7 r_1 σ = some z) (hQ : Q (some (.int z.1)) (jx_ShC, z.2)) : ∃ n, jx_W jx_ShC d (some .int) jc_35 Q n 71 [some (.ref 92), some (.ref 1), some (.int x2), some (.int x3), some (.int x4), some (.ref r5), some (.int x6), some (.int x7), u8, u9] [.ref r_1, .ref r5] σ := by
  rcases hr5 with rfl | rfl | rfl | rfl | rfl
  · rcases hr_1 with rfl | rfl | rfl | rfl | rfl
    · unfold f_L_valueFrom_71 at h
      obtain ⟨z11, h12, h⟩ := Option.bind_eq_some_iff.mp h
      obtain ⟨n, hn⟩ := s_L_valueFrom_74 hRec hd0 hd hK54 (u8 := u8) (u9 := u9) (by decide) h hQ
      exact ⟨n + 1, s_P_copyFrom (by omega) (by decide) h12 (hn)⟩
    · unfold f_L_valueFrom_71 at h
      obtain ⟨z11, h12, h⟩ := Option.bind_eq_some_iff.mp h
      obtain ⟨n, hn⟩ := s_L_valueFrom_74 hRec hd0 hd hK54 (u8 := u8) (u9 := u9) (by decide) h hQ
      exact ⟨n + 1, s_P_copyFrom (by omega) (by decide) h12 (hn)⟩
    · unfold f_L_valueFrom_71 at h
      obtain ⟨z11, h12, h⟩ := Option.bind_eq_some_iff.mp h
      obtain ⟨n, hn⟩ := s_L_valueFrom_74 hRec hd0 hd hK54 (u8 := u8) (u9 := u9) (by decide) h hQ
      exact ⟨n + 1, s_P_copyFrom (by omega) (by decide) h12 (hn)⟩
    · unfold f_L_valueFrom_71 at h
      obtain ⟨z11, h12, h⟩ := Option.bind_eq_some_iff.mp h
      obtain ⟨n, hn⟩ := s_L_valueFrom_74 hRec hd0 hd hK54 (u8 := u8) (u9 := u9) (by decide) h hQ
      exact ⟨n + 1, s_P_copyFrom (by omega) (by decide) h12 (hn)⟩
    · unfold f_L_valueFrom_71 at h
      obtain ⟨z11, h12, h⟩ := Option.bind_eq_some_iff.mp h
      obtain ⟨n, hn⟩ := s_L_valueFrom_74 hRec hd0 hd hK54 (u8 := u8) (u9 := u9) (by decide) h hQ
      exact ⟨n + 1, s_P_copyFrom (by omega) (by decide) h12 (hn)⟩
  · rcases hr_1 with rfl | rfl | rfl | rfl | rfl
    · unfold f_L_valueFrom_71 at h
      obtain ⟨z11, h12, h⟩ := Option.bind_eq_some_iff.mp h
      obtain ⟨n, hn⟩ := s_L_valueFrom_74 hRec hd0 hd hK54 (u8 := u8) (u9 := u9) (by decide) h hQ
      exact ⟨n + 1, s_P_copyFrom (by omega) (by decide) h12 (hn)⟩
    · unfold f_L_valueFrom_71 at h
      obtain ⟨z11, h12, h⟩ := Option.bind_eq_some_iff.mp h
      obtain ⟨n, hn⟩ := s_L_valueFrom_74 hRec hd0 hd hK54 (u8 := u8) (u9 := u9) (by decide) h hQ
      exact ⟨n + 1, s_P_copyFrom (by omega) (by decide) h12 (hn)⟩
    · unfold f_L_valueFrom_71 at h
      obtain ⟨z11, h12, h⟩ := Option.bind_eq_some_iff.mp h
      obtain ⟨n, hn⟩ := s_L_valueFrom_74 hRec hd0 hd hK54 (u8 := u8) (u9 := u9) (by decide) h hQ
      exact ⟨n + 1, s_P_copyFrom (by omega) (by decide) h12 (hn)⟩
    · unfold f_L_valueFrom_71 at h
      obtain ⟨z11, h12, h⟩ := Option.bind_eq_some_iff.mp h
      obtain ⟨n, hn⟩ := s_L_valueFrom_74 hRec hd0 hd hK54 (u8 := u8) (u9 := u9) (by decide) h hQ
      exact ⟨n + 1, s_P_copyFrom (by omega) (by decide) h12 (hn)⟩
    · unfold f_L_valueFrom_71 at h
      obtain ⟨z11, h12, h⟩ := Option.bind_eq_some_iff.mp h
      obtain ⟨n, hn⟩ := s_L_valueFrom_74 hRec hd0 hd hK54 (u8 := u8) (u9 := u9) (by decide) h hQ
      exact ⟨n + 1, s_P_copyFrom (by omega) (by decide) h12 (hn)⟩
  · rcases hr_1 with rfl | rfl | rfl | rfl | rfl
    · unfold f_L_valueFrom_71 at h
      obtain ⟨z11, h12, h⟩ := Option.bind_eq_some_iff.mp h
      obtain ⟨n, hn⟩ := s_L_valueFrom_74 hRec hd0 hd hK54 (u8 := u8) (u9 := u9) (by decide) h hQ
      exact ⟨n + 1, s_P_copyFrom (by omega) (by decide) h12 (hn)⟩
    · unfold f_L_valueFrom_71 at h
      obtain ⟨z11, h12, h⟩ := Option.bind_eq_some_iff.mp h
      obtain ⟨n, hn⟩ := s_L_valueFrom_74 hRec hd0 hd hK54 (u8 := u8) (u9 := u9) (by decide) h hQ
      exact ⟨n + 1, s_P_copyFrom (by omega) (by decide) h12 (hn)⟩
    · unfold f_L_valueFrom_71 at h
      obtain ⟨z11, h12, h⟩ := Option.bind_eq_some_iff.mp h
      obtain ⟨n, hn⟩ := s_L_valueFrom_74 hRec hd0 hd hK54 (u8 := u8) (u9 := u9) (by decide) h hQ
      exact ⟨n + 1, s_P_copyFrom (by omega) (by decide) h12 (hn)⟩
    · unfold f_L_valueFrom_71 at h
      obtain ⟨z11, h12, h⟩ := Option.bind_eq_some_iff.mp h
      obtain ⟨n, hn⟩ := s_L_valueFrom_74 hRec hd0 hd hK54 (u8 := u8) (u9 := u9) (by decide) h hQ
      exact ⟨n + 1, s_P_copyFrom (by omega) (by decide) h12 (hn)⟩
    · unfold f_L_valueFrom_71 at h
      obtain ⟨z11, h12, h⟩ := Option.bind_eq_some_iff.mp h
      obtain ⟨n, hn⟩ := s_L_valueFrom_74 hRec hd0 hd hK54 (u8 := u8) (u9 := u9) (by decide) h hQ
      exact ⟨n + 1, s_P_copyFrom (by omega) (by decide) h12 (hn)⟩
  · rcases hr_1 with rfl | rfl | rfl | rfl | rfl
    · unfold f_L_valueFrom_71 at h
      obtain ⟨z11, h12, h⟩ := Option.bind_eq_some_iff.mp h
      obtain ⟨n, hn⟩ := s_L_valueFrom_74 hRec hd0 hd hK54 (u8 := u8) (u9 := u9) (by decide) h hQ
      exact ⟨n + 1, s_P_copyFrom (by omega) (by decide) h12 (hn)⟩
    · unfold f_L_valueFrom_71 at h
      obtain ⟨z11, h12, h⟩ := Option.bind_eq_some_iff.mp h
      obtain ⟨n, hn⟩ := s_L_valueFrom_74 hRec hd0 hd hK54 (u8 := u8) (u9 := u9) (by decide) h hQ
      exact ⟨n + 1, s_P_copyFrom (by omega) (by decide) h12 (hn)⟩
    · unfold f_L_valueFrom_71 at h
      obtain ⟨z11, h12, h⟩ := Option.bind_eq_some_iff.mp h
      obtain ⟨n, hn⟩ := s_L_valueFrom_74 hRec hd0 hd hK54 (u8 := u8) (u9 := u9) (by decide) h hQ
      exact ⟨n + 1, s_P_copyFrom (by omega) (by decide) h12 (hn)⟩
    · unfold f_L_valueFrom_71 at h
      obtain ⟨z11, h12, h⟩ := Option.bind_eq_some_iff.mp h
      obtain ⟨n, hn⟩ := s_L_valueFrom_74 hRec hd0 hd hK54 (u8 := u8) (u9 := u9) (by decide) h hQ
      exact ⟨n + 1, s_P_copyFrom (by omega) (by decide) h12 (hn)⟩
    · unfold f_L_valueFrom_71 at h
      obtain ⟨z11, h12, h⟩ := Option.bind_eq_some_iff.mp h
      obtain ⟨n, hn⟩ := s_L_valueFrom_74 hRec hd0 hd hK54 (u8 := u8) (u9 := u9) (by decide) h hQ
      exact ⟨n + 1, s_P_copyFrom (by omega) (by decide) h12 (hn)⟩
  · rcases hr_1 with rfl | rfl | rfl | rfl | rfl
    · unfold f_L_valueFrom_71 at h
      obtain ⟨z11, h12, h⟩ := Option.bind_eq_some_iff.mp h
      obtain ⟨n, hn⟩ := s_L_valueFrom_74 hRec hd0 hd hK54 (u8 := u8) (u9 := u9) (by decide) h hQ
      exact ⟨n + 1, s_P_copyFrom (by omega) (by decide) h12 (hn)⟩
    · unfold f_L_valueFrom_71 at h
      obtain ⟨z11, h12, h⟩ := Option.bind_eq_some_iff.mp h
      obtain ⟨n, hn⟩ := s_L_valueFrom_74 hRec hd0 hd hK54 (u8 := u8) (u9 := u9) (by decide) h hQ
      exact ⟨n + 1, s_P_copyFrom (by omega) (by decide) h12 (hn)⟩
    · unfold f_L_valueFrom_71 at h
      obtain ⟨z11, h12, h⟩ := Option.bind_eq_some_iff.mp h
      obtain ⟨n, hn⟩ := s_L_valueFrom_74 hRec hd0 hd hK54 (u8 := u8) (u9 := u9) (by decide) h hQ
      exact ⟨n + 1, s_P_copyFrom (by omega) (by decide) h12 (hn)⟩
    · unfold f_L_valueFrom_71 at h
      obtain ⟨z11, h12, h⟩ := Option.bind_eq_some_iff.mp h
      obtain ⟨n, hn⟩ := s_L_valueFrom_74 hRec hd0 hd hK54 (u8 := u8) (u9 := u9) (by decide) h hQ
      exact ⟨n + 1, s_P_copyFrom (by omega) (by decide) h12 (hn)⟩
    · unfold f_L_valueFrom_71 at h
      obtain ⟨z11, h12, h⟩ := Option.bind_eq_some_iff.mp h
      obtain ⟨n, hn⟩ := s_L_valueFrom_74 hRec hd0 hd hK54 (u8 := u8) (u9 := u9) (by decide) h hQ
      exact ⟨n + 1, s_P_copyFrom (by omega) (by decide) h12 (hn)⟩
set_option maxRecDepth 20000 in
theorem s_L_valueFrom_70 {N d : Nat} {Dr : Nat} {Rec : Int32 → Int32 → jw_M → Option (Int32 × jw_M)} {Q : jw_Q} {K54 : Int32 → Int32 → Int32 → Nat → Int32 → Int32 → jw_M → Option (Int32 × jw_M)} (hRec : ∀ {d : Nat} {a2 : Int32} {a3 : Int32} {σ : jw_M} {z : (Int32 × jw_M)} {Q : jw_Q}, Dr ≤ d → Rec a2 a3 σ = some z → Q (some (.int z.1)) (jx_ShC, z.2) → jw_C jp_kd jp_ys d 35 [.ref 92, .ref 1, .int a2, .int a3] (jx_ShC, σ) Q) (hd0 : 0 + Dr ≤ d) (hd : 5 ≤ d) (hK54 : ∀ {x2 : Int32} {x3 : Int32} {x4 : Int32} {r5 : Nat} {x6 : Int32} {x7 : Int32} {σ : jw_M} {z : (Int32 × jw_M)} {u8 : Option Value} {u9 : Option Value}, (r5 = 94 ∨ r5 = 98 ∨ r5 = 102 ∨ r5 = 106 ∨ r5 = 110) → K54 x2 x3 x4 r5 x6 x7 σ = some z → Q (some (.int z.1)) (jx_ShC, z.2) → ∃ n, jx_W jx_ShC d (some .int) jc_35 Q n 54 [some (.ref 92), some (.ref 1), some (.int x2), some (.int x3), some (.int x4), some (.ref r5), some (.int x6), some (.int x7), u8, u9] [] σ) {x2 : Int32} {x3 : Int32} {x4 : Int32} {r5 : Nat} {x6 : Int32} {x7 : Int32} {y2 : Int32} {u8 : Option Value} {u9 : Option Value} {σ : jw_M} {z : (Int32 × jw_M)} (hr5 : r5 = 94 ∨ r5 = 98 ∨ r5 = 102 ∨ r5 = 106 ∨ r5 = 110) (h : f_L_valueFrom_70 N Rec K54 x2 x3 x4 r5 x6 x7 y2 σ = some z) (hQ : Q (some (.int z.1)) (jx_ShC, z.2)) : ∃ n, jx_W jx_ShC d (some .int) jc_35 Q n 70 [some (.ref 92), some (.ref 1), some (.int x2), some (.int x3), some (.int x4), some (.ref r5), some (.int x6), some (.int x7), u8, u9] [.int y2, .ref 93, .ref r5] σ := by
  unfold f_L_valueFrom_70 at h
  cases c10 : jx_in y2 5 with
  | false => rw [c10, cond_false] at h; cases h
  | true =>
    rw [c10, cond_true] at h
    rcases jx_ix5 (jx_in_ok c10) with rfl | rfl | rfl | rfl | rfl
    · try rw [show (94 + 4 * (0 : Int32).toNatClampNeg) = 94 from by decide] at h
      obtain ⟨n, hn⟩ := s_L_valueFrom_71 hRec hd0 hd hK54 (u8 := u8) (u9 := u9) hr5 (by decide) h hQ
      exact ⟨n + 1, And.intro (jx_in_ok c10) (hn)⟩
    · try rw [show (94 + 4 * (1 : Int32).toNatClampNeg) = 98 from by decide] at h
      obtain ⟨n, hn⟩ := s_L_valueFrom_71 hRec hd0 hd hK54 (u8 := u8) (u9 := u9) hr5 (by decide) h hQ
      exact ⟨n + 1, And.intro (jx_in_ok c10) (hn)⟩
    · try rw [show (94 + 4 * (2 : Int32).toNatClampNeg) = 102 from by decide] at h
      obtain ⟨n, hn⟩ := s_L_valueFrom_71 hRec hd0 hd hK54 (u8 := u8) (u9 := u9) hr5 (by decide) h hQ
      exact ⟨n + 1, And.intro (jx_in_ok c10) (hn)⟩
    · try rw [show (94 + 4 * (3 : Int32).toNatClampNeg) = 106 from by decide] at h
      obtain ⟨n, hn⟩ := s_L_valueFrom_71 hRec hd0 hd hK54 (u8 := u8) (u9 := u9) hr5 (by decide) h hQ
      exact ⟨n + 1, And.intro (jx_in_ok c10) (hn)⟩
    · try rw [show (94 + 4 * (4 : Int32).toNatClampNeg) = 110 from by decide] at h
      obtain ⟨n, hn⟩ := s_L_valueFrom_71 hRec hd0 hd hK54 (u8 := u8) (u9 := u9) hr5 (by decide) h hQ
      exact ⟨n + 1, And.intro (jx_in_ok c10) (hn)⟩
set_option maxRecDepth 20000 in
theorem s_L_valueFrom_54 {N d : Nat} {Dr : Nat} {Rec : Int32 → Int32 → jw_M → Option (Int32 × jw_M)} {Q : jw_Q} (hRec : ∀ {d : Nat} {a2 : Int32} {a3 : Int32} {σ : jw_M} {z : (Int32 × jw_M)} {Q : jw_Q}, Dr ≤ d → Rec a2 a3 σ = some z → Q (some (.int z.1)) (jx_ShC, z.2) → jw_C jp_kd jp_ys d 35 [.ref 92, .ref 1, .int a2, .int a3] (jx_ShC, σ) Q) (hd0 : 0 + Dr ≤ d) (hd : 5 ≤ d) : ∀ (k : Nat) {x2 : Int32} {x3 : Int32} {x4 : Int32} {r5 : Nat} {x6 : Int32} {x7 : Int32} {u8 : Option Value} {u9 : Option Value} {σ : jw_M} {z : (Int32 × jw_M)}, (r5 = 94 ∨ r5 = 98 ∨ r5 = 102 ∨ r5 = 106 ∨ r5 = 110) → f_L_valueFrom_54 N Rec k x2 x3 x4 r5 x6 x7 σ = some z → Q (some (.int z.1)) (jx_ShC, z.2) → ∃ n, jx_W jx_ShC d (some .int) jc_35 Q n 54 [some (.ref 92), some (.ref 1), some (.int x2), some (.int x3), some (.int x4), some (.ref r5), some (.int x6), some (.int x7), u8, u9] [] σ
  | 0, _, _, _, _, _, _, _, _, _, _, _, h, _ => by cases h
  | k + 1, x2, x3, x4, r5, x6, x7, u8, u9, σ, z, hr5, h, hQ => by
    rw [f_L_valueFrom_54] at h
    by_cases c9 : (σ.1 1 0) < x7
    · rw [if_pos c9] at h
      suffices hh : ∃ n, jx_W jx_ShC d (some .int) jc_35 Q n 145 [some (.ref 92), some (.ref 1), some (.int x2), some (.int x3), some (.int x4), some (.ref r5), some (.int x6), some (.int x7), u8, u9] [] σ by
        obtain ⟨n, hn⟩ := hh
        exact ⟨n + 4, And.intro (fun _ => hn) (fun zz => absurd c9 zz)⟩
      cases h
      exact ⟨2, And.intro hQ (And.intro rfl rfl)⟩
    · rw [if_neg c9] at h
      suffices hh : ∃ n, jx_W jx_ShC d (some .int) jc_35 Q n 63 [some (.ref 92), some (.ref 1), some (.int x2), some (.int x3), some (.int x4), some (.ref r5), some (.int x6), some (.int x7), u8, u9] [] σ by
        obtain ⟨n, hn⟩ := hh
        exact ⟨n + 4, And.intro (fun zz => absurd zz c9) (fun _ => hn)⟩
      obtain ⟨n, hn⟩ := s_L_valueFrom_70 hRec hd0 hd (s_L_valueFrom_54 hRec hd0 hd k) (u8 := u8) (u9 := u9) hr5 h hQ
      exact ⟨n + 4, hn⟩
set_option maxRecDepth 20000 in
theorem s_L_valueFrom_46 {N d : Nat} {Dr : Nat} {Rec : Int32 → Int32 → jw_M → Option (Int32 × jw_M)} {Q : jw_Q} (hRec : ∀ {d : Nat} {a2 : Int32} {a3 : Int32} {σ : jw_M} {z : (Int32 × jw_M)} {Q : jw_Q}, Dr ≤ d → Rec a2 a3 σ = some z → Q (some (.int z.1)) (jx_ShC, z.2) → jw_C jp_kd jp_ys d 35 [.ref 92, .ref 1, .int a2, .int a3] (jx_ShC, σ) Q) (hd0 : 0 + Dr ≤ d) (hd : 5 ≤ d) {x2 : Int32} {x3 : Int32} {x4 : Int32} {r_0 : Nat} {u5 : Option Value} {u6 : Option Value} {u7 : Option Value} {u8 : Option Value} {u9 : Option Value} {σ : jw_M} {z : (Int32 × jw_M)} (hr_0 : r_0 = 94 ∨ r_0 = 98 ∨ r_0 = 102 ∨ r_0 = 106 ∨ r_0 = 110) (h : f_L_valueFrom_46 N Rec x2 x3 x4 r_0 σ = some z) (hQ : Q (some (.int z.1)) (jx_ShC, z.2)) : ∃ n, jx_W jx_ShC d (some .int) jc_35 Q n 46 [some (.ref 92), some (.ref 1), some (.int x2), some (.int x3), some (.int x4), u5, u6, u7, u8, u9] [.ref r_0] σ := by
  unfold f_L_valueFrom_46 at h
  obtain ⟨n, hn⟩ := s_L_valueFrom_54 hRec hd0 hd N (u8 := u8) (u9 := u9) hr_0 h hQ
  exact ⟨n + 5, hn⟩
set_option maxRecDepth 20000 in
theorem s_L_valueFrom_45 {N d : Nat} {Dr : Nat} {Rec : Int32 → Int32 → jw_M → Option (Int32 × jw_M)} {Q : jw_Q} (hRec : ∀ {d : Nat} {a2 : Int32} {a3 : Int32} {σ : jw_M} {z : (Int32 × jw_M)} {Q : jw_Q}, Dr ≤ d → Rec a2 a3 σ = some z → Q (some (.int z.1)) (jx_ShC, z.2) → jw_C jp_kd jp_ys d 35 [.ref 92, .ref 1, .int a2, .int a3] (jx_ShC, σ) Q) (hd0 : 0 + Dr ≤ d) (hd : 5 ≤ d) {x2 : Int32} {x3 : Int32} {x4 : Int32} {y1 : Int32} {u5 : Option Value} {u6 : Option Value} {u7 : Option Value} {u8 : Option Value} {u9 : Option Value} {σ : jw_M} {z : (Int32 × jw_M)} (h : f_L_valueFrom_45 N Rec x2 x3 x4 y1 σ = some z) (hQ : Q (some (.int z.1)) (jx_ShC, z.2)) : ∃ n, jx_W jx_ShC d (some .int) jc_35 Q n 45 [some (.ref 92), some (.ref 1), some (.int x2), some (.int x3), some (.int x4), u5, u6, u7, u8, u9] [.int y1, .ref 93] σ := by
  unfold f_L_valueFrom_45 at h
  cases c8 : jx_in y1 5 with
  | false => rw [c8, cond_false] at h; cases h
  | true =>
    rw [c8, cond_true] at h
    rcases jx_ix5 (jx_in_ok c8) with rfl | rfl | rfl | rfl | rfl
    · try rw [show (94 + 4 * (0 : Int32).toNatClampNeg) = 94 from by decide] at h
      obtain ⟨n, hn⟩ := s_L_valueFrom_46 hRec hd0 hd (u5 := u5) (u6 := u6) (u7 := u7) (u8 := u8) (u9 := u9) (by decide) h hQ
      exact ⟨n + 1, And.intro (jx_in_ok c8) (hn)⟩
    · try rw [show (94 + 4 * (1 : Int32).toNatClampNeg) = 98 from by decide] at h
      obtain ⟨n, hn⟩ := s_L_valueFrom_46 hRec hd0 hd (u5 := u5) (u6 := u6) (u7 := u7) (u8 := u8) (u9 := u9) (by decide) h hQ
      exact ⟨n + 1, And.intro (jx_in_ok c8) (hn)⟩
    · try rw [show (94 + 4 * (2 : Int32).toNatClampNeg) = 102 from by decide] at h
      obtain ⟨n, hn⟩ := s_L_valueFrom_46 hRec hd0 hd (u5 := u5) (u6 := u6) (u7 := u7) (u8 := u8) (u9 := u9) (by decide) h hQ
      exact ⟨n + 1, And.intro (jx_in_ok c8) (hn)⟩
    · try rw [show (94 + 4 * (3 : Int32).toNatClampNeg) = 106 from by decide] at h
      obtain ⟨n, hn⟩ := s_L_valueFrom_46 hRec hd0 hd (u5 := u5) (u6 := u6) (u7 := u7) (u8 := u8) (u9 := u9) (by decide) h hQ
      exact ⟨n + 1, And.intro (jx_in_ok c8) (hn)⟩
    · try rw [show (94 + 4 * (4 : Int32).toNatClampNeg) = 110 from by decide] at h
      obtain ⟨n, hn⟩ := s_L_valueFrom_46 hRec hd0 hd (u5 := u5) (u6 := u6) (u7 := u7) (u8 := u8) (u9 := u9) (by decide) h hQ
      exact ⟨n + 1, And.intro (jx_in_ok c8) (hn)⟩
set_option maxRecDepth 20000 in
theorem s_L_valueFrom_36 {N d : Nat} {Dr : Nat} {Rec : Int32 → Int32 → jw_M → Option (Int32 × jw_M)} {Q : jw_Q} (hRec : ∀ {d : Nat} {a2 : Int32} {a3 : Int32} {σ : jw_M} {z : (Int32 × jw_M)} {Q : jw_Q}, Dr ≤ d → Rec a2 a3 σ = some z → Q (some (.int z.1)) (jx_ShC, z.2) → jw_C jp_kd jp_ys d 35 [.ref 92, .ref 1, .int a2, .int a3] (jx_ShC, σ) Q) (hd0 : 0 + Dr ≤ d) (hd : 5 ≤ d) {x2 : Int32} {x3 : Int32} {y0 : Int32} {u4 : Option Value} {u5 : Option Value} {u6 : Option Value} {u7 : Option Value} {u8 : Option Value} {u9 : Option Value} {σ : jw_M} {z : (Int32 × jw_M)} (h : f_L_valueFrom_36 N Rec x2 x3 y0 σ = some z) (hQ : Q (some (.int z.1)) (jx_ShC, z.2)) : ∃ n, jx_W jx_ShC d (some .int) jc_35 Q n 36 [some (.ref 92), some (.ref 1), some (.int x2), some (.int x3), u4, u5, u6, u7, u8, u9] [.int y0] σ := by
  unfold f_L_valueFrom_36 at h
  obtain ⟨n, hn⟩ := s_L_valueFrom_45 hRec hd0 hd (u5 := u5) (u6 := u6) (u7 := u7) (u8 := u8) (u9 := u9) h hQ
  exact ⟨n + 6, hn⟩
set_option maxRecDepth 20000 in
theorem s_L_valueFrom_17 {N d : Nat} {Dr : Nat} {Rec : Int32 → Int32 → jw_M → Option (Int32 × jw_M)} {Q : jw_Q} (hRec : ∀ {d : Nat} {a2 : Int32} {a3 : Int32} {σ : jw_M} {z : (Int32 × jw_M)} {Q : jw_Q}, Dr ≤ d → Rec a2 a3 σ = some z → Q (some (.int z.1)) (jx_ShC, z.2) → jw_C jp_kd jp_ys d 35 [.ref 92, .ref 1, .int a2, .int a3] (jx_ShC, σ) Q) (hd0 : 0 + Dr ≤ d) (hd : 5 ≤ d) {x2 : Int32} {x3 : Int32} {r_1 : Nat} {u4 : Option Value} {u5 : Option Value} {u6 : Option Value} {u7 : Option Value} {u8 : Option Value} {u9 : Option Value} {σ : jw_M} {z : (Int32 × jw_M)} (hr_1 : r_1 = 94 ∨ r_1 = 98 ∨ r_1 = 102 ∨ r_1 = 106 ∨ r_1 = 110) (h : f_L_valueFrom_17 N Rec x2 x3 r_1 σ = some z) (hQ : Q (some (.int z.1)) (jx_ShC, z.2)) : ∃ n, jx_W jx_ShC d (some .int) jc_35 Q n 17 [some (.ref 92), some (.ref 1), some (.int x2), some (.int x3), u4, u5, u6, u7, u8, u9] [.ref r_1, .ref 1] σ := by
  rcases hr_1 with rfl | rfl | rfl | rfl | rfl
  · unfold f_L_valueFrom_17 at h
    obtain ⟨z4, h5, h⟩ := Option.bind_eq_some_iff.mp h
    by_cases c6 : z4.1 = 0
    · rw [if_pos c6] at h
      suffices hh : ∃ n, jx_W jx_ShC d (some .int) jc_35 Q n 25 [some (.ref 92), some (.ref 1), some (.int x2), some (.int x3), u4, u5, u6, u7, u8, u9] [] z4.2 by
        obtain ⟨n, hn⟩ := hh
        exact ⟨n + 2, s_S_isOver (by omega) (by decide) h5 (And.intro (fun _ => hn) (fun zz => absurd c6 zz))⟩
      by_cases c7 : (x2 - x2 / 2 * 2) = 0
      · rw [if_pos c7] at h
        suffices hh : ∃ n, jx_W jx_ShC d (some .int) jc_35 Q n 31 [some (.ref 92), some (.ref 1), some (.int x2), some (.int x3), u4, u5, u6, u7, u8, u9] [] z4.2 by
          obtain ⟨n, hn⟩ := hh
          exact ⟨n + 4, And.intro (by decide) (And.intro (fun zz => absurd c7 zz) (fun _ => hn))⟩
        obtain ⟨n, hn⟩ := s_L_valueFrom_36 hRec hd0 hd (u4 := u4) (u5 := u5) (u6 := u6) (u7 := u7) (u8 := u8) (u9 := u9) h hQ
        exact ⟨n + 2, hn⟩
      · rw [if_neg c7] at h
        suffices hh : ∃ n, jx_W jx_ShC d (some .int) jc_35 Q n 35 [some (.ref 92), some (.ref 1), some (.int x2), some (.int x3), u4, u5, u6, u7, u8, u9] [] z4.2 by
          obtain ⟨n, hn⟩ := hh
          exact ⟨n + 4, And.intro (by decide) (And.intro (fun _ => hn) (fun zz => absurd zz c7))⟩
        obtain ⟨n, hn⟩ := s_L_valueFrom_36 hRec hd0 hd (u4 := u4) (u5 := u5) (u6 := u6) (u7 := u7) (u8 := u8) (u9 := u9) h hQ
        exact ⟨n + 1, hn⟩
    · rw [if_neg c6] at h
      suffices hh : ∃ n, jx_W jx_ShC d (some .int) jc_35 Q n 23 [some (.ref 92), some (.ref 1), some (.int x2), some (.int x3), u4, u5, u6, u7, u8, u9] [] z4.2 by
        obtain ⟨n, hn⟩ := hh
        exact ⟨n + 2, s_S_isOver (by omega) (by decide) h5 (And.intro (fun zz => absurd zz c6) (fun _ => hn))⟩
      cases h
      exact ⟨2, And.intro hQ (And.intro rfl rfl)⟩
  · unfold f_L_valueFrom_17 at h
    obtain ⟨z4, h5, h⟩ := Option.bind_eq_some_iff.mp h
    by_cases c6 : z4.1 = 0
    · rw [if_pos c6] at h
      suffices hh : ∃ n, jx_W jx_ShC d (some .int) jc_35 Q n 25 [some (.ref 92), some (.ref 1), some (.int x2), some (.int x3), u4, u5, u6, u7, u8, u9] [] z4.2 by
        obtain ⟨n, hn⟩ := hh
        exact ⟨n + 2, s_S_isOver (by omega) (by decide) h5 (And.intro (fun _ => hn) (fun zz => absurd c6 zz))⟩
      by_cases c7 : (x2 - x2 / 2 * 2) = 0
      · rw [if_pos c7] at h
        suffices hh : ∃ n, jx_W jx_ShC d (some .int) jc_35 Q n 31 [some (.ref 92), some (.ref 1), some (.int x2), some (.int x3), u4, u5, u6, u7, u8, u9] [] z4.2 by
          obtain ⟨n, hn⟩ := hh
          exact ⟨n + 4, And.intro (by decide) (And.intro (fun zz => absurd c7 zz) (fun _ => hn))⟩
        obtain ⟨n, hn⟩ := s_L_valueFrom_36 hRec hd0 hd (u4 := u4) (u5 := u5) (u6 := u6) (u7 := u7) (u8 := u8) (u9 := u9) h hQ
        exact ⟨n + 2, hn⟩
      · rw [if_neg c7] at h
        suffices hh : ∃ n, jx_W jx_ShC d (some .int) jc_35 Q n 35 [some (.ref 92), some (.ref 1), some (.int x2), some (.int x3), u4, u5, u6, u7, u8, u9] [] z4.2 by
          obtain ⟨n, hn⟩ := hh
          exact ⟨n + 4, And.intro (by decide) (And.intro (fun _ => hn) (fun zz => absurd zz c7))⟩
        obtain ⟨n, hn⟩ := s_L_valueFrom_36 hRec hd0 hd (u4 := u4) (u5 := u5) (u6 := u6) (u7 := u7) (u8 := u8) (u9 := u9) h hQ
        exact ⟨n + 1, hn⟩
    · rw [if_neg c6] at h
      suffices hh : ∃ n, jx_W jx_ShC d (some .int) jc_35 Q n 23 [some (.ref 92), some (.ref 1), some (.int x2), some (.int x3), u4, u5, u6, u7, u8, u9] [] z4.2 by
        obtain ⟨n, hn⟩ := hh
        exact ⟨n + 2, s_S_isOver (by omega) (by decide) h5 (And.intro (fun zz => absurd zz c6) (fun _ => hn))⟩
      cases h
      exact ⟨2, And.intro hQ (And.intro rfl rfl)⟩
  · unfold f_L_valueFrom_17 at h
    obtain ⟨z4, h5, h⟩ := Option.bind_eq_some_iff.mp h
    by_cases c6 : z4.1 = 0
    · rw [if_pos c6] at h
      suffices hh : ∃ n, jx_W jx_ShC d (some .int) jc_35 Q n 25 [some (.ref 92), some (.ref 1), some (.int x2), some (.int x3), u4, u5, u6, u7, u8, u9] [] z4.2 by
        obtain ⟨n, hn⟩ := hh
        exact ⟨n + 2, s_S_isOver (by omega) (by decide) h5 (And.intro (fun _ => hn) (fun zz => absurd c6 zz))⟩
      by_cases c7 : (x2 - x2 / 2 * 2) = 0
      · rw [if_pos c7] at h
        suffices hh : ∃ n, jx_W jx_ShC d (some .int) jc_35 Q n 31 [some (.ref 92), some (.ref 1), some (.int x2), some (.int x3), u4, u5, u6, u7, u8, u9] [] z4.2 by
          obtain ⟨n, hn⟩ := hh
          exact ⟨n + 4, And.intro (by decide) (And.intro (fun zz => absurd c7 zz) (fun _ => hn))⟩
        obtain ⟨n, hn⟩ := s_L_valueFrom_36 hRec hd0 hd (u4 := u4) (u5 := u5) (u6 := u6) (u7 := u7) (u8 := u8) (u9 := u9) h hQ
        exact ⟨n + 2, hn⟩
      · rw [if_neg c7] at h
        suffices hh : ∃ n, jx_W jx_ShC d (some .int) jc_35 Q n 35 [some (.ref 92), some (.ref 1), some (.int x2), some (.int x3), u4, u5, u6, u7, u8, u9] [] z4.2 by
          obtain ⟨n, hn⟩ := hh
          exact ⟨n + 4, And.intro (by decide) (And.intro (fun _ => hn) (fun zz => absurd zz c7))⟩
        obtain ⟨n, hn⟩ := s_L_valueFrom_36 hRec hd0 hd (u4 := u4) (u5 := u5) (u6 := u6) (u7 := u7) (u8 := u8) (u9 := u9) h hQ
        exact ⟨n + 1, hn⟩
    · rw [if_neg c6] at h
      suffices hh : ∃ n, jx_W jx_ShC d (some .int) jc_35 Q n 23 [some (.ref 92), some (.ref 1), some (.int x2), some (.int x3), u4, u5, u6, u7, u8, u9] [] z4.2 by
        obtain ⟨n, hn⟩ := hh
        exact ⟨n + 2, s_S_isOver (by omega) (by decide) h5 (And.intro (fun zz => absurd zz c6) (fun _ => hn))⟩
      cases h
      exact ⟨2, And.intro hQ (And.intro rfl rfl)⟩
  · unfold f_L_valueFrom_17 at h
    obtain ⟨z4, h5, h⟩ := Option.bind_eq_some_iff.mp h
    by_cases c6 : z4.1 = 0
    · rw [if_pos c6] at h
      suffices hh : ∃ n, jx_W jx_ShC d (some .int) jc_35 Q n 25 [some (.ref 92), some (.ref 1), some (.int x2), some (.int x3), u4, u5, u6, u7, u8, u9] [] z4.2 by
        obtain ⟨n, hn⟩ := hh
        exact ⟨n + 2, s_S_isOver (by omega) (by decide) h5 (And.intro (fun _ => hn) (fun zz => absurd c6 zz))⟩
      by_cases c7 : (x2 - x2 / 2 * 2) = 0
      · rw [if_pos c7] at h
        suffices hh : ∃ n, jx_W jx_ShC d (some .int) jc_35 Q n 31 [some (.ref 92), some (.ref 1), some (.int x2), some (.int x3), u4, u5, u6, u7, u8, u9] [] z4.2 by
          obtain ⟨n, hn⟩ := hh
          exact ⟨n + 4, And.intro (by decide) (And.intro (fun zz => absurd c7 zz) (fun _ => hn))⟩
        obtain ⟨n, hn⟩ := s_L_valueFrom_36 hRec hd0 hd (u4 := u4) (u5 := u5) (u6 := u6) (u7 := u7) (u8 := u8) (u9 := u9) h hQ
        exact ⟨n + 2, hn⟩
      · rw [if_neg c7] at h
        suffices hh : ∃ n, jx_W jx_ShC d (some .int) jc_35 Q n 35 [some (.ref 92), some (.ref 1), some (.int x2), some (.int x3), u4, u5, u6, u7, u8, u9] [] z4.2 by
          obtain ⟨n, hn⟩ := hh
          exact ⟨n + 4, And.intro (by decide) (And.intro (fun _ => hn) (fun zz => absurd zz c7))⟩
        obtain ⟨n, hn⟩ := s_L_valueFrom_36 hRec hd0 hd (u4 := u4) (u5 := u5) (u6 := u6) (u7 := u7) (u8 := u8) (u9 := u9) h hQ
        exact ⟨n + 1, hn⟩
    · rw [if_neg c6] at h
      suffices hh : ∃ n, jx_W jx_ShC d (some .int) jc_35 Q n 23 [some (.ref 92), some (.ref 1), some (.int x2), some (.int x3), u4, u5, u6, u7, u8, u9] [] z4.2 by
        obtain ⟨n, hn⟩ := hh
        exact ⟨n + 2, s_S_isOver (by omega) (by decide) h5 (And.intro (fun zz => absurd zz c6) (fun _ => hn))⟩
      cases h
      exact ⟨2, And.intro hQ (And.intro rfl rfl)⟩
  · unfold f_L_valueFrom_17 at h
    obtain ⟨z4, h5, h⟩ := Option.bind_eq_some_iff.mp h
    by_cases c6 : z4.1 = 0
    · rw [if_pos c6] at h
      suffices hh : ∃ n, jx_W jx_ShC d (some .int) jc_35 Q n 25 [some (.ref 92), some (.ref 1), some (.int x2), some (.int x3), u4, u5, u6, u7, u8, u9] [] z4.2 by
        obtain ⟨n, hn⟩ := hh
        exact ⟨n + 2, s_S_isOver (by omega) (by decide) h5 (And.intro (fun _ => hn) (fun zz => absurd c6 zz))⟩
      by_cases c7 : (x2 - x2 / 2 * 2) = 0
      · rw [if_pos c7] at h
        suffices hh : ∃ n, jx_W jx_ShC d (some .int) jc_35 Q n 31 [some (.ref 92), some (.ref 1), some (.int x2), some (.int x3), u4, u5, u6, u7, u8, u9] [] z4.2 by
          obtain ⟨n, hn⟩ := hh
          exact ⟨n + 4, And.intro (by decide) (And.intro (fun zz => absurd c7 zz) (fun _ => hn))⟩
        obtain ⟨n, hn⟩ := s_L_valueFrom_36 hRec hd0 hd (u4 := u4) (u5 := u5) (u6 := u6) (u7 := u7) (u8 := u8) (u9 := u9) h hQ
        exact ⟨n + 2, hn⟩
      · rw [if_neg c7] at h
        suffices hh : ∃ n, jx_W jx_ShC d (some .int) jc_35 Q n 35 [some (.ref 92), some (.ref 1), some (.int x2), some (.int x3), u4, u5, u6, u7, u8, u9] [] z4.2 by
          obtain ⟨n, hn⟩ := hh
          exact ⟨n + 4, And.intro (by decide) (And.intro (fun _ => hn) (fun zz => absurd zz c7))⟩
        obtain ⟨n, hn⟩ := s_L_valueFrom_36 hRec hd0 hd (u4 := u4) (u5 := u5) (u6 := u6) (u7 := u7) (u8 := u8) (u9 := u9) h hQ
        exact ⟨n + 1, hn⟩
    · rw [if_neg c6] at h
      suffices hh : ∃ n, jx_W jx_ShC d (some .int) jc_35 Q n 23 [some (.ref 92), some (.ref 1), some (.int x2), some (.int x3), u4, u5, u6, u7, u8, u9] [] z4.2 by
        obtain ⟨n, hn⟩ := hh
        exact ⟨n + 2, s_S_isOver (by omega) (by decide) h5 (And.intro (fun zz => absurd zz c6) (fun _ => hn))⟩
      cases h
      exact ⟨2, And.intro hQ (And.intro rfl rfl)⟩
set_option maxRecDepth 20000 in
theorem s_L_valueFrom_16 {N d : Nat} {Dr : Nat} {Rec : Int32 → Int32 → jw_M → Option (Int32 × jw_M)} {Q : jw_Q} (hRec : ∀ {d : Nat} {a2 : Int32} {a3 : Int32} {σ : jw_M} {z : (Int32 × jw_M)} {Q : jw_Q}, Dr ≤ d → Rec a2 a3 σ = some z → Q (some (.int z.1)) (jx_ShC, z.2) → jw_C jp_kd jp_ys d 35 [.ref 92, .ref 1, .int a2, .int a3] (jx_ShC, σ) Q) (hd0 : 0 + Dr ≤ d) (hd : 5 ≤ d) {x2 : Int32} {x3 : Int32} {y2 : Int32} {u4 : Option Value} {u5 : Option Value} {u6 : Option Value} {u7 : Option Value} {u8 : Option Value} {u9 : Option Value} {σ : jw_M} {z : (Int32 × jw_M)} (h : f_L_valueFrom_16 N Rec x2 x3 y2 σ = some z) (hQ : Q (some (.int z.1)) (jx_ShC, z.2)) : ∃ n, jx_W jx_ShC d (some .int) jc_35 Q n 16 [some (.ref 92), some (.ref 1), some (.int x2), some (.int x3), u4, u5, u6, u7, u8, u9] [.int y2, .ref 93, .ref 1] σ := by
  unfold f_L_valueFrom_16 at h
  cases c3 : jx_in y2 5 with
  | false => rw [c3, cond_false] at h; cases h
  | true =>
    rw [c3, cond_true] at h
    rcases jx_ix5 (jx_in_ok c3) with rfl | rfl | rfl | rfl | rfl
    · try rw [show (94 + 4 * (0 : Int32).toNatClampNeg) = 94 from by decide] at h
      obtain ⟨n, hn⟩ := s_L_valueFrom_17 hRec hd0 hd (u4 := u4) (u5 := u5) (u6 := u6) (u7 := u7) (u8 := u8) (u9 := u9) (by decide) h hQ
      exact ⟨n + 1, And.intro (jx_in_ok c3) (hn)⟩
    · try rw [show (94 + 4 * (1 : Int32).toNatClampNeg) = 98 from by decide] at h
      obtain ⟨n, hn⟩ := s_L_valueFrom_17 hRec hd0 hd (u4 := u4) (u5 := u5) (u6 := u6) (u7 := u7) (u8 := u8) (u9 := u9) (by decide) h hQ
      exact ⟨n + 1, And.intro (jx_in_ok c3) (hn)⟩
    · try rw [show (94 + 4 * (2 : Int32).toNatClampNeg) = 102 from by decide] at h
      obtain ⟨n, hn⟩ := s_L_valueFrom_17 hRec hd0 hd (u4 := u4) (u5 := u5) (u6 := u6) (u7 := u7) (u8 := u8) (u9 := u9) (by decide) h hQ
      exact ⟨n + 1, And.intro (jx_in_ok c3) (hn)⟩
    · try rw [show (94 + 4 * (3 : Int32).toNatClampNeg) = 106 from by decide] at h
      obtain ⟨n, hn⟩ := s_L_valueFrom_17 hRec hd0 hd (u4 := u4) (u5 := u5) (u6 := u6) (u7 := u7) (u8 := u8) (u9 := u9) (by decide) h hQ
      exact ⟨n + 1, And.intro (jx_in_ok c3) (hn)⟩
    · try rw [show (94 + 4 * (4 : Int32).toNatClampNeg) = 110 from by decide] at h
      obtain ⟨n, hn⟩ := s_L_valueFrom_17 hRec hd0 hd (u4 := u4) (u5 := u5) (u6 := u6) (u7 := u7) (u8 := u8) (u9 := u9) (by decide) h hQ
      exact ⟨n + 1, And.intro (jx_in_ok c3) (hn)⟩
set_option maxRecDepth 20000 in
theorem s_L_valueFrom {N : Nat} : ∀ (r : Nat) {d : Nat} {x2 : Int32} {x3 : Int32} {σ : jw_M} {z : (Int32 × jw_M)} {Q : jw_Q}, 6 + 1 * r ≤ d → f_L_valueFrom N r x2 x3 σ = some z → Q (some (.int z.1)) (jx_ShC, z.2) → jw_C jp_kd jp_ys d 35 [.ref 92, .ref 1, .int x2, .int x3] (jx_ShC, σ) Q
  | 0, _, _, _, _, _, _, _, h, _ => by cases h
  | r + 1, d, x2, x3, σ, z, Q, hd, h, hQ => by
    obtain ⟨d, rfl⟩ : ∃ e, d = e + 1 := ⟨d - 1, by omega⟩
    have hd0 : 0 + (6 + 1 * r) ≤ d := by omega
    replace hd : 5 ≤ d := by omega
    have hRec := @s_L_valueFrom N r
    refine jx_C rfl rfl ?_
    rw [f_L_valueFrom] at h
    by_cases c1 : x3 ≤ x2
    · rw [if_pos c1] at h
      suffices hh : ∃ n, jx_W jx_ShC d (some .int) jc_35 Q n 23 [some (.ref 92), some (.ref 1), some (.int x2), some (.int x3), none, none, none, none, none, none] [] σ by
        obtain ⟨n, hn⟩ := hh
        exact ⟨n + 3, And.intro (fun _ => hn) (fun zz => absurd c1 zz)⟩
      cases h
      exact ⟨2, And.intro hQ (And.intro rfl rfl)⟩
    · rw [if_neg c1] at h
      suffices hh : ∃ n, jx_W jx_ShC d (some .int) jc_35 Q n 5 [some (.ref 92), some (.ref 1), some (.int x2), some (.int x3), none, none, none, none, none, none] [] σ by
        obtain ⟨n, hn⟩ := hh
        exact ⟨n + 3, And.intro (fun zz => absurd zz c1) (fun _ => hn)⟩
      by_cases c2 : 4 ≤ x2
      · rw [if_pos c2] at h
        suffices hh : ∃ n, jx_W jx_ShC d (some .int) jc_35 Q n 23 [some (.ref 92), some (.ref 1), some (.int x2), some (.int x3), none, none, none, none, none, none] [] σ by
          obtain ⟨n, hn⟩ := hh
          exact ⟨n + 3, And.intro (fun _ => hn) (fun zz => absurd c2 zz)⟩
        cases h
        exact ⟨2, And.intro hQ (And.intro rfl rfl)⟩
      · rw [if_neg c2] at h
        suffices hh : ∃ n, jx_W jx_ShC d (some .int) jc_35 Q n 10 [some (.ref 92), some (.ref 1), some (.int x2), some (.int x3), none, none, none, none, none, none] [] σ by
          obtain ⟨n, hn⟩ := hh
          exact ⟨n + 3, And.intro (fun zz => absurd zz c2) (fun _ => hn)⟩
        obtain ⟨n, hn⟩ := s_L_valueFrom_16 hRec hd0 hd (u4 := none) (u5 := none) (u6 := none) (u7 := none) (u8 := none) (u9 := none) h hQ
        exact ⟨n + 4, hn⟩
