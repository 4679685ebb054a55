set_option maxRecDepth 20000 in
theorem s_J_numberOfLeadingZeros_73 {N d : Nat} {Q : jw_Q} (hd : 0 ≤ d) {x0 : Int32} {x1 : Int32} {σ : jw_M} {z : (Int32 × jw_M)} (h : f_J_numberOfLeadingZeros_73 N x0 x1 σ = some z) (hQ : Q (some (.int z.1)) (jx_ShC, z.2)) : ∃ n, jx_W jx_ShC d (some .int) jc_320 Q n 73 [some (.int x0), some (.int x1)] [] σ := by
  unfold f_J_numberOfLeadingZeros_73 at h
  cases h
  exact ⟨6, And.intro hQ (And.intro rfl rfl)⟩
set_option maxRecDepth 20000 in
theorem s_J_numberOfLeadingZeros_61 {N d : Nat} {Q : jw_Q} (hd : 0 ≤ d) {x0 : Int32} {x1 : Int32} {σ : jw_M} {z : (Int32 × jw_M)} (h : f_J_numberOfLeadingZeros_61 N x0 x1 σ = some z) (hQ : Q (some (.int z.1)) (jx_ShC, z.2)) : ∃ n, jx_W jx_ShC d (some .int) jc_320 Q n 61 [some (.int x0), some (.int x1)] [] σ := by
  unfold f_J_numberOfLeadingZeros_61 at h
  by_cases c5 : x0 < 4
  · rw [if_pos c5] at h
    suffices hh : ∃ n, jx_W jx_ShC d (some .int) jc_320 Q n 73 [some (.int x0), some (.int x1)] [] σ by
      obtain ⟨n, hn⟩ := hh
      exact ⟨n + 3, And.intro (fun _ => hn) (fun zz => absurd c5 zz)⟩
    obtain ⟨n, hn⟩ := s_J_numberOfLeadingZeros_73 hd h hQ
    exact ⟨n + 0, hn⟩
  · rw [if_neg c5] at h
    suffices hh : ∃ n, jx_W jx_ShC d (some .int) jc_320 Q n 66 [some (.int x0), some (.int x1)] [] σ by
      obtain ⟨n, hn⟩ := hh
      exact ⟨n + 3, And.intro (fun zz => absurd zz c5) (fun _ => hn)⟩
    obtain ⟨n, hn⟩ := s_J_numberOfLeadingZeros_73 hd h hQ
    exact ⟨n + 5, hn⟩
set_option maxRecDepth 20000 in
theorem s_J_numberOfLeadingZeros_48 {N d : Nat} {Q : jw_Q} (hd : 0 ≤ d) {x0 : Int32} {x1 : Int32} {σ : jw_M} {z : (Int32 × jw_M)} (h : f_J_numberOfLeadingZeros_48 N x0 x1 σ = some z) (hQ : Q (some (.int z.1)) (jx_ShC, z.2)) : ∃ n, jx_W jx_ShC d (some .int) jc_320 Q n 48 [some (.int x0), some (.int x1)] [] σ := by
  unfold f_J_numberOfLeadingZeros_48 at h
  by_cases c4 : x0 < 16
  · rw [if_pos c4] at h
    suffices hh : ∃ n, jx_W jx_ShC d (some .int) jc_320 Q n 61 [some (.int x0), some (.int x1)] [] σ by
      obtain ⟨n, hn⟩ := hh
      exact ⟨n + 3, And.intro (fun _ => hn) (fun zz => absurd c4 zz)⟩
    obtain ⟨n, hn⟩ := s_J_numberOfLeadingZeros_61 hd h hQ
    exact ⟨n + 0, hn⟩
  · rw [if_neg c4] at h
    suffices hh : ∃ n, jx_W jx_ShC d (some .int) jc_320 Q n 54 [some (.int x0), some (.int x1)] [] σ by
      obtain ⟨n, hn⟩ := hh
      exact ⟨n + 3, And.intro (fun zz => absurd zz c4) (fun _ => hn)⟩
    obtain ⟨n, hn⟩ := s_J_numberOfLeadingZeros_61 hd h hQ
    exact ⟨n + 5, hn⟩
set_option maxRecDepth 20000 in
theorem s_J_numberOfLeadingZeros_33 {N d : Nat} {Q : jw_Q} (hd : 0 ≤ d) {x0 : Int32} {x1 : Int32} {σ : jw_M} {z : (Int32 × jw_M)} (h : f_J_numberOfLeadingZeros_33 N x0 x1 σ = some z) (hQ : Q (some (.int z.1)) (jx_ShC, z.2)) : ∃ n, jx_W jx_ShC d (some .int) jc_320 Q n 33 [some (.int x0), some (.int x1)] [] σ := by
  unfold f_J_numberOfLeadingZeros_33 at h
  by_cases c3 : x0 < 256
  · rw [if_pos c3] at h
    suffices hh : ∃ n, jx_W jx_ShC d (some .int) jc_320 Q n 48 [some (.int x0), some (.int x1)] [] σ by
      obtain ⟨n, hn⟩ := hh
      exact ⟨n + 3, And.intro (fun _ => hn) (fun zz => absurd c3 zz)⟩
    obtain ⟨n, hn⟩ := s_J_numberOfLeadingZeros_48 hd h hQ
    exact ⟨n + 0, hn⟩
  · rw [if_neg c3] at h
    suffices hh : ∃ n, jx_W jx_ShC d (some .int) jc_320 Q n 40 [some (.int x0), some (.int x1)] [] σ by
      obtain ⟨n, hn⟩ := hh
      exact ⟨n + 3, And.intro (fun zz => absurd zz c3) (fun _ => hn)⟩
    obtain ⟨n, hn⟩ := s_J_numberOfLeadingZeros_48 hd h hQ
    exact ⟨n + 5, hn⟩
set_option maxRecDepth 20000 in
theorem s_J_numberOfLeadingZeros {N d : Nat} {x0 : Int32} (hd : 1 ≤ d) {σ : jw_M} {z : (Int32 × jw_M)} {Q : jw_Q} (h : f_J_numberOfLeadingZeros N x0 σ = some z) (hQ : Q (some (.int z.1)) (jx_ShC, z.2)) : jw_C jp_kd jp_ys d 320 [.int x0] (jx_ShC, σ) Q := by
  obtain ⟨d, rfl⟩ : ∃ e, d = e + 1 := ⟨d - 1, by omega⟩
  replace hd : 0 ≤ d := by omega
  refine jx_C rfl rfl ?_
  unfold f_J_numberOfLeadingZeros at h
  by_cases c1 : 0 < x0
  · rw [if_pos c1] at h
    suffices hh : ∃ n, jx_W jx_ShC d (some .int) jc_320 Q n 15 [some (.int x0), none] [] σ by
      obtain ⟨n, hn⟩ := hh
      exact ⟨n + 2, And.intro (fun _ => hn) (fun zz => absurd c1 zz)⟩
    by_cases c2 : x0 < 65536
    · rw [if_pos c2] at h
      suffices hh : ∃ n, jx_W jx_ShC d (some .int) jc_320 Q n 33 [some (.int x0), some (.int 31)] [] σ by
        obtain ⟨n, hn⟩ := hh
        exact ⟨n + 5, And.intro (fun _ => hn) (fun zz => absurd c2 zz)⟩
      obtain ⟨n, hn⟩ := s_J_numberOfLeadingZeros_33 hd h hQ
      exact ⟨n + 0, hn⟩
    · rw [if_neg c2] at h
      suffices hh : ∃ n, jx_W jx_ShC d (some .int) jc_320 Q n 25 [some (.int x0), some (.int 31)] [] σ by
        obtain ⟨n, hn⟩ := hh
        exact ⟨n + 5, And.intro (fun zz => absurd zz c2) (fun _ => hn)⟩
      obtain ⟨n, hn⟩ := s_J_numberOfLeadingZeros_33 hd h hQ
      exact ⟨n + 5, hn⟩
  · rw [if_neg c1] at h
    suffices hh : ∃ n, jx_W jx_ShC d (some .int) jc_320 Q n 4 [some (.int x0), none] [] σ by
      obtain ⟨n, hn⟩ := hh
      exact ⟨n + 2, And.intro (fun zz => absurd zz c1) (fun _ => hn)⟩
    by_cases c6 : x0 = 0
    · rw [if_pos c6] at h
      suffices hh : ∃ n, jx_W jx_ShC d (some .int) jc_320 Q n 8 [some (.int x0), none] [] σ by
        obtain ⟨n, hn⟩ := hh
        exact ⟨n + 2, And.intro (fun zz => absurd c6 zz) (fun _ => hn)⟩
      cases h
      exact ⟨3, And.intro hQ (And.intro rfl rfl)⟩
    · rw [if_neg c6] at h
      suffices hh : ∃ n, jx_W jx_ShC d (some .int) jc_320 Q n 13 [some (.int x0), none] [] σ by
        obtain ⟨n, hn⟩ := hh
        exact ⟨n + 2, And.intro (fun _ => hn) (fun zz => absurd zz c6)⟩
      cases h
      exact ⟨2, And.intro hQ (And.intro rfl rfl)⟩
set_option maxRecDepth 20000 in
theorem s_J_numberOfTrailingZeros_74 {N d : Nat} {Q : jw_Q} (hd : 0 ≤ d) {x0 : Int32} {x1 : Int32} {σ : jw_M} {z : (Int32 × jw_M)} (h : f_J_numberOfTrailingZeros_74 N x0 x1 σ = some z) (hQ : Q (some (.int z.1)) (jx_ShC, z.2)) : ∃ n, jx_W jx_ShC d (some .int) jc_321 Q n 74 [some (.int x0), some (.int x1)] [] σ := by
  unfold f_J_numberOfTrailingZeros_74 at h
  cases h
  exact ⟨6, And.intro hQ (And.intro rfl rfl)⟩
set_option maxRecDepth 20000 in
theorem s_J_numberOfTrailingZeros_62 {N d : Nat} {Q : jw_Q} (hd : 0 ≤ d) {x0 : Int32} {x1 : Int32} {σ : jw_M} {z : (Int32 × jw_M)} (h : f_J_numberOfTrailingZeros_62 N x0 x1 σ = some z) (hQ : Q (some (.int z.1)) (jx_ShC, z.2)) : ∃ n, jx_W jx_ShC d (some .int) jc_321 Q n 62 [some (.int x0), some (.int x1)] [] σ := by
  unfold f_J_numberOfTrailingZeros_62 at h
  by_cases c5 : x0 ≤ 4
  · rw [if_pos c5] at h
    suffices hh : ∃ n, jx_W jx_ShC d (some .int) jc_321 Q n 74 [some (.int x0), some (.int x1)] [] σ by
      obtain ⟨n, hn⟩ := hh
      exact ⟨n + 3, And.intro (fun _ => hn) (fun zz => absurd c5 zz)⟩
    obtain ⟨n, hn⟩ := s_J_numberOfTrailingZeros_74 hd h hQ
    exact ⟨n + 0, hn⟩
  · rw [if_neg c5] at h
    suffices hh : ∃ n, jx_W jx_ShC d (some .int) jc_321 Q n 67 [some (.int x0), some (.int x1)] [] σ by
      obtain ⟨n, hn⟩ := hh
      exact ⟨n + 3, And.intro (fun zz => absurd zz c5) (fun _ => hn)⟩
    obtain ⟨n, hn⟩ := s_J_numberOfTrailingZeros_74 hd h hQ
    exact ⟨n + 5, hn⟩
set_option maxRecDepth 20000 in
theorem s_J_numberOfTrailingZeros_49 {N d : Nat} {Q : jw_Q} (hd : 0 ≤ d) {x0 : Int32} {x1 : Int32} {σ : jw_M} {z : (Int32 × jw_M)} (h : f_J_numberOfTrailingZeros_49 N x0 x1 σ = some z) (hQ : Q (some (.int z.1)) (jx_ShC, z.2)) : ∃ n, jx_W jx_ShC d (some .int) jc_321 Q n 49 [some (.int x0), some (.int x1)] [] σ := by
  unfold f_J_numberOfTrailingZeros_49 at h
  by_cases c4 : x0 ≤ 16
  · rw [if_pos c4] at h
    suffices hh : ∃ n, jx_W jx_ShC d (some .int) jc_321 Q n 62 [some (.int x0), some (.int x1)] [] σ by
      obtain ⟨n, hn⟩ := hh
      exact ⟨n + 3, And.intro (fun _ => hn) (fun zz => absurd c4 zz)⟩
    obtain ⟨n, hn⟩ := s_J_numberOfTrailingZeros_62 hd h hQ
    exact ⟨n + 0, hn⟩
  · rw [if_neg c4] at h
    suffices hh : ∃ n, jx_W jx_ShC d (some .int) jc_321 Q n 55 [some (.int x0), some (.int x1)] [] σ by
      obtain ⟨n, hn⟩ := hh
      exact ⟨n + 3, And.intro (fun zz => absurd zz c4) (fun _ => hn)⟩
    obtain ⟨n, hn⟩ := s_J_numberOfTrailingZeros_62 hd h hQ
    exact ⟨n + 5, hn⟩
set_option maxRecDepth 20000 in
theorem s_J_numberOfTrailingZeros_34 {N d : Nat} {Q : jw_Q} (hd : 0 ≤ d) {x0 : Int32} {x1 : Int32} {σ : jw_M} {z : (Int32 × jw_M)} (h : f_J_numberOfTrailingZeros_34 N x0 x1 σ = some z) (hQ : Q (some (.int z.1)) (jx_ShC, z.2)) : ∃ n, jx_W jx_ShC d (some .int) jc_321 Q n 34 [some (.int x0), some (.int x1)] [] σ := by
  unfold f_J_numberOfTrailingZeros_34 at h
  by_cases c3 : x0 ≤ 256
  · rw [if_pos c3] at h
    suffices hh : ∃ n, jx_W jx_ShC d (some .int) jc_321 Q n 49 [some (.int x0), some (.int x1)] [] σ by
      obtain ⟨n, hn⟩ := hh
      exact ⟨n + 3, And.intro (fun _ => hn) (fun zz => absurd c3 zz)⟩
    obtain ⟨n, hn⟩ := s_J_numberOfTrailingZeros_49 hd h hQ
    exact ⟨n + 0, hn⟩
  · rw [if_neg c3] at h
    suffices hh : ∃ n, jx_W jx_ShC d (some .int) jc_321 Q n 41 [some (.int x0), some (.int x1)] [] σ by
      obtain ⟨n, hn⟩ := hh
      exact ⟨n + 3, And.intro (fun zz => absurd zz c3) (fun _ => hn)⟩
    obtain ⟨n, hn⟩ := s_J_numberOfTrailingZeros_49 hd h hQ
    exact ⟨n + 5, hn⟩
set_option maxRecDepth 20000 in
theorem s_J_numberOfTrailingZeros {N d : Nat} {x0 : Int32} (hd : 1 ≤ d) {σ : jw_M} {z : (Int32 × jw_M)} {Q : jw_Q} (h : f_J_numberOfTrailingZeros N x0 σ = some z) (hQ : Q (some (.int z.1)) (jx_ShC, z.2)) : jw_C jp_kd jp_ys d 321 [.int x0] (jx_ShC, σ) Q := by
  obtain ⟨d, rfl⟩ : ∃ e, d = e + 1 := ⟨d - 1, by omega⟩
  replace hd : 0 ≤ d := by omega
  refine jx_C rfl rfl ?_
  unfold f_J_numberOfTrailingZeros at h
  by_cases c1 : 0 < ((x0 ^^^ (-1)) &&& (x0 - 1))
  · rw [if_pos c1] at h
    suffices hh : ∃ n, jx_W jx_ShC d (some .int) jc_321 Q n 17 [some (.int ((x0 ^^^ (-1)) &&& (x0 - 1))), none] [] σ by
      obtain ⟨n, hn⟩ := hh
      exact ⟨n + 10, And.intro (fun _ => hn) (fun zz => absurd c1 zz)⟩
    by_cases c2 : ((x0 ^^^ (-1)) &&& (x0 - 1)) ≤ 65536
    · rw [if_pos c2] at h
      suffices hh : ∃ n, jx_W jx_ShC d (some .int) jc_321 Q n 34 [some (.int ((x0 ^^^ (-1)) &&& (x0 - 1))), some (.int 1)] [] σ by
        obtain ⟨n, hn⟩ := hh
        exact ⟨n + 5, And.intro (fun _ => hn) (fun zz => absurd c2 zz)⟩
      obtain ⟨n, hn⟩ := s_J_numberOfTrailingZeros_34 hd h hQ
      exact ⟨n + 0, hn⟩
    · rw [if_neg c2] at h
      suffices hh : ∃ n, jx_W jx_ShC d (some .int) jc_321 Q n 26 [some (.int ((x0 ^^^ (-1)) &&& (x0 - 1))), some (.int 1)] [] σ by
        obtain ⟨n, hn⟩ := hh
        exact ⟨n + 5, And.intro (fun zz => absurd zz c2) (fun _ => hn)⟩
      obtain ⟨n, hn⟩ := s_J_numberOfTrailingZeros_34 hd h hQ
      exact ⟨n + 5, hn⟩
  · rw [if_neg c1] at h
    suffices hh : ∃ n, jx_W jx_ShC d (some .int) jc_321 Q n 12 [some (.int ((x0 ^^^ (-1)) &&& (x0 - 1))), none] [] σ by
      obtain ⟨n, hn⟩ := hh
      exact ⟨n + 10, And.intro (fun zz => absurd zz c1) (fun _ => hn)⟩
    cases h
    exact ⟨4, And.intro hQ (And.intro rfl rfl)⟩
set_option maxRecDepth 20000 in
theorem s_S_choice {N d : Nat} {p1 : Nat} {x2 : Int32} {x3 : Int32} (hd : 5 ≤ d) (hp : p1 = 102 ∨ p1 = 106 ∨ p1 = 110 ∨ p1 = 27 ∨ p1 = 75 ∨ p1 = 94 ∨ p1 = 98) {σ : jw_M} {z : (Int32 × jw_M)} {Q : jw_Q} (h : f_S_choice N p1 x2 x3 σ = some z) (hQ : Q (some (.int z.1)) (jx_ShC, z.2)) : jw_C jp_kd jp_ys d 93 [.ref 1, .ref p1, .int x2, .int x3] (jx_ShC, σ) Q := by
  obtain ⟨d, rfl⟩ : ∃ e, d = e + 1 := ⟨d - 1, by omega⟩
  replace hd : 4 ≤ d := by omega
  refine jx_C rfl rfl ?_
  rcases hp with rfl | rfl | rfl | rfl | rfl | rfl | rfl
  · unfold f_S_choice at h
    obtain ⟨z1, h2, h⟩ := Option.bind_eq_some_iff.mp h
    by_cases c3 : z1.1 = 0
    · rw [if_pos c3] at h
      suffices hh : ∃ n, jx_W jx_ShC d (some .int) jc_93 Q n 14 [some (.ref 1), some (.ref 102), some (.int x2), some (.int x3), some (.int z1.1)] [] z1.2 by
        obtain ⟨n, hn⟩ := hh
        exact ⟨n + 8, s_S_openTo (by omega) (by decide) h2 (And.intro (fun zz => absurd c3 zz) (fun _ => hn))⟩
      cases h
      exact ⟨2, And.intro hQ (And.intro rfl rfl)⟩
    · rw [if_neg c3] at h
      suffices hh : ∃ n, jx_W jx_ShC d (some .int) jc_93 Q n 17 [some (.ref 1), some (.ref 102), some (.int x2), some (.int x3), some (.int z1.1)] [] z1.2 by
        obtain ⟨n, hn⟩ := hh
        exact ⟨n + 8, s_S_openTo (by omega) (by decide) h2 (And.intro (fun _ => hn) (fun zz => absurd zz c3))⟩
      obtain ⟨z4, h5, h⟩ := Option.bind_eq_some_iff.mp h
      by_cases c14 : z4.1 = 0
      · rw [if_pos c14] at h
        suffices hh : ∃ n, jx_W jx_ShC d (some .int) jc_93 Q n 48 [some (.ref 1), some (.ref 102), some (.int x2), some (.int x3), some (.int z1.1)] [] z4.2 by
          obtain ⟨n, hn⟩ := hh
          exact ⟨n + 5, s_S_deedOf (by omega) (by decide) h5 (And.intro (fun _ => hn) (fun zz => absurd c14 zz))⟩
        obtain ⟨z6, h7, h⟩ := Option.bind_eq_some_iff.mp h
        cases h
        exact ⟨5, s_J_numberOfLeadingZeros (by omega) h7 (And.intro hQ (And.intro rfl rfl))⟩
      · rw [if_neg c14] at h
        by_cases c13 : z4.1 = 1
        · rw [if_pos c13] at h
          suffices hh : ∃ n, jx_W jx_ShC d (some .int) jc_93 Q n 57 [some (.ref 1), some (.ref 102), some (.int x2), some (.int x3), some (.int z1.1)] [] z4.2 by
            obtain ⟨n, hn⟩ := hh
            exact ⟨n + 5, s_S_deedOf (by omega) (by decide) h5 (And.intro (fun zz => absurd zz c14) (fun _ => And.intro (fun _ => hn) (fun zz => absurd c13 zz)))⟩
          obtain ⟨z8, h9, h⟩ := Option.bind_eq_some_iff.mp h
          cases h
          exact ⟨6, s_S_easiest (by omega) (by decide) h9 (And.intro hQ (And.intro rfl rfl))⟩
        · rw [if_neg c13] at h
          by_cases c12 : z4.1 = 2
          · rw [if_pos c12] at h
            suffices hh : ∃ n, jx_W jx_ShC d (some .int) jc_93 Q n 66 [some (.ref 1), some (.ref 102), some (.int x2), some (.int x3), some (.int z1.1)] [] z4.2 by
              obtain ⟨n, hn⟩ := hh
              exact ⟨n + 5, s_S_deedOf (by omega) (by decide) h5 (And.intro (fun zz => absurd zz c14) (fun _ => And.intro (fun zz => absurd zz c13) (fun _ => And.intro (fun _ => hn) (fun zz => absurd c12 zz))))⟩
            cases h
            exact ⟨2, And.intro hQ (And.intro rfl rfl)⟩
          · rw [if_neg c12] at h
            obtain ⟨z10, h11, h⟩ := Option.bind_eq_some_iff.mp h
            cases h
            exact ⟨8, s_S_deedOf (by omega) (by decide) h5 (And.intro (fun zz => absurd zz c14) (fun _ => And.intro (fun zz => absurd zz c13) (fun _ => And.intro (fun zz => absurd zz c12) (fun _ => s_J_numberOfTrailingZeros (by omega) h11 (And.intro hQ (And.intro rfl rfl))))))⟩
  · unfold f_S_choice at h
    obtain ⟨z1, h2, h⟩ := Option.bind_eq_some_iff.mp h
    by_cases c3 : z1.1 = 0
    · rw [if_pos c3] at h
      suffices hh : ∃ n, jx_W jx_ShC d (some .int) jc_93 Q n 14 [some (.ref 1), some (.ref 106), some (.int x2), some (.int x3), some (.int z1.1)] [] z1.2 by
        obtain ⟨n, hn⟩ := hh
        exact ⟨n + 8, s_S_openTo (by omega) (by decide) h2 (And.intro (fun zz => absurd c3 zz) (fun _ => hn))⟩
      cases h
      exact ⟨2, And.intro hQ (And.intro rfl rfl)⟩
    · rw [if_neg c3] at h
      suffices hh : ∃ n, jx_W jx_ShC d (some .int) jc_93 Q n 17 [some (.ref 1), some (.ref 106), some (.int x2), some (.int x3), some (.int z1.1)] [] z1.2 by
        obtain ⟨n, hn⟩ := hh
        exact ⟨n + 8, s_S_openTo (by omega) (by decide) h2 (And.intro (fun _ => hn) (fun zz => absurd zz c3))⟩
      obtain ⟨z4, h5, h⟩ := Option.bind_eq_some_iff.mp h
      by_cases c14 : z4.1 = 0
      · rw [if_pos c14] at h
        suffices hh : ∃ n, jx_W jx_ShC d (some .int) jc_93 Q n 48 [some (.ref 1), some (.ref 106), some (.int x2), some (.int x3), some (.int z1.1)] [] z4.2 by
          obtain ⟨n, hn⟩ := hh
          exact ⟨n + 5, s_S_deedOf (by omega) (by decide) h5 (And.intro (fun _ => hn) (fun zz => absurd c14 zz))⟩
        obtain ⟨z6, h7, h⟩ := Option.bind_eq_some_iff.mp h
        cases h
        exact ⟨5, s_J_numberOfLeadingZeros (by omega) h7 (And.intro hQ (And.intro rfl rfl))⟩
      · rw [if_neg c14] at h
        by_cases c13 : z4.1 = 1
        · rw [if_pos c13] at h
          suffices hh : ∃ n, jx_W jx_ShC d (some .int) jc_93 Q n 57 [some (.ref 1), some (.ref 106), some (.int x2), some (.int x3), some (.int z1.1)] [] z4.2 by
            obtain ⟨n, hn⟩ := hh
            exact ⟨n + 5, s_S_deedOf (by omega) (by decide) h5 (And.intro (fun zz => absurd zz c14) (fun _ => And.intro (fun _ => hn) (fun zz => absurd c13 zz)))⟩
          obtain ⟨z8, h9, h⟩ := Option.bind_eq_some_iff.mp h
          cases h
          exact ⟨6, s_S_easiest (by omega) (by decide) h9 (And.intro hQ (And.intro rfl rfl))⟩
        · rw [if_neg c13] at h
          by_cases c12 : z4.1 = 2
          · rw [if_pos c12] at h
            suffices hh : ∃ n, jx_W jx_ShC d (some .int) jc_93 Q n 66 [some (.ref 1), some (.ref 106), some (.int x2), some (.int x3), some (.int z1.1)] [] z4.2 by
              obtain ⟨n, hn⟩ := hh
              exact ⟨n + 5, s_S_deedOf (by omega) (by decide) h5 (And.intro (fun zz => absurd zz c14) (fun _ => And.intro (fun zz => absurd zz c13) (fun _ => And.intro (fun _ => hn) (fun zz => absurd c12 zz))))⟩
            cases h
            exact ⟨2, And.intro hQ (And.intro rfl rfl)⟩
          · rw [if_neg c12] at h
            obtain ⟨z10, h11, h⟩ := Option.bind_eq_some_iff.mp h
            cases h
            exact ⟨8, s_S_deedOf (by omega) (by decide) h5 (And.intro (fun zz => absurd zz c14) (fun _ => And.intro (fun zz => absurd zz c13) (fun _ => And.intro (fun zz => absurd zz c12) (fun _ => s_J_numberOfTrailingZeros (by omega) h11 (And.intro hQ (And.intro rfl rfl))))))⟩
  · unfold f_S_choice at h
    obtain ⟨z1, h2, h⟩ := Option.bind_eq_some_iff.mp h
    by_cases c3 : z1.1 = 0
    · rw [if_pos c3] at h
      suffices hh : ∃ n, jx_W jx_ShC d (some .int) jc_93 Q n 14 [some (.ref 1), some (.ref 110), some (.int x2), some (.int x3), some (.int z1.1)] [] z1.2 by
        obtain ⟨n, hn⟩ := hh
        exact ⟨n + 8, s_S_openTo (by omega) (by decide) h2 (And.intro (fun zz => absurd c3 zz) (fun _ => hn))⟩
      cases h
      exact ⟨2, And.intro hQ (And.intro rfl rfl)⟩
    · rw [if_neg c3] at h
      suffices hh : ∃ n, jx_W jx_ShC d (some .int) jc_93 Q n 17 [some (.ref 1), some (.ref 110), some (.int x2), some (.int x3), some (.int z1.1)] [] z1.2 by
        obtain ⟨n, hn⟩ := hh
        exact ⟨n + 8, s_S_openTo (by omega) (by decide) h2 (And.intro (fun _ => hn) (fun zz => absurd zz c3))⟩
      obtain ⟨z4, h5, h⟩ := Option.bind_eq_some_iff.mp h
      by_cases c14 : z4.1 = 0
      · rw [if_pos c14] at h
        suffices hh : ∃ n, jx_W jx_ShC d (some .int) jc_93 Q n 48 [some (.ref 1), some (.ref 110), some (.int x2), some (.int x3), some (.int z1.1)] [] z4.2 by
          obtain ⟨n, hn⟩ := hh
          exact ⟨n + 5, s_S_deedOf (by omega) (by decide) h5 (And.intro (fun _ => hn) (fun zz => absurd c14 zz))⟩
        obtain ⟨z6, h7, h⟩ := Option.bind_eq_some_iff.mp h
        cases h
        exact ⟨5, s_J_numberOfLeadingZeros (by omega) h7 (And.intro hQ (And.intro rfl rfl))⟩
      · rw [if_neg c14] at h
        by_cases c13 : z4.1 = 1
        · rw [if_pos c13] at h
          suffices hh : ∃ n, jx_W jx_ShC d (some .int) jc_93 Q n 57 [some (.ref 1), some (.ref 110), some (.int x2), some (.int x3), some (.int z1.1)] [] z4.2 by
            obtain ⟨n, hn⟩ := hh
            exact ⟨n + 5, s_S_deedOf (by omega) (by decide) h5 (And.intro (fun zz => absurd zz c14) (fun _ => And.intro (fun _ => hn) (fun zz => absurd c13 zz)))⟩
          obtain ⟨z8, h9, h⟩ := Option.bind_eq_some_iff.mp h
          cases h
          exact ⟨6, s_S_easiest (by omega) (by decide) h9 (And.intro hQ (And.intro rfl rfl))⟩
        · rw [if_neg c13] at h
          by_cases c12 : z4.1 = 2
          · rw [if_pos c12] at h
            suffices hh : ∃ n, jx_W jx_ShC d (some .int) jc_93 Q n 66 [some (.ref 1), some (.ref 110), some (.int x2), some (.int x3), some (.int z1.1)] [] z4.2 by
              obtain ⟨n, hn⟩ := hh
              exact ⟨n + 5, s_S_deedOf (by omega) (by decide) h5 (And.intro (fun zz => absurd zz c14) (fun _ => And.intro (fun zz => absurd zz c13) (fun _ => And.intro (fun _ => hn) (fun zz => absurd c12 zz))))⟩
            cases h
            exact ⟨2, And.intro hQ (And.intro rfl rfl)⟩
          · rw [if_neg c12] at h
            obtain ⟨z10, h11, h⟩ := Option.bind_eq_some_iff.mp h
            cases h
            exact ⟨8, s_S_deedOf (by omega) (by decide) h5 (And.intro (fun zz => absurd zz c14) (fun _ => And.intro (fun zz => absurd zz c13) (fun _ => And.intro (fun zz => absurd zz c12) (fun _ => s_J_numberOfTrailingZeros (by omega) h11 (And.intro hQ (And.intro rfl rfl))))))⟩
  · unfold f_S_choice at h
    obtain ⟨z1, h2, h⟩ := Option.bind_eq_some_iff.mp h
    by_cases c3 : z1.1 = 0
    · rw [if_pos c3] at h
      suffices hh : ∃ n, jx_W jx_ShC d (some .int) jc_93 Q n 14 [some (.ref 1), some (.ref 27), some (.int x2), some (.int x3), some (.int z1.1)] [] z1.2 by
        obtain ⟨n, hn⟩ := hh
        exact ⟨n + 8, s_S_openTo (by omega) (by decide) h2 (And.intro (fun zz => absurd c3 zz) (fun _ => hn))⟩
      cases h
      exact ⟨2, And.intro hQ (And.intro rfl rfl)⟩
    · rw [if_neg c3] at h
      suffices hh : ∃ n, jx_W jx_ShC d (some .int) jc_93 Q n 17 [some (.ref 1), some (.ref 27), some (.int x2), some (.int x3), some (.int z1.1)] [] z1.2 by
        obtain ⟨n, hn⟩ := hh
        exact ⟨n + 8, s_S_openTo (by omega) (by decide) h2 (And.intro (fun _ => hn) (fun zz => absurd zz c3))⟩
      obtain ⟨z4, h5, h⟩ := Option.bind_eq_some_iff.mp h
      by_cases c14 : z4.1 = 0
      · rw [if_pos c14] at h
        suffices hh : ∃ n, jx_W jx_ShC d (some .int) jc_93 Q n 48 [some (.ref 1), some (.ref 27), some (.int x2), some (.int x3), some (.int z1.1)] [] z4.2 by
          obtain ⟨n, hn⟩ := hh
          exact ⟨n + 5, s_S_deedOf (by omega) (by decide) h5 (And.intro (fun _ => hn) (fun zz => absurd c14 zz))⟩
        obtain ⟨z6, h7, h⟩ := Option.bind_eq_some_iff.mp h
        cases h
        exact ⟨5, s_J_numberOfLeadingZeros (by omega) h7 (And.intro hQ (And.intro rfl rfl))⟩
      · rw [if_neg c14] at h
        by_cases c13 : z4.1 = 1
        · rw [if_pos c13] at h
          suffices hh : ∃ n, jx_W jx_ShC d (some .int) jc_93 Q n 57 [some (.ref 1), some (.ref 27), some (.int x2), some (.int x3), some (.int z1.1)] [] z4.2 by
            obtain ⟨n, hn⟩ := hh
            exact ⟨n + 5, s_S_deedOf (by omega) (by decide) h5 (And.intro (fun zz => absurd zz c14) (fun _ => And.intro (fun _ => hn) (fun zz => absurd c13 zz)))⟩
          obtain ⟨z8, h9, h⟩ := Option.bind_eq_some_iff.mp h
          cases h
          exact ⟨6, s_S_easiest (by omega) (by decide) h9 (And.intro hQ (And.intro rfl rfl))⟩
        · rw [if_neg c13] at h
          by_cases c12 : z4.1 = 2
          · rw [if_pos c12] at h
            suffices hh : ∃ n, jx_W jx_ShC d (some .int) jc_93 Q n 66 [some (.ref 1), some (.ref 27), some (.int x2), some (.int x3), some (.int z1.1)] [] z4.2 by
              obtain ⟨n, hn⟩ := hh
              exact ⟨n + 5, s_S_deedOf (by omega) (by decide) h5 (And.intro (fun zz => absurd zz c14) (fun _ => And.intro (fun zz => absurd zz c13) (fun _ => And.intro (fun _ => hn) (fun zz => absurd c12 zz))))⟩
            cases h
            exact ⟨2, And.intro hQ (And.intro rfl rfl)⟩
          · rw [if_neg c12] at h
            obtain ⟨z10, h11, h⟩ := Option.bind_eq_some_iff.mp h
            cases h
            exact ⟨8, s_S_deedOf (by omega) (by decide) h5 (And.intro (fun zz => absurd zz c14) (fun _ => And.intro (fun zz => absurd zz c13) (fun _ => And.intro (fun zz => absurd zz c12) (fun _ => s_J_numberOfTrailingZeros (by omega) h11 (And.intro hQ (And.intro rfl rfl))))))⟩
  · unfold f_S_choice at h
    obtain ⟨z1, h2, h⟩ := Option.bind_eq_some_iff.mp h
    by_cases c3 : z1.1 = 0
    · rw [if_pos c3] at h
      suffices hh : ∃ n, jx_W jx_ShC d (some .int) jc_93 Q n 14 [some (.ref 1), some (.ref 75), some (.int x2), some (.int x3), some (.int z1.1)] [] z1.2 by
        obtain ⟨n, hn⟩ := hh
        exact ⟨n + 8, s_S_openTo (by omega) (by decide) h2 (And.intro (fun zz => absurd c3 zz) (fun _ => hn))⟩
      cases h
      exact ⟨2, And.intro hQ (And.intro rfl rfl)⟩
    · rw [if_neg c3] at h
      suffices hh : ∃ n, jx_W jx_ShC d (some .int) jc_93 Q n 17 [some (.ref 1), some (.ref 75), some (.int x2), some (.int x3), some (.int z1.1)] [] z1.2 by
        obtain ⟨n, hn⟩ := hh
        exact ⟨n + 8, s_S_openTo (by omega) (by decide) h2 (And.intro (fun _ => hn) (fun zz => absurd zz c3))⟩
      obtain ⟨z4, h5, h⟩ := Option.bind_eq_some_iff.mp h
      by_cases c14 : z4.1 = 0
      · rw [if_pos c14] at h
        suffices hh : ∃ n, jx_W jx_ShC d (some .int) jc_93 Q n 48 [some (.ref 1), some (.ref 75), some (.int x2), some (.int x3), some (.int z1.1)] [] z4.2 by
          obtain ⟨n, hn⟩ := hh
          exact ⟨n + 5, s_S_deedOf (by omega) (by decide) h5 (And.intro (fun _ => hn) (fun zz => absurd c14 zz))⟩
        obtain ⟨z6, h7, h⟩ := Option.bind_eq_some_iff.mp h
        cases h
        exact ⟨5, s_J_numberOfLeadingZeros (by omega) h7 (And.intro hQ (And.intro rfl rfl))⟩
      · rw [if_neg c14] at h
        by_cases c13 : z4.1 = 1
        · rw [if_pos c13] at h
          suffices hh : ∃ n, jx_W jx_ShC d (some .int) jc_93 Q n 57 [some (.ref 1), some (.ref 75), some (.int x2), some (.int x3), some (.int z1.1)] [] z4.2 by
            obtain ⟨n, hn⟩ := hh
            exact ⟨n + 5, s_S_deedOf (by omega) (by decide) h5 (And.intro (fun zz => absurd zz c14) (fun _ => And.intro (fun _ => hn) (fun zz => absurd c13 zz)))⟩
          obtain ⟨z8, h9, h⟩ := Option.bind_eq_some_iff.mp h
          cases h
          exact ⟨6, s_S_easiest (by omega) (by decide) h9 (And.intro hQ (And.intro rfl rfl))⟩
        · rw [if_neg c13] at h
          by_cases c12 : z4.1 = 2
          · rw [if_pos c12] at h
            suffices hh : ∃ n, jx_W jx_ShC d (some .int) jc_93 Q n 66 [some (.ref 1), some (.ref 75), some (.int x2), some (.int x3), some (.int z1.1)] [] z4.2 by
              obtain ⟨n, hn⟩ := hh
              exact ⟨n + 5, s_S_deedOf (by omega) (by decide) h5 (And.intro (fun zz => absurd zz c14) (fun _ => And.intro (fun zz => absurd zz c13) (fun _ => And.intro (fun _ => hn) (fun zz => absurd c12 zz))))⟩
            cases h
            exact ⟨2, And.intro hQ (And.intro rfl rfl)⟩
          · rw [if_neg c12] at h
            obtain ⟨z10, h11, h⟩ := Option.bind_eq_some_iff.mp h
            cases h
            exact ⟨8, s_S_deedOf (by omega) (by decide) h5 (And.intro (fun zz => absurd zz c14) (fun _ => And.intro (fun zz => absurd zz c13) (fun _ => And.intro (fun zz => absurd zz c12) (fun _ => s_J_numberOfTrailingZeros (by omega) h11 (And.intro hQ (And.intro rfl rfl))))))⟩
  · unfold f_S_choice at h
    obtain ⟨z1, h2, h⟩ := Option.bind_eq_some_iff.mp h
    by_cases c3 : z1.1 = 0
    · rw [if_pos c3] at h
      suffices hh : ∃ n, jx_W jx_ShC d (some .int) jc_93 Q n 14 [some (.ref 1), some (.ref 94), some (.int x2), some (.int x3), some (.int z1.1)] [] z1.2 by
        obtain ⟨n, hn⟩ := hh
        exact ⟨n + 8, s_S_openTo (by omega) (by decide) h2 (And.intro (fun zz => absurd c3 zz) (fun _ => hn))⟩
      cases h
      exact ⟨2, And.intro hQ (And.intro rfl rfl)⟩
    · rw [if_neg c3] at h
      suffices hh : ∃ n, jx_W jx_ShC d (some .int) jc_93 Q n 17 [some (.ref 1), some (.ref 94), some (.int x2), some (.int x3), some (.int z1.1)] [] z1.2 by
        obtain ⟨n, hn⟩ := hh
        exact ⟨n + 8, s_S_openTo (by omega) (by decide) h2 (And.intro (fun _ => hn) (fun zz => absurd zz c3))⟩
      obtain ⟨z4, h5, h⟩ := Option.bind_eq_some_iff.mp h
      by_cases c14 : z4.1 = 0
      · rw [if_pos c14] at h
        suffices hh : ∃ n, jx_W jx_ShC d (some .int) jc_93 Q n 48 [some (.ref 1), some (.ref 94), some (.int x2), some (.int x3), some (.int z1.1)] [] z4.2 by
          obtain ⟨n, hn⟩ := hh
          exact ⟨n + 5, s_S_deedOf (by omega) (by decide) h5 (And.intro (fun _ => hn) (fun zz => absurd c14 zz))⟩
        obtain ⟨z6, h7, h⟩ := Option.bind_eq_some_iff.mp h
        cases h
        exact ⟨5, s_J_numberOfLeadingZeros (by omega) h7 (And.intro hQ (And.intro rfl rfl))⟩
      · rw [if_neg c14] at h
        by_cases c13 : z4.1 = 1
        · rw [if_pos c13] at h
          suffices hh : ∃ n, jx_W jx_ShC d (some .int) jc_93 Q n 57 [some (.ref 1), some (.ref 94), some (.int x2), some (.int x3), some (.int z1.1)] [] z4.2 by
            obtain ⟨n, hn⟩ := hh
            exact ⟨n + 5, s_S_deedOf (by omega) (by decide) h5 (And.intro (fun zz => absurd zz c14) (fun _ => And.intro (fun _ => hn) (fun zz => absurd c13 zz)))⟩
          obtain ⟨z8, h9, h⟩ := Option.bind_eq_some_iff.mp h
          cases h
          exact ⟨6, s_S_easiest (by omega) (by decide) h9 (And.intro hQ (And.intro rfl rfl))⟩
        · rw [if_neg c13] at h
          by_cases c12 : z4.1 = 2
          · rw [if_pos c12] at h
            suffices hh : ∃ n, jx_W jx_ShC d (some .int) jc_93 Q n 66 [some (.ref 1), some (.ref 94), some (.int x2), some (.int x3), some (.int z1.1)] [] z4.2 by
              obtain ⟨n, hn⟩ := hh
              exact ⟨n + 5, s_S_deedOf (by omega) (by decide) h5 (And.intro (fun zz => absurd zz c14) (fun _ => And.intro (fun zz => absurd zz c13) (fun _ => And.intro (fun _ => hn) (fun zz => absurd c12 zz))))⟩
            cases h
            exact ⟨2, And.intro hQ (And.intro rfl rfl)⟩
          · rw [if_neg c12] at h
            obtain ⟨z10, h11, h⟩ := Option.bind_eq_some_iff.mp h
            cases h
            exact ⟨8, s_S_deedOf (by omega) (by decide) h5 (And.intro (fun zz => absurd zz c14) (fun _ => And.intro (fun zz => absurd zz c13) (fun _ => And.intro (fun zz => absurd zz c12) (fun _ => s_J_numberOfTrailingZeros (by omega) h11 (And.intro hQ (And.intro rfl rfl))))))⟩
  · unfold f_S_choice at h
    obtain ⟨z1, h2, h⟩ := Option.bind_eq_some_iff.mp h
    by_cases c3 : z1.1 = 0
    · rw [if_pos c3] at h
      suffices hh : ∃ n, jx_W jx_ShC d (some .int) jc_93 Q n 14 [some (.ref 1), some (.ref 98), some (.int x2), some (.int x3), some (.int z1.1)] [] z1.2 by
        obtain ⟨n, hn⟩ := hh
        exact ⟨n + 8, s_S_openTo (by omega) (by decide) h2 (And.intro (fun zz => absurd c3 zz) (fun _ => hn))⟩
      cases h
      exact ⟨2, And.intro hQ (And.intro rfl rfl)⟩
    · rw [if_neg c3] at h
      suffices hh : ∃ n, jx_W jx_ShC d (some .int) jc_93 Q n 17 [some (.ref 1), some (.ref 98), some (.int x2), some (.int x3), some (.int z1.1)] [] z1.2 by
        obtain ⟨n, hn⟩ := hh
        exact ⟨n + 8, s_S_openTo (by omega) (by decide) h2 (And.intro (fun _ => hn) (fun zz => absurd zz c3))⟩
      obtain ⟨z4, h5, h⟩ := Option.bind_eq_some_iff.mp h
      by_cases c14 : z4.1 = 0
      · rw [if_pos c14] at h
        suffices hh : ∃ n, jx_W jx_ShC d (some .int) jc_93 Q n 48 [some (.ref 1), some (.ref 98), some (.int x2), some (.int x3), some (.int z1.1)] [] z4.2 by
          obtain ⟨n, hn⟩ := hh
          exact ⟨n + 5, s_S_deedOf (by omega) (by decide) h5 (And.intro (fun _ => hn) (fun zz => absurd c14 zz))⟩
        obtain ⟨z6, h7, h⟩ := Option.bind_eq_some_iff.mp h
        cases h
        exact ⟨5, s_J_numberOfLeadingZeros (by omega) h7 (And.intro hQ (And.intro rfl rfl))⟩
      · rw [if_neg c14] at h
        by_cases c13 : z4.1 = 1
        · rw [if_pos c13] at h
          suffices hh : ∃ n, jx_W jx_ShC d (some .int) jc_93 Q n 57 [some (.ref 1), some (.ref 98), some (.int x2), some (.int x3), some (.int z1.1)] [] z4.2 by
            obtain ⟨n, hn⟩ := hh
            exact ⟨n + 5, s_S_deedOf (by omega) (by decide) h5 (And.intro (fun zz => absurd zz c14) (fun _ => And.intro (fun _ => hn) (fun zz => absurd c13 zz)))⟩
          obtain ⟨z8, h9, h⟩ := Option.bind_eq_some_iff.mp h
          cases h
          exact ⟨6, s_S_easiest (by omega) (by decide) h9 (And.intro hQ (And.intro rfl rfl))⟩
        · rw [if_neg c13] at h
          by_cases c12 : z4.1 = 2
          · rw [if_pos c12] at h
            suffices hh : ∃ n, jx_W jx_ShC d (some .int) jc_93 Q n 66 [some (.ref 1), some (.ref 98), some (.int x2), some (.int x3), some (.int z1.1)] [] z4.2 by
              obtain ⟨n, hn⟩ := hh
              exact ⟨n + 5, s_S_deedOf (by omega) (by decide) h5 (And.intro (fun zz => absurd zz c14) (fun _ => And.intro (fun zz => absurd zz c13) (fun _ => And.intro (fun _ => hn) (fun zz => absurd c12 zz))))⟩
            cases h
            exact ⟨2, And.intro hQ (And.intro rfl rfl)⟩
          · rw [if_neg c12] at h
            obtain ⟨z10, h11, h⟩ := Option.bind_eq_some_iff.mp h
            cases h
            exact ⟨8, s_S_deedOf (by omega) (by decide) h5 (And.intro (fun zz => absurd zz c14) (fun _ => And.intro (fun zz => absurd zz c13) (fun _ => And.intro (fun zz => absurd zz c12) (fun _ => s_J_numberOfTrailingZeros (by omega) h11 (And.intro hQ (And.intro rfl rfl))))))⟩
set_option maxRecDepth 20000 in
theorem s_S_goBy_140 {N d : Nat} {p1 : Nat} {Q : jw_Q} {K16 : Int32 → Int32 → Int32 → Int32 → jw_M → Option (Int32 × jw_M)} (hd : 5 ≤ d) (hp : p1 = 102 ∨ p1 = 106 ∨ p1 = 110 ∨ p1 = 27 ∨ p1 = 75 ∨ p1 = 94 ∨ p1 = 98) (hK16 : ∀ {x2 : Int32} {x3 : Int32} {x4 : Int32} {x5 : Int32} {σ : jw_M} {z : (Int32 × jw_M)} {u6 : Option Value}, K16 x2 x3 x4 x5 σ = some z → Q (some (.int z.1)) (jx_ShC, z.2) → ∃ n, jx_W jx_ShC d (some .int) jc_91 Q n 16 [some (.ref 1), some (.ref p1), some (.int x2), some (.int x3), some (.int x4), some (.int x5), u6] [] σ) {x2 : Int32} {x3 : Int32} {x4 : Int32} {x5 : Int32} {u6 : Option Value} {σ : jw_M} {z : (Int32 × jw_M)} (h : f_S_goBy_140 N p1 K16 x2 x3 x4 x5 σ = some z) (hQ : Q (some (.int z.1)) (jx_ShC, z.2)) : ∃ n, jx_W jx_ShC d (some .int) jc_91 Q n 140 [some (.ref 1), some (.ref p1), some (.int x2), some (.int x3), some (.int x4), some (.int x5), u6] [] σ := by
  unfold f_S_goBy_140 at h
  obtain ⟨n, hn⟩ := hK16 (u6 := u6) h hQ
  exact ⟨n + 2, hn⟩
set_option maxRecDepth 20000 in
theorem s_S_goBy_115 {N d : Nat} {p1 : Nat} {Q : jw_Q} {K16 : Int32 → Int32 → Int32 → Int32 → jw_M → Option (Int32 × jw_M)} (hd : 5 ≤ d) (hp : p1 = 102 ∨ p1 = 106 ∨ p1 = 110 ∨ p1 = 27 ∨ p1 = 75 ∨ p1 = 94 ∨ p1 = 98) (hK16 : ∀ {x2 : Int32} {x3 : Int32} {x4 : Int32} {x5 : Int32} {σ : jw_M} {z : (Int32 × jw_M)} {u6 : Option Value}, K16 x2 x3 x4 x5 σ = some z → Q (some (.int z.1)) (jx_ShC, z.2) → ∃ n, jx_W jx_ShC d (some .int) jc_91 Q n 16 [some (.ref 1), some (.ref p1), some (.int x2), some (.int x3), some (.int x4), some (.int x5), u6] [] σ) {x2 : Int32} {x3 : Int32} {x4 : Int32} {x5 : Int32} {x6 : Int32} {y1 : Int32} {y2 : Int32} {y3 : Int32} {σ : jw_M} {z : (Int32 × jw_M)} (h : f_S_goBy_115 N p1 K16 x2 x3 x4 x5 x6 y1 y2 y3 σ = some z) (hQ : Q (some (.int z.1)) (jx_ShC, z.2)) : ∃ n, jx_W jx_ShC d (some .int) jc_91 Q n 115 [some (.ref 1), some (.ref p1), some (.int x2), some (.int x3), some (.int x4), some (.int x5), some (.int x6)] [.int y3, .int y2, .int y1, .ref p1] σ := by
  rcases hp with rfl | rfl | rfl | rfl | rfl | rfl | rfl
  · unfold f_S_goBy_115 at h
    cases c13 : jx_in x6 8 with
    | false => rw [c13, cond_false] at h; cases h
    | true =>
      rw [c13, cond_true] at h
      obtain ⟨z14, h15, h⟩ := Option.bind_eq_some_iff.mp h
      by_cases c16 : z14.1 = 0
      · rw [if_pos c16] at h
        suffices hh : ∃ n, jx_W jx_ShC d (some .int) jc_91 Q n 140 [some (.ref 1), some (.ref 102), some (.int x2), some (.int x3), some (.int x4), some (.int x5), some (.int x6)] [] z14.2 by
          obtain ⟨n, hn⟩ := hh
          exact ⟨n + 6, And.intro (jx_in_ok c13) (s_P_gain (by omega) (by decide) h15 (And.intro (fun _ => hn) (fun zz => absurd c16 zz)))⟩
        obtain ⟨n, hn⟩ := s_S_goBy_140 hd (by decide) hK16 (u6 := some (.int x6)) h hQ
        exact ⟨n + 0, hn⟩
      · rw [if_neg c16] at h
        suffices hh : ∃ n, jx_W jx_ShC d (some .int) jc_91 Q n 128 [some (.ref 1), some (.ref 102), some (.int x2), some (.int x3), some (.int x4), some (.int x5), some (.int x6)] [] z14.2 by
          obtain ⟨n, hn⟩ := hh
          exact ⟨n + 6, And.intro (jx_in_ok c13) (s_P_gain (by omega) (by decide) h15 (And.intro (fun zz => absurd zz c16) (fun _ => hn)))⟩
        obtain ⟨n, hn⟩ := s_S_goBy_140 hd (by decide) hK16 (u6 := some (.int x6)) h hQ
        exact ⟨n + 7, And.intro (jx_in_ok c13) (hn)⟩
  · unfold f_S_goBy_115 at h
    cases c13 : jx_in x6 8 with
    | false => rw [c13, cond_false] at h; cases h
    | true =>
      rw [c13, cond_true] at h
      obtain ⟨z14, h15, h⟩ := Option.bind_eq_some_iff.mp h
      by_cases c16 : z14.1 = 0
      · rw [if_pos c16] at h
        suffices hh : ∃ n, jx_W jx_ShC d (some .int) jc_91 Q n 140 [some (.ref 1), some (.ref 106), some (.int x2), some (.int x3), some (.int x4), some (.int x5), some (.int x6)] [] z14.2 by
          obtain ⟨n, hn⟩ := hh
          exact ⟨n + 6, And.intro (jx_in_ok c13) (s_P_gain (by omega) (by decide) h15 (And.intro (fun _ => hn) (fun zz => absurd c16 zz)))⟩
        obtain ⟨n, hn⟩ := s_S_goBy_140 hd (by decide) hK16 (u6 := some (.int x6)) h hQ
        exact ⟨n + 0, hn⟩
      · rw [if_neg c16] at h
        suffices hh : ∃ n, jx_W jx_ShC d (some .int) jc_91 Q n 128 [some (.ref 1), some (.ref 106), some (.int x2), some (.int x3), some (.int x4), some (.int x5), some (.int x6)] [] z14.2 by
          obtain ⟨n, hn⟩ := hh
          exact ⟨n + 6, And.intro (jx_in_ok c13) (s_P_gain (by omega) (by decide) h15 (And.intro (fun zz => absurd zz c16) (fun _ => hn)))⟩
        obtain ⟨n, hn⟩ := s_S_goBy_140 hd (by decide) hK16 (u6 := some (.int x6)) h hQ
        exact ⟨n + 7, And.intro (jx_in_ok c13) (hn)⟩
  · unfold f_S_goBy_115 at h
    cases c13 : jx_in x6 8 with
    | false => rw [c13, cond_false] at h; cases h
    | true =>
      rw [c13, cond_true] at h
      obtain ⟨z14, h15, h⟩ := Option.bind_eq_some_iff.mp h
      by_cases c16 : z14.1 = 0
      · rw [if_pos c16] at h
        suffices hh : ∃ n, jx_W jx_ShC d (some .int) jc_91 Q n 140 [some (.ref 1), some (.ref 110), some (.int x2), some (.int x3), some (.int x4), some (.int x5), some (.int x6)] [] z14.2 by
          obtain ⟨n, hn⟩ := hh
          exact ⟨n + 6, And.intro (jx_in_ok c13) (s_P_gain (by omega) (by decide) h15 (And.intro (fun _ => hn) (fun zz => absurd c16 zz)))⟩
        obtain ⟨n, hn⟩ := s_S_goBy_140 hd (by decide) hK16 (u6 := some (.int x6)) h hQ
        exact ⟨n + 0, hn⟩
      · rw [if_neg c16] at h
        suffices hh : ∃ n, jx_W jx_ShC d (some .int) jc_91 Q n 128 [some (.ref 1), some (.ref 110), some (.int x2), some (.int x3), some (.int x4), some (.int x5), some (.int x6)] [] z14.2 by
          obtain ⟨n, hn⟩ := hh
          exact ⟨n + 6, And.intro (jx_in_ok c13) (s_P_gain (by omega) (by decide) h15 (And.intro (fun zz => absurd zz c16) (fun _ => hn)))⟩
        obtain ⟨n, hn⟩ := s_S_goBy_140 hd (by decide) hK16 (u6 := some (.int x6)) h hQ
        exact ⟨n + 7, And.intro (jx_in_ok c13) (hn)⟩
  · unfold f_S_goBy_115 at h
    cases c13 : jx_in x6 8 with
    | false => rw [c13, cond_false] at h; cases h
    | true =>
      rw [c13, cond_true] at h
      obtain ⟨z14, h15, h⟩ := Option.bind_eq_some_iff.mp h
      by_cases c16 : z14.1 = 0
      · rw [if_pos c16] at h
        suffices hh : ∃ n, jx_W jx_ShC d (some .int) jc_91 Q n 140 [some (.ref 1), some (.ref 27), some (.int x2), some (.int x3), some (.int x4), some (.int x5), some (.int x6)] [] z14.2 by
          obtain ⟨n, hn⟩ := hh
          exact ⟨n + 6, And.intro (jx_in_ok c13) (s_P_gain (by omega) (by decide) h15 (And.intro (fun _ => hn) (fun zz => absurd c16 zz)))⟩
        obtain ⟨n, hn⟩ := s_S_goBy_140 hd (by decide) hK16 (u6 := some (.int x6)) h hQ
        exact ⟨n + 0, hn⟩
      · rw [if_neg c16] at h
        suffices hh : ∃ n, jx_W jx_ShC d (some .int) jc_91 Q n 128 [some (.ref 1), some (.ref 27), some (.int x2), some (.int x3), some (.int x4), some (.int x5), some (.int x6)] [] z14.2 by
          obtain ⟨n, hn⟩ := hh
          exact ⟨n + 6, And.intro (jx_in_ok c13) (s_P_gain (by omega) (by decide) h15 (And.intro (fun zz => absurd zz c16) (fun _ => hn)))⟩
        obtain ⟨n, hn⟩ := s_S_goBy_140 hd (by decide) hK16 (u6 := some (.int x6)) h hQ
        exact ⟨n + 7, And.intro (jx_in_ok c13) (hn)⟩
  · unfold f_S_goBy_115 at h
    cases c13 : jx_in x6 8 with
    | false => rw [c13, cond_false] at h; cases h
    | true =>
      rw [c13, cond_true] at h
      obtain ⟨z14, h15, h⟩ := Option.bind_eq_some_iff.mp h
      by_cases c16 : z14.1 = 0
      · rw [if_pos c16] at h
        suffices hh : ∃ n, jx_W jx_ShC d (some .int) jc_91 Q n 140 [some (.ref 1), some (.ref 75), some (.int x2), some (.int x3), some (.int x4), some (.int x5), some (.int x6)] [] z14.2 by
          obtain ⟨n, hn⟩ := hh
          exact ⟨n + 6, And.intro (jx_in_ok c13) (s_P_gain (by omega) (by decide) h15 (And.intro (fun _ => hn) (fun zz => absurd c16 zz)))⟩
        obtain ⟨n, hn⟩ := s_S_goBy_140 hd (by decide) hK16 (u6 := some (.int x6)) h hQ
        exact ⟨n + 0, hn⟩
      · rw [if_neg c16] at h
        suffices hh : ∃ n, jx_W jx_ShC d (some .int) jc_91 Q n 128 [some (.ref 1), some (.ref 75), some (.int x2), some (.int x3), some (.int x4), some (.int x5), some (.int x6)] [] z14.2 by
          obtain ⟨n, hn⟩ := hh
          exact ⟨n + 6, And.intro (jx_in_ok c13) (s_P_gain (by omega) (by decide) h15 (And.intro (fun zz => absurd zz c16) (fun _ => hn)))⟩
        obtain ⟨n, hn⟩ := s_S_goBy_140 hd (by decide) hK16 (u6 := some (.int x6)) h hQ
        exact ⟨n + 7, And.intro (jx_in_ok c13) (hn)⟩
  · unfold f_S_goBy_115 at h
    cases c13 : jx_in x6 8 with
    | false => rw [c13, cond_false] at h; cases h
    | true =>
      rw [c13, cond_true] at h
      obtain ⟨z14, h15, h⟩ := Option.bind_eq_some_iff.mp h
      by_cases c16 : z14.1 = 0
      · rw [if_pos c16] at h
        suffices hh : ∃ n, jx_W jx_ShC d (some .int) jc_91 Q n 140 [some (.ref 1), some (.ref 94), some (.int x2), some (.int x3), some (.int x4), some (.int x5), some (.int x6)] [] z14.2 by
          obtain ⟨n, hn⟩ := hh
          exact ⟨n + 6, And.intro (jx_in_ok c13) (s_P_gain (by omega) (by decide) h15 (And.intro (fun _ => hn) (fun zz => absurd c16 zz)))⟩
        obtain ⟨n, hn⟩ := s_S_goBy_140 hd (by decide) hK16 (u6 := some (.int x6)) h hQ
        exact ⟨n + 0, hn⟩
      · rw [if_neg c16] at h
        suffices hh : ∃ n, jx_W jx_ShC d (some .int) jc_91 Q n 128 [some (.ref 1), some (.ref 94), some (.int x2), some (.int x3), some (.int x4), some (.int x5), some (.int x6)] [] z14.2 by
          obtain ⟨n, hn⟩ := hh
          exact ⟨n + 6, And.intro (jx_in_ok c13) (s_P_gain (by omega) (by decide) h15 (And.intro (fun zz => absurd zz c16) (fun _ => hn)))⟩
        obtain ⟨n, hn⟩ := s_S_goBy_140 hd (by decide) hK16 (u6 := some (.int x6)) h hQ
        exact ⟨n + 7, And.intro (jx_in_ok c13) (hn)⟩
  · unfold f_S_goBy_115 at h
    cases c13 : jx_in x6 8 with
    | false => rw [c13, cond_false] at h; cases h
    | true =>
      rw [c13, cond_true] at h
      obtain ⟨z14, h15, h⟩ := Option.bind_eq_some_iff.mp h
      by_cases c16 : z14.1 = 0
      · rw [if_pos c16] at h
        suffices hh : ∃ n, jx_W jx_ShC d (some .int) jc_91 Q n 140 [some (.ref 1), some (.ref 98), some (.int x2), some (.int x3), some (.int x4), some (.int x5), some (.int x6)] [] z14.2 by
          obtain ⟨n, hn⟩ := hh
          exact ⟨n + 6, And.intro (jx_in_ok c13) (s_P_gain (by omega) (by decide) h15 (And.intro (fun _ => hn) (fun zz => absurd c16 zz)))⟩
        obtain ⟨n, hn⟩ := s_S_goBy_140 hd (by decide) hK16 (u6 := some (.int x6)) h hQ
        exact ⟨n + 0, hn⟩
      · rw [if_neg c16] at h
        suffices hh : ∃ n, jx_W jx_ShC d (some .int) jc_91 Q n 128 [some (.ref 1), some (.ref 98), some (.int x2), some (.int x3), some (.int x4), some (.int x5), some (.int x6)] [] z14.2 by
          obtain ⟨n, hn⟩ := hh
          exact ⟨n + 6, And.intro (jx_in_ok c13) (s_P_gain (by omega) (by decide) h15 (And.intro (fun zz => absurd zz c16) (fun _ => hn)))⟩
        obtain ⟨n, hn⟩ := s_S_goBy_140 hd (by decide) hK16 (u6 := some (.int x6)) h hQ
        exact ⟨n + 7, And.intro (jx_in_ok c13) (hn)⟩
set_option maxRecDepth 20000 in
theorem s_S_goBy_112 {N d : Nat} {p1 : Nat} {Q : jw_Q} {K16 : Int32 → Int32 → Int32 → Int32 → jw_M → Option (Int32 × jw_M)} (hd : 5 ≤ d) (hp : p1 = 102 ∨ p1 = 106 ∨ p1 = 110 ∨ p1 = 27 ∨ p1 = 75 ∨ p1 = 94 ∨ p1 = 98) (hK16 : ∀ {x2 : Int32} {x3 : Int32} {x4 : Int32} {x5 : Int32} {σ : jw_M} {z : (Int32 × jw_M)} {u6 : Option Value}, K16 x2 x3 x4 x5 σ = some z → Q (some (.int z.1)) (jx_ShC, z.2) → ∃ n, jx_W jx_ShC d (some .int) jc_91 Q n 16 [some (.ref 1), some (.ref p1), some (.int x2), some (.int x3), some (.int x4), some (.int x5), u6] [] σ) {x2 : Int32} {x3 : Int32} {x4 : Int32} {x5 : Int32} {x6 : Int32} {y1 : Int32} {y2 : Int32} {r_3 : Nat} {y4 : Int32} {y5 : Int32} {σ : jw_M} {z : (Int32 × jw_M)} (hr_3 : r_3 = 32 ∨ r_3 = 33 ∨ r_3 = 34 ∨ r_3 = 35 ∨ r_3 = 36 ∨ r_3 = 37) (h : f_S_goBy_112 N p1 K16 x2 x3 x4 x5 x6 y1 y2 r_3 y4 y5 σ = some z) (hQ : Q (some (.int z.1)) (jx_ShC, z.2)) : ∃ n, jx_W jx_ShC d (some .int) jc_91 Q n 112 [some (.ref 1), some (.ref p1), some (.int x2), some (.int x3), some (.int x4), some (.int x5), some (.int x6)] [.int y5, .int y4, .ref r_3, .int y2, .int y1, .ref p1] σ := by
  rcases hr_3 with rfl | rfl | rfl | rfl | rfl | rfl
  · unfold f_S_goBy_112 at h
    obtain ⟨z11, h12, h⟩ := Option.bind_eq_some_iff.mp h
    rw [if_pos rfl] at h12
    obtain ⟨n, hn⟩ := s_S_goBy_115 hd hp hK16 h hQ
    exact ⟨n + 1, s_Z_Shade_paceIn (by omega) (by decide) h12 (hn)⟩
  · unfold f_S_goBy_112 at h
    obtain ⟨z11, h12, h⟩ := Option.bind_eq_some_iff.mp h
    rw [if_neg (by decide), if_pos rfl] at h12
    obtain ⟨n, hn⟩ := s_S_goBy_115 hd hp hK16 h hQ
    exact ⟨n + 1, s_Z_Joined_paceIn (by omega) h12 (hn)⟩
  · unfold f_S_goBy_112 at h
    obtain ⟨z11, h12, h⟩ := Option.bind_eq_some_iff.mp h
    rw [if_neg (by decide), if_neg (by decide), if_pos rfl] at h12
    obtain ⟨n, hn⟩ := s_S_goBy_115 hd hp hK16 h hQ
    exact ⟨n + 1, s_Z_Gifted_paceIn (by omega) (by decide) h12 (hn)⟩
  · unfold f_S_goBy_112 at h
    obtain ⟨z11, h12, h⟩ := Option.bind_eq_some_iff.mp h
    rw [if_neg (by decide), if_neg (by decide), if_neg (by decide), if_pos rfl] at h12
    obtain ⟨n, hn⟩ := s_S_goBy_115 hd hp hK16 h hQ
    exact ⟨n + 1, s_Z_Coloured_paceIn (by omega) h12 (hn)⟩
  · unfold f_S_goBy_112 at h
    obtain ⟨z11, h12, h⟩ := Option.bind_eq_some_iff.mp h
    rw [if_neg (by decide), if_neg (by decide), if_neg (by decide), if_neg (by decide), if_pos rfl] at h12
    obtain ⟨n, hn⟩ := s_S_goBy_115 hd hp hK16 h hQ
    exact ⟨n + 1, s_Z_Slow_paceIn (by omega) (by decide) h12 (hn)⟩
  · unfold f_S_goBy_112 at h
    obtain ⟨z11, h12, h⟩ := Option.bind_eq_some_iff.mp h
    rw [if_neg (by decide), if_neg (by decide), if_neg (by decide), if_neg (by decide), if_neg (by decide), if_pos rfl] at h12
    obtain ⟨n, hn⟩ := s_S_goBy_115 hd hp hK16 h hQ
    exact ⟨n + 1, s_Z_Borrowed_paceIn (by omega) h12 (hn)⟩
set_option maxRecDepth 20000 in
theorem s_S_goBy_90 {N d : Nat} {p1 : Nat} {Q : jw_Q} {K16 : Int32 → Int32 → Int32 → Int32 → jw_M → Option (Int32 × jw_M)} (hd : 5 ≤ d) (hp : p1 = 102 ∨ p1 = 106 ∨ p1 = 110 ∨ p1 = 27 ∨ p1 = 75 ∨ p1 = 94 ∨ p1 = 98) (hK16 : ∀ {x2 : Int32} {x3 : Int32} {x4 : Int32} {x5 : Int32} {σ : jw_M} {z : (Int32 × jw_M)} {u6 : Option Value}, K16 x2 x3 x4 x5 σ = some z → Q (some (.int z.1)) (jx_ShC, z.2) → ∃ n, jx_W jx_ShC d (some .int) jc_91 Q n 16 [some (.ref 1), some (.ref p1), some (.int x2), some (.int x3), some (.int x4), some (.int x5), u6] [] σ) {x2 : Int32} {x3 : Int32} {x4 : Int32} {x5 : Int32} {x6 : Int32} {σ : jw_M} {z : (Int32 × jw_M)} (h : f_S_goBy_90 N p1 K16 x2 x3 x4 x5 x6 σ = some z) (hQ : Q (some (.int z.1)) (jx_ShC, z.2)) : ∃ n, jx_W jx_ShC d (some .int) jc_91 Q n 90 [some (.ref 1), some (.ref p1), some (.int x2), some (.int x3), some (.int x4), some (.int x5), some (.int x6)] [] σ := by
  rcases hp with rfl | rfl | rfl | rfl | rfl | rfl | rfl
  · unfold f_S_goBy_90 at h
    obtain ⟨z8, h9, h⟩ := Option.bind_eq_some_iff.mp h
    cases c10 : jx_in x5 6 with
    | false => rw [c10, cond_false] at h; cases h
    | true =>
      rw [c10, cond_true] at h
      obtain ⟨n, hn⟩ := s_S_goBy_112 hd (by decide) hK16 (r_S_thing h9) h hQ
      exact ⟨n + 12, s_S_thing (by omega) h9 (And.intro (jx_in_ok c10) (hn))⟩
  · unfold f_S_goBy_90 at h
    obtain ⟨z8, h9, h⟩ := Option.bind_eq_some_iff.mp h
    cases c10 : jx_in x5 6 with
    | false => rw [c10, cond_false] at h; cases h
    | true =>
      rw [c10, cond_true] at h
      obtain ⟨n, hn⟩ := s_S_goBy_112 hd (by decide) hK16 (r_S_thing h9) h hQ
      exact ⟨n + 12, s_S_thing (by omega) h9 (And.intro (jx_in_ok c10) (hn))⟩
  · unfold f_S_goBy_90 at h
    obtain ⟨z8, h9, h⟩ := Option.bind_eq_some_iff.mp h
    cases c10 : jx_in x5 6 with
    | false => rw [c10, cond_false] at h; cases h
    | true =>
      rw [c10, cond_true] at h
      obtain ⟨n, hn⟩ := s_S_goBy_112 hd (by decide) hK16 (r_S_thing h9) h hQ
      exact ⟨n + 12, s_S_thing (by omega) h9 (And.intro (jx_in_ok c10) (hn))⟩
  · unfold f_S_goBy_90 at h
    obtain ⟨z8, h9, h⟩ := Option.bind_eq_some_iff.mp h
    cases c10 : jx_in x5 6 with
    | false => rw [c10, cond_false] at h; cases h
    | true =>
      rw [c10, cond_true] at h
      obtain ⟨n, hn⟩ := s_S_goBy_112 hd (by decide) hK16 (r_S_thing h9) h hQ
      exact ⟨n + 12, s_S_thing (by omega) h9 (And.intro (jx_in_ok c10) (hn))⟩
  · unfold f_S_goBy_90 at h
    obtain ⟨z8, h9, h⟩ := Option.bind_eq_some_iff.mp h
    cases c10 : jx_in x5 6 with
    | false => rw [c10, cond_false] at h; cases h
    | true =>
      rw [c10, cond_true] at h
      obtain ⟨n, hn⟩ := s_S_goBy_112 hd (by decide) hK16 (r_S_thing h9) h hQ
      exact ⟨n + 12, s_S_thing (by omega) h9 (And.intro (jx_in_ok c10) (hn))⟩
  · unfold f_S_goBy_90 at h
    obtain ⟨z8, h9, h⟩ := Option.bind_eq_some_iff.mp h
    cases c10 : jx_in x5 6 with
    | false => rw [c10, cond_false] at h; cases h
    | true =>
      rw [c10, cond_true] at h
      obtain ⟨n, hn⟩ := s_S_goBy_112 hd (by decide) hK16 (r_S_thing h9) h hQ
      exact ⟨n + 12, s_S_thing (by omega) h9 (And.intro (jx_in_ok c10) (hn))⟩
  · unfold f_S_goBy_90 at h
    obtain ⟨z8, h9, h⟩ := Option.bind_eq_some_iff.mp h
    cases c10 : jx_in x5 6 with
    | false => rw [c10, cond_false] at h; cases h
    | true =>
      rw [c10, cond_true] at h
      obtain ⟨n, hn⟩ := s_S_goBy_112 hd (by decide) hK16 (r_S_thing h9) h hQ
      exact ⟨n + 12, s_S_thing (by omega) h9 (And.intro (jx_in_ok c10) (hn))⟩
set_option maxRecDepth 20000 in
theorem s_S_goBy_46 {N d : Nat} {p1 : Nat} {Q : jw_Q} {K16 : Int32 → Int32 → Int32 → Int32 → jw_M → Option (Int32 × jw_M)} (hd : 5 ≤ d) (hp : p1 = 102 ∨ p1 = 106 ∨ p1 = 110 ∨ p1 = 27 ∨ p1 = 75 ∨ p1 = 94 ∨ p1 = 98) (hK16 : ∀ {x2 : Int32} {x3 : Int32} {x4 : Int32} {x5 : Int32} {σ : jw_M} {z : (Int32 × jw_M)} {u6 : Option Value}, K16 x2 x3 x4 x5 σ = some z → Q (some (.int z.1)) (jx_ShC, z.2) → ∃ n, jx_W jx_ShC d (some .int) jc_91 Q n 16 [some (.ref 1), some (.ref p1), some (.int x2), some (.int x3), some (.int x4), some (.int x5), u6] [] σ) {x2 : Int32} {x3 : Int32} {x4 : Int32} {x5 : Int32} {y0 : Int32} {u6 : Option Value} {σ : jw_M} {z : (Int32 × jw_M)} (h : f_S_goBy_46 N p1 K16 x2 x3 x4 x5 y0 σ = some z) (hQ : Q (some (.int z.1)) (jx_ShC, z.2)) : ∃ n, jx_W jx_ShC d (some .int) jc_91 Q n 46 [some (.ref 1), some (.ref p1), some (.int x2), some (.int x3), some (.int x4), some (.int x5), u6] [.int y0] σ := by
  rcases hp with rfl | rfl | rfl | rfl | rfl | rfl | rfl
  · unfold f_S_goBy_46 at h
    by_cases c5 : y0 = 8
    · rw [if_pos c5] at h
      suffices hh : ∃ n, jx_W jx_ShC d (some .int) jc_91 Q n 140 [some (.ref 1), some (.ref 102), some (.int x2), some (.int x3), some (.int x4), some (.int x5), some (.int y0)] [] σ by
        obtain ⟨n, hn⟩ := hh
        exact ⟨n + 4, And.intro (fun _ => hn) (fun zz => absurd c5 zz)⟩
      obtain ⟨n, hn⟩ := s_S_goBy_140 hd (by decide) hK16 (u6 := some (.int y0)) h hQ
      exact ⟨n + 0, hn⟩
    · rw [if_neg c5] at h
      suffices hh : ∃ n, jx_W jx_ShC d (some .int) jc_91 Q n 55 [some (.ref 1), some (.ref 102), some (.int x2), some (.int x3), some (.int x4), some (.int x5), some (.int y0)] [] σ by
        obtain ⟨n, hn⟩ := hh
        exact ⟨n + 4, And.intro (fun zz => absurd zz c5) (fun _ => hn)⟩
      cases c6 : jx_in y0 8 with
      | false => rw [c6, cond_false] at h; cases h
      | true =>
        rw [c6, cond_true] at h
        by_cases c7 : ((jx_w σ (102 + 3) (y0).toNatClampNeg ((σ.1 (102 + 3) (y0).toNatClampNeg) + 1)).1 (102 + 3) (y0).toNatClampNeg) < ((jx_w σ (102 + 3) (y0).toNatClampNeg ((σ.1 (102 + 3) (y0).toNatClampNeg) + 1)).1 10 (y0).toNatClampNeg)
        · rw [if_pos c7] at h
          suffices hh : ∃ n, jx_W jx_ShC d (some .int) jc_91 Q n 90 [some (.ref 1), some (.ref 102), some (.int x2), some (.int x3), some (.int x4), some (.int x5), some (.int y0)] [] (jx_w σ (102 + 3) (y0).toNatClampNeg ((σ.1 (102 + 3) (y0).toNatClampNeg) + 1)) by
            obtain ⟨n, hn⟩ := hh
            exact ⟨n + 17, And.intro (jx_in_ok c6) (And.intro (jx_in_ok c6) (And.intro (jx_in_ok c6) (And.intro (jx_in_ok c6) (And.intro (fun _ => hn) (fun zz => absurd c7 zz)))))⟩
          obtain ⟨n, hn⟩ := s_S_goBy_90 hd (by decide) hK16 h hQ
          exact ⟨n + 0, hn⟩
        · rw [if_neg c7] at h
          suffices hh : ∃ n, jx_W jx_ShC d (some .int) jc_91 Q n 83 [some (.ref 1), some (.ref 102), some (.int x2), some (.int x3), some (.int x4), some (.int x5), some (.int y0)] [] (jx_w σ (102 + 3) (y0).toNatClampNeg ((σ.1 (102 + 3) (y0).toNatClampNeg) + 1)) by
            obtain ⟨n, hn⟩ := hh
            exact ⟨n + 17, And.intro (jx_in_ok c6) (And.intro (jx_in_ok c6) (And.intro (jx_in_ok c6) (And.intro (jx_in_ok c6) (And.intro (fun zz => absurd zz c7) (fun _ => hn)))))⟩
          obtain ⟨n, hn⟩ := s_S_goBy_90 hd (by decide) hK16 h hQ
          exact ⟨n + 6, hn⟩
  · unfold f_S_goBy_46 at h
    by_cases c5 : y0 = 8
    · rw [if_pos c5] at h
      suffices hh : ∃ n, jx_W jx_ShC d (some .int) jc_91 Q n 140 [some (.ref 1), some (.ref 106), some (.int x2), some (.int x3), some (.int x4), some (.int x5), some (.int y0)] [] σ by
        obtain ⟨n, hn⟩ := hh
        exact ⟨n + 4, And.intro (fun _ => hn) (fun zz => absurd c5 zz)⟩
      obtain ⟨n, hn⟩ := s_S_goBy_140 hd (by decide) hK16 (u6 := some (.int y0)) h hQ
      exact ⟨n + 0, hn⟩
    · rw [if_neg c5] at h
      suffices hh : ∃ n, jx_W jx_ShC d (some .int) jc_91 Q n 55 [some (.ref 1), some (.ref 106), some (.int x2), some (.int x3), some (.int x4), some (.int x5), some (.int y0)] [] σ by
        obtain ⟨n, hn⟩ := hh
        exact ⟨n + 4, And.intro (fun zz => absurd zz c5) (fun _ => hn)⟩
      cases c6 : jx_in y0 8 with
      | false => rw [c6, cond_false] at h; cases h
      | true =>
        rw [c6, cond_true] at h
        by_cases c7 : ((jx_w σ (106 + 3) (y0).toNatClampNeg ((σ.1 (106 + 3) (y0).toNatClampNeg) + 1)).1 (106 + 3) (y0).toNatClampNeg) < ((jx_w σ (106 + 3) (y0).toNatClampNeg ((σ.1 (106 + 3) (y0).toNatClampNeg) + 1)).1 10 (y0).toNatClampNeg)
        · rw [if_pos c7] at h
          suffices hh : ∃ n, jx_W jx_ShC d (some .int) jc_91 Q n 90 [some (.ref 1), some (.ref 106), some (.int x2), some (.int x3), some (.int x4), some (.int x5), some (.int y0)] [] (jx_w σ (106 + 3) (y0).toNatClampNeg ((σ.1 (106 + 3) (y0).toNatClampNeg) + 1)) by
            obtain ⟨n, hn⟩ := hh
            exact ⟨n + 17, And.intro (jx_in_ok c6) (And.intro (jx_in_ok c6) (And.intro (jx_in_ok c6) (And.intro (jx_in_ok c6) (And.intro (fun _ => hn) (fun zz => absurd c7 zz)))))⟩
          obtain ⟨n, hn⟩ := s_S_goBy_90 hd (by decide) hK16 h hQ
          exact ⟨n + 0, hn⟩
        · rw [if_neg c7] at h
          suffices hh : ∃ n, jx_W jx_ShC d (some .int) jc_91 Q n 83 [some (.ref 1), some (.ref 106), some (.int x2), some (.int x3), some (.int x4), some (.int x5), some (.int y0)] [] (jx_w σ (106 + 3) (y0).toNatClampNeg ((σ.1 (106 + 3) (y0).toNatClampNeg) + 1)) by
            obtain ⟨n, hn⟩ := hh
            exact ⟨n + 17, And.intro (jx_in_ok c6) (And.intro (jx_in_ok c6) (And.intro (jx_in_ok c6) (And.intro (jx_in_ok c6) (And.intro (fun zz => absurd zz c7) (fun _ => hn)))))⟩
          obtain ⟨n, hn⟩ := s_S_goBy_90 hd (by decide) hK16 h hQ
          exact ⟨n + 6, hn⟩
  · unfold f_S_goBy_46 at h
    by_cases c5 : y0 = 8
    · rw [if_pos c5] at h
      suffices hh : ∃ n, jx_W jx_ShC d (some .int) jc_91 Q n 140 [some (.ref 1), some (.ref 110), some (.int x2), some (.int x3), some (.int x4), some (.int x5), some (.int y0)] [] σ by
        obtain ⟨n, hn⟩ := hh
        exact ⟨n + 4, And.intro (fun _ => hn) (fun zz => absurd c5 zz)⟩
      obtain ⟨n, hn⟩ := s_S_goBy_140 hd (by decide) hK16 (u6 := some (.int y0)) h hQ
      exact ⟨n + 0, hn⟩
    · rw [if_neg c5] at h
      suffices hh : ∃ n, jx_W jx_ShC d (some .int) jc_91 Q n 55 [some (.ref 1), some (.ref 110), some (.int x2), some (.int x3), some (.int x4), some (.int x5), some (.int y0)] [] σ by
        obtain ⟨n, hn⟩ := hh
        exact ⟨n + 4, And.intro (fun zz => absurd zz c5) (fun _ => hn)⟩
      cases c6 : jx_in y0 8 with
      | false => rw [c6, cond_false] at h; cases h
      | true =>
        rw [c6, cond_true] at h
        by_cases c7 : ((jx_w σ (110 + 3) (y0).toNatClampNeg ((σ.1 (110 + 3) (y0).toNatClampNeg) + 1)).1 (110 + 3) (y0).toNatClampNeg) < ((jx_w σ (110 + 3) (y0).toNatClampNeg ((σ.1 (110 + 3) (y0).toNatClampNeg) + 1)).1 10 (y0).toNatClampNeg)
        · rw [if_pos c7] at h
          suffices hh : ∃ n, jx_W jx_ShC d (some .int) jc_91 Q n 90 [some (.ref 1), some (.ref 110), some (.int x2), some (.int x3), some (.int x4), some (.int x5), some (.int y0)] [] (jx_w σ (110 + 3) (y0).toNatClampNeg ((σ.1 (110 + 3) (y0).toNatClampNeg) + 1)) by
            obtain ⟨n, hn⟩ := hh
            exact ⟨n + 17, And.intro (jx_in_ok c6) (And.intro (jx_in_ok c6) (And.intro (jx_in_ok c6) (And.intro (jx_in_ok c6) (And.intro (fun _ => hn) (fun zz => absurd c7 zz)))))⟩
          obtain ⟨n, hn⟩ := s_S_goBy_90 hd (by decide) hK16 h hQ
          exact ⟨n + 0, hn⟩
        · rw [if_neg c7] at h
          suffices hh : ∃ n, jx_W jx_ShC d (some .int) jc_91 Q n 83 [some (.ref 1), some (.ref 110), some (.int x2), some (.int x3), some (.int x4), some (.int x5), some (.int y0)] [] (jx_w σ (110 + 3) (y0).toNatClampNeg ((σ.1 (110 + 3) (y0).toNatClampNeg) + 1)) by
            obtain ⟨n, hn⟩ := hh
            exact ⟨n + 17, And.intro (jx_in_ok c6) (And.intro (jx_in_ok c6) (And.intro (jx_in_ok c6) (And.intro (jx_in_ok c6) (And.intro (fun zz => absurd zz c7) (fun _ => hn)))))⟩
          obtain ⟨n, hn⟩ := s_S_goBy_90 hd (by decide) hK16 h hQ
          exact ⟨n + 6, hn⟩
  · unfold f_S_goBy_46 at h
    by_cases c5 : y0 = 8
    · rw [if_pos c5] at h
      suffices hh : ∃ n, jx_W jx_ShC d (some .int) jc_91 Q n 140 [some (.ref 1), some (.ref 27), some (.int x2), some (.int x3), some (.int x4), some (.int x5), some (.int y0)] [] σ by
        obtain ⟨n, hn⟩ := hh
        exact ⟨n + 4, And.intro (fun _ => hn) (fun zz => absurd c5 zz)⟩
      obtain ⟨n, hn⟩ := s_S_goBy_140 hd (by decide) hK16 (u6 := some (.int y0)) h hQ
      exact ⟨n + 0, hn⟩
    · rw [if_neg c5] at h
      suffices hh : ∃ n, jx_W jx_ShC d (some .int) jc_91 Q n 55 [some (.ref 1), some (.ref 27), some (.int x2), some (.int x3), some (.int x4), some (.int x5), some (.int y0)] [] σ by
        obtain ⟨n, hn⟩ := hh
        exact ⟨n + 4, And.intro (fun zz => absurd zz c5) (fun _ => hn)⟩
      cases c6 : jx_in y0 8 with
      | false => rw [c6, cond_false] at h; cases h
      | true =>
        rw [c6, cond_true] at h
        by_cases c7 : ((jx_w σ (27 + 3) (y0).toNatClampNeg ((σ.1 (27 + 3) (y0).toNatClampNeg) + 1)).1 (27 + 3) (y0).toNatClampNeg) < ((jx_w σ (27 + 3) (y0).toNatClampNeg ((σ.1 (27 + 3) (y0).toNatClampNeg) + 1)).1 10 (y0).toNatClampNeg)
        · rw [if_pos c7] at h
          suffices hh : ∃ n, jx_W jx_ShC d (some .int) jc_91 Q n 90 [some (.ref 1), some (.ref 27), some (.int x2), some (.int x3), some (.int x4), some (.int x5), some (.int y0)] [] (jx_w σ (27 + 3) (y0).toNatClampNeg ((σ.1 (27 + 3) (y0).toNatClampNeg) + 1)) by
            obtain ⟨n, hn⟩ := hh
            exact ⟨n + 17, And.intro (jx_in_ok c6) (And.intro (jx_in_ok c6) (And.intro (jx_in_ok c6) (And.intro (jx_in_ok c6) (And.intro (fun _ => hn) (fun zz => absurd c7 zz)))))⟩
          obtain ⟨n, hn⟩ := s_S_goBy_90 hd (by decide) hK16 h hQ
          exact ⟨n + 0, hn⟩
        · rw [if_neg c7] at h
          suffices hh : ∃ n, jx_W jx_ShC d (some .int) jc_91 Q n 83 [some (.ref 1), some (.ref 27), some (.int x2), some (.int x3), some (.int x4), some (.int x5), some (.int y0)] [] (jx_w σ (27 + 3) (y0).toNatClampNeg ((σ.1 (27 + 3) (y0).toNatClampNeg) + 1)) by
            obtain ⟨n, hn⟩ := hh
            exact ⟨n + 17, And.intro (jx_in_ok c6) (And.intro (jx_in_ok c6) (And.intro (jx_in_ok c6) (And.intro (jx_in_ok c6) (And.intro (fun zz => absurd zz c7) (fun _ => hn)))))⟩
          obtain ⟨n, hn⟩ := s_S_goBy_90 hd (by decide) hK16 h hQ
          exact ⟨n + 6, hn⟩
  · unfold f_S_goBy_46 at h
    by_cases c5 : y0 = 8
    · rw [if_pos c5] at h
      suffices hh : ∃ n, jx_W jx_ShC d (some .int) jc_91 Q n 140 [some (.ref 1), some (.ref 75), some (.int x2), some (.int x3), some (.int x4), some (.int x5), some (.int y0)] [] σ by
        obtain ⟨n, hn⟩ := hh
        exact ⟨n + 4, And.intro (fun _ => hn) (fun zz => absurd c5 zz)⟩
      obtain ⟨n, hn⟩ := s_S_goBy_140 hd (by decide) hK16 (u6 := some (.int y0)) h hQ
      exact ⟨n + 0, hn⟩
    · rw [if_neg c5] at h
      suffices hh : ∃ n, jx_W jx_ShC d (some .int) jc_91 Q n 55 [some (.ref 1), some (.ref 75), some (.int x2), some (.int x3), some (.int x4), some (.int x5), some (.int y0)] [] σ by
        obtain ⟨n, hn⟩ := hh
        exact ⟨n + 4, And.intro (fun zz => absurd zz c5) (fun _ => hn)⟩
      cases c6 : jx_in y0 8 with
      | false => rw [c6, cond_false] at h; cases h
      | true =>
        rw [c6, cond_true] at h
        by_cases c7 : ((jx_w σ (75 + 3) (y0).toNatClampNeg ((σ.1 (75 + 3) (y0).toNatClampNeg) + 1)).1 (75 + 3) (y0).toNatClampNeg) < ((jx_w σ (75 + 3) (y0).toNatClampNeg ((σ.1 (75 + 3) (y0).toNatClampNeg) + 1)).1 10 (y0).toNatClampNeg)
        · rw [if_pos c7] at h
          suffices hh : ∃ n, jx_W jx_ShC d (some .int) jc_91 Q n 90 [some (.ref 1), some (.ref 75), some (.int x2), some (.int x3), some (.int x4), some (.int x5), some (.int y0)] [] (jx_w σ (75 + 3) (y0).toNatClampNeg ((σ.1 (75 + 3) (y0).toNatClampNeg) + 1)) by
            obtain ⟨n, hn⟩ := hh
            exact ⟨n + 17, And.intro (jx_in_ok c6) (And.intro (jx_in_ok c6) (And.intro (jx_in_ok c6) (And.intro (jx_in_ok c6) (And.intro (fun _ => hn) (fun zz => absurd c7 zz)))))⟩
          obtain ⟨n, hn⟩ := s_S_goBy_90 hd (by decide) hK16 h hQ
          exact ⟨n + 0, hn⟩
        · rw [if_neg c7] at h
          suffices hh : ∃ n, jx_W jx_ShC d (some .int) jc_91 Q n 83 [some (.ref 1), some (.ref 75), some (.int x2), some (.int x3), some (.int x4), some (.int x5), some (.int y0)] [] (jx_w σ (75 + 3) (y0).toNatClampNeg ((σ.1 (75 + 3) (y0).toNatClampNeg) + 1)) by
            obtain ⟨n, hn⟩ := hh
            exact ⟨n + 17, And.intro (jx_in_ok c6) (And.intro (jx_in_ok c6) (And.intro (jx_in_ok c6) (And.intro (jx_in_ok c6) (And.intro (fun zz => absurd zz c7) (fun _ => hn)))))⟩
          obtain ⟨n, hn⟩ := s_S_goBy_90 hd (by decide) hK16 h hQ
          exact ⟨n + 6, hn⟩
  · unfold f_S_goBy_46 at h
    by_cases c5 : y0 = 8
    · rw [if_pos c5] at h
      suffices hh : ∃ n, jx_W jx_ShC d (some .int) jc_91 Q n 140 [some (.ref 1), some (.ref 94), some (.int x2), some (.int x3), some (.int x4), some (.int x5), some (.int y0)] [] σ by
        obtain ⟨n, hn⟩ := hh
        exact ⟨n + 4, And.intro (fun _ => hn) (fun zz => absurd c5 zz)⟩
      obtain ⟨n, hn⟩ := s_S_goBy_140 hd (by decide) hK16 (u6 := some (.int y0)) h hQ
      exact ⟨n + 0, hn⟩
    · rw [if_neg c5] at h
      suffices hh : ∃ n, jx_W jx_ShC d (some .int) jc_91 Q n 55 [some (.ref 1), some (.ref 94), some (.int x2), some (.int x3), some (.int x4), some (.int x5), some (.int y0)] [] σ by
        obtain ⟨n, hn⟩ := hh
        exact ⟨n + 4, And.intro (fun zz => absurd zz c5) (fun _ => hn)⟩
      cases c6 : jx_in y0 8 with
      | false => rw [c6, cond_false] at h; cases h
      | true =>
        rw [c6, cond_true] at h
        by_cases c7 : ((jx_w σ (94 + 3) (y0).toNatClampNeg ((σ.1 (94 + 3) (y0).toNatClampNeg) + 1)).1 (94 + 3) (y0).toNatClampNeg) < ((jx_w σ (94 + 3) (y0).toNatClampNeg ((σ.1 (94 + 3) (y0).toNatClampNeg) + 1)).1 10 (y0).toNatClampNeg)
        · rw [if_pos c7] at h
          suffices hh : ∃ n, jx_W jx_ShC d (some .int) jc_91 Q n 90 [some (.ref 1), some (.ref 94), some (.int x2), some (.int x3), some (.int x4), some (.int x5), some (.int y0)] [] (jx_w σ (94 + 3) (y0).toNatClampNeg ((σ.1 (94 + 3) (y0).toNatClampNeg) + 1)) by
            obtain ⟨n, hn⟩ := hh
            exact ⟨n + 17, And.intro (jx_in_ok c6) (And.intro (jx_in_ok c6) (And.intro (jx_in_ok c6) (And.intro (jx_in_ok c6) (And.intro (fun _ => hn) (fun zz => absurd c7 zz)))))⟩
          obtain ⟨n, hn⟩ := s_S_goBy_90 hd (by decide) hK16 h hQ
          exact ⟨n + 0, hn⟩
        · rw [if_neg c7] at h
          suffices hh : ∃ n, jx_W jx_ShC d (some .int) jc_91 Q n 83 [some (.ref 1), some (.ref 94), some (.int x2), some (.int x3), some (.int x4), some (.int x5), some (.int y0)] [] (jx_w σ (94 + 3) (y0).toNatClampNeg ((σ.1 (94 + 3) (y0).toNatClampNeg) + 1)) by
            obtain ⟨n, hn⟩ := hh
            exact ⟨n + 17, And.intro (jx_in_ok c6) (And.intro (jx_in_ok c6) (And.intro (jx_in_ok c6) (And.intro (jx_in_ok c6) (And.intro (fun zz => absurd zz c7) (fun _ => hn)))))⟩
          obtain ⟨n, hn⟩ := s_S_goBy_90 hd (by decide) hK16 h hQ
          exact ⟨n + 6, hn⟩
  · unfold f_S_goBy_46 at h
    by_cases c5 : y0 = 8
    · rw [if_pos c5] at h
      suffices hh : ∃ n, jx_W jx_ShC d (some .int) jc_91 Q n 140 [some (.ref 1), some (.ref 98), some (.int x2), some (.int x3), some (.int x4), some (.int x5), some (.int y0)] [] σ by
        obtain ⟨n, hn⟩ := hh
        exact ⟨n + 4, And.intro (fun _ => hn) (fun zz => absurd c5 zz)⟩
      obtain ⟨n, hn⟩ := s_S_goBy_140 hd (by decide) hK16 (u6 := some (.int y0)) h hQ
      exact ⟨n + 0, hn⟩
    · rw [if_neg c5] at h
      suffices hh : ∃ n, jx_W jx_ShC d (some .int) jc_91 Q n 55 [some (.ref 1), some (.ref 98), some (.int x2), some (.int x3), some (.int x4), some (.int x5), some (.int y0)] [] σ by
        obtain ⟨n, hn⟩ := hh
        exact ⟨n + 4, And.intro (fun zz => absurd zz c5) (fun _ => hn)⟩
      cases c6 : jx_in y0 8 with
      | false => rw [c6, cond_false] at h; cases h
      | true =>
        rw [c6, cond_true] at h
        by_cases c7 : ((jx_w σ (98 + 3) (y0).toNatClampNeg ((σ.1 (98 + 3) (y0).toNatClampNeg) + 1)).1 (98 + 3) (y0).toNatClampNeg) < ((jx_w σ (98 + 3) (y0).toNatClampNeg ((σ.1 (98 + 3) (y0).toNatClampNeg) + 1)).1 10 (y0).toNatClampNeg)
        · rw [if_pos c7] at h
          suffices hh : ∃ n, jx_W jx_ShC d (some .int) jc_91 Q n 90 [some (.ref 1), some (.ref 98), some (.int x2), some (.int x3), some (.int x4), some (.int x5), some (.int y0)] [] (jx_w σ (98 + 3) (y0).toNatClampNeg ((σ.1 (98 + 3) (y0).toNatClampNeg) + 1)) by
            obtain ⟨n, hn⟩ := hh
            exact ⟨n + 17, And.intro (jx_in_ok c6) (And.intro (jx_in_ok c6) (And.intro (jx_in_ok c6) (And.intro (jx_in_ok c6) (And.intro (fun _ => hn) (fun zz => absurd c7 zz)))))⟩
          obtain ⟨n, hn⟩ := s_S_goBy_90 hd (by decide) hK16 h hQ
          exact ⟨n + 0, hn⟩
        · rw [if_neg c7] at h
          suffices hh : ∃ n, jx_W jx_ShC d (some .int) jc_91 Q n 83 [some (.ref 1), some (.ref 98), some (.int x2), some (.int x3), some (.int x4), some (.int x5), some (.int y0)] [] (jx_w σ (98 + 3) (y0).toNatClampNeg ((σ.1 (98 + 3) (y0).toNatClampNeg) + 1)) by
            obtain ⟨n, hn⟩ := hh
            exact ⟨n + 17, And.intro (jx_in_ok c6) (And.intro (jx_in_ok c6) (And.intro (jx_in_ok c6) (And.intro (jx_in_ok c6) (And.intro (fun zz => absurd zz c7) (fun _ => hn)))))⟩
          obtain ⟨n, hn⟩ := s_S_goBy_90 hd (by decide) hK16 h hQ
          exact ⟨n + 6, hn⟩
set_option maxRecDepth 20000 in
theorem s_S_goBy_16 {N d : Nat} {p1 : Nat} {Q : jw_Q} (hd : 5 ≤ d) (hp : p1 = 102 ∨ p1 = 106 ∨ p1 = 110 ∨ p1 = 27 ∨ p1 = 75 ∨ p1 = 94 ∨ p1 = 98) : ∀ (k : Nat) {x2 : Int32} {x3 : Int32} {x4 : Int32} {x5 : Int32} {u6 : Option Value} {σ : jw_M} {z : (Int32 × jw_M)}, f_S_goBy_16 N p1 k x2 x3 x4 x5 σ = some z → Q (some (.int z.1)) (jx_ShC, z.2) → ∃ n, jx_W jx_ShC d (some .int) jc_91 Q n 16 [some (.ref 1), some (.ref p1), some (.int x2), some (.int x3), some (.int x4), some (.int x5), u6] [] σ
  | 0, _, _, _, _, _, _, _, h, _ => by cases h
  | k + 1, x2, x3, x4, x5, u6, σ, z, h, hQ => by
    rcases hp with rfl | rfl | rfl | rfl | rfl | rfl | rfl
    · rw [f_S_goBy_16] at h
      by_cases c3 : (σ.1 1 0) ≤ x5
      · rw [if_pos c3] at h
        suffices hh : ∃ n, jx_W jx_ShC d (some .int) jc_91 Q n 146 [some (.ref 1), some (.ref 102), some (.int x2), some (.int x3), some (.int x4), some (.int x5), u6] [] σ by
          obtain ⟨n, hn⟩ := hh
          exact ⟨n + 4, And.intro (fun _ => hn) (fun zz => absurd c3 zz)⟩
        cases h
        exact ⟨14, And.intro hQ (And.intro rfl rfl)⟩
      · rw [if_neg c3] at h
        suffices hh : ∃ n, jx_W jx_ShC d (some .int) jc_91 Q n 25 [some (.ref 1), some (.ref 102), some (.int x2), some (.int x3), some (.int x4), some (.int x5), u6] [] σ by
          obtain ⟨n, hn⟩ := hh
          exact ⟨n + 4, And.intro (fun zz => absurd zz c3) (fun _ => hn)⟩
        by_cases c4 : (x5 + 1) = x2
        · rw [if_pos c4] at h
          suffices hh : ∃ n, jx_W jx_ShC d (some .int) jc_91 Q n 33 [some (.ref 1), some (.ref 102), some (.int x2), some (.int x3), some (.int x4), some (.int x5), u6] [] σ by
            obtain ⟨n, hn⟩ := hh
            exact ⟨n + 5, And.intro (fun zz => absurd c4 zz) (fun _ => hn)⟩
          obtain ⟨n, hn⟩ := s_S_goBy_46 hd (by decide) (s_S_goBy_16 hd (by decide) k) (u6 := u6) h hQ
          exact ⟨n + 2, hn⟩
        · rw [if_neg c4] at h
          suffices hh : ∃ n, jx_W jx_ShC d (some .int) jc_91 Q n 38 [some (.ref 1), some (.ref 102), some (.int x2), some (.int x3), some (.int x4), some (.int x5), u6] [] σ by
            obtain ⟨n, hn⟩ := hh
            exact ⟨n + 5, And.intro (fun _ => hn) (fun zz => absurd zz c4)⟩
          obtain ⟨z17, h18, h⟩ := Option.bind_eq_some_iff.mp h
          obtain ⟨n, hn⟩ := s_S_goBy_46 hd (by decide) (s_S_goBy_16 hd (by decide) k) (u6 := u6) h hQ
          exact ⟨n + 5, s_S_choice (by omega) (by decide) h18 (hn)⟩
    · rw [f_S_goBy_16] at h
      by_cases c3 : (σ.1 1 0) ≤ x5
      · rw [if_pos c3] at h
        suffices hh : ∃ n, jx_W jx_ShC d (some .int) jc_91 Q n 146 [some (.ref 1), some (.ref 106), some (.int x2), some (.int x3), some (.int x4), some (.int x5), u6] [] σ by
          obtain ⟨n, hn⟩ := hh
          exact ⟨n + 4, And.intro (fun _ => hn) (fun zz => absurd c3 zz)⟩
        cases h
        exact ⟨14, And.intro hQ (And.intro rfl rfl)⟩
      · rw [if_neg c3] at h
        suffices hh : ∃ n, jx_W jx_ShC d (some .int) jc_91 Q n 25 [some (.ref 1), some (.ref 106), some (.int x2), some (.int x3), some (.int x4), some (.int x5), u6] [] σ by
          obtain ⟨n, hn⟩ := hh
          exact ⟨n + 4, And.intro (fun zz => absurd zz c3) (fun _ => hn)⟩
        by_cases c4 : (x5 + 1) = x2
        · rw [if_pos c4] at h
          suffices hh : ∃ n, jx_W jx_ShC d (some .int) jc_91 Q n 33 [some (.ref 1), some (.ref 106), some (.int x2), some (.int x3), some (.int x4), some (.int x5), u6] [] σ by
            obtain ⟨n, hn⟩ := hh
            exact ⟨n + 5, And.intro (fun zz => absurd c4 zz) (fun _ => hn)⟩
          obtain ⟨n, hn⟩ := s_S_goBy_46 hd (by decide) (s_S_goBy_16 hd (by decide) k) (u6 := u6) h hQ
          exact ⟨n + 2, hn⟩
        · rw [if_neg c4] at h
          suffices hh : ∃ n, jx_W jx_ShC d (some .int) jc_91 Q n 38 [some (.ref 1), some (.ref 106), some (.int x2), some (.int x3), some (.int x4), some (.int x5), u6] [] σ by
            obtain ⟨n, hn⟩ := hh
            exact ⟨n + 5, And.intro (fun _ => hn) (fun zz => absurd zz c4)⟩
          obtain ⟨z17, h18, h⟩ := Option.bind_eq_some_iff.mp h
          obtain ⟨n, hn⟩ := s_S_goBy_46 hd (by decide) (s_S_goBy_16 hd (by decide) k) (u6 := u6) h hQ
          exact ⟨n + 5, s_S_choice (by omega) (by decide) h18 (hn)⟩
    · rw [f_S_goBy_16] at h
      by_cases c3 : (σ.1 1 0) ≤ x5
      · rw [if_pos c3] at h
        suffices hh : ∃ n, jx_W jx_ShC d (some .int) jc_91 Q n 146 [some (.ref 1), some (.ref 110), some (.int x2), some (.int x3), some (.int x4), some (.int x5), u6] [] σ by
          obtain ⟨n, hn⟩ := hh
          exact ⟨n + 4, And.intro (fun _ => hn) (fun zz => absurd c3 zz)⟩
        cases h
        exact ⟨14, And.intro hQ (And.intro rfl rfl)⟩
      · rw [if_neg c3] at h
        suffices hh : ∃ n, jx_W jx_ShC d (some .int) jc_91 Q n 25 [some (.ref 1), some (.ref 110), some (.int x2), some (.int x3), some (.int x4), some (.int x5), u6] [] σ by
          obtain ⟨n, hn⟩ := hh
          exact ⟨n + 4, And.intro (fun zz => absurd zz c3) (fun _ => hn)⟩
        by_cases c4 : (x5 + 1) = x2
        · rw [if_pos c4] at h
          suffices hh : ∃ n, jx_W jx_ShC d (some .int) jc_91 Q n 33 [some (.ref 1), some (.ref 110), some (.int x2), some (.int x3), some (.int x4), some (.int x5), u6] [] σ by
            obtain ⟨n, hn⟩ := hh
            exact ⟨n + 5, And.intro (fun zz => absurd c4 zz) (fun _ => hn)⟩
          obtain ⟨n, hn⟩ := s_S_goBy_46 hd (by decide) (s_S_goBy_16 hd (by decide) k) (u6 := u6) h hQ
          exact ⟨n + 2, hn⟩
        · rw [if_neg c4] at h
          suffices hh : ∃ n, jx_W jx_ShC d (some .int) jc_91 Q n 38 [some (.ref 1), some (.ref 110), some (.int x2), some (.int x3), some (.int x4), some (.int x5), u6] [] σ by
            obtain ⟨n, hn⟩ := hh
            exact ⟨n + 5, And.intro (fun _ => hn) (fun zz => absurd zz c4)⟩
          obtain ⟨z17, h18, h⟩ := Option.bind_eq_some_iff.mp h
          obtain ⟨n, hn⟩ := s_S_goBy_46 hd (by decide) (s_S_goBy_16 hd (by decide) k) (u6 := u6) h hQ
          exact ⟨n + 5, s_S_choice (by omega) (by decide) h18 (hn)⟩
    · rw [f_S_goBy_16] at h
      by_cases c3 : (σ.1 1 0) ≤ x5
      · rw [if_pos c3] at h
        suffices hh : ∃ n, jx_W jx_ShC d (some .int) jc_91 Q n 146 [some (.ref 1), some (.ref 27), some (.int x2), some (.int x3), some (.int x4), some (.int x5), u6] [] σ by
          obtain ⟨n, hn⟩ := hh
          exact ⟨n + 4, And.intro (fun _ => hn) (fun zz => absurd c3 zz)⟩
        cases h
        exact ⟨14, And.intro hQ (And.intro rfl rfl)⟩
      · rw [if_neg c3] at h
        suffices hh : ∃ n, jx_W jx_ShC d (some .int) jc_91 Q n 25 [some (.ref 1), some (.ref 27), some (.int x2), some (.int x3), some (.int x4), some (.int x5), u6] [] σ by
          obtain ⟨n, hn⟩ := hh
          exact ⟨n + 4, And.intro (fun zz => absurd zz c3) (fun _ => hn)⟩
        by_cases c4 : (x5 + 1) = x2
        · rw [if_pos c4] at h
          suffices hh : ∃ n, jx_W jx_ShC d (some .int) jc_91 Q n 33 [some (.ref 1), some (.ref 27), some (.int x2), some (.int x3), some (.int x4), some (.int x5), u6] [] σ by
            obtain ⟨n, hn⟩ := hh
            exact ⟨n + 5, And.intro (fun zz => absurd c4 zz) (fun _ => hn)⟩
          obtain ⟨n, hn⟩ := s_S_goBy_46 hd (by decide) (s_S_goBy_16 hd (by decide) k) (u6 := u6) h hQ
          exact ⟨n + 2, hn⟩
        · rw [if_neg c4] at h
          suffices hh : ∃ n, jx_W jx_ShC d (some .int) jc_91 Q n 38 [some (.ref 1), some (.ref 27), some (.int x2), some (.int x3), some (.int x4), some (.int x5), u6] [] σ by
            obtain ⟨n, hn⟩ := hh
            exact ⟨n + 5, And.intro (fun _ => hn) (fun zz => absurd zz c4)⟩
          obtain ⟨z17, h18, h⟩ := Option.bind_eq_some_iff.mp h
          obtain ⟨n, hn⟩ := s_S_goBy_46 hd (by decide) (s_S_goBy_16 hd (by decide) k) (u6 := u6) h hQ
          exact ⟨n + 5, s_S_choice (by omega) (by decide) h18 (hn)⟩
    · rw [f_S_goBy_16] at h
      by_cases c3 : (σ.1 1 0) ≤ x5
      · rw [if_pos c3] at h
        suffices hh : ∃ n, jx_W jx_ShC d (some .int) jc_91 Q n 146 [some (.ref 1), some (.ref 75), some (.int x2), some (.int x3), some (.int x4), some (.int x5), u6] [] σ by
          obtain ⟨n, hn⟩ := hh
          exact ⟨n + 4, And.intro (fun _ => hn) (fun zz => absurd c3 zz)⟩
        cases h
        exact ⟨14, And.intro hQ (And.intro rfl rfl)⟩
      · rw [if_neg c3] at h
        suffices hh : ∃ n, jx_W jx_ShC d (some .int) jc_91 Q n 25 [some (.ref 1), some (.ref 75), some (.int x2), some (.int x3), some (.int x4), some (.int x5), u6] [] σ by
          obtain ⟨n, hn⟩ := hh
          exact ⟨n + 4, And.intro (fun zz => absurd zz c3) (fun _ => hn)⟩
        by_cases c4 : (x5 + 1) = x2
        · rw [if_pos c4] at h
          suffices hh : ∃ n, jx_W jx_ShC d (some .int) jc_91 Q n 33 [some (.ref 1), some (.ref 75), some (.int x2), some (.int x3), some (.int x4), some (.int x5), u6] [] σ by
            obtain ⟨n, hn⟩ := hh
            exact ⟨n + 5, And.intro (fun zz => absurd c4 zz) (fun _ => hn)⟩
          obtain ⟨n, hn⟩ := s_S_goBy_46 hd (by decide) (s_S_goBy_16 hd (by decide) k) (u6 := u6) h hQ
          exact ⟨n + 2, hn⟩
        · rw [if_neg c4] at h
          suffices hh : ∃ n, jx_W jx_ShC d (some .int) jc_91 Q n 38 [some (.ref 1), some (.ref 75), some (.int x2), some (.int x3), some (.int x4), some (.int x5), u6] [] σ by
            obtain ⟨n, hn⟩ := hh
            exact ⟨n + 5, And.intro (fun _ => hn) (fun zz => absurd zz c4)⟩
          obtain ⟨z17, h18, h⟩ := Option.bind_eq_some_iff.mp h
          obtain ⟨n, hn⟩ := s_S_goBy_46 hd (by decide) (s_S_goBy_16 hd (by decide) k) (u6 := u6) h hQ
          exact ⟨n + 5, s_S_choice (by omega) (by decide) h18 (hn)⟩
    · rw [f_S_goBy_16] at h
      by_cases c3 : (σ.1 1 0) ≤ x5
      · rw [if_pos c3] at h
        suffices hh : ∃ n, jx_W jx_ShC d (some .int) jc_91 Q n 146 [some (.ref 1), some (.ref 94), some (.int x2), some (.int x3), some (.int x4), some (.int x5), u6] [] σ by
          obtain ⟨n, hn⟩ := hh
          exact ⟨n + 4, And.intro (fun _ => hn) (fun zz => absurd c3 zz)⟩
        cases h
        exact ⟨14, And.intro hQ (And.intro rfl rfl)⟩
      · rw [if_neg c3] at h
        suffices hh : ∃ n, jx_W jx_ShC d (some .int) jc_91 Q n 25 [some (.ref 1), some (.ref 94), some (.int x2), some (.int x3), some (.int x4), some (.int x5), u6] [] σ by
          obtain ⟨n, hn⟩ := hh
          exact ⟨n + 4, And.intro (fun zz => absurd zz c3) (fun _ => hn)⟩
        by_cases c4 : (x5 + 1) = x2
        · rw [if_pos c4] at h
          suffices hh : ∃ n, jx_W jx_ShC d (some .int) jc_91 Q n 33 [some (.ref 1), some (.ref 94), some (.int x2), some (.int x3), some (.int x4), some (.int x5), u6] [] σ by
            obtain ⟨n, hn⟩ := hh
            exact ⟨n + 5, And.intro (fun zz => absurd c4 zz) (fun _ => hn)⟩
          obtain ⟨n, hn⟩ := s_S_goBy_46 hd (by decide) (s_S_goBy_16 hd (by decide) k) (u6 := u6) h hQ
          exact ⟨n + 2, hn⟩
        · rw [if_neg c4] at h
          suffices hh : ∃ n, jx_W jx_ShC d (some .int) jc_91 Q n 38 [some (.ref 1), some (.ref 94), some (.int x2), some (.int x3), some (.int x4), some (.int x5), u6] [] σ by
            obtain ⟨n, hn⟩ := hh
            exact ⟨n + 5, And.intro (fun _ => hn) (fun zz => absurd zz c4)⟩
          obtain ⟨z17, h18, h⟩ := Option.bind_eq_some_iff.mp h
          obtain ⟨n, hn⟩ := s_S_goBy_46 hd (by decide) (s_S_goBy_16 hd (by decide) k) (u6 := u6) h hQ
          exact ⟨n + 5, s_S_choice (by omega) (by decide) h18 (hn)⟩
    · rw [f_S_goBy_16] at h
      by_cases c3 : (σ.1 1 0) ≤ x5
      · rw [if_pos c3] at h
        suffices hh : ∃ n, jx_W jx_ShC d (some .int) jc_91 Q n 146 [some (.ref 1), some (.ref 98), some (.int x2), some (.int x3), some (.int x4), some (.int x5), u6] [] σ by
          obtain ⟨n, hn⟩ := hh
          exact ⟨n + 4, And.intro (fun _ => hn) (fun zz => absurd c3 zz)⟩
        cases h
        exact ⟨14, And.intro hQ (And.intro rfl rfl)⟩
      · rw [if_neg c3] at h
        suffices hh : ∃ n, jx_W jx_ShC d (some .int) jc_91 Q n 25 [some (.ref 1), some (.ref 98), some (.int x2), some (.int x3), some (.int x4), some (.int x5), u6] [] σ by
          obtain ⟨n, hn⟩ := hh
          exact ⟨n + 4, And.intro (fun zz => absurd zz c3) (fun _ => hn)⟩
        by_cases c4 : (x5 + 1) = x2
        · rw [if_pos c4] at h
          suffices hh : ∃ n, jx_W jx_ShC d (some .int) jc_91 Q n 33 [some (.ref 1), some (.ref 98), some (.int x2), some (.int x3), some (.int x4), some (.int x5), u6] [] σ by
            obtain ⟨n, hn⟩ := hh
            exact ⟨n + 5, And.intro (fun zz => absurd c4 zz) (fun _ => hn)⟩
          obtain ⟨n, hn⟩ := s_S_goBy_46 hd (by decide) (s_S_goBy_16 hd (by decide) k) (u6 := u6) h hQ
          exact ⟨n + 2, hn⟩
        · rw [if_neg c4] at h
          suffices hh : ∃ n, jx_W jx_ShC d (some .int) jc_91 Q n 38 [some (.ref 1), some (.ref 98), some (.int x2), some (.int x3), some (.int x4), some (.int x5), u6] [] σ by
            obtain ⟨n, hn⟩ := hh
            exact ⟨n + 5, And.intro (fun _ => hn) (fun zz => absurd zz c4)⟩
          obtain ⟨z17, h18, h⟩ := Option.bind_eq_some_iff.mp h
          obtain ⟨n, hn⟩ := s_S_goBy_46 hd (by decide) (s_S_goBy_16 hd (by decide) k) (u6 := u6) h hQ
          exact ⟨n + 5, s_S_choice (by omega) (by decide) h18 (hn)⟩
set_option maxRecDepth 20000 in
theorem s_S_goBy {N d : Nat} {p1 : Nat} {x2 : Int32} (hd : 6 ≤ d) (hp : p1 = 102 ∨ p1 = 106 ∨ p1 = 110 ∨ p1 = 27 ∨ p1 = 75 ∨ p1 = 94 ∨ p1 = 98) {σ : jw_M} {z : (Int32 × jw_M)} {Q : jw_Q} (h : f_S_goBy N p1 x2 σ = some z) (hQ : Q (some (.int z.1)) (jx_ShC, z.2)) : jw_C jp_kd jp_ys d 91 [.ref 1, .ref p1, .int x2] (jx_ShC, σ) Q := by
  obtain ⟨d, rfl⟩ : ∃ e, d = e + 1 := ⟨d - 1, by omega⟩
  replace hd : 5 ≤ d := by omega
  refine jx_C rfl rfl ?_
  rcases hp with rfl | rfl | rfl | rfl | rfl | rfl | rfl
  · unfold f_S_goBy at h
    obtain ⟨z1, h2, h⟩ := Option.bind_eq_some_iff.mp h
    obtain ⟨n, hn⟩ := s_S_goBy_16 hd (by decide) N (u6 := none) h hQ
    exact ⟨n + 10, s_J_fill (by omega) rfl h2 (hn)⟩
  · unfold f_S_goBy at h
    obtain ⟨z1, h2, h⟩ := Option.bind_eq_some_iff.mp h
    obtain ⟨n, hn⟩ := s_S_goBy_16 hd (by decide) N (u6 := none) h hQ
    exact ⟨n + 10, s_J_fill (by omega) rfl h2 (hn)⟩
  · unfold f_S_goBy at h
    obtain ⟨z1, h2, h⟩ := Option.bind_eq_some_iff.mp h
    obtain ⟨n, hn⟩ := s_S_goBy_16 hd (by decide) N (u6 := none) h hQ
    exact ⟨n + 10, s_J_fill (by omega) rfl h2 (hn)⟩
  · unfold f_S_goBy at h
    obtain ⟨z1, h2, h⟩ := Option.bind_eq_some_iff.mp h
    obtain ⟨n, hn⟩ := s_S_goBy_16 hd (by decide) N (u6 := none) h hQ
    exact ⟨n + 10, s_J_fill (by omega) rfl h2 (hn)⟩
  · unfold f_S_goBy at h
    obtain ⟨z1, h2, h⟩ := Option.bind_eq_some_iff.mp h
    obtain ⟨n, hn⟩ := s_S_goBy_16 hd (by decide) N (u6 := none) h hQ
    exact ⟨n + 10, s_J_fill (by omega) rfl h2 (hn)⟩
  · unfold f_S_goBy at h
    obtain ⟨z1, h2, h⟩ := Option.bind_eq_some_iff.mp h
    obtain ⟨n, hn⟩ := s_S_goBy_16 hd (by decide) N (u6 := none) h hQ
    exact ⟨n + 10, s_J_fill (by omega) rfl h2 (hn)⟩
  · unfold f_S_goBy at h
    obtain ⟨z1, h2, h⟩ := Option.bind_eq_some_iff.mp h
    obtain ⟨n, hn⟩ := s_S_goBy_16 hd (by decide) N (u6 := none) h hQ
    exact ⟨n + 10, s_J_fill (by omega) rfl h2 (hn)⟩
