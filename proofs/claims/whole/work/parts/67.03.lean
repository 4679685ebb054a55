set_option maxRecDepth 20000 in
theorem s_S_goBy_140 {N d : Nat} {p1 : Nat} {Q : jw_Q} {K16 : Int32 → Int32 → Int32 → Int32 → jw_M → Option (Int32 × jw_M)} (hd : 4 ≤ d) (hp : p1 = 102 ∨ p1 = 106 ∨ p1 = 110 ∨ p1 = 27 ∨ p1 = 75 ∨ p1 = 94 ∨ p1 = 98) (hK16 : ∀ {x2 : Int32} {x3 : Int32} {x4 : Int32} {x5 : Int32} {σ : jw_M} {z : (Int32 × jw_M)} {u6 : Option Value}, K16 x2 x3 x4 x5 σ = some z → Q (some (.int z.1)) (jx_ShC, z.2) → ∃ n, jx_W jx_ShC d (some .int) jc_89 Q n 16 [some (.ref 1), some (.ref p1), some (.int x2), some (.int x3), some (.int x4), some (.int x5), u6] [] σ) {x2 : Int32} {x3 : Int32} {x4 : Int32} {x5 : Int32} {u6 : Option Value} {σ : jw_M} {z : (Int32 × jw_M)} (h : f_S_goBy_140 N p1 K16 x2 x3 x4 x5 σ = some z) (hQ : Q (some (.int z.1)) (jx_ShC, z.2)) : ∃ n, jx_W jx_ShC d (some .int) jc_89 Q n 140 [some (.ref 1), some (.ref p1), some (.int x2), some (.int x3), some (.int x4), some (.int x5), u6] [] σ := by
  unfold f_S_goBy_140 at h
  obtain ⟨n, hn⟩ := hK16 (u6 := u6) h hQ
  exact ⟨n + 2, hn⟩
set_option maxRecDepth 20000 in
theorem s_S_goBy_115 {N d : Nat} {p1 : Nat} {Q : jw_Q} {K16 : Int32 → Int32 → Int32 → Int32 → jw_M → Option (Int32 × jw_M)} (hd : 4 ≤ d) (hp : p1 = 102 ∨ p1 = 106 ∨ p1 = 110 ∨ p1 = 27 ∨ p1 = 75 ∨ p1 = 94 ∨ p1 = 98) (hK16 : ∀ {x2 : Int32} {x3 : Int32} {x4 : Int32} {x5 : Int32} {σ : jw_M} {z : (Int32 × jw_M)} {u6 : Option Value}, K16 x2 x3 x4 x5 σ = some z → Q (some (.int z.1)) (jx_ShC, z.2) → ∃ n, jx_W jx_ShC d (some .int) jc_89 Q n 16 [some (.ref 1), some (.ref p1), some (.int x2), some (.int x3), some (.int x4), some (.int x5), u6] [] σ) {x2 : Int32} {x3 : Int32} {x4 : Int32} {x5 : Int32} {x6 : Int32} {y1 : Int32} {y2 : Int32} {y3 : Int32} {σ : jw_M} {z : (Int32 × jw_M)} (h : f_S_goBy_115 N p1 K16 x2 x3 x4 x5 x6 y1 y2 y3 σ = some z) (hQ : Q (some (.int z.1)) (jx_ShC, z.2)) : ∃ n, jx_W jx_ShC d (some .int) jc_89 Q n 115 [some (.ref 1), some (.ref p1), some (.int x2), some (.int x3), some (.int x4), some (.int x5), some (.int x6)] [.int y3, .int y2, .int y1, .ref p1] σ := by
  rcases hp with rfl | rfl | rfl | rfl | rfl | rfl | rfl
  · unfold f_S_goBy_115 at h
    cases c13 : jx_in x6 8 with
    | false => rw [c13, cond_false] at h; cases h
    | true =>
      rw [c13, cond_true] at h
      obtain ⟨z14, h15, h⟩ := Option.bind_eq_some_iff.mp h
      by_cases c16 : z14.1 = 0
      · rw [if_pos c16] at h
        suffices hh : ∃ n, jx_W jx_ShC d (some .int) jc_89 Q n 140 [some (.ref 1), some (.ref 102), some (.int x2), some (.int x3), some (.int x4), some (.int x5), some (.int x6)] [] z14.2 by
          obtain ⟨n, hn⟩ := hh
          exact ⟨n + 6, And.intro (jx_in_ok c13) (s_P_gain (by omega) (by decide) h15 (And.intro (fun _ => hn) (fun zz => absurd c16 zz)))⟩
        obtain ⟨n, hn⟩ := s_S_goBy_140 hd (by decide) hK16 (u6 := some (.int x6)) h hQ
        exact ⟨n + 0, hn⟩
      · rw [if_neg c16] at h
        suffices hh : ∃ n, jx_W jx_ShC d (some .int) jc_89 Q n 128 [some (.ref 1), some (.ref 102), some (.int x2), some (.int x3), some (.int x4), some (.int x5), some (.int x6)] [] z14.2 by
          obtain ⟨n, hn⟩ := hh
          exact ⟨n + 6, And.intro (jx_in_ok c13) (s_P_gain (by omega) (by decide) h15 (And.intro (fun zz => absurd zz c16) (fun _ => hn)))⟩
        obtain ⟨n, hn⟩ := s_S_goBy_140 hd (by decide) hK16 (u6 := some (.int x6)) h hQ
        exact ⟨n + 7, And.intro (jx_in_ok c13) (hn)⟩
  · unfold f_S_goBy_115 at h
    cases c13 : jx_in x6 8 with
    | false => rw [c13, cond_false] at h; cases h
    | true =>
      rw [c13, cond_true] at h
      obtain ⟨z14, h15, h⟩ := Option.bind_eq_some_iff.mp h
      by_cases c16 : z14.1 = 0
      · rw [if_pos c16] at h
        suffices hh : ∃ n, jx_W jx_ShC d (some .int) jc_89 Q n 140 [some (.ref 1), some (.ref 106), some (.int x2), some (.int x3), some (.int x4), some (.int x5), some (.int x6)] [] z14.2 by
          obtain ⟨n, hn⟩ := hh
          exact ⟨n + 6, And.intro (jx_in_ok c13) (s_P_gain (by omega) (by decide) h15 (And.intro (fun _ => hn) (fun zz => absurd c16 zz)))⟩
        obtain ⟨n, hn⟩ := s_S_goBy_140 hd (by decide) hK16 (u6 := some (.int x6)) h hQ
        exact ⟨n + 0, hn⟩
      · rw [if_neg c16] at h
        suffices hh : ∃ n, jx_W jx_ShC d (some .int) jc_89 Q n 128 [some (.ref 1), some (.ref 106), some (.int x2), some (.int x3), some (.int x4), some (.int x5), some (.int x6)] [] z14.2 by
          obtain ⟨n, hn⟩ := hh
          exact ⟨n + 6, And.intro (jx_in_ok c13) (s_P_gain (by omega) (by decide) h15 (And.intro (fun zz => absurd zz c16) (fun _ => hn)))⟩
        obtain ⟨n, hn⟩ := s_S_goBy_140 hd (by decide) hK16 (u6 := some (.int x6)) h hQ
        exact ⟨n + 7, And.intro (jx_in_ok c13) (hn)⟩
  · unfold f_S_goBy_115 at h
    cases c13 : jx_in x6 8 with
    | false => rw [c13, cond_false] at h; cases h
    | true =>
      rw [c13, cond_true] at h
      obtain ⟨z14, h15, h⟩ := Option.bind_eq_some_iff.mp h
      by_cases c16 : z14.1 = 0
      · rw [if_pos c16] at h
        suffices hh : ∃ n, jx_W jx_ShC d (some .int) jc_89 Q n 140 [some (.ref 1), some (.ref 110), some (.int x2), some (.int x3), some (.int x4), some (.int x5), some (.int x6)] [] z14.2 by
          obtain ⟨n, hn⟩ := hh
          exact ⟨n + 6, And.intro (jx_in_ok c13) (s_P_gain (by omega) (by decide) h15 (And.intro (fun _ => hn) (fun zz => absurd c16 zz)))⟩
        obtain ⟨n, hn⟩ := s_S_goBy_140 hd (by decide) hK16 (u6 := some (.int x6)) h hQ
        exact ⟨n + 0, hn⟩
      · rw [if_neg c16] at h
        suffices hh : ∃ n, jx_W jx_ShC d (some .int) jc_89 Q n 128 [some (.ref 1), some (.ref 110), some (.int x2), some (.int x3), some (.int x4), some (.int x5), some (.int x6)] [] z14.2 by
          obtain ⟨n, hn⟩ := hh
          exact ⟨n + 6, And.intro (jx_in_ok c13) (s_P_gain (by omega) (by decide) h15 (And.intro (fun zz => absurd zz c16) (fun _ => hn)))⟩
        obtain ⟨n, hn⟩ := s_S_goBy_140 hd (by decide) hK16 (u6 := some (.int x6)) h hQ
        exact ⟨n + 7, And.intro (jx_in_ok c13) (hn)⟩
  · unfold f_S_goBy_115 at h
    cases c13 : jx_in x6 8 with
    | false => rw [c13, cond_false] at h; cases h
    | true =>
      rw [c13, cond_true] at h
      obtain ⟨z14, h15, h⟩ := Option.bind_eq_some_iff.mp h
      by_cases c16 : z14.1 = 0
      · rw [if_pos c16] at h
        suffices hh : ∃ n, jx_W jx_ShC d (some .int) jc_89 Q n 140 [some (.ref 1), some (.ref 27), some (.int x2), some (.int x3), some (.int x4), some (.int x5), some (.int x6)] [] z14.2 by
          obtain ⟨n, hn⟩ := hh
          exact ⟨n + 6, And.intro (jx_in_ok c13) (s_P_gain (by omega) (by decide) h15 (And.intro (fun _ => hn) (fun zz => absurd c16 zz)))⟩
        obtain ⟨n, hn⟩ := s_S_goBy_140 hd (by decide) hK16 (u6 := some (.int x6)) h hQ
        exact ⟨n + 0, hn⟩
      · rw [if_neg c16] at h
        suffices hh : ∃ n, jx_W jx_ShC d (some .int) jc_89 Q n 128 [some (.ref 1), some (.ref 27), some (.int x2), some (.int x3), some (.int x4), some (.int x5), some (.int x6)] [] z14.2 by
          obtain ⟨n, hn⟩ := hh
          exact ⟨n + 6, And.intro (jx_in_ok c13) (s_P_gain (by omega) (by decide) h15 (And.intro (fun zz => absurd zz c16) (fun _ => hn)))⟩
        obtain ⟨n, hn⟩ := s_S_goBy_140 hd (by decide) hK16 (u6 := some (.int x6)) h hQ
        exact ⟨n + 7, And.intro (jx_in_ok c13) (hn)⟩
  · unfold f_S_goBy_115 at h
    cases c13 : jx_in x6 8 with
    | false => rw [c13, cond_false] at h; cases h
    | true =>
      rw [c13, cond_true] at h
      obtain ⟨z14, h15, h⟩ := Option.bind_eq_some_iff.mp h
      by_cases c16 : z14.1 = 0
      · rw [if_pos c16] at h
        suffices hh : ∃ n, jx_W jx_ShC d (some .int) jc_89 Q n 140 [some (.ref 1), some (.ref 75), some (.int x2), some (.int x3), some (.int x4), some (.int x5), some (.int x6)] [] z14.2 by
          obtain ⟨n, hn⟩ := hh
          exact ⟨n + 6, And.intro (jx_in_ok c13) (s_P_gain (by omega) (by decide) h15 (And.intro (fun _ => hn) (fun zz => absurd c16 zz)))⟩
        obtain ⟨n, hn⟩ := s_S_goBy_140 hd (by decide) hK16 (u6 := some (.int x6)) h hQ
        exact ⟨n + 0, hn⟩
      · rw [if_neg c16] at h
        suffices hh : ∃ n, jx_W jx_ShC d (some .int) jc_89 Q n 128 [some (.ref 1), some (.ref 75), some (.int x2), some (.int x3), some (.int x4), some (.int x5), some (.int x6)] [] z14.2 by
          obtain ⟨n, hn⟩ := hh
          exact ⟨n + 6, And.intro (jx_in_ok c13) (s_P_gain (by omega) (by decide) h15 (And.intro (fun zz => absurd zz c16) (fun _ => hn)))⟩
        obtain ⟨n, hn⟩ := s_S_goBy_140 hd (by decide) hK16 (u6 := some (.int x6)) h hQ
        exact ⟨n + 7, And.intro (jx_in_ok c13) (hn)⟩
  · unfold f_S_goBy_115 at h
    cases c13 : jx_in x6 8 with
    | false => rw [c13, cond_false] at h; cases h
    | true =>
      rw [c13, cond_true] at h
      obtain ⟨z14, h15, h⟩ := Option.bind_eq_some_iff.mp h
      by_cases c16 : z14.1 = 0
      · rw [if_pos c16] at h
        suffices hh : ∃ n, jx_W jx_ShC d (some .int) jc_89 Q n 140 [some (.ref 1), some (.ref 94), some (.int x2), some (.int x3), some (.int x4), some (.int x5), some (.int x6)] [] z14.2 by
          obtain ⟨n, hn⟩ := hh
          exact ⟨n + 6, And.intro (jx_in_ok c13) (s_P_gain (by omega) (by decide) h15 (And.intro (fun _ => hn) (fun zz => absurd c16 zz)))⟩
        obtain ⟨n, hn⟩ := s_S_goBy_140 hd (by decide) hK16 (u6 := some (.int x6)) h hQ
        exact ⟨n + 0, hn⟩
      · rw [if_neg c16] at h
        suffices hh : ∃ n, jx_W jx_ShC d (some .int) jc_89 Q n 128 [some (.ref 1), some (.ref 94), some (.int x2), some (.int x3), some (.int x4), some (.int x5), some (.int x6)] [] z14.2 by
          obtain ⟨n, hn⟩ := hh
          exact ⟨n + 6, And.intro (jx_in_ok c13) (s_P_gain (by omega) (by decide) h15 (And.intro (fun zz => absurd zz c16) (fun _ => hn)))⟩
        obtain ⟨n, hn⟩ := s_S_goBy_140 hd (by decide) hK16 (u6 := some (.int x6)) h hQ
        exact ⟨n + 7, And.intro (jx_in_ok c13) (hn)⟩
  · unfold f_S_goBy_115 at h
    cases c13 : jx_in x6 8 with
    | false => rw [c13, cond_false] at h; cases h
    | true =>
      rw [c13, cond_true] at h
      obtain ⟨z14, h15, h⟩ := Option.bind_eq_some_iff.mp h
      by_cases c16 : z14.1 = 0
      · rw [if_pos c16] at h
        suffices hh : ∃ n, jx_W jx_ShC d (some .int) jc_89 Q n 140 [some (.ref 1), some (.ref 98), some (.int x2), some (.int x3), some (.int x4), some (.int x5), some (.int x6)] [] z14.2 by
          obtain ⟨n, hn⟩ := hh
          exact ⟨n + 6, And.intro (jx_in_ok c13) (s_P_gain (by omega) (by decide) h15 (And.intro (fun _ => hn) (fun zz => absurd c16 zz)))⟩
        obtain ⟨n, hn⟩ := s_S_goBy_140 hd (by decide) hK16 (u6 := some (.int x6)) h hQ
        exact ⟨n + 0, hn⟩
      · rw [if_neg c16] at h
        suffices hh : ∃ n, jx_W jx_ShC d (some .int) jc_89 Q n 128 [some (.ref 1), some (.ref 98), some (.int x2), some (.int x3), some (.int x4), some (.int x5), some (.int x6)] [] z14.2 by
          obtain ⟨n, hn⟩ := hh
          exact ⟨n + 6, And.intro (jx_in_ok c13) (s_P_gain (by omega) (by decide) h15 (And.intro (fun zz => absurd zz c16) (fun _ => hn)))⟩
        obtain ⟨n, hn⟩ := s_S_goBy_140 hd (by decide) hK16 (u6 := some (.int x6)) h hQ
        exact ⟨n + 7, And.intro (jx_in_ok c13) (hn)⟩
set_option maxRecDepth 20000 in
theorem s_S_goBy_112 {N d : Nat} {p1 : Nat} {Q : jw_Q} {K16 : Int32 → Int32 → Int32 → Int32 → jw_M → Option (Int32 × jw_M)} (hd : 4 ≤ d) (hp : p1 = 102 ∨ p1 = 106 ∨ p1 = 110 ∨ p1 = 27 ∨ p1 = 75 ∨ p1 = 94 ∨ p1 = 98) (hK16 : ∀ {x2 : Int32} {x3 : Int32} {x4 : Int32} {x5 : Int32} {σ : jw_M} {z : (Int32 × jw_M)} {u6 : Option Value}, K16 x2 x3 x4 x5 σ = some z → Q (some (.int z.1)) (jx_ShC, z.2) → ∃ n, jx_W jx_ShC d (some .int) jc_89 Q n 16 [some (.ref 1), some (.ref p1), some (.int x2), some (.int x3), some (.int x4), some (.int x5), u6] [] σ) {x2 : Int32} {x3 : Int32} {x4 : Int32} {x5 : Int32} {x6 : Int32} {y1 : Int32} {y2 : Int32} {r_3 : Nat} {y4 : Int32} {y5 : Int32} {σ : jw_M} {z : (Int32 × jw_M)} (hr_3 : r_3 = 32 ∨ r_3 = 33 ∨ r_3 = 34 ∨ r_3 = 35 ∨ r_3 = 36 ∨ r_3 = 37) (h : f_S_goBy_112 N p1 K16 x2 x3 x4 x5 x6 y1 y2 r_3 y4 y5 σ = some z) (hQ : Q (some (.int z.1)) (jx_ShC, z.2)) : ∃ n, jx_W jx_ShC d (some .int) jc_89 Q n 112 [some (.ref 1), some (.ref p1), some (.int x2), some (.int x3), some (.int x4), some (.int x5), some (.int x6)] [.int y5, .int y4, .ref r_3, .int y2, .int y1, .ref p1] σ := by
  rcases hr_3 with rfl | rfl | rfl | rfl | rfl | rfl
  · unfold f_S_goBy_112 at h
    obtain ⟨z11, h12, h⟩ := Option.bind_eq_some_iff.mp h
    rw [if_pos rfl] at h12
    obtain ⟨n, hn⟩ := s_S_goBy_115 hd hp hK16 h hQ
    exact ⟨n + 1, s_Z_Shade_paceIn (by omega) (by decide) h12 (hn)⟩
  · unfold f_S_goBy_112 at h
    obtain ⟨z11, h12, h⟩ := Option.bind_eq_some_iff.mp h
    rw [if_neg (by decide), if_pos rfl] at h12
    obtain ⟨n, hn⟩ := s_S_goBy_115 hd hp hK16 h hQ
    exact ⟨n + 1, s_Z_Joined_paceIn (by omega) h12 (hn)⟩
  · unfold f_S_goBy_112 at h
    obtain ⟨z11, h12, h⟩ := Option.bind_eq_some_iff.mp h
    rw [if_neg (by decide), if_neg (by decide), if_pos rfl] at h12
    obtain ⟨n, hn⟩ := s_S_goBy_115 hd hp hK16 h hQ
    exact ⟨n + 1, s_Z_Gifted_paceIn (by omega) (by decide) h12 (hn)⟩
  · unfold f_S_goBy_112 at h
    obtain ⟨z11, h12, h⟩ := Option.bind_eq_some_iff.mp h
    rw [if_neg (by decide), if_neg (by decide), if_neg (by decide), if_pos rfl] at h12
    obtain ⟨n, hn⟩ := s_S_goBy_115 hd hp hK16 h hQ
    exact ⟨n + 1, s_Z_Coloured_paceIn (by omega) h12 (hn)⟩
  · unfold f_S_goBy_112 at h
    obtain ⟨z11, h12, h⟩ := Option.bind_eq_some_iff.mp h
    rw [if_neg (by decide), if_neg (by decide), if_neg (by decide), if_neg (by decide), if_pos rfl] at h12
    obtain ⟨n, hn⟩ := s_S_goBy_115 hd hp hK16 h hQ
    exact ⟨n + 1, s_Z_Slow_paceIn (by omega) (by decide) h12 (hn)⟩
  · unfold f_S_goBy_112 at h
    obtain ⟨z11, h12, h⟩ := Option.bind_eq_some_iff.mp h
    rw [if_neg (by decide), if_neg (by decide), if_neg (by decide), if_neg (by decide), if_neg (by decide), if_pos rfl] at h12
    obtain ⟨n, hn⟩ := s_S_goBy_115 hd hp hK16 h hQ
    exact ⟨n + 1, s_Z_Borrowed_paceIn (by omega) h12 (hn)⟩
set_option maxRecDepth 20000 in
theorem s_S_goBy_90 {N d : Nat} {p1 : Nat} {Q : jw_Q} {K16 : Int32 → Int32 → Int32 → Int32 → jw_M → Option (Int32 × jw_M)} (hd : 4 ≤ d) (hp : p1 = 102 ∨ p1 = 106 ∨ p1 = 110 ∨ p1 = 27 ∨ p1 = 75 ∨ p1 = 94 ∨ p1 = 98) (hK16 : ∀ {x2 : Int32} {x3 : Int32} {x4 : Int32} {x5 : Int32} {σ : jw_M} {z : (Int32 × jw_M)} {u6 : Option Value}, K16 x2 x3 x4 x5 σ = some z → Q (some (.int z.1)) (jx_ShC, z.2) → ∃ n, jx_W jx_ShC d (some .int) jc_89 Q n 16 [some (.ref 1), some (.ref p1), some (.int x2), some (.int x3), some (.int x4), some (.int x5), u6] [] σ) {x2 : Int32} {x3 : Int32} {x4 : Int32} {x5 : Int32} {x6 : Int32} {σ : jw_M} {z : (Int32 × jw_M)} (h : f_S_goBy_90 N p1 K16 x2 x3 x4 x5 x6 σ = some z) (hQ : Q (some (.int z.1)) (jx_ShC, z.2)) : ∃ n, jx_W jx_ShC d (some .int) jc_89 Q n 90 [some (.ref 1), some (.ref p1), some (.int x2), some (.int x3), some (.int x4), some (.int x5), some (.int x6)] [] σ := by
  rcases hp with rfl | rfl | rfl | rfl | rfl | rfl | rfl
  · unfold f_S_goBy_90 at h
    obtain ⟨z8, h9, h⟩ := Option.bind_eq_some_iff.mp h
    cases c10 : jx_in x5 6 with
    | false => rw [c10, cond_false] at h; cases h
    | true =>
      rw [c10, cond_true] at h
      obtain ⟨n, hn⟩ := s_S_goBy_112 hd (by decide) hK16 (r_S_thing h9) h hQ
      exact ⟨n + 12, s_S_thing (by omega) h9 (And.intro (jx_in_ok c10) (hn))⟩
  · unfold f_S_goBy_90 at h
    obtain ⟨z8, h9, h⟩ := Option.bind_eq_some_iff.mp h
    cases c10 : jx_in x5 6 with
    | false => rw [c10, cond_false] at h; cases h
    | true =>
      rw [c10, cond_true] at h
      obtain ⟨n, hn⟩ := s_S_goBy_112 hd (by decide) hK16 (r_S_thing h9) h hQ
      exact ⟨n + 12, s_S_thing (by omega) h9 (And.intro (jx_in_ok c10) (hn))⟩
  · unfold f_S_goBy_90 at h
    obtain ⟨z8, h9, h⟩ := Option.bind_eq_some_iff.mp h
    cases c10 : jx_in x5 6 with
    | false => rw [c10, cond_false] at h; cases h
    | true =>
      rw [c10, cond_true] at h
      obtain ⟨n, hn⟩ := s_S_goBy_112 hd (by decide) hK16 (r_S_thing h9) h hQ
      exact ⟨n + 12, s_S_thing (by omega) h9 (And.intro (jx_in_ok c10) (hn))⟩
  · unfold f_S_goBy_90 at h
    obtain ⟨z8, h9, h⟩ := Option.bind_eq_some_iff.mp h
    cases c10 : jx_in x5 6 with
    | false => rw [c10, cond_false] at h; cases h
    | true =>
      rw [c10, cond_true] at h
      obtain ⟨n, hn⟩ := s_S_goBy_112 hd (by decide) hK16 (r_S_thing h9) h hQ
      exact ⟨n + 12, s_S_thing (by omega) h9 (And.intro (jx_in_ok c10) (hn))⟩
  · unfold f_S_goBy_90 at h
    obtain ⟨z8, h9, h⟩ := Option.bind_eq_some_iff.mp h
    cases c10 : jx_in x5 6 with
    | false => rw [c10, cond_false] at h; cases h
    | true =>
      rw [c10, cond_true] at h
      obtain ⟨n, hn⟩ := s_S_goBy_112 hd (by decide) hK16 (r_S_thing h9) h hQ
      exact ⟨n + 12, s_S_thing (by omega) h9 (And.intro (jx_in_ok c10) (hn))⟩
  · unfold f_S_goBy_90 at h
    obtain ⟨z8, h9, h⟩ := Option.bind_eq_some_iff.mp h
    cases c10 : jx_in x5 6 with
    | false => rw [c10, cond_false] at h; cases h
    | true =>
      rw [c10, cond_true] at h
      obtain ⟨n, hn⟩ := s_S_goBy_112 hd (by decide) hK16 (r_S_thing h9) h hQ
      exact ⟨n + 12, s_S_thing (by omega) h9 (And.intro (jx_in_ok c10) (hn))⟩
  · unfold f_S_goBy_90 at h
    obtain ⟨z8, h9, h⟩ := Option.bind_eq_some_iff.mp h
    cases c10 : jx_in x5 6 with
    | false => rw [c10, cond_false] at h; cases h
    | true =>
      rw [c10, cond_true] at h
      obtain ⟨n, hn⟩ := s_S_goBy_112 hd (by decide) hK16 (r_S_thing h9) h hQ
      exact ⟨n + 12, s_S_thing (by omega) h9 (And.intro (jx_in_ok c10) (hn))⟩
set_option maxRecDepth 20000 in
theorem s_S_goBy_46 {N d : Nat} {p1 : Nat} {Q : jw_Q} {K16 : Int32 → Int32 → Int32 → Int32 → jw_M → Option (Int32 × jw_M)} (hd : 4 ≤ d) (hp : p1 = 102 ∨ p1 = 106 ∨ p1 = 110 ∨ p1 = 27 ∨ p1 = 75 ∨ p1 = 94 ∨ p1 = 98) (hK16 : ∀ {x2 : Int32} {x3 : Int32} {x4 : Int32} {x5 : Int32} {σ : jw_M} {z : (Int32 × jw_M)} {u6 : Option Value}, K16 x2 x3 x4 x5 σ = some z → Q (some (.int z.1)) (jx_ShC, z.2) → ∃ n, jx_W jx_ShC d (some .int) jc_89 Q n 16 [some (.ref 1), some (.ref p1), some (.int x2), some (.int x3), some (.int x4), some (.int x5), u6] [] σ) {x2 : Int32} {x3 : Int32} {x4 : Int32} {x5 : Int32} {y0 : Int32} {u6 : Option Value} {σ : jw_M} {z : (Int32 × jw_M)} (h : f_S_goBy_46 N p1 K16 x2 x3 x4 x5 y0 σ = some z) (hQ : Q (some (.int z.1)) (jx_ShC, z.2)) : ∃ n, jx_W jx_ShC d (some .int) jc_89 Q n 46 [some (.ref 1), some (.ref p1), some (.int x2), some (.int x3), some (.int x4), some (.int x5), u6] [.int y0] σ := by
  rcases hp with rfl | rfl | rfl | rfl | rfl | rfl | rfl
  · unfold f_S_goBy_46 at h
    by_cases c5 : y0 = 8
    · rw [if_pos c5] at h
      suffices hh : ∃ n, jx_W jx_ShC d (some .int) jc_89 Q n 140 [some (.ref 1), some (.ref 102), some (.int x2), some (.int x3), some (.int x4), some (.int x5), some (.int y0)] [] σ by
        obtain ⟨n, hn⟩ := hh
        exact ⟨n + 4, And.intro (fun _ => hn) (fun zz => absurd c5 zz)⟩
      obtain ⟨n, hn⟩ := s_S_goBy_140 hd (by decide) hK16 (u6 := some (.int y0)) h hQ
      exact ⟨n + 0, hn⟩
    · rw [if_neg c5] at h
      suffices hh : ∃ n, jx_W jx_ShC d (some .int) jc_89 Q n 55 [some (.ref 1), some (.ref 102), some (.int x2), some (.int x3), some (.int x4), some (.int x5), some (.int y0)] [] σ by
        obtain ⟨n, hn⟩ := hh
        exact ⟨n + 4, And.intro (fun zz => absurd zz c5) (fun _ => hn)⟩
      cases c6 : jx_in y0 8 with
      | false => rw [c6, cond_false] at h; cases h
      | true =>
        rw [c6, cond_true] at h
        by_cases c7 : ((jx_w σ (102 + 3) (y0).toNatClampNeg ((σ.1 (102 + 3) (y0).toNatClampNeg) + 1)).1 (102 + 3) (y0).toNatClampNeg) < ((jx_w σ (102 + 3) (y0).toNatClampNeg ((σ.1 (102 + 3) (y0).toNatClampNeg) + 1)).1 10 (y0).toNatClampNeg)
        · rw [if_pos c7] at h
          suffices hh : ∃ n, jx_W jx_ShC d (some .int) jc_89 Q n 90 [some (.ref 1), some (.ref 102), some (.int x2), some (.int x3), some (.int x4), some (.int x5), some (.int y0)] [] (jx_w σ (102 + 3) (y0).toNatClampNeg ((σ.1 (102 + 3) (y0).toNatClampNeg) + 1)) by
            obtain ⟨n, hn⟩ := hh
            exact ⟨n + 17, And.intro (jx_in_ok c6) (And.intro (jx_in_ok c6) (And.intro (jx_in_ok c6) (And.intro (jx_in_ok c6) (And.intro (fun _ => hn) (fun zz => absurd c7 zz)))))⟩
          obtain ⟨n, hn⟩ := s_S_goBy_90 hd (by decide) hK16 h hQ
          exact ⟨n + 0, hn⟩
        · rw [if_neg c7] at h
          suffices hh : ∃ n, jx_W jx_ShC d (some .int) jc_89 Q n 83 [some (.ref 1), some (.ref 102), some (.int x2), some (.int x3), some (.int x4), some (.int x5), some (.int y0)] [] (jx_w σ (102 + 3) (y0).toNatClampNeg ((σ.1 (102 + 3) (y0).toNatClampNeg) + 1)) by
            obtain ⟨n, hn⟩ := hh
            exact ⟨n + 17, And.intro (jx_in_ok c6) (And.intro (jx_in_ok c6) (And.intro (jx_in_ok c6) (And.intro (jx_in_ok c6) (And.intro (fun zz => absurd zz c7) (fun _ => hn)))))⟩
          obtain ⟨n, hn⟩ := s_S_goBy_90 hd (by decide) hK16 h hQ
          exact ⟨n + 6, hn⟩
  · unfold f_S_goBy_46 at h
    by_cases c5 : y0 = 8
    · rw [if_pos c5] at h
      suffices hh : ∃ n, jx_W jx_ShC d (some .int) jc_89 Q n 140 [some (.ref 1), some (.ref 106), some (.int x2), some (.int x3), some (.int x4), some (.int x5), some (.int y0)] [] σ by
        obtain ⟨n, hn⟩ := hh
        exact ⟨n + 4, And.intro (fun _ => hn) (fun zz => absurd c5 zz)⟩
      obtain ⟨n, hn⟩ := s_S_goBy_140 hd (by decide) hK16 (u6 := some (.int y0)) h hQ
      exact ⟨n + 0, hn⟩
    · rw [if_neg c5] at h
      suffices hh : ∃ n, jx_W jx_ShC d (some .int) jc_89 Q n 55 [some (.ref 1), some (.ref 106), some (.int x2), some (.int x3), some (.int x4), some (.int x5), some (.int y0)] [] σ by
        obtain ⟨n, hn⟩ := hh
        exact ⟨n + 4, And.intro (fun zz => absurd zz c5) (fun _ => hn)⟩
      cases c6 : jx_in y0 8 with
      | false => rw [c6, cond_false] at h; cases h
      | true =>
        rw [c6, cond_true] at h
        by_cases c7 : ((jx_w σ (106 + 3) (y0).toNatClampNeg ((σ.1 (106 + 3) (y0).toNatClampNeg) + 1)).1 (106 + 3) (y0).toNatClampNeg) < ((jx_w σ (106 + 3) (y0).toNatClampNeg ((σ.1 (106 + 3) (y0).toNatClampNeg) + 1)).1 10 (y0).toNatClampNeg)
        · rw [if_pos c7] at h
          suffices hh : ∃ n, jx_W jx_ShC d (some .int) jc_89 Q n 90 [some (.ref 1), some (.ref 106), some (.int x2), some (.int x3), some (.int x4), some (.int x5), some (.int y0)] [] (jx_w σ (106 + 3) (y0).toNatClampNeg ((σ.1 (106 + 3) (y0).toNatClampNeg) + 1)) by
            obtain ⟨n, hn⟩ := hh
            exact ⟨n + 17, And.intro (jx_in_ok c6) (And.intro (jx_in_ok c6) (And.intro (jx_in_ok c6) (And.intro (jx_in_ok c6) (And.intro (fun _ => hn) (fun zz => absurd c7 zz)))))⟩
          obtain ⟨n, hn⟩ := s_S_goBy_90 hd (by decide) hK16 h hQ
          exact ⟨n + 0, hn⟩
        · rw [if_neg c7] at h
          suffices hh : ∃ n, jx_W jx_ShC d (some .int) jc_89 Q n 83 [some (.ref 1), some (.ref 106), some (.int x2), some (.int x3), some (.int x4), some (.int x5), some (.int y0)] [] (jx_w σ (106 + 3) (y0).toNatClampNeg ((σ.1 (106 + 3) (y0).toNatClampNeg) + 1)) by
            obtain ⟨n, hn⟩ := hh
            exact ⟨n + 17, And.intro (jx_in_ok c6) (And.intro (jx_in_ok c6) (And.intro (jx_in_ok c6) (And.intro (jx_in_ok c6) (And.intro (fun zz => absurd zz c7) (fun _ => hn)))))⟩
          obtain ⟨n, hn⟩ := s_S_goBy_90 hd (by decide) hK16 h hQ
          exact ⟨n + 6, hn⟩
  · unfold f_S_goBy_46 at h
    by_cases c5 : y0 = 8
    · rw [if_pos c5] at h
      suffices hh : ∃ n, jx_W jx_ShC d (some .int) jc_89 Q n 140 [some (.ref 1), some (.ref 110), some (.int x2), some (.int x3), some (.int x4), some (.int x5), some (.int y0)] [] σ by
        obtain ⟨n, hn⟩ := hh
        exact ⟨n + 4, And.intro (fun _ => hn) (fun zz => absurd c5 zz)⟩
      obtain ⟨n, hn⟩ := s_S_goBy_140 hd (by decide) hK16 (u6 := some (.int y0)) h hQ
      exact ⟨n + 0, hn⟩
    · rw [if_neg c5] at h
      suffices hh : ∃ n, jx_W jx_ShC d (some .int) jc_89 Q n 55 [some (.ref 1), some (.ref 110), some (.int x2), some (.int x3), some (.int x4), some (.int x5), some (.int y0)] [] σ by
        obtain ⟨n, hn⟩ := hh
        exact ⟨n + 4, And.intro (fun zz => absurd zz c5) (fun _ => hn)⟩
      cases c6 : jx_in y0 8 with
      | false => rw [c6, cond_false] at h; cases h
      | true =>
        rw [c6, cond_true] at h
        by_cases c7 : ((jx_w σ (110 + 3) (y0).toNatClampNeg ((σ.1 (110 + 3) (y0).toNatClampNeg) + 1)).1 (110 + 3) (y0).toNatClampNeg) < ((jx_w σ (110 + 3) (y0).toNatClampNeg ((σ.1 (110 + 3) (y0).toNatClampNeg) + 1)).1 10 (y0).toNatClampNeg)
        · rw [if_pos c7] at h
          suffices hh : ∃ n, jx_W jx_ShC d (some .int) jc_89 Q n 90 [some (.ref 1), some (.ref 110), some (.int x2), some (.int x3), some (.int x4), some (.int x5), some (.int y0)] [] (jx_w σ (110 + 3) (y0).toNatClampNeg ((σ.1 (110 + 3) (y0).toNatClampNeg) + 1)) by
            obtain ⟨n, hn⟩ := hh
            exact ⟨n + 17, And.intro (jx_in_ok c6) (And.intro (jx_in_ok c6) (And.intro (jx_in_ok c6) (And.intro (jx_in_ok c6) (And.intro (fun _ => hn) (fun zz => absurd c7 zz)))))⟩
          obtain ⟨n, hn⟩ := s_S_goBy_90 hd (by decide) hK16 h hQ
          exact ⟨n + 0, hn⟩
        · rw [if_neg c7] at h
          suffices hh : ∃ n, jx_W jx_ShC d (some .int) jc_89 Q n 83 [some (.ref 1), some (.ref 110), some (.int x2), some (.int x3), some (.int x4), some (.int x5), some (.int y0)] [] (jx_w σ (110 + 3) (y0).toNatClampNeg ((σ.1 (110 + 3) (y0).toNatClampNeg) + 1)) by
            obtain ⟨n, hn⟩ := hh
            exact ⟨n + 17, And.intro (jx_in_ok c6) (And.intro (jx_in_ok c6) (And.intro (jx_in_ok c6) (And.intro (jx_in_ok c6) (And.intro (fun zz => absurd zz c7) (fun _ => hn)))))⟩
          obtain ⟨n, hn⟩ := s_S_goBy_90 hd (by decide) hK16 h hQ
          exact ⟨n + 6, hn⟩
  · unfold f_S_goBy_46 at h
    by_cases c5 : y0 = 8
    · rw [if_pos c5] at h
      suffices hh : ∃ n, jx_W jx_ShC d (some .int) jc_89 Q n 140 [some (.ref 1), some (.ref 27), some (.int x2), some (.int x3), some (.int x4), some (.int x5), some (.int y0)] [] σ by
        obtain ⟨n, hn⟩ := hh
        exact ⟨n + 4, And.intro (fun _ => hn) (fun zz => absurd c5 zz)⟩
      obtain ⟨n, hn⟩ := s_S_goBy_140 hd (by decide) hK16 (u6 := some (.int y0)) h hQ
      exact ⟨n + 0, hn⟩
    · rw [if_neg c5] at h
      suffices hh : ∃ n, jx_W jx_ShC d (some .int) jc_89 Q n 55 [some (.ref 1), some (.ref 27), some (.int x2), some (.int x3), some (.int x4), some (.int x5), some (.int y0)] [] σ by
        obtain ⟨n, hn⟩ := hh
        exact ⟨n + 4, And.intro (fun zz => absurd zz c5) (fun _ => hn)⟩
      cases c6 : jx_in y0 8 with
      | false => rw [c6, cond_false] at h; cases h
      | true =>
        rw [c6, cond_true] at h
        by_cases c7 : ((jx_w σ (27 + 3) (y0).toNatClampNeg ((σ.1 (27 + 3) (y0).toNatClampNeg) + 1)).1 (27 + 3) (y0).toNatClampNeg) < ((jx_w σ (27 + 3) (y0).toNatClampNeg ((σ.1 (27 + 3) (y0).toNatClampNeg) + 1)).1 10 (y0).toNatClampNeg)
        · rw [if_pos c7] at h
          suffices hh : ∃ n, jx_W jx_ShC d (some .int) jc_89 Q n 90 [some (.ref 1), some (.ref 27), some (.int x2), some (.int x3), some (.int x4), some (.int x5), some (.int y0)] [] (jx_w σ (27 + 3) (y0).toNatClampNeg ((σ.1 (27 + 3) (y0).toNatClampNeg) + 1)) by
            obtain ⟨n, hn⟩ := hh
            exact ⟨n + 17, And.intro (jx_in_ok c6) (And.intro (jx_in_ok c6) (And.intro (jx_in_ok c6) (And.intro (jx_in_ok c6) (And.intro (fun _ => hn) (fun zz => absurd c7 zz)))))⟩
          obtain ⟨n, hn⟩ := s_S_goBy_90 hd (by decide) hK16 h hQ
          exact ⟨n + 0, hn⟩
        · rw [if_neg c7] at h
          suffices hh : ∃ n, jx_W jx_ShC d (some .int) jc_89 Q n 83 [some (.ref 1), some (.ref 27), some (.int x2), some (.int x3), some (.int x4), some (.int x5), some (.int y0)] [] (jx_w σ (27 + 3) (y0).toNatClampNeg ((σ.1 (27 + 3) (y0).toNatClampNeg) + 1)) by
            obtain ⟨n, hn⟩ := hh
            exact ⟨n + 17, And.intro (jx_in_ok c6) (And.intro (jx_in_ok c6) (And.intro (jx_in_ok c6) (And.intro (jx_in_ok c6) (And.intro (fun zz => absurd zz c7) (fun _ => hn)))))⟩
          obtain ⟨n, hn⟩ := s_S_goBy_90 hd (by decide) hK16 h hQ
          exact ⟨n + 6, hn⟩
  · unfold f_S_goBy_46 at h
    by_cases c5 : y0 = 8
    · rw [if_pos c5] at h
      suffices hh : ∃ n, jx_W jx_ShC d (some .int) jc_89 Q n 140 [some (.ref 1), some (.ref 75), some (.int x2), some (.int x3), some (.int x4), some (.int x5), some (.int y0)] [] σ by
        obtain ⟨n, hn⟩ := hh
        exact ⟨n + 4, And.intro (fun _ => hn) (fun zz => absurd c5 zz)⟩
      obtain ⟨n, hn⟩ := s_S_goBy_140 hd (by decide) hK16 (u6 := some (.int y0)) h hQ
      exact ⟨n + 0, hn⟩
    · rw [if_neg c5] at h
      suffices hh : ∃ n, jx_W jx_ShC d (some .int) jc_89 Q n 55 [some (.ref 1), some (.ref 75), some (.int x2), some (.int x3), some (.int x4), some (.int x5), some (.int y0)] [] σ by
        obtain ⟨n, hn⟩ := hh
        exact ⟨n + 4, And.intro (fun zz => absurd zz c5) (fun _ => hn)⟩
      cases c6 : jx_in y0 8 with
      | false => rw [c6, cond_false] at h; cases h
      | true =>
        rw [c6, cond_true] at h
        by_cases c7 : ((jx_w σ (75 + 3) (y0).toNatClampNeg ((σ.1 (75 + 3) (y0).toNatClampNeg) + 1)).1 (75 + 3) (y0).toNatClampNeg) < ((jx_w σ (75 + 3) (y0).toNatClampNeg ((σ.1 (75 + 3) (y0).toNatClampNeg) + 1)).1 10 (y0).toNatClampNeg)
        · rw [if_pos c7] at h
          suffices hh : ∃ n, jx_W jx_ShC d (some .int) jc_89 Q n 90 [some (.ref 1), some (.ref 75), some (.int x2), some (.int x3), some (.int x4), some (.int x5), some (.int y0)] [] (jx_w σ (75 + 3) (y0).toNatClampNeg ((σ.1 (75 + 3) (y0).toNatClampNeg) + 1)) by
            obtain ⟨n, hn⟩ := hh
            exact ⟨n + 17, And.intro (jx_in_ok c6) (And.intro (jx_in_ok c6) (And.intro (jx_in_ok c6) (And.intro (jx_in_ok c6) (And.intro (fun _ => hn) (fun zz => absurd c7 zz)))))⟩
          obtain ⟨n, hn⟩ := s_S_goBy_90 hd (by decide) hK16 h hQ
          exact ⟨n + 0, hn⟩
        · rw [if_neg c7] at h
          suffices hh : ∃ n, jx_W jx_ShC d (some .int) jc_89 Q n 83 [some (.ref 1), some (.ref 75), some (.int x2), some (.int x3), some (.int x4), some (.int x5), some (.int y0)] [] (jx_w σ (75 + 3) (y0).toNatClampNeg ((σ.1 (75 + 3) (y0).toNatClampNeg) + 1)) by
            obtain ⟨n, hn⟩ := hh
            exact ⟨n + 17, And.intro (jx_in_ok c6) (And.intro (jx_in_ok c6) (And.intro (jx_in_ok c6) (And.intro (jx_in_ok c6) (And.intro (fun zz => absurd zz c7) (fun _ => hn)))))⟩
          obtain ⟨n, hn⟩ := s_S_goBy_90 hd (by decide) hK16 h hQ
          exact ⟨n + 6, hn⟩
  · unfold f_S_goBy_46 at h
    by_cases c5 : y0 = 8
    · rw [if_pos c5] at h
      suffices hh : ∃ n, jx_W jx_ShC d (some .int) jc_89 Q n 140 [some (.ref 1), some (.ref 94), some (.int x2), some (.int x3), some (.int x4), some (.int x5), some (.int y0)] [] σ by
        obtain ⟨n, hn⟩ := hh
        exact ⟨n + 4, And.intro (fun _ => hn) (fun zz => absurd c5 zz)⟩
      obtain ⟨n, hn⟩ := s_S_goBy_140 hd (by decide) hK16 (u6 := some (.int y0)) h hQ
      exact ⟨n + 0, hn⟩
    · rw [if_neg c5] at h
      suffices hh : ∃ n, jx_W jx_ShC d (some .int) jc_89 Q n 55 [some (.ref 1), some (.ref 94), some (.int x2), some (.int x3), some (.int x4), some (.int x5), some (.int y0)] [] σ by
        obtain ⟨n, hn⟩ := hh
        exact ⟨n + 4, And.intro (fun zz => absurd zz c5) (fun _ => hn)⟩
      cases c6 : jx_in y0 8 with
      | false => rw [c6, cond_false] at h; cases h
      | true =>
        rw [c6, cond_true] at h
        by_cases c7 : ((jx_w σ (94 + 3) (y0).toNatClampNeg ((σ.1 (94 + 3) (y0).toNatClampNeg) + 1)).1 (94 + 3) (y0).toNatClampNeg) < ((jx_w σ (94 + 3) (y0).toNatClampNeg ((σ.1 (94 + 3) (y0).toNatClampNeg) + 1)).1 10 (y0).toNatClampNeg)
        · rw [if_pos c7] at h
          suffices hh : ∃ n, jx_W jx_ShC d (some .int) jc_89 Q n 90 [some (.ref 1), some (.ref 94), some (.int x2), some (.int x3), some (.int x4), some (.int x5), some (.int y0)] [] (jx_w σ (94 + 3) (y0).toNatClampNeg ((σ.1 (94 + 3) (y0).toNatClampNeg) + 1)) by
            obtain ⟨n, hn⟩ := hh
            exact ⟨n + 17, And.intro (jx_in_ok c6) (And.intro (jx_in_ok c6) (And.intro (jx_in_ok c6) (And.intro (jx_in_ok c6) (And.intro (fun _ => hn) (fun zz => absurd c7 zz)))))⟩
          obtain ⟨n, hn⟩ := s_S_goBy_90 hd (by decide) hK16 h hQ
          exact ⟨n + 0, hn⟩
        · rw [if_neg c7] at h
          suffices hh : ∃ n, jx_W jx_ShC d (some .int) jc_89 Q n 83 [some (.ref 1), some (.ref 94), some (.int x2), some (.int x3), some (.int x4), some (.int x5), some (.int y0)] [] (jx_w σ (94 + 3) (y0).toNatClampNeg ((σ.1 (94 + 3) (y0).toNatClampNeg) + 1)) by
            obtain ⟨n, hn⟩ := hh
            exact ⟨n + 17, And.intro (jx_in_ok c6) (And.intro (jx_in_ok c6) (And.intro (jx_in_ok c6) (And.intro (jx_in_ok c6) (And.intro (fun zz => absurd zz c7) (fun _ => hn)))))⟩
          obtain ⟨n, hn⟩ := s_S_goBy_90 hd (by decide) hK16 h hQ
          exact ⟨n + 6, hn⟩
  · unfold f_S_goBy_46 at h
    by_cases c5 : y0 = 8
    · rw [if_pos c5] at h
      suffices hh : ∃ n, jx_W jx_ShC d (some .int) jc_89 Q n 140 [some (.ref 1), some (.ref 98), some (.int x2), some (.int x3), some (.int x4), some (.int x5), some (.int y0)] [] σ by
        obtain ⟨n, hn⟩ := hh
        exact ⟨n + 4, And.intro (fun _ => hn) (fun zz => absurd c5 zz)⟩
      obtain ⟨n, hn⟩ := s_S_goBy_140 hd (by decide) hK16 (u6 := some (.int y0)) h hQ
      exact ⟨n + 0, hn⟩
    · rw [if_neg c5] at h
      suffices hh : ∃ n, jx_W jx_ShC d (some .int) jc_89 Q n 55 [some (.ref 1), some (.ref 98), some (.int x2), some (.int x3), some (.int x4), some (.int x5), some (.int y0)] [] σ by
        obtain ⟨n, hn⟩ := hh
        exact ⟨n + 4, And.intro (fun zz => absurd zz c5) (fun _ => hn)⟩
      cases c6 : jx_in y0 8 with
      | false => rw [c6, cond_false] at h; cases h
      | true =>
        rw [c6, cond_true] at h
        by_cases c7 : ((jx_w σ (98 + 3) (y0).toNatClampNeg ((σ.1 (98 + 3) (y0).toNatClampNeg) + 1)).1 (98 + 3) (y0).toNatClampNeg) < ((jx_w σ (98 + 3) (y0).toNatClampNeg ((σ.1 (98 + 3) (y0).toNatClampNeg) + 1)).1 10 (y0).toNatClampNeg)
        · rw [if_pos c7] at h
          suffices hh : ∃ n, jx_W jx_ShC d (some .int) jc_89 Q n 90 [some (.ref 1), some (.ref 98), some (.int x2), some (.int x3), some (.int x4), some (.int x5), some (.int y0)] [] (jx_w σ (98 + 3) (y0).toNatClampNeg ((σ.1 (98 + 3) (y0).toNatClampNeg) + 1)) by
            obtain ⟨n, hn⟩ := hh
            exact ⟨n + 17, And.intro (jx_in_ok c6) (And.intro (jx_in_ok c6) (And.intro (jx_in_ok c6) (And.intro (jx_in_ok c6) (And.intro (fun _ => hn) (fun zz => absurd c7 zz)))))⟩
          obtain ⟨n, hn⟩ := s_S_goBy_90 hd (by decide) hK16 h hQ
          exact ⟨n + 0, hn⟩
        · rw [if_neg c7] at h
          suffices hh : ∃ n, jx_W jx_ShC d (some .int) jc_89 Q n 83 [some (.ref 1), some (.ref 98), some (.int x2), some (.int x3), some (.int x4), some (.int x5), some (.int y0)] [] (jx_w σ (98 + 3) (y0).toNatClampNeg ((σ.1 (98 + 3) (y0).toNatClampNeg) + 1)) by
            obtain ⟨n, hn⟩ := hh
            exact ⟨n + 17, And.intro (jx_in_ok c6) (And.intro (jx_in_ok c6) (And.intro (jx_in_ok c6) (And.intro (jx_in_ok c6) (And.intro (fun zz => absurd zz c7) (fun _ => hn)))))⟩
          obtain ⟨n, hn⟩ := s_S_goBy_90 hd (by decide) hK16 h hQ
          exact ⟨n + 6, hn⟩
set_option maxRecDepth 20000 in
theorem s_S_goBy_16 {N d : Nat} {p1 : Nat} {Q : jw_Q} (hd : 4 ≤ d) (hp : p1 = 102 ∨ p1 = 106 ∨ p1 = 110 ∨ p1 = 27 ∨ p1 = 75 ∨ p1 = 94 ∨ p1 = 98) : ∀ (k : Nat) {x2 : Int32} {x3 : Int32} {x4 : Int32} {x5 : Int32} {u6 : Option Value} {σ : jw_M} {z : (Int32 × jw_M)}, f_S_goBy_16 N p1 k x2 x3 x4 x5 σ = some z → Q (some (.int z.1)) (jx_ShC, z.2) → ∃ n, jx_W jx_ShC d (some .int) jc_89 Q n 16 [some (.ref 1), some (.ref p1), some (.int x2), some (.int x3), some (.int x4), some (.int x5), u6] [] σ
  | 0, _, _, _, _, _, _, _, h, _ => by cases h
  | k + 1, x2, x3, x4, x5, u6, σ, z, h, hQ => by
    rcases hp with rfl | rfl | rfl | rfl | rfl | rfl | rfl
    · rw [f_S_goBy_16] at h
      by_cases c3 : (σ.1 1 0) ≤ x5
      · rw [if_pos c3] at h
        suffices hh : ∃ n, jx_W jx_ShC d (some .int) jc_89 Q n 146 [some (.ref 1), some (.ref 102), some (.int x2), some (.int x3), some (.int x4), some (.int x5), u6] [] σ by
          obtain ⟨n, hn⟩ := hh
          exact ⟨n + 4, And.intro (fun _ => hn) (fun zz => absurd c3 zz)⟩
        cases h
        exact ⟨14, And.intro hQ (And.intro rfl rfl)⟩
      · rw [if_neg c3] at h
        suffices hh : ∃ n, jx_W jx_ShC d (some .int) jc_89 Q n 25 [some (.ref 1), some (.ref 102), some (.int x2), some (.int x3), some (.int x4), some (.int x5), u6] [] σ by
          obtain ⟨n, hn⟩ := hh
          exact ⟨n + 4, And.intro (fun zz => absurd zz c3) (fun _ => hn)⟩
        by_cases c4 : (x5 + 1) = x2
        · rw [if_pos c4] at h
          suffices hh : ∃ n, jx_W jx_ShC d (some .int) jc_89 Q n 33 [some (.ref 1), some (.ref 102), some (.int x2), some (.int x3), some (.int x4), some (.int x5), u6] [] σ by
            obtain ⟨n, hn⟩ := hh
            exact ⟨n + 5, And.intro (fun zz => absurd c4 zz) (fun _ => hn)⟩
          obtain ⟨n, hn⟩ := s_S_goBy_46 hd (by decide) (s_S_goBy_16 hd (by decide) k) (u6 := u6) h hQ
          exact ⟨n + 2, hn⟩
        · rw [if_neg c4] at h
          suffices hh : ∃ n, jx_W jx_ShC d (some .int) jc_89 Q n 38 [some (.ref 1), some (.ref 102), some (.int x2), some (.int x3), some (.int x4), some (.int x5), u6] [] σ by
            obtain ⟨n, hn⟩ := hh
            exact ⟨n + 5, And.intro (fun _ => hn) (fun zz => absurd zz c4)⟩
          obtain ⟨z17, h18, h⟩ := Option.bind_eq_some_iff.mp h
          obtain ⟨n, hn⟩ := s_S_goBy_46 hd (by decide) (s_S_goBy_16 hd (by decide) k) (u6 := u6) h hQ
          exact ⟨n + 5, s_S_choice (by omega) (by decide) h18 (hn)⟩
    · rw [f_S_goBy_16] at h
      by_cases c3 : (σ.1 1 0) ≤ x5
      · rw [if_pos c3] at h
        suffices hh : ∃ n, jx_W jx_ShC d (some .int) jc_89 Q n 146 [some (.ref 1), some (.ref 106), some (.int x2), some (.int x3), some (.int x4), some (.int x5), u6] [] σ by
          obtain ⟨n, hn⟩ := hh
          exact ⟨n + 4, And.intro (fun _ => hn) (fun zz => absurd c3 zz)⟩
        cases h
        exact ⟨14, And.intro hQ (And.intro rfl rfl)⟩
      · rw [if_neg c3] at h
        suffices hh : ∃ n, jx_W jx_ShC d (some .int) jc_89 Q n 25 [some (.ref 1), some (.ref 106), some (.int x2), some (.int x3), some (.int x4), some (.int x5), u6] [] σ by
          obtain ⟨n, hn⟩ := hh
          exact ⟨n + 4, And.intro (fun zz => absurd zz c3) (fun _ => hn)⟩
        by_cases c4 : (x5 + 1) = x2
        · rw [if_pos c4] at h
          suffices hh : ∃ n, jx_W jx_ShC d (some .int) jc_89 Q n 33 [some (.ref 1), some (.ref 106), some (.int x2), some (.int x3), some (.int x4), some (.int x5), u6] [] σ by
            obtain ⟨n, hn⟩ := hh
            exact ⟨n + 5, And.intro (fun zz => absurd c4 zz) (fun _ => hn)⟩
          obtain ⟨n, hn⟩ := s_S_goBy_46 hd (by decide) (s_S_goBy_16 hd (by decide) k) (u6 := u6) h hQ
          exact ⟨n + 2, hn⟩
        · rw [if_neg c4] at h
          suffices hh : ∃ n, jx_W jx_ShC d (some .int) jc_89 Q n 38 [some (.ref 1), some (.ref 106), some (.int x2), some (.int x3), some (.int x4), some (.int x5), u6] [] σ by
            obtain ⟨n, hn⟩ := hh
            exact ⟨n + 5, And.intro (fun _ => hn) (fun zz => absurd zz c4)⟩
          obtain ⟨z17, h18, h⟩ := Option.bind_eq_some_iff.mp h
          obtain ⟨n, hn⟩ := s_S_goBy_46 hd (by decide) (s_S_goBy_16 hd (by decide) k) (u6 := u6) h hQ
          exact ⟨n + 5, s_S_choice (by omega) (by decide) h18 (hn)⟩
    · rw [f_S_goBy_16] at h
      by_cases c3 : (σ.1 1 0) ≤ x5
      · rw [if_pos c3] at h
        suffices hh : ∃ n, jx_W jx_ShC d (some .int) jc_89 Q n 146 [some (.ref 1), some (.ref 110), some (.int x2), some (.int x3), some (.int x4), some (.int x5), u6] [] σ by
          obtain ⟨n, hn⟩ := hh
          exact ⟨n + 4, And.intro (fun _ => hn) (fun zz => absurd c3 zz)⟩
        cases h
        exact ⟨14, And.intro hQ (And.intro rfl rfl)⟩
      · rw [if_neg c3] at h
        suffices hh : ∃ n, jx_W jx_ShC d (some .int) jc_89 Q n 25 [some (.ref 1), some (.ref 110), some (.int x2), some (.int x3), some (.int x4), some (.int x5), u6] [] σ by
          obtain ⟨n, hn⟩ := hh
          exact ⟨n + 4, And.intro (fun zz => absurd zz c3) (fun _ => hn)⟩
        by_cases c4 : (x5 + 1) = x2
        · rw [if_pos c4] at h
          suffices hh : ∃ n, jx_W jx_ShC d (some .int) jc_89 Q n 33 [some (.ref 1), some (.ref 110), some (.int x2), some (.int x3), some (.int x4), some (.int x5), u6] [] σ by
            obtain ⟨n, hn⟩ := hh
            exact ⟨n + 5, And.intro (fun zz => absurd c4 zz) (fun _ => hn)⟩
          obtain ⟨n, hn⟩ := s_S_goBy_46 hd (by decide) (s_S_goBy_16 hd (by decide) k) (u6 := u6) h hQ
          exact ⟨n + 2, hn⟩
        · rw [if_neg c4] at h
          suffices hh : ∃ n, jx_W jx_ShC d (some .int) jc_89 Q n 38 [some (.ref 1), some (.ref 110), some (.int x2), some (.int x3), some (.int x4), some (.int x5), u6] [] σ by
            obtain ⟨n, hn⟩ := hh
            exact ⟨n + 5, And.intro (fun _ => hn) (fun zz => absurd zz c4)⟩
          obtain ⟨z17, h18, h⟩ := Option.bind_eq_some_iff.mp h
          obtain ⟨n, hn⟩ := s_S_goBy_46 hd (by decide) (s_S_goBy_16 hd (by decide) k) (u6 := u6) h hQ
          exact ⟨n + 5, s_S_choice (by omega) (by decide) h18 (hn)⟩
    · rw [f_S_goBy_16] at h
      by_cases c3 : (σ.1 1 0) ≤ x5
      · rw [if_pos c3] at h
        suffices hh : ∃ n, jx_W jx_ShC d (some .int) jc_89 Q n 146 [some (.ref 1), some (.ref 27), some (.int x2), some (.int x3), some (.int x4), some (.int x5), u6] [] σ by
          obtain ⟨n, hn⟩ := hh
          exact ⟨n + 4, And.intro (fun _ => hn) (fun zz => absurd c3 zz)⟩
        cases h
        exact ⟨14, And.intro hQ (And.intro rfl rfl)⟩
      · rw [if_neg c3] at h
        suffices hh : ∃ n, jx_W jx_ShC d (some .int) jc_89 Q n 25 [some (.ref 1), some (.ref 27), some (.int x2), some (.int x3), some (.int x4), some (.int x5), u6] [] σ by
          obtain ⟨n, hn⟩ := hh
          exact ⟨n + 4, And.intro (fun zz => absurd zz c3) (fun _ => hn)⟩
        by_cases c4 : (x5 + 1) = x2
        · rw [if_pos c4] at h
          suffices hh : ∃ n, jx_W jx_ShC d (some .int) jc_89 Q n 33 [some (.ref 1), some (.ref 27), some (.int x2), some (.int x3), some (.int x4), some (.int x5), u6] [] σ by
            obtain ⟨n, hn⟩ := hh
            exact ⟨n + 5, And.intro (fun zz => absurd c4 zz) (fun _ => hn)⟩
          obtain ⟨n, hn⟩ := s_S_goBy_46 hd (by decide) (s_S_goBy_16 hd (by decide) k) (u6 := u6) h hQ
          exact ⟨n + 2, hn⟩
        · rw [if_neg c4] at h
          suffices hh : ∃ n, jx_W jx_ShC d (some .int) jc_89 Q n 38 [some (.ref 1), some (.ref 27), some (.int x2), some (.int x3), some (.int x4), some (.int x5), u6] [] σ by
            obtain ⟨n, hn⟩ := hh
            exact ⟨n + 5, And.intro (fun _ => hn) (fun zz => absurd zz c4)⟩
          obtain ⟨z17, h18, h⟩ := Option.bind_eq_some_iff.mp h
          obtain ⟨n, hn⟩ := s_S_goBy_46 hd (by decide) (s_S_goBy_16 hd (by decide) k) (u6 := u6) h hQ
          exact ⟨n + 5, s_S_choice (by omega) (by decide) h18 (hn)⟩
    · rw [f_S_goBy_16] at h
      by_cases c3 : (σ.1 1 0) ≤ x5
      · rw [if_pos c3] at h
        suffices hh : ∃ n, jx_W jx_ShC d (some .int) jc_89 Q n 146 [some (.ref 1), some (.ref 75), some (.int x2), some (.int x3), some (.int x4), some (.int x5), u6] [] σ by
          obtain ⟨n, hn⟩ := hh
          exact ⟨n + 4, And.intro (fun _ => hn) (fun zz => absurd c3 zz)⟩
        cases h
        exact ⟨14, And.intro hQ (And.intro rfl rfl)⟩
      · rw [if_neg c3] at h
        suffices hh : ∃ n, jx_W jx_ShC d (some .int) jc_89 Q n 25 [some (.ref 1), some (.ref 75), some (.int x2), some (.int x3), some (.int x4), some (.int x5), u6] [] σ by
          obtain ⟨n, hn⟩ := hh
          exact ⟨n + 4, And.intro (fun zz => absurd zz c3) (fun _ => hn)⟩
        by_cases c4 : (x5 + 1) = x2
        · rw [if_pos c4] at h
          suffices hh : ∃ n, jx_W jx_ShC d (some .int) jc_89 Q n 33 [some (.ref 1), some (.ref 75), some (.int x2), some (.int x3), some (.int x4), some (.int x5), u6] [] σ by
            obtain ⟨n, hn⟩ := hh
            exact ⟨n + 5, And.intro (fun zz => absurd c4 zz) (fun _ => hn)⟩
          obtain ⟨n, hn⟩ := s_S_goBy_46 hd (by decide) (s_S_goBy_16 hd (by decide) k) (u6 := u6) h hQ
          exact ⟨n + 2, hn⟩
        · rw [if_neg c4] at h
          suffices hh : ∃ n, jx_W jx_ShC d (some .int) jc_89 Q n 38 [some (.ref 1), some (.ref 75), some (.int x2), some (.int x3), some (.int x4), some (.int x5), u6] [] σ by
            obtain ⟨n, hn⟩ := hh
            exact ⟨n + 5, And.intro (fun _ => hn) (fun zz => absurd zz c4)⟩
          obtain ⟨z17, h18, h⟩ := Option.bind_eq_some_iff.mp h
          obtain ⟨n, hn⟩ := s_S_goBy_46 hd (by decide) (s_S_goBy_16 hd (by decide) k) (u6 := u6) h hQ
          exact ⟨n + 5, s_S_choice (by omega) (by decide) h18 (hn)⟩
    · rw [f_S_goBy_16] at h
      by_cases c3 : (σ.1 1 0) ≤ x5
      · rw [if_pos c3] at h
        suffices hh : ∃ n, jx_W jx_ShC d (some .int) jc_89 Q n 146 [some (.ref 1), some (.ref 94), some (.int x2), some (.int x3), some (.int x4), some (.int x5), u6] [] σ by
          obtain ⟨n, hn⟩ := hh
          exact ⟨n + 4, And.intro (fun _ => hn) (fun zz => absurd c3 zz)⟩
        cases h
        exact ⟨14, And.intro hQ (And.intro rfl rfl)⟩
      · rw [if_neg c3] at h
        suffices hh : ∃ n, jx_W jx_ShC d (some .int) jc_89 Q n 25 [some (.ref 1), some (.ref 94), some (.int x2), some (.int x3), some (.int x4), some (.int x5), u6] [] σ by
          obtain ⟨n, hn⟩ := hh
          exact ⟨n + 4, And.intro (fun zz => absurd zz c3) (fun _ => hn)⟩
        by_cases c4 : (x5 + 1) = x2
        · rw [if_pos c4] at h
          suffices hh : ∃ n, jx_W jx_ShC d (some .int) jc_89 Q n 33 [some (.ref 1), some (.ref 94), some (.int x2), some (.int x3), some (.int x4), some (.int x5), u6] [] σ by
            obtain ⟨n, hn⟩ := hh
            exact ⟨n + 5, And.intro (fun zz => absurd c4 zz) (fun _ => hn)⟩
          obtain ⟨n, hn⟩ := s_S_goBy_46 hd (by decide) (s_S_goBy_16 hd (by decide) k) (u6 := u6) h hQ
          exact ⟨n + 2, hn⟩
        · rw [if_neg c4] at h
          suffices hh : ∃ n, jx_W jx_ShC d (some .int) jc_89 Q n 38 [some (.ref 1), some (.ref 94), some (.int x2), some (.int x3), some (.int x4), some (.int x5), u6] [] σ by
            obtain ⟨n, hn⟩ := hh
            exact ⟨n + 5, And.intro (fun _ => hn) (fun zz => absurd zz c4)⟩
          obtain ⟨z17, h18, h⟩ := Option.bind_eq_some_iff.mp h
          obtain ⟨n, hn⟩ := s_S_goBy_46 hd (by decide) (s_S_goBy_16 hd (by decide) k) (u6 := u6) h hQ
          exact ⟨n + 5, s_S_choice (by omega) (by decide) h18 (hn)⟩
    · rw [f_S_goBy_16] at h
      by_cases c3 : (σ.1 1 0) ≤ x5
      · rw [if_pos c3] at h
        suffices hh : ∃ n, jx_W jx_ShC d (some .int) jc_89 Q n 146 [some (.ref 1), some (.ref 98), some (.int x2), some (.int x3), some (.int x4), some (.int x5), u6] [] σ by
          obtain ⟨n, hn⟩ := hh
          exact ⟨n + 4, And.intro (fun _ => hn) (fun zz => absurd c3 zz)⟩
        cases h
        exact ⟨14, And.intro hQ (And.intro rfl rfl)⟩
      · rw [if_neg c3] at h
        suffices hh : ∃ n, jx_W jx_ShC d (some .int) jc_89 Q n 25 [some (.ref 1), some (.ref 98), some (.int x2), some (.int x3), some (.int x4), some (.int x5), u6] [] σ by
          obtain ⟨n, hn⟩ := hh
          exact ⟨n + 4, And.intro (fun zz => absurd zz c3) (fun _ => hn)⟩
        by_cases c4 : (x5 + 1) = x2
        · rw [if_pos c4] at h
          suffices hh : ∃ n, jx_W jx_ShC d (some .int) jc_89 Q n 33 [some (.ref 1), some (.ref 98), some (.int x2), some (.int x3), some (.int x4), some (.int x5), u6] [] σ by
            obtain ⟨n, hn⟩ := hh
            exact ⟨n + 5, And.intro (fun zz => absurd c4 zz) (fun _ => hn)⟩
          obtain ⟨n, hn⟩ := s_S_goBy_46 hd (by decide) (s_S_goBy_16 hd (by decide) k) (u6 := u6) h hQ
          exact ⟨n + 2, hn⟩
        · rw [if_neg c4] at h
          suffices hh : ∃ n, jx_W jx_ShC d (some .int) jc_89 Q n 38 [some (.ref 1), some (.ref 98), some (.int x2), some (.int x3), some (.int x4), some (.int x5), u6] [] σ by
            obtain ⟨n, hn⟩ := hh
            exact ⟨n + 5, And.intro (fun _ => hn) (fun zz => absurd zz c4)⟩
          obtain ⟨z17, h18, h⟩ := Option.bind_eq_some_iff.mp h
          obtain ⟨n, hn⟩ := s_S_goBy_46 hd (by decide) (s_S_goBy_16 hd (by decide) k) (u6 := u6) h hQ
          exact ⟨n + 5, s_S_choice (by omega) (by decide) h18 (hn)⟩
set_option maxRecDepth 20000 in
theorem s_S_goBy {N d : Nat} {p1 : Nat} {x2 : Int32} (hd : 5 ≤ d) (hp : p1 = 102 ∨ p1 = 106 ∨ p1 = 110 ∨ p1 = 27 ∨ p1 = 75 ∨ p1 = 94 ∨ p1 = 98) {σ : jw_M} {z : (Int32 × jw_M)} {Q : jw_Q} (h : f_S_goBy N p1 x2 σ = some z) (hQ : Q (some (.int z.1)) (jx_ShC, z.2)) : jw_C jp_kd jp_ys d 89 [.ref 1, .ref p1, .int x2] (jx_ShC, σ) Q := by
  obtain ⟨d, rfl⟩ : ∃ e, d = e + 1 := ⟨d - 1, by omega⟩
  replace hd : 4 ≤ d := by omega
  refine jx_C rfl rfl ?_
  rcases hp with rfl | rfl | rfl | rfl | rfl | rfl | rfl
  · unfold f_S_goBy at h
    obtain ⟨z1, h2, h⟩ := Option.bind_eq_some_iff.mp h
    obtain ⟨n, hn⟩ := s_S_goBy_16 hd (by decide) N (u6 := none) h hQ
    exact ⟨n + 10, s_J_fill (by omega) rfl h2 (hn)⟩
  · unfold f_S_goBy at h
    obtain ⟨z1, h2, h⟩ := Option.bind_eq_some_iff.mp h
    obtain ⟨n, hn⟩ := s_S_goBy_16 hd (by decide) N (u6 := none) h hQ
    exact ⟨n + 10, s_J_fill (by omega) rfl h2 (hn)⟩
  · unfold f_S_goBy at h
    obtain ⟨z1, h2, h⟩ := Option.bind_eq_some_iff.mp h
    obtain ⟨n, hn⟩ := s_S_goBy_16 hd (by decide) N (u6 := none) h hQ
    exact ⟨n + 10, s_J_fill (by omega) rfl h2 (hn)⟩
  · unfold f_S_goBy at h
    obtain ⟨z1, h2, h⟩ := Option.bind_eq_some_iff.mp h
    obtain ⟨n, hn⟩ := s_S_goBy_16 hd (by decide) N (u6 := none) h hQ
    exact ⟨n + 10, s_J_fill (by omega) rfl h2 (hn)⟩
  · unfold f_S_goBy at h
    obtain ⟨z1, h2, h⟩ := Option.bind_eq_some_iff.mp h
    obtain ⟨n, hn⟩ := s_S_goBy_16 hd (by decide) N (u6 := none) h hQ
    exact ⟨n + 10, s_J_fill (by omega) rfl h2 (hn)⟩
  · unfold f_S_goBy at h
    obtain ⟨z1, h2, h⟩ := Option.bind_eq_some_iff.mp h
    obtain ⟨n, hn⟩ := s_S_goBy_16 hd (by decide) N (u6 := none) h hQ
    exact ⟨n + 10, s_J_fill (by omega) rfl h2 (hn)⟩
  · unfold f_S_goBy at h
    obtain ⟨z1, h2, h⟩ := Option.bind_eq_some_iff.mp h
    obtain ⟨n, hn⟩ := s_S_goBy_16 hd (by decide) N (u6 := none) h hQ
    exact ⟨n + 10, s_J_fill (by omega) rfl h2 (hn)⟩
set_option maxRecDepth 20000 in
theorem s_L_walk_23 {N d : Nat} {Dr : Nat} {Rec : Int32 → Int32 → Int32 → jw_M → Option jw_M} {Q : jw_Q} (hRec : ∀ {d : Nat} {a2 : Int32} {a3 : Int32} {a4 : Int32} {σ : jw_M} {z : jw_M} {Q : jw_Q}, Dr ≤ d → Rec a2 a3 a4 σ = some z → Q none (jx_ShC, z) → jw_C jp_kd jp_ys d 32 [.ref 92, .ref 1, .int a2, .int a3, .int a4] (jx_ShC, σ) Q) (hd0 : 0 + Dr ≤ d) (hd : 5 ≤ d) {y1 : Int32} {y2 : Int32} {r_3 : Nat} {u0 : Option Value} {u1 : Option Value} {u2 : Option Value} {u3 : Option Value} {u4 : Option Value} {u5 : Option Value} {u6 : Option Value} {u7 : Option Value} {σ : jw_M} {z : jw_M} (hr_3 : r_3 = 94 ∨ r_3 = 98 ∨ r_3 = 102 ∨ r_3 = 106 ∨ r_3 = 110) (h : f_L_walk_23 N Rec y1 y2 r_3 σ = some z) (hQ : Q none (jx_ShC, z)) : ∃ n, jx_W jx_ShC d none jc_32 Q n 23 [u0, u1, u2, u3, u4, u5, u6, u7] [.ref r_3, .int y2, .int y1, .ref 92] σ := by
  rcases hr_3 with rfl | rfl | rfl | rfl | rfl
  · unfold f_L_walk_23 at h
    obtain ⟨z3, h4, h⟩ := Option.bind_eq_some_iff.mp h
    obtain ⟨z5, h6, h⟩ := Option.bind_eq_some_iff.mp h
    cases h
    exact ⟨3, s_P_learntBySome (by omega) (by decide) h4 (s_L_weigh (by omega) h6 (And.intro hQ (And.intro rfl rfl)))⟩
  · unfold f_L_walk_23 at h
    obtain ⟨z3, h4, h⟩ := Option.bind_eq_some_iff.mp h
    obtain ⟨z5, h6, h⟩ := Option.bind_eq_some_iff.mp h
    cases h
    exact ⟨3, s_P_learntBySome (by omega) (by decide) h4 (s_L_weigh (by omega) h6 (And.intro hQ (And.intro rfl rfl)))⟩
  · unfold f_L_walk_23 at h
    obtain ⟨z3, h4, h⟩ := Option.bind_eq_some_iff.mp h
    obtain ⟨z5, h6, h⟩ := Option.bind_eq_some_iff.mp h
    cases h
    exact ⟨3, s_P_learntBySome (by omega) (by decide) h4 (s_L_weigh (by omega) h6 (And.intro hQ (And.intro rfl rfl)))⟩
  · unfold f_L_walk_23 at h
    obtain ⟨z3, h4, h⟩ := Option.bind_eq_some_iff.mp h
    obtain ⟨z5, h6, h⟩ := Option.bind_eq_some_iff.mp h
    cases h
    exact ⟨3, s_P_learntBySome (by omega) (by decide) h4 (s_L_weigh (by omega) h6 (And.intro hQ (And.intro rfl rfl)))⟩
  · unfold f_L_walk_23 at h
    obtain ⟨z3, h4, h⟩ := Option.bind_eq_some_iff.mp h
    obtain ⟨z5, h6, h⟩ := Option.bind_eq_some_iff.mp h
    cases h
    exact ⟨3, s_P_learntBySome (by omega) (by decide) h4 (s_L_weigh (by omega) h6 (And.intro hQ (And.intro rfl rfl)))⟩
set_option maxRecDepth 20000 in
theorem s_L_walk_22 {N d : Nat} {Dr : Nat} {Rec : Int32 → Int32 → Int32 → jw_M → Option jw_M} {Q : jw_Q} (hRec : ∀ {d : Nat} {a2 : Int32} {a3 : Int32} {a4 : Int32} {σ : jw_M} {z : jw_M} {Q : jw_Q}, Dr ≤ d → Rec a2 a3 a4 σ = some z → Q none (jx_ShC, z) → jw_C jp_kd jp_ys d 32 [.ref 92, .ref 1, .int a2, .int a3, .int a4] (jx_ShC, σ) Q) (hd0 : 0 + Dr ≤ d) (hd : 5 ≤ d) {y1 : Int32} {y2 : Int32} {y4 : Int32} {u0 : Option Value} {u1 : Option Value} {u2 : Option Value} {u3 : Option Value} {u4 : Option Value} {u5 : Option Value} {u6 : Option Value} {u7 : Option Value} {σ : jw_M} {z : jw_M} (h : f_L_walk_22 N Rec y1 y2 y4 σ = some z) (hQ : Q none (jx_ShC, z)) : ∃ n, jx_W jx_ShC d none jc_32 Q n 22 [u0, u1, u2, u3, u4, u5, u6, u7] [.int y4, .ref 93, .int y2, .int y1, .ref 92] σ := by
  unfold f_L_walk_22 at h
  cases c2 : jx_in y4 5 with
  | false => rw [c2, cond_false] at h; cases h
  | true =>
    rw [c2, cond_true] at h
    rcases jx_ix5 (jx_in_ok c2) with rfl | rfl | rfl | rfl | rfl
    · try rw [show (94 + 4 * (0 : Int32).toNatClampNeg) = 94 from by decide] at h
      obtain ⟨n, hn⟩ := s_L_walk_23 hRec hd0 hd (u0 := u0) (u1 := u1) (u2 := u2) (u3 := u3) (u4 := u4) (u5 := u5) (u6 := u6) (u7 := u7) (by decide) h hQ
      exact ⟨n + 1, And.intro (jx_in_ok c2) (hn)⟩
    · try rw [show (94 + 4 * (1 : Int32).toNatClampNeg) = 98 from by decide] at h
      obtain ⟨n, hn⟩ := s_L_walk_23 hRec hd0 hd (u0 := u0) (u1 := u1) (u2 := u2) (u3 := u3) (u4 := u4) (u5 := u5) (u6 := u6) (u7 := u7) (by decide) h hQ
      exact ⟨n + 1, And.intro (jx_in_ok c2) (hn)⟩
    · try rw [show (94 + 4 * (2 : Int32).toNatClampNeg) = 102 from by decide] at h
      obtain ⟨n, hn⟩ := s_L_walk_23 hRec hd0 hd (u0 := u0) (u1 := u1) (u2 := u2) (u3 := u3) (u4 := u4) (u5 := u5) (u6 := u6) (u7 := u7) (by decide) h hQ
      exact ⟨n + 1, And.intro (jx_in_ok c2) (hn)⟩
    · try rw [show (94 + 4 * (3 : Int32).toNatClampNeg) = 106 from by decide] at h
      obtain ⟨n, hn⟩ := s_L_walk_23 hRec hd0 hd (u0 := u0) (u1 := u1) (u2 := u2) (u3 := u3) (u4 := u4) (u5 := u5) (u6 := u6) (u7 := u7) (by decide) h hQ
      exact ⟨n + 1, And.intro (jx_in_ok c2) (hn)⟩
    · try rw [show (94 + 4 * (4 : Int32).toNatClampNeg) = 110 from by decide] at h
      obtain ⟨n, hn⟩ := s_L_walk_23 hRec hd0 hd (u0 := u0) (u1 := u1) (u2 := u2) (u3 := u3) (u4 := u4) (u5 := u5) (u6 := u6) (u7 := u7) (by decide) h hQ
      exact ⟨n + 1, And.intro (jx_in_ok c2) (hn)⟩
set_option maxRecDepth 20000 in
theorem s_L_walk_13 {N d : Nat} {Dr : Nat} {Rec : Int32 → Int32 → Int32 → jw_M → Option jw_M} {Q : jw_Q} (hRec : ∀ {d : Nat} {a2 : Int32} {a3 : Int32} {a4 : Int32} {σ : jw_M} {z : jw_M} {Q : jw_Q}, Dr ≤ d → Rec a2 a3 a4 σ = some z → Q none (jx_ShC, z) → jw_C jp_kd jp_ys d 32 [.ref 92, .ref 1, .int a2, .int a3, .int a4] (jx_ShC, σ) Q) (hd0 : 0 + Dr ≤ d) (hd : 5 ≤ d) {x2 : Int32} {x3 : Int32} {x4 : Int32} {u1 : Option Value} {u5 : Option Value} {u6 : Option Value} {u7 : Option Value} {σ : jw_M} {z : jw_M} (h : f_L_walk_13 N Rec x2 x3 x4 σ = some z) (hQ : Q none (jx_ShC, z)) : ∃ n, jx_W jx_ShC d none jc_32 Q n 13 [some (.ref 92), u1, some (.int x2), some (.int x3), some (.int x4), u5, u6, u7] [] σ := by
  unfold f_L_walk_13 at h
  obtain ⟨n, hn⟩ := s_L_walk_22 hRec hd0 hd (u0 := some (.ref 92)) (u1 := u1) (u2 := some (.int x2)) (u3 := some (.int x3)) (u4 := some (.int x4)) (u5 := u5) (u6 := u6) (u7 := u7) h hQ
  exact ⟨n + 6, hn⟩
set_option maxRecDepth 20000 in
theorem s_L_walk_104 {N d : Nat} {Dr : Nat} {Rec : Int32 → Int32 → Int32 → jw_M → Option jw_M} {Q : jw_Q} {K43 : Int32 → Int32 → Int32 → Nat → Int32 → jw_M → Option jw_M} (hRec : ∀ {d : Nat} {a2 : Int32} {a3 : Int32} {a4 : Int32} {σ : jw_M} {z : jw_M} {Q : jw_Q}, Dr ≤ d → Rec a2 a3 a4 σ = some z → Q none (jx_ShC, z) → jw_C jp_kd jp_ys d 32 [.ref 92, .ref 1, .int a2, .int a3, .int a4] (jx_ShC, σ) Q) (hd0 : 0 + Dr ≤ d) (hd : 5 ≤ d) (hK43 : ∀ {x2 : Int32} {x3 : Int32} {x4 : Int32} {r5 : Nat} {x6 : Int32} {σ : jw_M} {z : jw_M} {u7 : Option Value}, (r5 = 94 ∨ r5 = 98 ∨ r5 = 102 ∨ r5 = 106 ∨ r5 = 110) → K43 x2 x3 x4 r5 x6 σ = some z → Q none (jx_ShC, z) → ∃ n, jx_W jx_ShC d none jc_32 Q n 43 [some (.ref 92), some (.ref 1), some (.int x2), some (.int x3), some (.int x4), some (.ref r5), some (.int x6), u7] [] σ) {x2 : Int32} {x3 : Int32} {x4 : Int32} {r5 : Nat} {x6 : Int32} {y2 : Int32} {y3 : Int32} {y4 : Int32} {u7 : Option Value} {σ : jw_M} {z : jw_M} (hr5 : r5 = 94 ∨ r5 = 98 ∨ r5 = 102 ∨ r5 = 106 ∨ r5 = 110) (h : f_L_walk_104 N Rec K43 x2 x3 x4 r5 x6 y2 y3 y4 σ = some z) (hQ : Q none (jx_ShC, z)) : ∃ n, jx_W jx_ShC d none jc_32 Q n 104 [some (.ref 92), some (.ref 1), some (.int x2), some (.int x3), some (.int x4), some (.ref r5), some (.int x6), u7] [.int y4, .int y3, .int y2, .ref 1, .ref 92] σ := by
  unfold f_L_walk_104 at h
  obtain ⟨z17, h18, h⟩ := Option.bind_eq_some_iff.mp h
  obtain ⟨n, hn⟩ := hK43 (u7 := u7) hr5 h hQ
  exact ⟨n + 3, hRec (by omega) h18 (hn)⟩
set_option maxRecDepth 20000 in
theorem s_L_walk_71 {N d : Nat} {Dr : Nat} {Rec : Int32 → Int32 → Int32 → jw_M → Option jw_M} {Q : jw_Q} {K43 : Int32 → Int32 → Int32 → Nat → Int32 → jw_M → Option jw_M} (hRec : ∀ {d : Nat} {a2 : Int32} {a3 : Int32} {a4 : Int32} {σ : jw_M} {z : jw_M} {Q : jw_Q}, Dr ≤ d → Rec a2 a3 a4 σ = some z → Q none (jx_ShC, z) → jw_C jp_kd jp_ys d 32 [.ref 92, .ref 1, .int a2, .int a3, .int a4] (jx_ShC, σ) Q) (hd0 : 0 + Dr ≤ d) (hd : 5 ≤ d) (hK43 : ∀ {x2 : Int32} {x3 : Int32} {x4 : Int32} {r5 : Nat} {x6 : Int32} {σ : jw_M} {z : jw_M} {u7 : Option Value}, (r5 = 94 ∨ r5 = 98 ∨ r5 = 102 ∨ r5 = 106 ∨ r5 = 110) → K43 x2 x3 x4 r5 x6 σ = some z → Q none (jx_ShC, z) → ∃ n, jx_W jx_ShC d none jc_32 Q n 43 [some (.ref 92), some (.ref 1), some (.int x2), some (.int x3), some (.int x4), some (.ref r5), some (.int x6), u7] [] σ) {x2 : Int32} {x3 : Int32} {x4 : Int32} {r5 : Nat} {x6 : Int32} {u7 : Option Value} {σ : jw_M} {z : jw_M} (hr5 : r5 = 94 ∨ r5 = 98 ∨ r5 = 102 ∨ r5 = 106 ∨ r5 = 110) (h : f_L_walk_71 N Rec K43 x2 x3 x4 r5 x6 σ = some z) (hQ : Q none (jx_ShC, z)) : ∃ n, jx_W jx_ShC d none jc_32 Q n 71 [some (.ref 92), some (.ref 1), some (.int x2), some (.int x3), some (.int x4), some (.ref r5), some (.int x6), u7] [] σ := by
  rcases hr5 with rfl | rfl | rfl | rfl | rfl
  · unfold f_L_walk_71 at h
    obtain ⟨z14, h15, h⟩ := Option.bind_eq_some_iff.mp h
    by_cases c16 : x6 = 0
    · rw [if_pos c16] at h
      suffices hh : ∃ n, jx_W jx_ShC d none jc_32 Q n 95 [some (.ref 92), some (.ref 1), some (.int x2), some (.int x3), some (.int x4), some (.ref 94), some (.int x6), some (.int z14.1)] [.int (x3 + z14.1), .int (x2 + 1), .ref 1, .ref 92] z14.2 by
        obtain ⟨n, hn⟩ := hh
        exact ⟨n + 15, s_S_goBy (by omega) (by decide) h15 (And.intro (fun zz => absurd c16 zz) (fun _ => hn))⟩
      obtain ⟨n, hn⟩ := s_L_walk_104 hRec hd0 hd hK43 (u7 := some (.int z14.1)) (by decide) h hQ
      exact ⟨n + 2, hn⟩
    · rw [if_neg c16] at h
      suffices hh : ∃ n, jx_W jx_ShC d none jc_32 Q n 100 [some (.ref 92), some (.ref 1), some (.int x2), some (.int x3), some (.int x4), some (.ref 94), some (.int x6), some (.int z14.1)] [.int (x3 + z14.1), .int (x2 + 1), .ref 1, .ref 92] z14.2 by
        obtain ⟨n, hn⟩ := hh
        exact ⟨n + 15, s_S_goBy (by omega) (by decide) h15 (And.intro (fun _ => hn) (fun zz => absurd zz c16))⟩
      obtain ⟨n, hn⟩ := s_L_walk_104 hRec hd0 hd hK43 (u7 := some (.int z14.1)) (by decide) h hQ
      exact ⟨n + 3, hn⟩
  · unfold f_L_walk_71 at h
    obtain ⟨z14, h15, h⟩ := Option.bind_eq_some_iff.mp h
    by_cases c16 : x6 = 0
    · rw [if_pos c16] at h
      suffices hh : ∃ n, jx_W jx_ShC d none jc_32 Q n 95 [some (.ref 92), some (.ref 1), some (.int x2), some (.int x3), some (.int x4), some (.ref 98), some (.int x6), some (.int z14.1)] [.int (x3 + z14.1), .int (x2 + 1), .ref 1, .ref 92] z14.2 by
        obtain ⟨n, hn⟩ := hh
        exact ⟨n + 15, s_S_goBy (by omega) (by decide) h15 (And.intro (fun zz => absurd c16 zz) (fun _ => hn))⟩
      obtain ⟨n, hn⟩ := s_L_walk_104 hRec hd0 hd hK43 (u7 := some (.int z14.1)) (by decide) h hQ
      exact ⟨n + 2, hn⟩
    · rw [if_neg c16] at h
      suffices hh : ∃ n, jx_W jx_ShC d none jc_32 Q n 100 [some (.ref 92), some (.ref 1), some (.int x2), some (.int x3), some (.int x4), some (.ref 98), some (.int x6), some (.int z14.1)] [.int (x3 + z14.1), .int (x2 + 1), .ref 1, .ref 92] z14.2 by
        obtain ⟨n, hn⟩ := hh
        exact ⟨n + 15, s_S_goBy (by omega) (by decide) h15 (And.intro (fun _ => hn) (fun zz => absurd zz c16))⟩
      obtain ⟨n, hn⟩ := s_L_walk_104 hRec hd0 hd hK43 (u7 := some (.int z14.1)) (by decide) h hQ
      exact ⟨n + 3, hn⟩
  · unfold f_L_walk_71 at h
    obtain ⟨z14, h15, h⟩ := Option.bind_eq_some_iff.mp h
    by_cases c16 : x6 = 0
    · rw [if_pos c16] at h
      suffices hh : ∃ n, jx_W jx_ShC d none jc_32 Q n 95 [some (.ref 92), some (.ref 1), some (.int x2), some (.int x3), some (.int x4), some (.ref 102), some (.int x6), some (.int z14.1)] [.int (x3 + z14.1), .int (x2 + 1), .ref 1, .ref 92] z14.2 by
        obtain ⟨n, hn⟩ := hh
        exact ⟨n + 15, s_S_goBy (by omega) (by decide) h15 (And.intro (fun zz => absurd c16 zz) (fun _ => hn))⟩
      obtain ⟨n, hn⟩ := s_L_walk_104 hRec hd0 hd hK43 (u7 := some (.int z14.1)) (by decide) h hQ
      exact ⟨n + 2, hn⟩
    · rw [if_neg c16] at h
      suffices hh : ∃ n, jx_W jx_ShC d none jc_32 Q n 100 [some (.ref 92), some (.ref 1), some (.int x2), some (.int x3), some (.int x4), some (.ref 102), some (.int x6), some (.int z14.1)] [.int (x3 + z14.1), .int (x2 + 1), .ref 1, .ref 92] z14.2 by
        obtain ⟨n, hn⟩ := hh
        exact ⟨n + 15, s_S_goBy (by omega) (by decide) h15 (And.intro (fun _ => hn) (fun zz => absurd zz c16))⟩
      obtain ⟨n, hn⟩ := s_L_walk_104 hRec hd0 hd hK43 (u7 := some (.int z14.1)) (by decide) h hQ
      exact ⟨n + 3, hn⟩
  · unfold f_L_walk_71 at h
    obtain ⟨z14, h15, h⟩ := Option.bind_eq_some_iff.mp h
    by_cases c16 : x6 = 0
    · rw [if_pos c16] at h
      suffices hh : ∃ n, jx_W jx_ShC d none jc_32 Q n 95 [some (.ref 92), some (.ref 1), some (.int x2), some (.int x3), some (.int x4), some (.ref 106), some (.int x6), some (.int z14.1)] [.int (x3 + z14.1), .int (x2 + 1), .ref 1, .ref 92] z14.2 by
        obtain ⟨n, hn⟩ := hh
        exact ⟨n + 15, s_S_goBy (by omega) (by decide) h15 (And.intro (fun zz => absurd c16 zz) (fun _ => hn))⟩
      obtain ⟨n, hn⟩ := s_L_walk_104 hRec hd0 hd hK43 (u7 := some (.int z14.1)) (by decide) h hQ
      exact ⟨n + 2, hn⟩
    · rw [if_neg c16] at h
      suffices hh : ∃ n, jx_W jx_ShC d none jc_32 Q n 100 [some (.ref 92), some (.ref 1), some (.int x2), some (.int x3), some (.int x4), some (.ref 106), some (.int x6), some (.int z14.1)] [.int (x3 + z14.1), .int (x2 + 1), .ref 1, .ref 92] z14.2 by
        obtain ⟨n, hn⟩ := hh
        exact ⟨n + 15, s_S_goBy (by omega) (by decide) h15 (And.intro (fun _ => hn) (fun zz => absurd zz c16))⟩
      obtain ⟨n, hn⟩ := s_L_walk_104 hRec hd0 hd hK43 (u7 := some (.int z14.1)) (by decide) h hQ
      exact ⟨n + 3, hn⟩
  · unfold f_L_walk_71 at h
    obtain ⟨z14, h15, h⟩ := Option.bind_eq_some_iff.mp h
    by_cases c16 : x6 = 0
    · rw [if_pos c16] at h
      suffices hh : ∃ n, jx_W jx_ShC d none jc_32 Q n 95 [some (.ref 92), some (.ref 1), some (.int x2), some (.int x3), some (.int x4), some (.ref 110), some (.int x6), some (.int z14.1)] [.int (x3 + z14.1), .int (x2 + 1), .ref 1, .ref 92] z14.2 by
        obtain ⟨n, hn⟩ := hh
        exact ⟨n + 15, s_S_goBy (by omega) (by decide) h15 (And.intro (fun zz => absurd c16 zz) (fun _ => hn))⟩
      obtain ⟨n, hn⟩ := s_L_walk_104 hRec hd0 hd hK43 (u7 := some (.int z14.1)) (by decide) h hQ
      exact ⟨n + 2, hn⟩
    · rw [if_neg c16] at h
      suffices hh : ∃ n, jx_W jx_ShC d none jc_32 Q n 100 [some (.ref 92), some (.ref 1), some (.int x2), some (.int x3), some (.int x4), some (.ref 110), some (.int x6), some (.int z14.1)] [.int (x3 + z14.1), .int (x2 + 1), .ref 1, .ref 92] z14.2 by
        obtain ⟨n, hn⟩ := hh
        exact ⟨n + 15, s_S_goBy (by omega) (by decide) h15 (And.intro (fun _ => hn) (fun zz => absurd zz c16))⟩
      obtain ⟨n, hn⟩ := s_L_walk_104 hRec hd0 hd hK43 (u7 := some (.int z14.1)) (by decide) h hQ
      exact ⟨n + 3, hn⟩
set_option maxRecDepth 20000 in
theorem s_L_walk_68 {N d : Nat} {Dr : Nat} {Rec : Int32 → Int32 → Int32 → jw_M → Option jw_M} {Q : jw_Q} {K43 : Int32 → Int32 → Int32 → Nat → Int32 → jw_M → Option jw_M} (hRec : ∀ {d : Nat} {a2 : Int32} {a3 : Int32} {a4 : Int32} {σ : jw_M} {z : jw_M} {Q : jw_Q}, Dr ≤ d → Rec a2 a3 a4 σ = some z → Q none (jx_ShC, z) → jw_C jp_kd jp_ys d 32 [.ref 92, .ref 1, .int a2, .int a3, .int a4] (jx_ShC, σ) Q) (hd0 : 0 + Dr ≤ d) (hd : 5 ≤ d) (hK43 : ∀ {x2 : Int32} {x3 : Int32} {x4 : Int32} {r5 : Nat} {x6 : Int32} {σ : jw_M} {z : jw_M} {u7 : Option Value}, (r5 = 94 ∨ r5 = 98 ∨ r5 = 102 ∨ r5 = 106 ∨ r5 = 110) → K43 x2 x3 x4 r5 x6 σ = some z → Q none (jx_ShC, z) → ∃ n, jx_W jx_ShC d none jc_32 Q n 43 [some (.ref 92), some (.ref 1), some (.int x2), some (.int x3), some (.int x4), some (.ref r5), some (.int x6), u7] [] σ) {x2 : Int32} {x3 : Int32} {x4 : Int32} {r5 : Nat} {x6 : Int32} {r_1 : Nat} {u7 : Option Value} {σ : jw_M} {z : jw_M} (hr5 : r5 = 94 ∨ r5 = 98 ∨ r5 = 102 ∨ r5 = 106 ∨ r5 = 110) (hr_1 : r_1 = 94 ∨ r_1 = 98 ∨ r_1 = 102 ∨ r_1 = 106 ∨ r_1 = 110) (h : f_L_walk_68 N Rec K43 x2 x3 x4 r5 x6 r_1 σ = some z) (hQ : Q none (jx_ShC, z)) : ∃ n, jx_W jx_ShC d none jc_32 Q n 68 [some (.ref 92), some (.ref 1), some (.int x2), some (.int x3), some (.int x4), some (.ref r5), some (.int x6), u7] [.ref r_1, .ref r5] σ := by
  rcases hr5 with rfl | rfl | rfl | rfl | rfl
  · rcases hr_1 with rfl | rfl | rfl | rfl | rfl
    · unfold f_L_walk_68 at h
      obtain ⟨z12, h13, h⟩ := Option.bind_eq_some_iff.mp h
      obtain ⟨n, hn⟩ := s_L_walk_71 hRec hd0 hd hK43 (u7 := u7) (by decide) h hQ
      exact ⟨n + 1, s_P_copyFrom (by omega) (by decide) h13 (hn)⟩
    · unfold f_L_walk_68 at h
      obtain ⟨z12, h13, h⟩ := Option.bind_eq_some_iff.mp h
      obtain ⟨n, hn⟩ := s_L_walk_71 hRec hd0 hd hK43 (u7 := u7) (by decide) h hQ
      exact ⟨n + 1, s_P_copyFrom (by omega) (by decide) h13 (hn)⟩
    · unfold f_L_walk_68 at h
      obtain ⟨z12, h13, h⟩ := Option.bind_eq_some_iff.mp h
      obtain ⟨n, hn⟩ := s_L_walk_71 hRec hd0 hd hK43 (u7 := u7) (by decide) h hQ
      exact ⟨n + 1, s_P_copyFrom (by omega) (by decide) h13 (hn)⟩
    · unfold f_L_walk_68 at h
      obtain ⟨z12, h13, h⟩ := Option.bind_eq_some_iff.mp h
      obtain ⟨n, hn⟩ := s_L_walk_71 hRec hd0 hd hK43 (u7 := u7) (by decide) h hQ
      exact ⟨n + 1, s_P_copyFrom (by omega) (by decide) h13 (hn)⟩
    · unfold f_L_walk_68 at h
      obtain ⟨z12, h13, h⟩ := Option.bind_eq_some_iff.mp h
      obtain ⟨n, hn⟩ := s_L_walk_71 hRec hd0 hd hK43 (u7 := u7) (by decide) h hQ
      exact ⟨n + 1, s_P_copyFrom (by omega) (by decide) h13 (hn)⟩
  · rcases hr_1 with rfl | rfl | rfl | rfl | rfl
    · unfold f_L_walk_68 at h
      obtain ⟨z12, h13, h⟩ := Option.bind_eq_some_iff.mp h
      obtain ⟨n, hn⟩ := s_L_walk_71 hRec hd0 hd hK43 (u7 := u7) (by decide) h hQ
      exact ⟨n + 1, s_P_copyFrom (by omega) (by decide) h13 (hn)⟩
    · unfold f_L_walk_68 at h
      obtain ⟨z12, h13, h⟩ := Option.bind_eq_some_iff.mp h
      obtain ⟨n, hn⟩ := s_L_walk_71 hRec hd0 hd hK43 (u7 := u7) (by decide) h hQ
      exact ⟨n + 1, s_P_copyFrom (by omega) (by decide) h13 (hn)⟩
    · unfold f_L_walk_68 at h
      obtain ⟨z12, h13, h⟩ := Option.bind_eq_some_iff.mp h
      obtain ⟨n, hn⟩ := s_L_walk_71 hRec hd0 hd hK43 (u7 := u7) (by decide) h hQ
      exact ⟨n + 1, s_P_copyFrom (by omega) (by decide) h13 (hn)⟩
    · unfold f_L_walk_68 at h
      obtain ⟨z12, h13, h⟩ := Option.bind_eq_some_iff.mp h
      obtain ⟨n, hn⟩ := s_L_walk_71 hRec hd0 hd hK43 (u7 := u7) (by decide) h hQ
      exact ⟨n + 1, s_P_copyFrom (by omega) (by decide) h13 (hn)⟩
    · unfold f_L_walk_68 at h
      obtain ⟨z12, h13, h⟩ := Option.bind_eq_some_iff.mp h
      obtain ⟨n, hn⟩ := s_L_walk_71 hRec hd0 hd hK43 (u7 := u7) (by decide) h hQ
      exact ⟨n + 1, s_P_copyFrom (by omega) (by decide) h13 (hn)⟩
  · rcases hr_1 with rfl | rfl | rfl | rfl | rfl
    · unfold f_L_walk_68 at h
      obtain ⟨z12, h13, h⟩ := Option.bind_eq_some_iff.mp h
      obtain ⟨n, hn⟩ := s_L_walk_71 hRec hd0 hd hK43 (u7 := u7) (by decide) h hQ
      exact ⟨n + 1, s_P_copyFrom (by omega) (by decide) h13 (hn)⟩
    · unfold f_L_walk_68 at h
      obtain ⟨z12, h13, h⟩ := Option.bind_eq_some_iff.mp h
      obtain ⟨n, hn⟩ := s_L_walk_71 hRec hd0 hd hK43 (u7 := u7) (by decide) h hQ
      exact ⟨n + 1, s_P_copyFrom (by omega) (by decide) h13 (hn)⟩
    · unfold f_L_walk_68 at h
      obtain ⟨z12, h13, h⟩ := Option.bind_eq_some_iff.mp h
      obtain ⟨n, hn⟩ := s_L_walk_71 hRec hd0 hd hK43 (u7 := u7) (by decide) h hQ
      exact ⟨n + 1, s_P_copyFrom (by omega) (by decide) h13 (hn)⟩
    · unfold f_L_walk_68 at h
      obtain ⟨z12, h13, h⟩ := Option.bind_eq_some_iff.mp h
      obtain ⟨n, hn⟩ := s_L_walk_71 hRec hd0 hd hK43 (u7 := u7) (by decide) h hQ
      exact ⟨n + 1, s_P_copyFrom (by omega) (by decide) h13 (hn)⟩
    · unfold f_L_walk_68 at h
      obtain ⟨z12, h13, h⟩ := Option.bind_eq_some_iff.mp h
      obtain ⟨n, hn⟩ := s_L_walk_71 hRec hd0 hd hK43 (u7 := u7) (by decide) h hQ
      exact ⟨n + 1, s_P_copyFrom (by omega) (by decide) h13 (hn)⟩
  · rcases hr_1 with rfl | rfl | rfl | rfl | rfl
    · unfold f_L_walk_68 at h
      obtain ⟨z12, h13, h⟩ := Option.bind_eq_some_iff.mp h
      obtain ⟨n, hn⟩ := s_L_walk_71 hRec hd0 hd hK43 (u7 := u7) (by decide) h hQ
      exact ⟨n + 1, s_P_copyFrom (by omega) (by decide) h13 (hn)⟩
    · unfold f_L_walk_68 at h
      obtain ⟨z12, h13, h⟩ := Option.bind_eq_some_iff.mp h
      obtain ⟨n, hn⟩ := s_L_walk_71 hRec hd0 hd hK43 (u7 := u7) (by decide) h hQ
      exact ⟨n + 1, s_P_copyFrom (by omega) (by decide) h13 (hn)⟩
    · unfold f_L_walk_68 at h
      obtain ⟨z12, h13, h⟩ := Option.bind_eq_some_iff.mp h
      obtain ⟨n, hn⟩ := s_L_walk_71 hRec hd0 hd hK43 (u7 := u7) (by decide) h hQ
      exact ⟨n + 1, s_P_copyFrom (by omega) (by decide) h13 (hn)⟩
    · unfold f_L_walk_68 at h
      obtain ⟨z12, h13, h⟩ := Option.bind_eq_some_iff.mp h
      obtain ⟨n, hn⟩ := s_L_walk_71 hRec hd0 hd hK43 (u7 := u7) (by decide) h hQ
      exact ⟨n + 1, s_P_copyFrom (by omega) (by decide) h13 (hn)⟩
    · unfold f_L_walk_68 at h
      obtain ⟨z12, h13, h⟩ := Option.bind_eq_some_iff.mp h
      obtain ⟨n, hn⟩ := s_L_walk_71 hRec hd0 hd hK43 (u7 := u7) (by decide) h hQ
      exact ⟨n + 1, s_P_copyFrom (by omega) (by decide) h13 (hn)⟩
  · rcases hr_1 with rfl | rfl | rfl | rfl | rfl
    · unfold f_L_walk_68 at h
      obtain ⟨z12, h13, h⟩ := Option.bind_eq_some_iff.mp h
      obtain ⟨n, hn⟩ := s_L_walk_71 hRec hd0 hd hK43 (u7 := u7) (by decide) h hQ
      exact ⟨n + 1, s_P_copyFrom (by omega) (by decide) h13 (hn)⟩
    · unfold f_L_walk_68 at h
      obtain ⟨z12, h13, h⟩ := Option.bind_eq_some_iff.mp h
      obtain ⟨n, hn⟩ := s_L_walk_71 hRec hd0 hd hK43 (u7 := u7) (by decide) h hQ
      exact ⟨n + 1, s_P_copyFrom (by omega) (by decide) h13 (hn)⟩
    · unfold f_L_walk_68 at h
      obtain ⟨z12, h13, h⟩ := Option.bind_eq_some_iff.mp h
      obtain ⟨n, hn⟩ := s_L_walk_71 hRec hd0 hd hK43 (u7 := u7) (by decide) h hQ
      exact ⟨n + 1, s_P_copyFrom (by omega) (by decide) h13 (hn)⟩
    · unfold f_L_walk_68 at h
      obtain ⟨z12, h13, h⟩ := Option.bind_eq_some_iff.mp h
      obtain ⟨n, hn⟩ := s_L_walk_71 hRec hd0 hd hK43 (u7 := u7) (by decide) h hQ
      exact ⟨n + 1, s_P_copyFrom (by omega) (by decide) h13 (hn)⟩
    · unfold f_L_walk_68 at h
      obtain ⟨z12, h13, h⟩ := Option.bind_eq_some_iff.mp h
      obtain ⟨n, hn⟩ := s_L_walk_71 hRec hd0 hd hK43 (u7 := u7) (by decide) h hQ
      exact ⟨n + 1, s_P_copyFrom (by omega) (by decide) h13 (hn)⟩
set_option maxRecDepth 20000 in
theorem s_L_walk_67 {N d : Nat} {Dr : Nat} {Rec : Int32 → Int32 → Int32 → jw_M → Option jw_M} {Q : jw_Q} {K43 : Int32 → Int32 → Int32 → Nat → Int32 → jw_M → Option jw_M} (hRec : ∀ {d : Nat} {a2 : Int32} {a3 : Int32} {a4 : Int32} {σ : jw_M} {z : jw_M} {Q : jw_Q}, Dr ≤ d → Rec a2 a3 a4 σ = some z → Q none (jx_ShC, z) → jw_C jp_kd jp_ys d 32 [.ref 92, .ref 1, .int a2, .int a3, .int a4] (jx_ShC, σ) Q) (hd0 : 0 + Dr ≤ d) (hd : 5 ≤ d) (hK43 : ∀ {x2 : Int32} {x3 : Int32} {x4 : Int32} {r5 : Nat} {x6 : Int32} {σ : jw_M} {z : jw_M} {u7 : Option Value}, (r5 = 94 ∨ r5 = 98 ∨ r5 = 102 ∨ r5 = 106 ∨ r5 = 110) → K43 x2 x3 x4 r5 x6 σ = some z → Q none (jx_ShC, z) → ∃ n, jx_W jx_ShC d none jc_32 Q n 43 [some (.ref 92), some (.ref 1), some (.int x2), some (.int x3), some (.int x4), some (.ref r5), some (.int x6), u7] [] σ) {x2 : Int32} {x3 : Int32} {x4 : Int32} {r5 : Nat} {x6 : Int32} {y2 : Int32} {u7 : Option Value} {σ : jw_M} {z : jw_M} (hr5 : r5 = 94 ∨ r5 = 98 ∨ r5 = 102 ∨ r5 = 106 ∨ r5 = 110) (h : f_L_walk_67 N Rec K43 x2 x3 x4 r5 x6 y2 σ = some z) (hQ : Q none (jx_ShC, z)) : ∃ n, jx_W jx_ShC d none jc_32 Q n 67 [some (.ref 92), some (.ref 1), some (.int x2), some (.int x3), some (.int x4), some (.ref r5), some (.int x6), u7] [.int y2, .ref 93, .ref r5] σ := by
  unfold f_L_walk_67 at h
  cases c11 : jx_in y2 5 with
  | false => rw [c11, cond_false] at h; cases h
  | true =>
    rw [c11, cond_true] at h
    rcases jx_ix5 (jx_in_ok c11) with rfl | rfl | rfl | rfl | rfl
    · try rw [show (94 + 4 * (0 : Int32).toNatClampNeg) = 94 from by decide] at h
      obtain ⟨n, hn⟩ := s_L_walk_68 hRec hd0 hd hK43 (u7 := u7) hr5 (by decide) h hQ
      exact ⟨n + 1, And.intro (jx_in_ok c11) (hn)⟩
    · try rw [show (94 + 4 * (1 : Int32).toNatClampNeg) = 98 from by decide] at h
      obtain ⟨n, hn⟩ := s_L_walk_68 hRec hd0 hd hK43 (u7 := u7) hr5 (by decide) h hQ
      exact ⟨n + 1, And.intro (jx_in_ok c11) (hn)⟩
    · try rw [show (94 + 4 * (2 : Int32).toNatClampNeg) = 102 from by decide] at h
      obtain ⟨n, hn⟩ := s_L_walk_68 hRec hd0 hd hK43 (u7 := u7) hr5 (by decide) h hQ
      exact ⟨n + 1, And.intro (jx_in_ok c11) (hn)⟩
    · try rw [show (94 + 4 * (3 : Int32).toNatClampNeg) = 106 from by decide] at h
      obtain ⟨n, hn⟩ := s_L_walk_68 hRec hd0 hd hK43 (u7 := u7) hr5 (by decide) h hQ
      exact ⟨n + 1, And.intro (jx_in_ok c11) (hn)⟩
    · try rw [show (94 + 4 * (4 : Int32).toNatClampNeg) = 110 from by decide] at h
      obtain ⟨n, hn⟩ := s_L_walk_68 hRec hd0 hd hK43 (u7 := u7) hr5 (by decide) h hQ
      exact ⟨n + 1, And.intro (jx_in_ok c11) (hn)⟩
set_option maxRecDepth 20000 in
theorem s_L_walk_43 {N d : Nat} {Dr : Nat} {Rec : Int32 → Int32 → Int32 → jw_M → Option jw_M} {Q : jw_Q} (hRec : ∀ {d : Nat} {a2 : Int32} {a3 : Int32} {a4 : Int32} {σ : jw_M} {z : jw_M} {Q : jw_Q}, Dr ≤ d → Rec a2 a3 a4 σ = some z → Q none (jx_ShC, z) → jw_C jp_kd jp_ys d 32 [.ref 92, .ref 1, .int a2, .int a3, .int a4] (jx_ShC, σ) Q) (hd0 : 0 + Dr ≤ d) (hd : 5 ≤ d) : ∀ (k : Nat) {x2 : Int32} {x3 : Int32} {x4 : Int32} {r5 : Nat} {x6 : Int32} {u7 : Option Value} {σ : jw_M} {z : jw_M}, (r5 = 94 ∨ r5 = 98 ∨ r5 = 102 ∨ r5 = 106 ∨ r5 = 110) → f_L_walk_43 N Rec k x2 x3 x4 r5 x6 σ = some z → Q none (jx_ShC, z) → ∃ n, jx_W jx_ShC d none jc_32 Q n 43 [some (.ref 92), some (.ref 1), some (.int x2), some (.int x3), some (.int x4), some (.ref r5), some (.int x6), u7] [] σ
  | 0, _, _, _, _, _, _, _, _, _, h, _ => by cases h
  | k + 1, x2, x3, x4, r5, x6, u7, σ, z, hr5, h, hQ => by
    rw [f_L_walk_43] at h
    by_cases c9 : (σ.1 1 0) < x6
    · rw [if_pos c9] at h
      suffices hh : ∃ n, jx_W jx_ShC d none jc_32 Q n 113 [some (.ref 92), some (.ref 1), some (.int x2), some (.int x3), some (.int x4), some (.ref r5), some (.int x6), u7] [] σ by
        obtain ⟨n, hn⟩ := hh
        exact ⟨n + 4, And.intro (fun _ => hn) (fun zz => absurd c9 zz)⟩
      cases h
      exact ⟨1, And.intro hQ (And.intro rfl rfl)⟩
    · rw [if_neg c9] at h
      suffices hh : ∃ n, jx_W jx_ShC d none jc_32 Q n 52 [some (.ref 92), some (.ref 1), some (.int x2), some (.int x3), some (.int x4), some (.ref r5), some (.int x6), u7] [] σ by
        obtain ⟨n, hn⟩ := hh
        exact ⟨n + 4, And.intro (fun zz => absurd zz c9) (fun _ => hn)⟩
      cases c10 : jx_in x2 4 with
      | false => rw [c10, cond_false] at h; cases h
      | true =>
        rw [c10, cond_true] at h
        obtain ⟨n, hn⟩ := s_L_walk_67 hRec hd0 hd (s_L_walk_43 hRec hd0 hd k) (u7 := u7) hr5 h hQ
        exact ⟨n + 9, And.intro (jx_in_ok c10) (hn)⟩
set_option maxRecDepth 20000 in
theorem s_L_walk_38 {N d : Nat} {Dr : Nat} {Rec : Int32 → Int32 → Int32 → jw_M → Option jw_M} {Q : jw_Q} (hRec : ∀ {d : Nat} {a2 : Int32} {a3 : Int32} {a4 : Int32} {σ : jw_M} {z : jw_M} {Q : jw_Q}, Dr ≤ d → Rec a2 a3 a4 σ = some z → Q none (jx_ShC, z) → jw_C jp_kd jp_ys d 32 [.ref 92, .ref 1, .int a2, .int a3, .int a4] (jx_ShC, σ) Q) (hd0 : 0 + Dr ≤ d) (hd : 5 ≤ d) {x2 : Int32} {x3 : Int32} {x4 : Int32} {r_0 : Nat} {u5 : Option Value} {u6 : Option Value} {u7 : Option Value} {σ : jw_M} {z : jw_M} (hr_0 : r_0 = 94 ∨ r_0 = 98 ∨ r_0 = 102 ∨ r_0 = 106 ∨ r_0 = 110) (h : f_L_walk_38 N Rec x2 x3 x4 r_0 σ = some z) (hQ : Q none (jx_ShC, z)) : ∃ n, jx_W jx_ShC d none jc_32 Q n 38 [some (.ref 92), some (.ref 1), some (.int x2), some (.int x3), some (.int x4), u5, u6, u7] [.ref r_0] σ := by
  unfold f_L_walk_38 at h
  obtain ⟨n, hn⟩ := s_L_walk_43 hRec hd0 hd N (u7 := u7) hr_0 h hQ
  exact ⟨n + 3, hn⟩
set_option maxRecDepth 20000 in
theorem s_L_walk_37 {N d : Nat} {Dr : Nat} {Rec : Int32 → Int32 → Int32 → jw_M → Option jw_M} {Q : jw_Q} (hRec : ∀ {d : Nat} {a2 : Int32} {a3 : Int32} {a4 : Int32} {σ : jw_M} {z : jw_M} {Q : jw_Q}, Dr ≤ d → Rec a2 a3 a4 σ = some z → Q none (jx_ShC, z) → jw_C jp_kd jp_ys d 32 [.ref 92, .ref 1, .int a2, .int a3, .int a4] (jx_ShC, σ) Q) (hd0 : 0 + Dr ≤ d) (hd : 5 ≤ d) {x2 : Int32} {x3 : Int32} {x4 : Int32} {y1 : Int32} {u5 : Option Value} {u6 : Option Value} {u7 : Option Value} {σ : jw_M} {z : jw_M} (h : f_L_walk_37 N Rec x2 x3 x4 y1 σ = some z) (hQ : Q none (jx_ShC, z)) : ∃ n, jx_W jx_ShC d none jc_32 Q n 37 [some (.ref 92), some (.ref 1), some (.int x2), some (.int x3), some (.int x4), u5, u6, u7] [.int y1, .ref 93] σ := by
  unfold f_L_walk_37 at h
  cases c8 : jx_in y1 5 with
  | false => rw [c8, cond_false] at h; cases h
  | true =>
    rw [c8, cond_true] at h
    rcases jx_ix5 (jx_in_ok c8) with rfl | rfl | rfl | rfl | rfl
    · try rw [show (94 + 4 * (0 : Int32).toNatClampNeg) = 94 from by decide] at h
      obtain ⟨n, hn⟩ := s_L_walk_38 hRec hd0 hd (u5 := u5) (u6 := u6) (u7 := u7) (by decide) h hQ
      exact ⟨n + 1, And.intro (jx_in_ok c8) (hn)⟩
    · try rw [show (94 + 4 * (1 : Int32).toNatClampNeg) = 98 from by decide] at h
      obtain ⟨n, hn⟩ := s_L_walk_38 hRec hd0 hd (u5 := u5) (u6 := u6) (u7 := u7) (by decide) h hQ
      exact ⟨n + 1, And.intro (jx_in_ok c8) (hn)⟩
    · try rw [show (94 + 4 * (2 : Int32).toNatClampNeg) = 102 from by decide] at h
      obtain ⟨n, hn⟩ := s_L_walk_38 hRec hd0 hd (u5 := u5) (u6 := u6) (u7 := u7) (by decide) h hQ
      exact ⟨n + 1, And.intro (jx_in_ok c8) (hn)⟩
    · try rw [show (94 + 4 * (3 : Int32).toNatClampNeg) = 106 from by decide] at h
      obtain ⟨n, hn⟩ := s_L_walk_38 hRec hd0 hd (u5 := u5) (u6 := u6) (u7 := u7) (by decide) h hQ
      exact ⟨n + 1, And.intro (jx_in_ok c8) (hn)⟩
    · try rw [show (94 + 4 * (4 : Int32).toNatClampNeg) = 110 from by decide] at h
      obtain ⟨n, hn⟩ := s_L_walk_38 hRec hd0 hd (u5 := u5) (u6 := u6) (u7 := u7) (by decide) h hQ
      exact ⟨n + 1, And.intro (jx_in_ok c8) (hn)⟩
set_option maxRecDepth 20000 in
theorem s_L_walk {N : Nat} : ∀ (r : Nat) {d : Nat} {x2 : Int32} {x3 : Int32} {x4 : Int32} {σ : jw_M} {z : jw_M} {Q : jw_Q}, 6 + 1 * r ≤ d → f_L_walk N r x2 x3 x4 σ = some z → Q none (jx_ShC, z) → jw_C jp_kd jp_ys d 32 [.ref 92, .ref 1, .int x2, .int x3, .int x4] (jx_ShC, σ) Q
  | 0, _, _, _, _, _, _, _, _, h, _ => by cases h
  | r + 1, d, x2, x3, x4, σ, z, Q, hd, h, hQ => by
    obtain ⟨d, rfl⟩ : ∃ e, d = e + 1 := ⟨d - 1, by omega⟩
    have hd0 : 0 + (6 + 1 * r) ≤ d := by omega
    replace hd : 5 ≤ d := by omega
    have hRec := @s_L_walk N r
    refine jx_C rfl rfl ?_
    rw [f_L_walk] at h
    by_cases c1 : (σ.1 92 2) ≤ x2
    · rw [if_pos c1] at h
      suffices hh : ∃ n, jx_W jx_ShC d none jc_32 Q n 13 [some (.ref 92), some (.ref 1), some (.int x2), some (.int x3), some (.int x4), none, none, none] [] σ by
        obtain ⟨n, hn⟩ := hh
        exact ⟨n + 4, And.intro (fun _ => hn) (fun zz => absurd c1 zz)⟩
      obtain ⟨n, hn⟩ := s_L_walk_13 hRec hd0 hd (u1 := some (.ref 1)) (u5 := none) (u6 := none) (u7 := none) h hQ
      exact ⟨n + 0, hn⟩
    · rw [if_neg c1] at h
      suffices hh : ∃ n, jx_W jx_ShC d none jc_32 Q n 8 [some (.ref 92), some (.ref 1), some (.int x2), some (.int x3), some (.int x4), none, none, none] [] σ by
        obtain ⟨n, hn⟩ := hh
        exact ⟨n + 4, And.intro (fun zz => absurd zz c1) (fun _ => hn)⟩
      by_cases c7 : x2 < 4
      · rw [if_pos c7] at h
        suffices hh : ∃ n, jx_W jx_ShC d none jc_32 Q n 30 [some (.ref 92), some (.ref 1), some (.int x2), some (.int x3), some (.int x4), none, none, none] [] σ by
          obtain ⟨n, hn⟩ := hh
          exact ⟨n + 3, And.intro (fun _ => hn) (fun zz => absurd c7 zz)⟩
        obtain ⟨n, hn⟩ := s_L_walk_37 hRec hd0 hd (u5 := none) (u6 := none) (u7 := none) h hQ
        exact ⟨n + 5, hn⟩
      · rw [if_neg c7] at h
        suffices hh : ∃ n, jx_W jx_ShC d none jc_32 Q n 13 [some (.ref 92), some (.ref 1), some (.int x2), some (.int x3), some (.int x4), none, none, none] [] σ by
          obtain ⟨n, hn⟩ := hh
          exact ⟨n + 3, And.intro (fun zz => absurd zz c7) (fun _ => hn)⟩
        obtain ⟨n, hn⟩ := s_L_walk_13 hRec hd0 hd (u1 := some (.ref 1)) (u5 := none) (u6 := none) (u7 := none) h hQ
        exact ⟨n + 0, hn⟩
