set_option maxRecDepth 20000 in
theorem s_M_report {N d : Nat} {x1 : Int32} {x2 : Int32} {x3 : Int32} {x4 : Int32} (hd : 2 ≤ d) {σ : jw_M} {z : (Int32 × jw_M)} {Q : jw_Q} (h : f_M_report N x1 x2 x3 x4 σ = some z) (hQ : Q (some (.int z.1)) (jx_ShM, z.2)) : jw_C jp_kd jp_ys d 272 [.ref 0, .int x1, .int x2, .int x3, .int x4] (jx_ShM, σ) Q := by
  obtain ⟨d, rfl⟩ : ∃ e, d = e + 1 := ⟨d - 1, by omega⟩
  replace hd : 1 ≤ d := by omega
  refine jx_C rfl rfl ?_
  unfold f_M_report at h
  obtain ⟨z1, h2, h⟩ := Option.bind_eq_some_iff.mp h
  by_cases c3 : z1.1 = 0
  · rw [if_pos c3] at h
    suffices hh : ∃ n, jx_W jx_ShM d (some .int) jc_272 Q n 42 [some (.ref 0), some (.int x1), some (.int x2), some (.int x3), some (.int x4), none] [] z1.2 by
      obtain ⟨n, hn⟩ := hh
      exact ⟨n + 5, s_M_in (by omega) h2 (And.intro (fun _ => hn) (fun zz => absurd c3 zz))⟩
    cases h
    exact ⟨2, And.intro hQ (And.intro rfl rfl)⟩
  · rw [if_neg c3] at h
    suffices hh : ∃ n, jx_W jx_ShM d (some .int) jc_272 Q n 9 [some (.ref 0), some (.int x1), some (.int x2), some (.int x3), some (.int x4), none] [] z1.2 by
      obtain ⟨n, hn⟩ := hh
      exact ⟨n + 5, s_M_in (by omega) h2 (And.intro (fun zz => absurd zz c3) (fun _ => hn))⟩
    obtain ⟨z4, h5, h⟩ := Option.bind_eq_some_iff.mp h
    by_cases c6 : z4.1 = 0
    · rw [if_pos c6] at h
      suffices hh : ∃ n, jx_W jx_ShM d (some .int) jc_272 Q n 42 [some (.ref 0), some (.int x1), some (.int x2), some (.int x3), some (.int x4), none] [] z4.2 by
        obtain ⟨n, hn⟩ := hh
        exact ⟨n + 5, s_M_in (by omega) h5 (And.intro (fun _ => hn) (fun zz => absurd c6 zz))⟩
      cases h
      exact ⟨2, And.intro hQ (And.intro rfl rfl)⟩
    · rw [if_neg c6] at h
      suffices hh : ∃ n, jx_W jx_ShM d (some .int) jc_272 Q n 19 [some (.ref 0), some (.int x1), some (.int x2), some (.int x3), some (.int x4), none] [] z4.2 by
        obtain ⟨n, hn⟩ := hh
        exact ⟨n + 5, s_M_in (by omega) h5 (And.intro (fun zz => absurd zz c6) (fun _ => hn))⟩
      obtain ⟨z7, h8, h⟩ := Option.bind_eq_some_iff.mp h
      by_cases c9 : z7.1 = 0
      · rw [if_pos c9] at h
        suffices hh : ∃ n, jx_W jx_ShM d (some .int) jc_272 Q n 42 [some (.ref 0), some (.int x1), some (.int x2), some (.int x3), some (.int x4), none] [] z7.2 by
          obtain ⟨n, hn⟩ := hh
          exact ⟨n + 5, s_M_in (by omega) h8 (And.intro (fun _ => hn) (fun zz => absurd c9 zz))⟩
        cases h
        exact ⟨2, And.intro hQ (And.intro rfl rfl)⟩
      · rw [if_neg c9] at h
        suffices hh : ∃ n, jx_W jx_ShM d (some .int) jc_272 Q n 30 [some (.ref 0), some (.int x1), some (.int x2), some (.int x3), some (.int x4), none] [] z7.2 by
          obtain ⟨n, hn⟩ := hh
          exact ⟨n + 5, s_M_in (by omega) h8 (And.intro (fun zz => absurd zz c9) (fun _ => hn))⟩
        obtain ⟨z10, h11, h⟩ := Option.bind_eq_some_iff.mp h
        by_cases c12 : z10.1 = 0
        · rw [if_pos c12] at h
          suffices hh : ∃ n, jx_W jx_ShM d (some .int) jc_272 Q n 42 [some (.ref 0), some (.int x1), some (.int x2), some (.int x3), some (.int x4), none] [] z10.2 by
            obtain ⟨n, hn⟩ := hh
            exact ⟨n + 5, s_M_in (by omega) h11 (And.intro (fun zz => absurd c12 zz) (fun _ => hn))⟩
          cases h
          exact ⟨2, And.intro hQ (And.intro rfl rfl)⟩
        · rw [if_neg c12] at h
          suffices hh : ∃ n, jx_W jx_ShM d (some .int) jc_272 Q n 44 [some (.ref 0), some (.int x1), some (.int x2), some (.int x3), some (.int x4), none] [] z10.2 by
            obtain ⟨n, hn⟩ := hh
            exact ⟨n + 5, s_M_in (by omega) h11 (And.intro (fun _ => hn) (fun zz => absurd zz c12))⟩
          by_cases c13 : (z10.2.1 3 5) = 6
          · rw [if_pos c13] at h
            suffices hh : ∃ n, jx_W jx_ShM d (some .int) jc_272 Q n 55 [some (.ref 0), some (.int x1), some (.int x2), some (.int x3), some (.int x4), none] [] z10.2 by
              obtain ⟨n, hn⟩ := hh
              exact ⟨n + 6, And.intro (jx_in_ok rfl) (And.intro (fun zz => absurd c13 zz) (fun _ => hn))⟩
            cases h
            exact ⟨2, And.intro hQ (And.intro rfl rfl)⟩
          · rw [if_neg c13] at h
            suffices hh : ∃ n, jx_W jx_ShM d (some .int) jc_272 Q n 58 [some (.ref 0), some (.int x1), some (.int x2), some (.int x3), some (.int x4), none] [] z10.2 by
              obtain ⟨n, hn⟩ := hh
              exact ⟨n + 6, And.intro (jx_in_ok rfl) (And.intro (fun _ => hn) (fun zz => absurd zz c13))⟩
            cases c14 : jx_in (70 + (4 * (z10.2.1 3 5))) 526 with
            | false => rw [c14, cond_false] at h; cases h
            | true =>
              rw [c14, cond_true] at h
              cases c15 : jx_in ((70 + (4 * (z10.2.1 3 5))) + 1) 526 with
              | false => rw [c15, cond_false] at h; cases h
              | true =>
                rw [c15, cond_true] at h
                cases c16 : jx_in ((70 + (4 * (z10.2.1 3 5))) + 2) 526 with
                | false => rw [c16, cond_false] at h; cases h
                | true =>
                  rw [c16, cond_true] at h
                  cases c17 : jx_in ((70 + (4 * (z10.2.1 3 5))) + 3) 526 with
                  | false => rw [c17, cond_false] at h; cases h
                  | true =>
                    rw [c17, cond_true] at h
                    cases h
                    exact ⟨50, And.intro (jx_in_ok rfl) (And.intro (jx_in_ok c14) (And.intro (jx_in_ok c15) (And.intro (jx_in_ok c16) (And.intro (jx_in_ok c17) (And.intro (jx_in_ok rfl) (And.intro (jx_in_ok rfl) (And.intro (jx_in_ok rfl) (And.intro hQ (And.intro rfl rfl)))))))))⟩
set_option maxRecDepth 20000 in
theorem s_M_forget {N d : Nat} (hd : 2 ≤ d) {σ : jw_M} {z : (Int32 × jw_M)} {Q : jw_Q} (h : f_M_forget N  σ = some z) (hQ : Q (some (.int z.1)) (jx_ShM, z.2)) : jw_C jp_kd jp_ys d 273 [.ref 0] (jx_ShM, σ) Q := by
  obtain ⟨d, rfl⟩ : ∃ e, d = e + 1 := ⟨d - 1, by omega⟩
  replace hd : 1 ≤ d := by omega
  refine jx_C rfl rfl ?_
  unfold f_M_forget at h
  obtain ⟨z1, h2, h⟩ := Option.bind_eq_some_iff.mp h
  cases h
  exact ⟨5, s_M_becomes (by omega) h2 (And.intro hQ (And.intro rfl rfl))⟩
set_option maxRecDepth 20000 in
theorem s_M_fits_96 {N d : Nat} {Q : jw_Q} {K5 : Int32 → Int32 → Int32 → Int32 → jw_M → Option (Int32 × jw_M)} (hd : 2 ≤ d) (hK5 : ∀ {x1 : Int32} {x2 : Int32} {x3 : Int32} {x4 : Int32} {σ : jw_M} {z : (Int32 × jw_M)} {u5 : Option Value} {u6 : Option Value}, K5 x1 x2 x3 x4 σ = some z → Q (some (.int z.1)) (jx_ShM, z.2) → ∃ n, jx_W jx_ShM d (some .boolean) jc_274 Q n 5 [some (.ref 0), some (.int x1), some (.int x2), some (.int x3), some (.int x4), u5, u6] [] σ) {x1 : Int32} {x2 : Int32} {x4 : Int32} {y0 : Int32} {u3 : Option Value} {u5 : Option Value} {u6 : Option Value} {σ : jw_M} {z : (Int32 × jw_M)} (h : f_M_fits_96 N K5 x1 x2 x4 y0 σ = some z) (hQ : Q (some (.int z.1)) (jx_ShM, z.2)) : ∃ n, jx_W jx_ShM d (some .boolean) jc_274 Q n 96 [some (.ref 0), some (.int x1), some (.int x2), u3, some (.int x4), u5, u6] [.int y0] σ := by
  unfold f_M_fits_96 at h
  obtain ⟨n, hn⟩ := hK5 (u5 := u5) (u6 := u6) h hQ
  exact ⟨n + 3, hn⟩
set_option maxRecDepth 20000 in
theorem s_M_fits_95 {N d : Nat} {Q : jw_Q} {K5 : Int32 → Int32 → Int32 → Int32 → jw_M → Option (Int32 × jw_M)} (hd : 2 ≤ d) (hK5 : ∀ {x1 : Int32} {x2 : Int32} {x3 : Int32} {x4 : Int32} {σ : jw_M} {z : (Int32 × jw_M)} {u5 : Option Value} {u6 : Option Value}, K5 x1 x2 x3 x4 σ = some z → Q (some (.int z.1)) (jx_ShM, z.2) → ∃ n, jx_W jx_ShM d (some .boolean) jc_274 Q n 5 [some (.ref 0), some (.int x1), some (.int x2), some (.int x3), some (.int x4), u5, u6] [] σ) {x1 : Int32} {x2 : Int32} {x4 : Int32} {u3 : Option Value} {u5 : Option Value} {u6 : Option Value} {σ : jw_M} {z : (Int32 × jw_M)} (h : f_M_fits_95 N K5 x1 x2 x4 σ = some z) (hQ : Q (some (.int z.1)) (jx_ShM, z.2)) : ∃ n, jx_W jx_ShM d (some .boolean) jc_274 Q n 95 [some (.ref 0), some (.int x1), some (.int x2), u3, some (.int x4), u5, u6] [] σ := by
  unfold f_M_fits_95 at h
  obtain ⟨n, hn⟩ := s_M_fits_96 hd hK5 (u3 := u3) (u5 := u5) (u6 := u6) h hQ
  exact ⟨n + 1, hn⟩
set_option maxRecDepth 20000 in
theorem s_M_fits_91 {N d : Nat} {Q : jw_Q} {K5 : Int32 → Int32 → Int32 → Int32 → jw_M → Option (Int32 × jw_M)} (hd : 2 ≤ d) (hK5 : ∀ {x1 : Int32} {x2 : Int32} {x3 : Int32} {x4 : Int32} {σ : jw_M} {z : (Int32 × jw_M)} {u5 : Option Value} {u6 : Option Value}, K5 x1 x2 x3 x4 σ = some z → Q (some (.int z.1)) (jx_ShM, z.2) → ∃ n, jx_W jx_ShM d (some .boolean) jc_274 Q n 5 [some (.ref 0), some (.int x1), some (.int x2), some (.int x3), some (.int x4), u5, u6] [] σ) {x1 : Int32} {x2 : Int32} {x4 : Int32} {u3 : Option Value} {u5 : Option Value} {u6 : Option Value} {σ : jw_M} {z : (Int32 × jw_M)} (h : f_M_fits_91 N K5 x1 x2 x4 σ = some z) (hQ : Q (some (.int z.1)) (jx_ShM, z.2)) : ∃ n, jx_W jx_ShM d (some .boolean) jc_274 Q n 91 [some (.ref 0), some (.int x1), some (.int x2), u3, some (.int x4), u5, u6] [] σ := by
  unfold f_M_fits_91 at h
  obtain ⟨n, hn⟩ := s_M_fits_96 hd hK5 (u3 := u3) (u5 := u5) (u6 := u6) h hQ
  exact ⟨n + 2, hn⟩
set_option maxRecDepth 20000 in
theorem s_M_fits_5 {N d : Nat} {Q : jw_Q} (hd : 2 ≤ d) : ∀ (k : Nat) {x1 : Int32} {x2 : Int32} {x3 : Int32} {x4 : Int32} {u5 : Option Value} {u6 : Option Value} {σ : jw_M} {z : (Int32 × jw_M)}, f_M_fits_5 N k x1 x2 x3 x4 σ = some z → Q (some (.int z.1)) (jx_ShM, z.2) → ∃ n, jx_W jx_ShM d (some .boolean) jc_274 Q n 5 [some (.ref 0), some (.int x1), some (.int x2), some (.int x3), some (.int x4), u5, u6] [] σ
  | 0, _, _, _, _, _, _, _, _, h, _ => by cases h
  | k + 1, x1, x2, x3, x4, u5, u6, σ, z, h, hQ => by
    rw [f_M_fits_5] at h
    by_cases c1 : (σ.1 3 5) ≤ x4
    · rw [if_pos c1] at h
      suffices hh : ∃ n, jx_W jx_ShM d (some .boolean) jc_274 Q n 103 [some (.ref 0), some (.int x1), some (.int x2), some (.int x3), some (.int x4), u5, u6] [] σ by
        obtain ⟨n, hn⟩ := hh
        exact ⟨n + 6, And.intro (jx_in_ok rfl) (And.intro (fun _ => hn) (fun zz => absurd c1 zz))⟩
      by_cases c2 : x3 = 0 ∨ x3 = 1
      · rw [if_pos c2] at h
        cases h
        exact ⟨2, And.intro c2 (And.intro hQ (And.intro rfl rfl))⟩
      · rw [if_neg c2] at h
        cases h
    · rw [if_neg c1] at h
      suffices hh : ∃ n, jx_W jx_ShM d (some .boolean) jc_274 Q n 16 [some (.ref 0), some (.int x1), some (.int x2), some (.int x3), some (.int x4), u5, u6] [] σ by
        obtain ⟨n, hn⟩ := hh
        exact ⟨n + 6, And.intro (jx_in_ok rfl) (And.intro (fun zz => absurd zz c1) (fun _ => hn))⟩
      cases c3 : jx_in (70 + (4 * x4)) 526 with
      | false => rw [c3, cond_false] at h; cases h
      | true =>
        rw [c3, cond_true] at h
        cases c4 : jx_in ((70 + (4 * x4)) + 1) 526 with
        | false => rw [c4, cond_false] at h; cases h
        | true =>
          rw [c4, cond_true] at h
          obtain ⟨z5, h6, h⟩ := Option.bind_eq_some_iff.mp h
          by_cases c7 : x3 = 0
          · rw [if_pos c7] at h
            suffices hh : ∃ n, jx_W jx_ShM d (some .boolean) jc_274 Q n 95 [some (.ref 0), some (.int x1), some (.int x2), some (.int x3), some (.int x4), some (.int (70 + (4 * x4))), some (.int (z5.1 * ((x1 - x1 / 5 * 5) + 1)))] [] z5.2 by
              obtain ⟨n, hn⟩ := hh
              exact ⟨n + 29, And.intro (jx_in_ok c3) (And.intro (jx_in_ok c4) (And.intro (by decide) (s_M_lengthBy (by omega) h6 (And.intro (by decide) (And.intro (fun _ => hn) (fun zz => absurd c7 zz))))))⟩
            obtain ⟨n, hn⟩ := s_M_fits_95 hd (s_M_fits_5 hd k) (u3 := some (.int x3)) (u5 := some (.int (70 + (4 * x4)))) (u6 := some (.int (z5.1 * ((x1 - x1 / 5 * 5) + 1)))) h hQ
            exact ⟨n + 0, hn⟩
          · rw [if_neg c7] at h
            suffices hh : ∃ n, jx_W jx_ShM d (some .boolean) jc_274 Q n 59 [some (.ref 0), some (.int x1), some (.int x2), some (.int x3), some (.int x4), some (.int (70 + (4 * x4))), some (.int (z5.1 * ((x1 - x1 / 5 * 5) + 1)))] [] z5.2 by
              obtain ⟨n, hn⟩ := hh
              exact ⟨n + 29, And.intro (jx_in_ok c3) (And.intro (jx_in_ok c4) (And.intro (by decide) (s_M_lengthBy (by omega) h6 (And.intro (by decide) (And.intro (fun zz => absurd zz c7) (fun _ => hn))))))⟩
            by_cases c8 : x4 = x2
            · rw [if_pos c8] at h
              suffices hh : ∃ n, jx_W jx_ShM d (some .boolean) jc_274 Q n 91 [some (.ref 0), some (.int x1), some (.int x2), some (.int x3), some (.int x4), some (.int (70 + (4 * x4))), some (.int (z5.1 * ((x1 - x1 / 5 * 5) + 1)))] [] z5.2 by
                obtain ⟨n, hn⟩ := hh
                exact ⟨n + 3, And.intro (fun _ => hn) (fun zz => absurd c8 zz)⟩
              obtain ⟨n, hn⟩ := s_M_fits_91 hd (s_M_fits_5 hd k) (u3 := some (.int x3)) (u5 := some (.int (70 + (4 * x4)))) (u6 := some (.int (z5.1 * ((x1 - x1 / 5 * 5) + 1)))) h hQ
              exact ⟨n + 0, hn⟩
            · rw [if_neg c8] at h
              suffices hh : ∃ n, jx_W jx_ShM d (some .boolean) jc_274 Q n 65 [some (.ref 0), some (.int x1), some (.int x2), some (.int x3), some (.int x4), some (.int (70 + (4 * x4))), some (.int (z5.1 * ((x1 - x1 / 5 * 5) + 1)))] [] z5.2 by
                obtain ⟨n, hn⟩ := hh
                exact ⟨n + 3, And.intro (fun zz => absurd zz c8) (fun _ => hn)⟩
              cases c9 : jx_in ((70 + (4 * x4)) + 2) 526 with
              | false => rw [c9, cond_false] at h; cases h
              | true =>
                rw [c9, cond_true] at h
                cases c10 : jx_in ((70 + (4 * x4)) + 3) 526 with
                | false => rw [c10, cond_false] at h; cases h
                | true =>
                  rw [c10, cond_true] at h
                  obtain ⟨z11, h12, h⟩ := Option.bind_eq_some_iff.mp h
                  by_cases c13 : z11.1 = 0
                  · rw [if_pos c13] at h
                    suffices hh : ∃ n, jx_W jx_ShM d (some .boolean) jc_274 Q n 95 [some (.ref 0), some (.int x1), some (.int x2), some (.int x3), some (.int x4), some (.int (70 + (4 * x4))), some (.int (z5.1 * ((x1 - x1 / 5 * 5) + 1)))] [] z11.2 by
                      obtain ⟨n, hn⟩ := hh
                      exact ⟨n + 15, And.intro (jx_in_ok c9) (And.intro (jx_in_ok c10) (s_M_in (by omega) h12 (And.intro (fun _ => hn) (fun zz => absurd c13 zz))))⟩
                    obtain ⟨n, hn⟩ := s_M_fits_95 hd (s_M_fits_5 hd k) (u3 := some (.int x3)) (u5 := some (.int (70 + (4 * x4)))) (u6 := some (.int (z5.1 * ((x1 - x1 / 5 * 5) + 1)))) h hQ
                    exact ⟨n + 0, hn⟩
                  · rw [if_neg c13] at h
                    suffices hh : ∃ n, jx_W jx_ShM d (some .boolean) jc_274 Q n 91 [some (.ref 0), some (.int x1), some (.int x2), some (.int x3), some (.int x4), some (.int (70 + (4 * x4))), some (.int (z5.1 * ((x1 - x1 / 5 * 5) + 1)))] [] z11.2 by
                      obtain ⟨n, hn⟩ := hh
                      exact ⟨n + 15, And.intro (jx_in_ok c9) (And.intro (jx_in_ok c10) (s_M_in (by omega) h12 (And.intro (fun zz => absurd zz c13) (fun _ => hn))))⟩
                    obtain ⟨n, hn⟩ := s_M_fits_91 hd (s_M_fits_5 hd k) (u3 := some (.int x3)) (u5 := some (.int (70 + (4 * x4)))) (u6 := some (.int (z5.1 * ((x1 - x1 / 5 * 5) + 1)))) h hQ
                    exact ⟨n + 0, hn⟩
set_option maxRecDepth 20000 in
theorem s_M_fits {N d : Nat} {x1 : Int32} {x2 : Int32} (hd : 3 ≤ d) {σ : jw_M} {z : (Int32 × jw_M)} {Q : jw_Q} (h : f_M_fits N x1 x2 σ = some z) (hQ : Q (some (.int z.1)) (jx_ShM, z.2)) : jw_C jp_kd jp_ys d 274 [.ref 0, .int x1, .int x2] (jx_ShM, σ) Q := by
  obtain ⟨d, rfl⟩ : ∃ e, d = e + 1 := ⟨d - 1, by omega⟩
  replace hd : 2 ≤ d := by omega
  refine jx_C rfl rfl ?_
  unfold f_M_fits at h
  obtain ⟨n, hn⟩ := s_M_fits_5 hd N (u5 := none) (u6 := none) h hQ
  exact ⟨n + 4, hn⟩
set_option maxRecDepth 20000 in
theorem s_M_firstMoment_2 {N d : Nat} {Q : jw_Q} (hd : 3 ≤ d) : ∀ (k : Nat) {x1 : Int32} {x2 : Int32} {σ : jw_M} {z : (Int32 × jw_M)}, f_M_firstMoment_2 N k x1 x2 σ = some z → Q (some (.int z.1)) (jx_ShM, z.2) → ∃ n, jx_W jx_ShM d (some .int) jc_275 Q n 2 [some (.ref 0), some (.int x1), some (.int x2)] [] σ
  | 0, _, _, _, _, h, _ => by cases h
  | k + 1, x1, x2, σ, z, h, hQ => by
    rw [f_M_firstMoment_2] at h
    by_cases c1 : 80 ≤ x2
    · rw [if_pos c1] at h
      suffices hh : ∃ n, jx_W jx_ShM d (some .int) jc_275 Q n 25 [some (.ref 0), some (.int x1), some (.int x2)] [] σ by
        obtain ⟨n, hn⟩ := hh
        exact ⟨n + 3, And.intro (fun _ => hn) (fun zz => absurd c1 zz)⟩
      cases h
      exact ⟨2, And.intro hQ (And.intro rfl rfl)⟩
    · rw [if_neg c1] at h
      suffices hh : ∃ n, jx_W jx_ShM d (some .int) jc_275 Q n 8 [some (.ref 0), some (.int x1), some (.int x2)] [] σ by
        obtain ⟨n, hn⟩ := hh
        exact ⟨n + 3, And.intro (fun zz => absurd zz c1) (fun _ => hn)⟩
      obtain ⟨z2, h3, h⟩ := Option.bind_eq_some_iff.mp h
      by_cases c4 : z2.1 = 0
      · rw [if_pos c4] at h
        suffices hh : ∃ n, jx_W jx_ShM d (some .int) jc_275 Q n 19 [some (.ref 0), some (.int x1), some (.int x2)] [] z2.2 by
          obtain ⟨n, hn⟩ := hh
          exact ⟨n + 5, s_M_fits (by omega) h3 (And.intro (fun _ => hn) (fun zz => absurd c4 zz))⟩
        obtain ⟨n, hn⟩ := s_M_firstMoment_2 hd k h hQ
        exact ⟨n + 2, hn⟩
      · rw [if_neg c4] at h
        suffices hh : ∃ n, jx_W jx_ShM d (some .int) jc_275 Q n 17 [some (.ref 0), some (.int x1), some (.int x2)] [] z2.2 by
          obtain ⟨n, hn⟩ := hh
          exact ⟨n + 5, s_M_fits (by omega) h3 (And.intro (fun zz => absurd zz c4) (fun _ => hn))⟩
        cases h
        exact ⟨2, And.intro hQ (And.intro rfl rfl)⟩
set_option maxRecDepth 20000 in
theorem s_M_firstMoment {N d : Nat} {x1 : Int32} (hd : 4 ≤ d) {σ : jw_M} {z : (Int32 × jw_M)} {Q : jw_Q} (h : f_M_firstMoment N x1 σ = some z) (hQ : Q (some (.int z.1)) (jx_ShM, z.2)) : jw_C jp_kd jp_ys d 275 [.ref 0, .int x1] (jx_ShM, σ) Q := by
  obtain ⟨d, rfl⟩ : ∃ e, d = e + 1 := ⟨d - 1, by omega⟩
  replace hd : 3 ≤ d := by omega
  refine jx_C rfl rfl ?_
  unfold f_M_firstMoment at h
  obtain ⟨n, hn⟩ := s_M_firstMoment_2 hd N h hQ
  exact ⟨n + 2, hn⟩
set_option maxRecDepth 20000 in
theorem s_M_span_40 {N d : Nat} {Q : jw_Q} {K19 : Int32 → Int32 → jw_M → Option (Int32 × jw_M)} (hd : 4 ≤ d) (hK19 : ∀ {x2 : Int32} {x3 : Int32} {σ : jw_M} {z : (Int32 × jw_M)} {u1 : Option Value}, K19 x2 x3 σ = some z → Q (some (.int z.1)) (jx_ShM, z.2) → ∃ n, jx_W jx_ShM d (some .int) jc_276 Q n 19 [some (.ref 0), u1, some (.int x2), some (.int x3)] [] σ) {x3 : Int32} {y0 : Int32} {y1 : Int32} {u1 : Option Value} {u2 : Option Value} {σ : jw_M} {z : (Int32 × jw_M)} (h : f_M_span_40 N K19 x3 y0 y1 σ = some z) (hQ : Q (some (.int z.1)) (jx_ShM, z.2)) : ∃ n, jx_W jx_ShM d (some .int) jc_276 Q n 40 [some (.ref 0), u1, u2, some (.int x3)] [.int y1, .int y0] σ := by
  unfold f_M_span_40 at h
  obtain ⟨n, hn⟩ := hK19 (u1 := (jw_clr u1)) h hQ
  exact ⟨n + 4, hn⟩
set_option maxRecDepth 20000 in
theorem s_M_span_19 {N d : Nat} {Q : jw_Q} (hd : 4 ≤ d) : ∀ (k : Nat) {x2 : Int32} {x3 : Int32} {u1 : Option Value} {σ : jw_M} {z : (Int32 × jw_M)}, f_M_span_19 N k x2 x3 σ = some z → Q (some (.int z.1)) (jx_ShM, z.2) → ∃ n, jx_W jx_ShM d (some .int) jc_276 Q n 19 [some (.ref 0), u1, some (.int x2), some (.int x3)] [] σ
  | 0, _, _, _, _, _, h, _ => by cases h
  | k + 1, x2, x3, u1, σ, z, h, hQ => by
    rw [f_M_span_19] at h
    by_cases c5 : 80 ≤ x3
    · rw [if_pos c5] at h
      suffices hh : ∃ n, jx_W jx_ShM d (some .int) jc_276 Q n 48 [some (.ref 0), u1, some (.int x2), some (.int x3)] [] σ by
        obtain ⟨n, hn⟩ := hh
        exact ⟨n + 3, And.intro (fun _ => hn) (fun zz => absurd c5 zz)⟩
      cases h
      exact ⟨2, And.intro hQ (And.intro rfl rfl)⟩
    · rw [if_neg c5] at h
      suffices hh : ∃ n, jx_W jx_ShM d (some .int) jc_276 Q n 25 [some (.ref 0), u1, some (.int x2), some (.int x3)] [] σ by
        obtain ⟨n, hn⟩ := hh
        exact ⟨n + 3, And.intro (fun zz => absurd zz c5) (fun _ => hn)⟩
      obtain ⟨z6, h7, h⟩ := Option.bind_eq_some_iff.mp h
      by_cases c8 : z6.1 = 0
      · rw [if_pos c8] at h
        suffices hh : ∃ n, jx_W jx_ShM d (some .int) jc_276 Q n 39 [some (.ref 0), u1, some (.int x2), some (.int x3)] [.int x2] z6.2 by
          obtain ⟨n, hn⟩ := hh
          exact ⟨n + 6, s_M_fits (by omega) h7 (And.intro (fun _ => hn) (fun zz => absurd c8 zz))⟩
        obtain ⟨n, hn⟩ := s_M_span_40 hd (s_M_span_19 hd k) (u1 := u1) (u2 := some (.int x2)) h hQ
        exact ⟨n + 1, hn⟩
      · rw [if_neg c8] at h
        suffices hh : ∃ n, jx_W jx_ShM d (some .int) jc_276 Q n 35 [some (.ref 0), u1, some (.int x2), some (.int x3)] [.int x2] z6.2 by
          obtain ⟨n, hn⟩ := hh
          exact ⟨n + 6, s_M_fits (by omega) h7 (And.intro (fun zz => absurd zz c8) (fun _ => hn))⟩
        obtain ⟨n, hn⟩ := s_M_span_40 hd (s_M_span_19 hd k) (u1 := u1) (u2 := some (.int x2)) h hQ
        exact ⟨n + 2, hn⟩
set_option maxRecDepth 20000 in
theorem s_M_span {N d : Nat} {x1 : Int32} (hd : 5 ≤ d) {σ : jw_M} {z : (Int32 × jw_M)} {Q : jw_Q} (h : f_M_span N x1 σ = some z) (hQ : Q (some (.int z.1)) (jx_ShM, z.2)) : jw_C jp_kd jp_ys d 276 [.ref 0, .int x1] (jx_ShM, σ) Q := by
  obtain ⟨d, rfl⟩ : ∃ e, d = e + 1 := ⟨d - 1, by omega⟩
  replace hd : 4 ≤ d := by omega
  refine jx_C rfl rfl ?_
  unfold f_M_span at h
  obtain ⟨z1, h2, h⟩ := Option.bind_eq_some_iff.mp h
  by_cases c3 : z1.1 = 0
  · rw [if_pos c3] at h
    suffices hh : ∃ n, jx_W jx_ShM d (some .int) jc_276 Q n 9 [some (.ref 0), some (.int x1), none, none] [] z1.2 by
      obtain ⟨n, hn⟩ := hh
      exact ⟨n + 5, s_M_in (by omega) h2 (And.intro (fun zz => absurd c3 zz) (fun _ => hn))⟩
    cases h
    exact ⟨2, And.intro hQ (And.intro rfl rfl)⟩
  · rw [if_neg c3] at h
    suffices hh : ∃ n, jx_W jx_ShM d (some .int) jc_276 Q n 11 [some (.ref 0), some (.int x1), none, none] [] z1.2 by
      obtain ⟨n, hn⟩ := hh
      exact ⟨n + 5, s_M_in (by omega) h2 (And.intro (fun _ => hn) (fun zz => absurd zz c3))⟩
    by_cases c4 : x1 = 0
    · rw [if_pos c4] at h
      suffices hh : ∃ n, jx_W jx_ShM d (some .int) jc_276 Q n 15 [some (.ref 0), some (.int x1), none, none] [] z1.2 by
        obtain ⟨n, hn⟩ := hh
        exact ⟨n + 2, And.intro (fun zz => absurd c4 zz) (fun _ => hn)⟩
      obtain ⟨n, hn⟩ := s_M_span_19 hd N (u1 := some (.int x1)) h hQ
      exact ⟨n + 4, hn⟩
    · rw [if_neg c4] at h
      suffices hh : ∃ n, jx_W jx_ShM d (some .int) jc_276 Q n 50 [some (.ref 0), some (.int x1), none, none] [] z1.2 by
        obtain ⟨n, hn⟩ := hh
        exact ⟨n + 2, And.intro (fun _ => hn) (fun zz => absurd zz c4)⟩
      obtain ⟨z9, h10, h⟩ := Option.bind_eq_some_iff.mp h
      by_cases c11 : 0 ≤ z9.1
      · rw [if_pos c11] at h
        suffices hh : ∃ n, jx_W jx_ShM d (some .int) jc_276 Q n 65 [some (.ref 0), some (.int x1), some (.int z9.1), none] [] z9.2 by
          obtain ⟨n, hn⟩ := hh
          exact ⟨n + 6, s_M_firstMoment (by omega) h10 (And.intro (fun _ => hn) (fun zz => absurd c11 zz))⟩
        by_cases c12 : x1 = 1
        · rw [if_pos c12] at h
          suffices hh : ∃ n, jx_W jx_ShM d (some .int) jc_276 Q n 70 [some (.ref 0), some (.int x1), some (.int z9.1), none] [] z9.2 by
            obtain ⟨n, hn⟩ := hh
            exact ⟨n + 3, And.intro (fun zz => absurd c12 zz) (fun _ => hn)⟩
          cases h
          exact ⟨5, And.intro (by decide) (And.intro hQ (And.intro rfl rfl))⟩
        · rw [if_neg c12] at h
          suffices hh : ∃ n, jx_W jx_ShM d (some .int) jc_276 Q n 76 [some (.ref 0), some (.int x1), some (.int z9.1), none] [] z9.2 by
            obtain ⟨n, hn⟩ := hh
            exact ⟨n + 3, And.intro (fun _ => hn) (fun zz => absurd zz c12)⟩
          cases h
          exact ⟨6, And.intro (by decide) (And.intro hQ (And.intro rfl rfl))⟩
      · rw [if_neg c11] at h
        suffices hh : ∃ n, jx_W jx_ShM d (some .int) jc_276 Q n 60 [some (.ref 0), some (.int x1), some (.int z9.1), none] [] z9.2 by
          obtain ⟨n, hn⟩ := hh
          exact ⟨n + 6, s_M_firstMoment (by omega) h10 (And.intro (fun zz => absurd zz c11) (fun _ => hn))⟩
        cases h
        exact ⟨3, And.intro hQ (And.intro rfl rfl)⟩
set_option maxRecDepth 20000 in
theorem s_M_liar_13 {N d : Nat} {Q : jw_Q} (hd : 4 ≤ d) : ∀ (k : Nat) {x1 : Int32} {σ : jw_M} {z : (Int32 × jw_M)}, f_M_liar_13 N k x1 σ = some z → Q (some (.int z.1)) (jx_ShM, z.2) → ∃ n, jx_W jx_ShM d (some .int) jc_277 Q n 13 [some (.ref 0), some (.int x1)] [] σ
  | 0, _, _, _, h, _ => by cases h
  | k + 1, x1, σ, z, h, hQ => by
    rw [f_M_liar_13] at h
    by_cases c4 : (σ.1 3 5) ≤ x1
    · rw [if_pos c4] at h
      suffices hh : ∃ n, jx_W jx_ShM d (some .int) jc_277 Q n 39 [some (.ref 0), some (.int x1)] [] σ by
        obtain ⟨n, hn⟩ := hh
        exact ⟨n + 6, And.intro (jx_in_ok rfl) (And.intro (fun _ => hn) (fun zz => absurd c4 zz))⟩
      cases h
      exact ⟨2, And.intro hQ (And.intro rfl rfl)⟩
    · rw [if_neg c4] at h
      suffices hh : ∃ n, jx_W jx_ShM d (some .int) jc_277 Q n 23 [some (.ref 0), some (.int x1)] [] σ by
        obtain ⟨n, hn⟩ := hh
        exact ⟨n + 6, And.intro (jx_in_ok rfl) (And.intro (fun zz => absurd zz c4) (fun _ => hn))⟩
      obtain ⟨z5, h6, h⟩ := Option.bind_eq_some_iff.mp h
      by_cases c7 : z5.1 < 0
      · rw [if_pos c7] at h
        suffices hh : ∃ n, jx_W jx_ShM d (some .int) jc_277 Q n 33 [some (.ref 0), some (.int x1)] [] z5.2 by
          obtain ⟨n, hn⟩ := hh
          exact ⟨n + 4, s_M_firstMoment (by omega) h6 (And.intro (fun _ => hn) (fun zz => absurd c7 zz))⟩
        obtain ⟨n, hn⟩ := s_M_liar_13 hd k h hQ
        exact ⟨n + 2, hn⟩
      · rw [if_neg c7] at h
        suffices hh : ∃ n, jx_W jx_ShM d (some .int) jc_277 Q n 31 [some (.ref 0), some (.int x1)] [] z5.2 by
          obtain ⟨n, hn⟩ := hh
          exact ⟨n + 4, s_M_firstMoment (by omega) h6 (And.intro (fun zz => absurd zz c7) (fun _ => hn))⟩
        cases h
        exact ⟨2, And.intro hQ (And.intro rfl rfl)⟩
set_option maxRecDepth 20000 in
theorem s_M_liar {N d : Nat} (hd : 5 ≤ d) {σ : jw_M} {z : (Int32 × jw_M)} {Q : jw_Q} (h : f_M_liar N  σ = some z) (hQ : Q (some (.int z.1)) (jx_ShM, z.2)) : jw_C jp_kd jp_ys d 277 [.ref 0] (jx_ShM, σ) Q := by
  obtain ⟨d, rfl⟩ : ∃ e, d = e + 1 := ⟨d - 1, by omega⟩
  replace hd : 4 ≤ d := by omega
  refine jx_C rfl rfl ?_
  unfold f_M_liar at h
  obtain ⟨z1, h2, h⟩ := Option.bind_eq_some_iff.mp h
  by_cases c3 : z1.1 < 0
  · rw [if_pos c3] at h
    suffices hh : ∃ n, jx_W jx_ShM d (some .int) jc_277 Q n 11 [some (.ref 0), none] [] z1.2 by
      obtain ⟨n, hn⟩ := hh
      exact ⟨n + 4, s_M_firstMoment (by omega) h2 (And.intro (fun _ => hn) (fun zz => absurd c3 zz))⟩
    obtain ⟨n, hn⟩ := s_M_liar_13 hd N h hQ
    exact ⟨n + 2, hn⟩
  · rw [if_neg c3] at h
    suffices hh : ∃ n, jx_W jx_ShM d (some .int) jc_277 Q n 8 [some (.ref 0), none] [] z1.2 by
      obtain ⟨n, hn⟩ := hh
      exact ⟨n + 4, s_M_firstMoment (by omega) h2 (And.intro (fun zz => absurd zz c3) (fun _ => hn))⟩
    cases h
    exact ⟨2, And.intro hQ (And.intro rfl rfl)⟩
set_option maxRecDepth 20000 in
theorem s_M_seed {N d : Nat} {x1 : Int32} (hd : 2 ≤ d) {σ : jw_M} {z : (Int32 × jw_M)} {Q : jw_Q} (h : f_M_seed N x1 σ = some z) (hQ : Q (some (.int z.1)) (jx_ShM, z.2)) : jw_C jp_kd jp_ys d 278 [.ref 0, .int x1] (jx_ShM, σ) Q := by
  obtain ⟨d, rfl⟩ : ∃ e, d = e + 1 := ⟨d - 1, by omega⟩
  replace hd : 1 ≤ d := by omega
  refine jx_C rfl rfl ?_
  unfold f_M_seed at h
  obtain ⟨z1, h2, h⟩ := Option.bind_eq_some_iff.mp h
  cases h
  exact ⟨5, s_M_becomes (by omega) h2 (And.intro hQ (And.intro rfl rfl))⟩
set_option maxRecDepth 20000 in
theorem s_M_lotGoes {N d : Nat} (hd : 7 ≤ d) {σ : jw_M} {z : (Int32 × jw_M)} {Q : jw_Q} (h : f_M_lotGoes N  σ = some z) (hQ : Q (some (.int z.1)) (jx_ShM, z.2)) : jw_C jp_kd jp_ys d 279 [.ref 0] (jx_ShM, σ) Q := by
  obtain ⟨d, rfl⟩ : ∃ e, d = e + 1 := ⟨d - 1, by omega⟩
  replace hd : 6 ≤ d := by omega
  refine jx_C rfl rfl ?_
  unfold f_M_lotGoes at h
  by_cases c1 : (((jx_w σ 3 1 (((σ.1 3 1) * 1103515245) + 12345)).1 3 2) + 1) = 0
  · rw [if_pos c1] at h
    cases h
  · rw [if_neg c1] at h
    obtain ⟨z2, h3, h⟩ := Option.bind_eq_some_iff.mp h
    cases h
    exact ⟨28, And.intro (jx_in_ok rfl) (And.intro (jx_in_ok rfl) (And.intro (jx_in_ok rfl) (And.intro (jx_in_ok rfl) (And.intro c1 (s_M_goes (by omega) h3 (And.intro hQ (And.intro rfl rfl)))))))⟩
set_option maxRecDepth 20000 in
theorem s_M_lot {N d : Nat} (hd : 8 ≤ d) {σ : jw_M} {z : (Int32 × jw_M)} {Q : jw_Q} (h : f_M_lot N  σ = some z) (hQ : Q (some (.int z.1)) (jx_ShM, z.2)) : jw_C jp_kd jp_ys d 280 [.ref 0] (jx_ShM, σ) Q := by
  obtain ⟨d, rfl⟩ : ∃ e, d = e + 1 := ⟨d - 1, by omega⟩
  replace hd : 7 ≤ d := by omega
  refine jx_C rfl rfl ?_
  unfold f_M_lot at h
  obtain ⟨z1, h2, h⟩ := Option.bind_eq_some_iff.mp h
  by_cases c3 : z1.1 = 0
  · rw [if_pos c3] at h
    suffices hh : ∃ n, jx_W jx_ShM d (some .int) jc_280 Q n 12 [some (.ref 0)] [] z1.2 by
      obtain ⟨n, hn⟩ := hh
      exact ⟨n + 3, s_M_isOver (by omega) h2 (And.intro (fun _ => hn) (fun zz => absurd c3 zz))⟩
    obtain ⟨z4, h5, h⟩ := Option.bind_eq_some_iff.mp h
    cases h
    exact ⟨3, s_M_lotGoes (by omega) h5 (And.intro hQ (And.intro rfl rfl))⟩
  · rw [if_neg c3] at h
    suffices hh : ∃ n, jx_W jx_ShM d (some .int) jc_280 Q n 7 [some (.ref 0)] [] z1.2 by
      obtain ⟨n, hn⟩ := hh
      exact ⟨n + 3, s_M_isOver (by omega) h2 (And.intro (fun zz => absurd zz c3) (fun _ => hn))⟩
    cases h
    exact ⟨3, And.intro hQ (And.intro rfl rfl)⟩
set_option maxRecDepth 20000 in
theorem s_M_often_87 {N d : Nat} {Q : jw_Q} {K41 : Int32 → Int32 → Int32 → Int32 → Int32 → jw_M → Option (Int32 × jw_M)} (hd : 7 ≤ d) (hK41 : ∀ {x1 : Int32} {x2 : Int32} {x3 : Int32} {x4 : Int32} {x5 : Int32} {σ : jw_M} {z : (Int32 × jw_M)} {u6 : Option Value}, K41 x1 x2 x3 x4 x5 σ = some z → Q (some (.int z.1)) (jx_ShM, z.2) → ∃ n, jx_W jx_ShM d (some .int) jc_281 Q n 41 [some (.ref 0), some (.int x1), some (.int x2), some (.int x3), some (.int x4), some (.int x5), u6] [] σ) {x1 : Int32} {x2 : Int32} {x3 : Int32} {x5 : Int32} {y0 : Int32} {y1 : Int32} {u4 : Option Value} {u6 : Option Value} {σ : jw_M} {z : (Int32 × jw_M)} (h : f_M_often_87 N K41 x1 x2 x3 x5 y0 y1 σ = some z) (hQ : Q (some (.int z.1)) (jx_ShM, z.2)) : ∃ n, jx_W jx_ShM d (some .int) jc_281 Q n 87 [some (.ref 0), some (.int x1), some (.int x2), some (.int x3), u4, some (.int x5), u6] [.int y1, .int y0] σ := by
  unfold f_M_often_87 at h
  obtain ⟨n, hn⟩ := hK41 (u6 := u6) h hQ
  exact ⟨n + 4, hn⟩
set_option maxRecDepth 20000 in
theorem s_M_often_50 {N d : Nat} {Q : jw_Q} {K41 : Int32 → Int32 → Int32 → Int32 → Int32 → jw_M → Option (Int32 × jw_M)} (hd : 7 ≤ d) (hK41 : ∀ {x1 : Int32} {x2 : Int32} {x3 : Int32} {x4 : Int32} {x5 : Int32} {σ : jw_M} {z : (Int32 × jw_M)} {u6 : Option Value}, K41 x1 x2 x3 x4 x5 σ = some z → Q (some (.int z.1)) (jx_ShM, z.2) → ∃ n, jx_W jx_ShM d (some .int) jc_281 Q n 41 [some (.ref 0), some (.int x1), some (.int x2), some (.int x3), some (.int x4), some (.int x5), u6] [] σ) : ∀ (k : Nat) {x1 : Int32} {x2 : Int32} {x3 : Int32} {x4 : Int32} {x5 : Int32} {x6 : Int32} {σ : jw_M} {z : (Int32 × jw_M)}, f_M_often_50 N K41 k x1 x2 x3 x4 x5 x6 σ = some z → Q (some (.int z.1)) (jx_ShM, z.2) → ∃ n, jx_W jx_ShM d (some .int) jc_281 Q n 50 [some (.ref 0), some (.int x1), some (.int x2), some (.int x3), some (.int x4), some (.int x5), some (.int x6)] [] σ
  | 0, _, _, _, _, _, _, _, _, h, _ => by cases h
  | k + 1, x1, x2, x3, x4, x5, x6, σ, z, h, hQ => by
    rw [f_M_often_50] at h
    obtain ⟨z10, h11, h⟩ := Option.bind_eq_some_iff.mp h
    by_cases c12 : z10.1 = 0
    · rw [if_pos c12] at h
      suffices hh : ∃ n, jx_W jx_ShM d (some .int) jc_281 Q n 57 [some (.ref 0), some (.int x1), some (.int x2), some (.int x3), some (.int x4), some (.int x5), some (.int x6)] [] z10.2 by
        obtain ⟨n, hn⟩ := hh
        exact ⟨n + 3, s_M_isOver (by omega) h11 (And.intro (fun zz => absurd c12 zz) (fun _ => hn))⟩
      obtain ⟨z13, h14, h⟩ := Option.bind_eq_some_iff.mp h
      obtain ⟨n, hn⟩ := s_M_often_50 hd hK41 k h hQ
      exact ⟨n + 6, s_M_lotGoes (by omega) h14 (hn)⟩
    · rw [if_neg c12] at h
      suffices hh : ∃ n, jx_W jx_ShM d (some .int) jc_281 Q n 69 [some (.ref 0), some (.int x1), some (.int x2), some (.int x3), some (.int x4), some (.int x5), some (.int x6)] [] z10.2 by
        obtain ⟨n, hn⟩ := hh
        exact ⟨n + 3, s_M_isOver (by omega) h11 (And.intro (fun _ => hn) (fun zz => absurd zz c12))⟩
      obtain ⟨z15, h16, h⟩ := Option.bind_eq_some_iff.mp h
      by_cases c17 : x6 < x2
      · rw [if_pos c17] at h
        suffices hh : ∃ n, jx_W jx_ShM d (some .int) jc_281 Q n 86 [some (.ref 0), some (.int x1), some (.int x2), some (.int x3), some (.int x4), some (.int x5), some (.int x6)] [.int x4] z15 by
          obtain ⟨n, hn⟩ := hh
          exact ⟨n + 7, s_M_load (by omega) h16 (And.intro (fun _ => hn) (fun zz => absurd c17 zz))⟩
        obtain ⟨n, hn⟩ := s_M_often_87 hd hK41 (u4 := some (.int x4)) (u6 := some (.int x6)) h hQ
        exact ⟨n + 1, hn⟩
      · rw [if_neg c17] at h
        suffices hh : ∃ n, jx_W jx_ShM d (some .int) jc_281 Q n 82 [some (.ref 0), some (.int x1), some (.int x2), some (.int x3), some (.int x4), some (.int x5), some (.int x6)] [.int x4] z15 by
          obtain ⟨n, hn⟩ := hh
          exact ⟨n + 7, s_M_load (by omega) h16 (And.intro (fun zz => absurd zz c17) (fun _ => hn))⟩
        obtain ⟨n, hn⟩ := s_M_often_87 hd hK41 (u4 := some (.int x4)) (u6 := some (.int x6)) h hQ
        exact ⟨n + 2, hn⟩
set_option maxRecDepth 20000 in
theorem s_M_often_41 {N d : Nat} {Q : jw_Q} (hd : 7 ≤ d) : ∀ (k : Nat) {x1 : Int32} {x2 : Int32} {x3 : Int32} {x4 : Int32} {x5 : Int32} {u6 : Option Value} {σ : jw_M} {z : (Int32 × jw_M)}, f_M_often_41 N k x1 x2 x3 x4 x5 σ = some z → Q (some (.int z.1)) (jx_ShM, z.2) → ∃ n, jx_W jx_ShM d (some .int) jc_281 Q n 41 [some (.ref 0), some (.int x1), some (.int x2), some (.int x3), some (.int x4), some (.int x5), u6] [] σ
  | 0, _, _, _, _, _, _, _, _, h, _ => by cases h
  | k + 1, x1, x2, x3, x4, x5, u6, σ, z, h, hQ => by
    rw [f_M_often_41] at h
    by_cases c9 : x1 ≤ x5
    · rw [if_pos c9] at h
      suffices hh : ∃ n, jx_W jx_ShM d (some .int) jc_281 Q n 96 [some (.ref 0), some (.int x1), some (.int x2), some (.int x3), some (.int x4), some (.int x5), u6] [] σ by
        obtain ⟨n, hn⟩ := hh
        exact ⟨n + 3, And.intro (fun _ => hn) (fun zz => absurd c9 zz)⟩
      cases h
      exact ⟨7, And.intro (jx_in_ok rfl) (And.intro hQ (And.intro rfl rfl))⟩
    · rw [if_neg c9] at h
      suffices hh : ∃ n, jx_W jx_ShM d (some .int) jc_281 Q n 47 [some (.ref 0), some (.int x1), some (.int x2), some (.int x3), some (.int x4), some (.int x5), u6] [] σ by
        obtain ⟨n, hn⟩ := hh
        exact ⟨n + 3, And.intro (fun zz => absurd zz c9) (fun _ => hn)⟩
      obtain ⟨n, hn⟩ := s_M_often_50 hd (s_M_often_41 hd k) N h hQ
      exact ⟨n + 2, hn⟩
set_option maxRecDepth 20000 in
theorem s_M_often {N d : Nat} {x1 : Int32} {x2 : Int32} (hd : 8 ≤ d) {σ : jw_M} {z : (Int32 × jw_M)} {Q : jw_Q} (h : f_M_often N x1 x2 σ = some z) (hQ : Q (some (.int z.1)) (jx_ShM, z.2)) : jw_C jp_kd jp_ys d 281 [.ref 0, .int x1, .int x2] (jx_ShM, σ) Q := by
  obtain ⟨d, rfl⟩ : ∃ e, d = e + 1 := ⟨d - 1, by omega⟩
  replace hd : 7 ≤ d := by omega
  refine jx_C rfl rfl ?_
  unfold f_M_often at h
  obtain ⟨z1, h2, h⟩ := Option.bind_eq_some_iff.mp h
  by_cases c3 : z1.1 = 0
  · rw [if_pos c3] at h
    suffices hh : ∃ n, jx_W jx_ShM d (some .int) jc_281 Q n 21 [some (.ref 0), some (.int x1), some (.int x2), none, none, none, none] [] z1.2 by
      obtain ⟨n, hn⟩ := hh
      exact ⟨n + 5, s_M_in (by omega) h2 (And.intro (fun _ => hn) (fun zz => absurd c3 zz))⟩
    cases h
    exact ⟨2, And.intro hQ (And.intro rfl rfl)⟩
  · rw [if_neg c3] at h
    suffices hh : ∃ n, jx_W jx_ShM d (some .int) jc_281 Q n 10 [some (.ref 0), some (.int x1), some (.int x2), none, none, none, none] [] z1.2 by
      obtain ⟨n, hn⟩ := hh
      exact ⟨n + 5, s_M_in (by omega) h2 (And.intro (fun zz => absurd zz c3) (fun _ => hn))⟩
    obtain ⟨z4, h5, h⟩ := Option.bind_eq_some_iff.mp h
    by_cases c6 : z4.1 = 0
    · rw [if_pos c6] at h
      suffices hh : ∃ n, jx_W jx_ShM d (some .int) jc_281 Q n 21 [some (.ref 0), some (.int x1), some (.int x2), none, none, none, none] [] z4.2 by
        obtain ⟨n, hn⟩ := hh
        exact ⟨n + 5, s_M_in (by omega) h5 (And.intro (fun zz => absurd c6 zz) (fun _ => hn))⟩
      cases h
      exact ⟨2, And.intro hQ (And.intro rfl rfl)⟩
    · rw [if_neg c6] at h
      suffices hh : ∃ n, jx_W jx_ShM d (some .int) jc_281 Q n 23 [some (.ref 0), some (.int x1), some (.int x2), none, none, none, none] [] z4.2 by
        obtain ⟨n, hn⟩ := hh
        exact ⟨n + 5, s_M_in (by omega) h5 (And.intro (fun _ => hn) (fun zz => absurd zz c6))⟩
      obtain ⟨z7, h8, h⟩ := Option.bind_eq_some_iff.mp h
      obtain ⟨n, hn⟩ := s_M_often_41 hd N (u6 := none) h hQ
      exact ⟨n + 12, And.intro (jx_in_ok rfl) (s_M_save (by omega) h8 (hn))⟩
set_option maxRecDepth 20000 in
theorem s_M_prove_24 {N d : Nat} {Q : jw_Q} (hd : 8 ≤ d) : ∀ (k : Nat) {x2 : Int32} {x3 : Int32} {u1 : Option Value} {σ : jw_M} {z : (Int32 × jw_M)}, f_M_prove_24 N k x2 x3 σ = some z → Q (some (.int z.1)) (jx_ShM, z.2) → ∃ n, jx_W jx_ShM d (some .int) jc_282 Q n 24 [some (.ref 0), u1, some (.int x2), some (.int x3)] [] σ
  | 0, _, _, _, _, _, h, _ => by cases h
  | k + 1, x2, x3, u1, σ, z, h, hQ => by
    rw [f_M_prove_24] at h
    by_cases c8 : x2 ≤ x3
    · rw [if_pos c8] at h
      suffices hh : ∃ n, jx_W jx_ShM d (some .int) jc_282 Q n 89 [some (.ref 0), u1, some (.int x2), some (.int x3)] [] σ by
        obtain ⟨n, hn⟩ := hh
        exact ⟨n + 3, And.intro (fun _ => hn) (fun zz => absurd c8 zz)⟩
      obtain ⟨z9, h10, h⟩ := Option.bind_eq_some_iff.mp h
      cases h
      exact ⟨8, s_M_load (by omega) h10 (And.intro hQ (And.intro rfl rfl))⟩
    · rw [if_neg c8] at h
      suffices hh : ∃ n, jx_W jx_ShM d (some .int) jc_282 Q n 29 [some (.ref 0), u1, some (.int x2), some (.int x3)] [] σ by
        obtain ⟨n, hn⟩ := hh
        exact ⟨n + 3, And.intro (fun zz => absurd zz c8) (fun _ => hn)⟩
      obtain ⟨z11, h12, h⟩ := Option.bind_eq_some_iff.mp h
      cases c13 : jx_in (3 * x3) 12 with
      | false => rw [c13, cond_false] at h; cases h
      | true =>
        rw [c13, cond_true] at h
        obtain ⟨z14, h15, h⟩ := Option.bind_eq_some_iff.mp h
        cases c16 : jx_in ((3 * x3) + 1) 12 with
        | false => rw [c16, cond_false] at h; cases h
        | true =>
          rw [c16, cond_true] at h
          obtain ⟨z17, h18, h⟩ := Option.bind_eq_some_iff.mp h
          cases c19 : jx_in ((3 * x3) + 2) 12 with
          | false => rw [c19, cond_false] at h; cases h
          | true =>
            rw [c19, cond_true] at h
            obtain ⟨n, hn⟩ := s_M_prove_24 hd k (u1 := u1) h hQ
            exact ⟨n + 40, s_M_actIn (by omega) h12 (And.intro (jx_in_ok c13) (And.intro (jx_in_ok c13) (s_M_goes (by omega) h15 (And.intro (jx_in_ok c16) (s_M_someLearnt (by omega) h18 (And.intro (jx_in_ok c19) (hn)))))))⟩
set_option maxRecDepth 20000 in
theorem s_M_prove {N d : Nat} {x1 : Int32} (hd : 9 ≤ d) {σ : jw_M} {z : (Int32 × jw_M)} {Q : jw_Q} (h : f_M_prove N x1 σ = some z) (hQ : Q (some (.int z.1)) (jx_ShM, z.2)) : jw_C jp_kd jp_ys d 282 [.ref 0, .int x1] (jx_ShM, σ) Q := by
  obtain ⟨d, rfl⟩ : ∃ e, d = e + 1 := ⟨d - 1, by omega⟩
  replace hd : 8 ≤ d := by omega
  refine jx_C rfl rfl ?_
  unfold f_M_prove at h
  obtain ⟨z1, h2, h⟩ := Option.bind_eq_some_iff.mp h
  by_cases c3 : z1.1 = 0
  · rw [if_pos c3] at h
    suffices hh : ∃ n, jx_W jx_ShM d (some .int) jc_282 Q n 9 [some (.ref 0), some (.int x1), none, none] [] z1.2 by
      obtain ⟨n, hn⟩ := hh
      exact ⟨n + 5, s_M_in (by omega) h2 (And.intro (fun zz => absurd c3 zz) (fun _ => hn))⟩
    cases h
    exact ⟨2, And.intro hQ (And.intro rfl rfl)⟩
  · rw [if_neg c3] at h
    suffices hh : ∃ n, jx_W jx_ShM d (some .int) jc_282 Q n 11 [some (.ref 0), some (.int x1), none, none] [] z1.2 by
      obtain ⟨n, hn⟩ := hh
      exact ⟨n + 5, s_M_in (by omega) h2 (And.intro (fun _ => hn) (fun zz => absurd zz c3))⟩
    obtain ⟨z4, h5, h⟩ := Option.bind_eq_some_iff.mp h
    obtain ⟨z6, h7, h⟩ := Option.bind_eq_some_iff.mp h
    obtain ⟨n, hn⟩ := s_M_prove_24 hd N (u1 := some (.int x1)) h hQ
    exact ⟨n + 9, s_M_planHours (by omega) h5 (s_M_findBest (by omega) h7 (hn))⟩
set_option maxRecDepth 20000 in
theorem s_M_isCell {N d : Nat} {x1 : Int32} {x2 : Int32} (hd : 2 ≤ d) {σ : jw_M} {z : (Int32 × jw_M)} {Q : jw_Q} (h : f_M_isCell N x1 x2 σ = some z) (hQ : Q (some (.int z.1)) (jx_ShM, z.2)) : jw_C jp_kd jp_ys d 283 [.ref 0, .int x1, .int x2] (jx_ShM, σ) Q := by
  obtain ⟨d, rfl⟩ : ∃ e, d = e + 1 := ⟨d - 1, by omega⟩
  replace hd : 1 ≤ d := by omega
  refine jx_C rfl rfl ?_
  unfold f_M_isCell at h
  obtain ⟨z1, h2, h⟩ := Option.bind_eq_some_iff.mp h
  by_cases c3 : z1.1 = 0
  · rw [if_pos c3] at h
    suffices hh : ∃ n, jx_W jx_ShM d (some .boolean) jc_283 Q n 27 [some (.ref 0), some (.int x1), some (.int x2)] [] z1.2 by
      obtain ⟨n, hn⟩ := hh
      exact ⟨n + 8, s_M_in (by omega) h2 (And.intro (fun _ => hn) (fun zz => absurd c3 zz))⟩
    cases h
    exact ⟨2, And.intro (Or.inl rfl) (And.intro hQ (And.intro rfl rfl))⟩
  · rw [if_neg c3] at h
    suffices hh : ∃ n, jx_W jx_ShM d (some .boolean) jc_283 Q n 14 [some (.ref 0), some (.int x1), some (.int x2)] [] z1.2 by
      obtain ⟨n, hn⟩ := hh
      exact ⟨n + 8, s_M_in (by omega) h2 (And.intro (fun zz => absurd zz c3) (fun _ => hn))⟩
    obtain ⟨z4, h5, h⟩ := Option.bind_eq_some_iff.mp h
    by_cases c6 : z4.1 = 0
    · rw [if_pos c6] at h
      suffices hh : ∃ n, jx_W jx_ShM d (some .boolean) jc_283 Q n 27 [some (.ref 0), some (.int x1), some (.int x2)] [] z4.2 by
        obtain ⟨n, hn⟩ := hh
        exact ⟨n + 5, s_M_in (by omega) h5 (And.intro (fun _ => hn) (fun zz => absurd c6 zz))⟩
      cases h
      exact ⟨2, And.intro (Or.inl rfl) (And.intro hQ (And.intro rfl rfl))⟩
    · rw [if_neg c6] at h
      suffices hh : ∃ n, jx_W jx_ShM d (some .boolean) jc_283 Q n 23 [some (.ref 0), some (.int x1), some (.int x2)] [] z4.2 by
        obtain ⟨n, hn⟩ := hh
        exact ⟨n + 5, s_M_in (by omega) h5 (And.intro (fun zz => absurd zz c6) (fun _ => hn))⟩
      cases h
      exact ⟨3, And.intro (Or.inr rfl) (And.intro hQ (And.intro rfl rfl))⟩
set_option maxRecDepth 20000 in
theorem s_M_row {N d : Nat} {x1 : Int32} {x2 : Int32} (hd : 3 ≤ d) {σ : jw_M} {z : (Int32 × jw_M)} {Q : jw_Q} (h : f_M_row N x1 x2 σ = some z) (hQ : Q (some (.int z.1)) (jx_ShM, z.2)) : jw_C jp_kd jp_ys d 284 [.ref 0, .int x1, .int x2] (jx_ShM, σ) Q := by
  obtain ⟨d, rfl⟩ : ∃ e, d = e + 1 := ⟨d - 1, by omega⟩
  replace hd : 2 ≤ d := by omega
  refine jx_C rfl rfl ?_
  unfold f_M_row at h
  obtain ⟨z1, h2, h⟩ := Option.bind_eq_some_iff.mp h
  by_cases c3 : z1.1 = 0
  · rw [if_pos c3] at h
    suffices hh : ∃ n, jx_W jx_ShM d (some .int) jc_284 Q n 22 [some (.ref 0), some (.int x1), some (.int x2)] [] z1.2 by
      obtain ⟨n, hn⟩ := hh
      exact ⟨n + 5, s_M_isCell (by omega) h2 (And.intro (fun _ => hn) (fun zz => absurd c3 zz))⟩
    cases h
    exact ⟨2, And.intro hQ (And.intro rfl rfl)⟩
  · rw [if_neg c3] at h
    suffices hh : ∃ n, jx_W jx_ShM d (some .int) jc_284 Q n 9 [some (.ref 0), some (.int x1), some (.int x2)] [] z1.2 by
      obtain ⟨n, hn⟩ := hh
      exact ⟨n + 5, s_M_isCell (by omega) h2 (And.intro (fun zz => absurd zz c3) (fun _ => hn))⟩
    cases c4 : jx_in ((3 * x1) + x2) 12 with
    | false => rw [c4, cond_false] at h; cases h
    | true =>
      rw [c4, cond_true] at h
      cases h
      exact ⟨10, And.intro (jx_in_ok c4) (And.intro hQ (And.intro rfl rfl))⟩
set_option maxRecDepth 20000 in
theorem s_M_alterRow {N d : Nat} {x1 : Int32} {x2 : Int32} {x3 : Int32} (hd : 3 ≤ d) {σ : jw_M} {z : (Int32 × jw_M)} {Q : jw_Q} (h : f_M_alterRow N x1 x2 x3 σ = some z) (hQ : Q (some (.int z.1)) (jx_ShM, z.2)) : jw_C jp_kd jp_ys d 285 [.ref 0, .int x1, .int x2, .int x3] (jx_ShM, σ) Q := by
  obtain ⟨d, rfl⟩ : ∃ e, d = e + 1 := ⟨d - 1, by omega⟩
  replace hd : 2 ≤ d := by omega
  refine jx_C rfl rfl ?_
  unfold f_M_alterRow at h
  obtain ⟨z1, h2, h⟩ := Option.bind_eq_some_iff.mp h
  by_cases c3 : z1.1 = 0
  · rw [if_pos c3] at h
    suffices hh : ∃ n, jx_W jx_ShM d (some .int) jc_285 Q n 9 [some (.ref 0), some (.int x1), some (.int x2), some (.int x3), none] [] z1.2 by
      obtain ⟨n, hn⟩ := hh
      exact ⟨n + 5, s_M_isCell (by omega) h2 (And.intro (fun zz => absurd c3 zz) (fun _ => hn))⟩
    cases h
    exact ⟨2, And.intro hQ (And.intro rfl rfl)⟩
  · rw [if_neg c3] at h
    suffices hh : ∃ n, jx_W jx_ShM d (some .int) jc_285 Q n 12 [some (.ref 0), some (.int x1), some (.int x2), some (.int x3), none] [] z1.2 by
      obtain ⟨n, hn⟩ := hh
      exact ⟨n + 5, s_M_isCell (by omega) h2 (And.intro (fun _ => hn) (fun zz => absurd zz c3))⟩
    cases c4 : jx_in ((3 * x1) + x2) 12 with
    | false => rw [c4, cond_false] at h; cases h
    | true =>
      rw [c4, cond_true] at h
      cases h
      exact ⟨20, And.intro (jx_in_ok c4) (And.intro (jx_in_ok c4) (And.intro hQ (And.intro rfl rfl)))⟩
set_option maxRecDepth 20000 in
theorem s_M_isRight {N d : Nat} {x1 : Int32} (hd : 7 ≤ d) {σ : jw_M} {z : (Int32 × jw_M)} {Q : jw_Q} (h : f_M_isRight N x1 σ = some z) (hQ : Q (some (.int z.1)) (jx_ShM, z.2)) : jw_C jp_kd jp_ys d 286 [.ref 0, .int x1] (jx_ShM, σ) Q := by
  obtain ⟨d, rfl⟩ : ∃ e, d = e + 1 := ⟨d - 1, by omega⟩
  replace hd : 6 ≤ d := by omega
  refine jx_C rfl rfl ?_
  unfold f_M_isRight at h
  cases c1 : jx_in (3 * x1) 12 with
  | false => rw [c1, cond_false] at h; cases h
  | true =>
    rw [c1, cond_true] at h
    obtain ⟨z2, h3, h⟩ := Option.bind_eq_some_iff.mp h
    by_cases c4 : z2.1 = 0
    · rw [if_pos c4] at h
      suffices hh : ∃ n, jx_W jx_ShM d (some .boolean) jc_286 Q n 28 [some (.ref 0), some (.int x1), none] [] z2.2 by
        obtain ⟨n, hn⟩ := hh
        exact ⟨n + 13, And.intro (jx_in_ok c1) (And.intro (jx_in_ok rfl) (s_M_in (by omega) h3 (And.intro (fun _ => hn) (fun zz => absurd c4 zz))))⟩
      cases h
      exact ⟨2, And.intro (Or.inl rfl) (And.intro hQ (And.intro rfl rfl))⟩
    · rw [if_neg c4] at h
      suffices hh : ∃ n, jx_W jx_ShM d (some .boolean) jc_286 Q n 21 [some (.ref 0), some (.int x1), none] [] z2.2 by
        obtain ⟨n, hn⟩ := hh
        exact ⟨n + 13, And.intro (jx_in_ok c1) (And.intro (jx_in_ok rfl) (s_M_in (by omega) h3 (And.intro (fun zz => absurd zz c4) (fun _ => hn))))⟩
      obtain ⟨z5, h6, h⟩ := Option.bind_eq_some_iff.mp h
      by_cases c7 : z5.1 = 0
      · rw [if_pos c7] at h
        suffices hh : ∃ n, jx_W jx_ShM d (some .boolean) jc_286 Q n 30 [some (.ref 0), some (.int x1), none] [] z5.2 by
          obtain ⟨n, hn⟩ := hh
          exact ⟨n + 3, s_M_isOver (by omega) h6 (And.intro (fun _ => hn) (fun zz => absurd c7 zz))⟩
        obtain ⟨z8, h9, h⟩ := Option.bind_eq_some_iff.mp h
        cases c10 : jx_in ((3 * x1) + 1) 12 with
        | false => rw [c10, cond_false] at h; cases h
        | true =>
          rw [c10, cond_true] at h
          by_cases c11 : z8.1 = (z8.2.1 13 (((3 * x1) + 1)).toNatClampNeg)
          · rw [if_pos c11] at h
            suffices hh : ∃ n, jx_W jx_ShM d (some .boolean) jc_286 Q n 57 [some (.ref 0), some (.int x1), some (.int z8.1)] [] z8.2 by
              obtain ⟨n, hn⟩ := hh
              exact ⟨n + 19, And.intro (jx_in_ok c1) (s_M_goes (by omega) h9 (And.intro (jx_in_ok c10) (And.intro (fun zz => absurd c11 zz) (fun _ => hn))))⟩
            obtain ⟨z12, h13, h⟩ := Option.bind_eq_some_iff.mp h
            cases c14 : jx_in ((3 * x1) + 2) 12 with
            | false => rw [c14, cond_false] at h; cases h
            | true =>
              rw [c14, cond_true] at h
              by_cases c15 : z12.1 = (z12.2.1 13 (((3 * x1) + 2)).toNatClampNeg)
              · rw [if_pos c15] at h
                suffices hh : ∃ n, jx_W jx_ShM d (some .boolean) jc_286 Q n 74 [some (.ref 0), some (.int x1), some (.int z8.1)] [] z12.2 by
                  obtain ⟨n, hn⟩ := hh
                  exact ⟨n + 11, s_M_someLearnt (by omega) h13 (And.intro (jx_in_ok c14) (And.intro (fun zz => absurd c15 zz) (fun _ => hn)))⟩
                cases h
                exact ⟨3, And.intro (Or.inr rfl) (And.intro hQ (And.intro rfl rfl))⟩
              · rw [if_neg c15] at h
                suffices hh : ∃ n, jx_W jx_ShM d (some .boolean) jc_286 Q n 78 [some (.ref 0), some (.int x1), some (.int z8.1)] [] z12.2 by
                  obtain ⟨n, hn⟩ := hh
                  exact ⟨n + 11, s_M_someLearnt (by omega) h13 (And.intro (jx_in_ok c14) (And.intro (fun _ => hn) (fun zz => absurd zz c15)))⟩
                cases h
                exact ⟨2, And.intro (Or.inl rfl) (And.intro hQ (And.intro rfl rfl))⟩
          · rw [if_neg c11] at h
            suffices hh : ∃ n, jx_W jx_ShM d (some .boolean) jc_286 Q n 78 [some (.ref 0), some (.int x1), some (.int z8.1)] [] z8.2 by
              obtain ⟨n, hn⟩ := hh
              exact ⟨n + 19, And.intro (jx_in_ok c1) (s_M_goes (by omega) h9 (And.intro (jx_in_ok c10) (And.intro (fun _ => hn) (fun zz => absurd zz c11))))⟩
            cases h
            exact ⟨2, And.intro (Or.inl rfl) (And.intro hQ (And.intro rfl rfl))⟩
      · rw [if_neg c7] at h
        suffices hh : ∃ n, jx_W jx_ShM d (some .boolean) jc_286 Q n 28 [some (.ref 0), some (.int x1), none] [] z5.2 by
          obtain ⟨n, hn⟩ := hh
          exact ⟨n + 3, s_M_isOver (by omega) h6 (And.intro (fun zz => absurd zz c7) (fun _ => hn))⟩
        cases h
        exact ⟨2, And.intro (Or.inl rfl) (And.intro hQ (And.intro rfl rfl))⟩
set_option maxRecDepth 20000 in
theorem s_M_judge_29 {N d : Nat} {Q : jw_Q} (hd : 7 ≤ d) {x1 : Int32} {σ : jw_M} {z : (Int32 × jw_M)} (h : f_M_judge_29 N x1 σ = some z) (hQ : Q (some (.int z.1)) (jx_ShM, z.2)) : ∃ n, jx_W jx_ShM d (some .int) jc_287 Q n 29 [some (.ref 0), some (.int x1)] [] σ := by
  unfold f_M_judge_29 at h
  obtain ⟨z4, h5, h⟩ := Option.bind_eq_some_iff.mp h
  by_cases c6 : x1 = (z4.1 0 29)
  · rw [if_pos c6] at h
    suffices hh : ∃ n, jx_W jx_ShM d (some .int) jc_287 Q n 42 [some (.ref 0), some (.int x1)] [] z4 by
      obtain ⟨n, hn⟩ := hh
      exact ⟨n + 7, s_M_load (by omega) h5 (And.intro (fun zz => absurd c6 zz) (fun _ => hn))⟩
    cases h
    exact ⟨3, And.intro hQ (And.intro rfl rfl)⟩
  · rw [if_neg c6] at h
    suffices hh : ∃ n, jx_W jx_ShM d (some .int) jc_287 Q n 46 [some (.ref 0), some (.int x1)] [] z4 by
      obtain ⟨n, hn⟩ := hh
      exact ⟨n + 7, s_M_load (by omega) h5 (And.intro (fun _ => hn) (fun zz => absurd zz c6))⟩
    cases h
    exact ⟨4, And.intro hQ (And.intro rfl rfl)⟩
set_option maxRecDepth 20000 in
theorem s_M_judge_7 {N d : Nat} {Q : jw_Q} (hd : 7 ≤ d) : ∀ (k : Nat) {x1 : Int32} {σ : jw_M} {z : (Int32 × jw_M)}, f_M_judge_7 N k x1 σ = some z → Q (some (.int z.1)) (jx_ShM, z.2) → ∃ n, jx_W jx_ShM d (some .int) jc_287 Q n 7 [some (.ref 0), some (.int x1)] [] σ
  | 0, _, _, _, h, _ => by cases h
  | k + 1, x1, σ, z, h, hQ => by
    rw [f_M_judge_7] at h
    by_cases c3 : (σ.1 0 29) ≤ x1
    · rw [if_pos c3] at h
      suffices hh : ∃ n, jx_W jx_ShM d (some .int) jc_287 Q n 29 [some (.ref 0), some (.int x1)] [] σ by
        obtain ⟨n, hn⟩ := hh
        exact ⟨n + 4, And.intro (fun _ => hn) (fun zz => absurd c3 zz)⟩
      obtain ⟨n, hn⟩ := s_M_judge_29 hd h hQ
      exact ⟨n + 0, hn⟩
    · rw [if_neg c3] at h
      suffices hh : ∃ n, jx_W jx_ShM d (some .int) jc_287 Q n 15 [some (.ref 0), some (.int x1)] [] σ by
        obtain ⟨n, hn⟩ := hh
        exact ⟨n + 4, And.intro (fun zz => absurd zz c3) (fun _ => hn)⟩
      obtain ⟨z7, h8, h⟩ := Option.bind_eq_some_iff.mp h
      by_cases c9 : z7.1 = 0
      · rw [if_pos c9] at h
        suffices hh : ∃ n, jx_W jx_ShM d (some .int) jc_287 Q n 29 [some (.ref 0), some (.int x1)] [] z7.2 by
          obtain ⟨n, hn⟩ := hh
          exact ⟨n + 4, s_M_isRight (by omega) h8 (And.intro (fun _ => hn) (fun zz => absurd c9 zz))⟩
        obtain ⟨n, hn⟩ := s_M_judge_29 hd h hQ
        exact ⟨n + 0, hn⟩
      · rw [if_neg c9] at h
        suffices hh : ∃ n, jx_W jx_ShM d (some .int) jc_287 Q n 23 [some (.ref 0), some (.int x1)] [] z7.2 by
          obtain ⟨n, hn⟩ := hh
          exact ⟨n + 4, s_M_isRight (by omega) h8 (And.intro (fun zz => absurd zz c9) (fun _ => hn))⟩
        obtain ⟨n, hn⟩ := s_M_judge_7 hd k h hQ
        exact ⟨n + 2, hn⟩
set_option maxRecDepth 20000 in
theorem s_M_judge {N d : Nat} (hd : 8 ≤ d) {σ : jw_M} {z : (Int32 × jw_M)} {Q : jw_Q} (h : f_M_judge N  σ = some z) (hQ : Q (some (.int z.1)) (jx_ShM, z.2)) : jw_C jp_kd jp_ys d 287 [.ref 0] (jx_ShM, σ) Q := by
  obtain ⟨d, rfl⟩ : ∃ e, d = e + 1 := ⟨d - 1, by omega⟩
  replace hd : 7 ≤ d := by omega
  refine jx_C rfl rfl ?_
  unfold f_M_judge at h
  obtain ⟨z1, h2, h⟩ := Option.bind_eq_some_iff.mp h
  obtain ⟨n, hn⟩ := s_M_judge_7 hd N h hQ
  exact ⟨n + 5, s_M_save (by omega) h2 (hn)⟩
set_option maxRecDepth 20000 in
theorem s_M_sheet_64 {N d : Nat} {Q : jw_Q} (hd : 2 ≤ d) : ∀ (k : Nat) {x1 : Int32} {x4 : Int32} {u2 : Option Value} {u3 : Option Value} {σ : jw_M} {z : (Int32 × jw_M)}, f_M_sheet_64 N k x1 x4 σ = some z → Q (some (.int z.1)) (jx_ShM, z.2) → ∃ n, jx_W jx_ShM d (some .int) jc_290 Q n 64 [some (.ref 0), some (.int x1), u2, u3, some (.int x4)] [] σ
  | 0, _, _, _, _, _, _, h, _ => by cases h
  | k + 1, x1, x4, u2, u3, σ, z, h, hQ => by
    rw [f_M_sheet_64] at h
    by_cases c12 : 40 ≤ x4
    · rw [if_pos c12] at h
      suffices hh : ∃ n, jx_W jx_ShM d (some .int) jc_290 Q n 90 [some (.ref 0), some (.int x1), u2, u3, some (.int x4)] [] σ by
        obtain ⟨n, hn⟩ := hh
        exact ⟨n + 3, And.intro (fun _ => hn) (fun zz => absurd c12 zz)⟩
      cases h
      exact ⟨2, And.intro hQ (And.intro rfl rfl)⟩
    · rw [if_neg c12] at h
      suffices hh : ∃ n, jx_W jx_ShM d (some .int) jc_290 Q n 71 [some (.ref 0), some (.int x1), u2, u3, some (.int x4)] [] σ by
        obtain ⟨n, hn⟩ := hh
        exact ⟨n + 3, And.intro (fun zz => absurd zz c12) (fun _ => hn)⟩
      cases c13 : jx_in ((40 * x1) + x4) 160 with
      | false => rw [c13, cond_false] at h; cases h
      | true =>
        rw [c13, cond_true] at h
        obtain ⟨n, hn⟩ := s_M_sheet_64 hd k (u2 := u2) (u3 := (jw_clr u3)) h hQ
        exact ⟨n + 11, And.intro (jx_in_ok c13) (hn)⟩
set_option maxRecDepth 20000 in
theorem s_M_sheet_60 {N d : Nat} {Q : jw_Q} (hd : 2 ≤ d) {x1 : Int32} {y1 : Int32} {y2 : Int32} {u2 : Option Value} {u3 : Option Value} {u4 : Option Value} {σ : jw_M} {z : (Int32 × jw_M)} (h : f_M_sheet_60 N x1 y1 y2 σ = some z) (hQ : Q (some (.int z.1)) (jx_ShM, z.2)) : ∃ n, jx_W jx_ShM d (some .int) jc_290 Q n 60 [some (.ref 0), some (.int x1), u2, u3, u4] [.int y2, .int y1, .ref 15] σ := by
  unfold f_M_sheet_60 at h
  cases c11 : jx_in y1 4 with
  | false => rw [c11, cond_false] at h; cases h
  | true =>
    rw [c11, cond_true] at h
    obtain ⟨n, hn⟩ := s_M_sheet_64 hd N (u2 := u2) (u3 := (jw_clr u3)) h hQ
    exact ⟨n + 3, And.intro (jx_in_ok c11) (hn)⟩
set_option maxRecDepth 20000 in
theorem s_M_sheet_39 {N d : Nat} {Q : jw_Q} (hd : 2 ≤ d) {x1 : Int32} {x2 : Int32} {x3 : Int32} {u4 : Option Value} {σ : jw_M} {z : (Int32 × jw_M)} (h : f_M_sheet_39 N x1 x2 x3 σ = some z) (hQ : Q (some (.int z.1)) (jx_ShM, z.2)) : ∃ n, jx_W jx_ShM d (some .int) jc_290 Q n 39 [some (.ref 0), some (.int x1), some (.int x2), some (.int x3), u4] [] σ := by
  unfold f_M_sheet_39 at h
  cases c9 : jx_in x1 4 with
  | false => rw [c9, cond_false] at h; cases h
  | true =>
    rw [c9, cond_true] at h
    by_cases c10 : 0 ≤ x2
    · rw [if_pos c10] at h
      suffices hh : ∃ n, jx_W jx_ShM d (some .int) jc_290 Q n 59 [some (.ref 0), some (.int x1), some (.int x2), some (.int x3), u4] [.int x1, .ref 15] (jx_w σ 14 (x1).toNatClampNeg x2) by
        obtain ⟨n, hn⟩ := hh
        exact ⟨n + 10, And.intro (jx_in_ok c9) (And.intro (fun _ => hn) (fun zz => absurd c10 zz))⟩
      obtain ⟨n, hn⟩ := s_M_sheet_60 hd (u2 := some (.int x2)) (u3 := some (.int x3)) (u4 := u4) h hQ
      exact ⟨n + 1, hn⟩
    · rw [if_neg c10] at h
      suffices hh : ∃ n, jx_W jx_ShM d (some .int) jc_290 Q n 55 [some (.ref 0), some (.int x1), some (.int x2), some (.int x3), u4] [.int x1, .ref 15] (jx_w σ 14 (x1).toNatClampNeg x2) by
        obtain ⟨n, hn⟩ := hh
        exact ⟨n + 10, And.intro (jx_in_ok c9) (And.intro (fun zz => absurd zz c10) (fun _ => hn))⟩
      obtain ⟨n, hn⟩ := s_M_sheet_60 hd (u2 := some (.int x2)) (u3 := some (.int x3)) (u4 := u4) h hQ
      exact ⟨n + 2, hn⟩
set_option maxRecDepth 20000 in
theorem s_M_sheet_28 {N d : Nat} {Q : jw_Q} (hd : 2 ≤ d) {x1 : Int32} {x2 : Int32} {x3 : Int32} {u4 : Option Value} {σ : jw_M} {z : (Int32 × jw_M)} (h : f_M_sheet_28 N x1 x2 x3 σ = some z) (hQ : Q (some (.int z.1)) (jx_ShM, z.2)) : ∃ n, jx_W jx_ShM d (some .int) jc_290 Q n 28 [some (.ref 0), some (.int x1), some (.int x2), some (.int x3), u4] [] σ := by
  unfold f_M_sheet_28 at h
  by_cases c8 : x2 < 0
  · rw [if_pos c8] at h
    suffices hh : ∃ n, jx_W jx_ShM d (some .int) jc_290 Q n 39 [some (.ref 0), some (.int x1), some (.int x2), some (.int x3), u4] [] σ by
      obtain ⟨n, hn⟩ := hh
      exact ⟨n + 2, And.intro (fun _ => hn) (fun zz => absurd c8 zz)⟩
    obtain ⟨n, hn⟩ := s_M_sheet_39 hd (u4 := u4) h hQ
    exact ⟨n + 0, hn⟩
  · rw [if_neg c8] at h
    suffices hh : ∃ n, jx_W jx_ShM d (some .int) jc_290 Q n 32 [some (.ref 0), some (.int x1), some (.int x2), some (.int x3), u4] [] σ by
      obtain ⟨n, hn⟩ := hh
      exact ⟨n + 2, And.intro (fun zz => absurd zz c8) (fun _ => hn)⟩
    by_cases c14 : 0 ≤ x3
    · rw [if_pos c14] at h
      suffices hh : ∃ n, jx_W jx_ShM d (some .int) jc_290 Q n 39 [some (.ref 0), some (.int x1), some (.int x2), some (.int x3), u4] [] σ by
        obtain ⟨n, hn⟩ := hh
        exact ⟨n + 2, And.intro (fun _ => hn) (fun zz => absurd c14 zz)⟩
      obtain ⟨n, hn⟩ := s_M_sheet_39 hd (u4 := u4) h hQ
      exact ⟨n + 0, hn⟩
    · rw [if_neg c14] at h
      suffices hh : ∃ n, jx_W jx_ShM d (some .int) jc_290 Q n 36 [some (.ref 0), some (.int x1), some (.int x2), some (.int x3), u4] [] σ by
        obtain ⟨n, hn⟩ := hh
        exact ⟨n + 2, And.intro (fun zz => absurd zz c14) (fun _ => hn)⟩
      cases h
      exact ⟨2, And.intro hQ (And.intro rfl rfl)⟩
set_option maxRecDepth 20000 in
theorem s_M_sheet {N d : Nat} {x1 : Int32} {x2 : Int32} {x3 : Int32} (hd : 3 ≤ d) {σ : jw_M} {z : (Int32 × jw_M)} {Q : jw_Q} (h : f_M_sheet N x1 x2 x3 σ = some z) (hQ : Q (some (.int z.1)) (jx_ShM, z.2)) : jw_C jp_kd jp_ys d 290 [.ref 0, .int x1, .int x2, .int x3] (jx_ShM, σ) Q := by
  obtain ⟨d, rfl⟩ : ∃ e, d = e + 1 := ⟨d - 1, by omega⟩
  replace hd : 2 ≤ d := by omega
  refine jx_C rfl rfl ?_
  unfold f_M_sheet at h
  obtain ⟨z1, h2, h⟩ := Option.bind_eq_some_iff.mp h
  by_cases c3 : z1.1 = 0
  · rw [if_pos c3] at h
    suffices hh : ∃ n, jx_W jx_ShM d (some .int) jc_290 Q n 26 [some (.ref 0), some (.int x1), some (.int x2), some (.int x3), none] [] z1.2 by
      obtain ⟨n, hn⟩ := hh
      exact ⟨n + 3, s_M_isSheet (by omega) h2 (And.intro (fun _ => hn) (fun zz => absurd c3 zz))⟩
    cases h
    exact ⟨2, And.intro hQ (And.intro rfl rfl)⟩
  · rw [if_neg c3] at h
    suffices hh : ∃ n, jx_W jx_ShM d (some .int) jc_290 Q n 7 [some (.ref 0), some (.int x1), some (.int x2), some (.int x3), none] [] z1.2 by
      obtain ⟨n, hn⟩ := hh
      exact ⟨n + 3, s_M_isSheet (by omega) h2 (And.intro (fun zz => absurd zz c3) (fun _ => hn))⟩
    obtain ⟨z4, h5, h⟩ := Option.bind_eq_some_iff.mp h
    by_cases c6 : z4.1 = 0
    · rw [if_pos c6] at h
      suffices hh : ∃ n, jx_W jx_ShM d (some .int) jc_290 Q n 26 [some (.ref 0), some (.int x1), some (.int x2), some (.int x3), none] [] z4.2 by
        obtain ⟨n, hn⟩ := hh
        exact ⟨n + 5, s_M_in (by omega) h5 (And.intro (fun _ => hn) (fun zz => absurd c6 zz))⟩
      cases h
      exact ⟨2, And.intro hQ (And.intro rfl rfl)⟩
    · rw [if_neg c6] at h
      suffices hh : ∃ n, jx_W jx_ShM d (some .int) jc_290 Q n 16 [some (.ref 0), some (.int x1), some (.int x2), some (.int x3), none] [] z4.2 by
        obtain ⟨n, hn⟩ := hh
        exact ⟨n + 5, s_M_in (by omega) h5 (And.intro (fun zz => absurd zz c6) (fun _ => hn))⟩
      by_cases c7 : x2 < 0
      · rw [if_pos c7] at h
        suffices hh : ∃ n, jx_W jx_ShM d (some .int) jc_290 Q n 28 [some (.ref 0), some (.int x1), some (.int x2), some (.int x3), none] [] z4.2 by
          obtain ⟨n, hn⟩ := hh
          exact ⟨n + 2, And.intro (fun _ => hn) (fun zz => absurd c7 zz)⟩
        obtain ⟨n, hn⟩ := s_M_sheet_28 hd (u4 := none) h hQ
        exact ⟨n + 0, hn⟩
      · rw [if_neg c7] at h
        suffices hh : ∃ n, jx_W jx_ShM d (some .int) jc_290 Q n 20 [some (.ref 0), some (.int x1), some (.int x2), some (.int x3), none] [] z4.2 by
          obtain ⟨n, hn⟩ := hh
          exact ⟨n + 2, And.intro (fun zz => absurd zz c7) (fun _ => hn)⟩
        by_cases c15 : x3 ≤ 40
        · rw [if_pos c15] at h
          suffices hh : ∃ n, jx_W jx_ShM d (some .int) jc_290 Q n 28 [some (.ref 0), some (.int x1), some (.int x2), some (.int x3), none] [] z4.2 by
            obtain ⟨n, hn⟩ := hh
            exact ⟨n + 3, And.intro (fun _ => hn) (fun zz => absurd c15 zz)⟩
          obtain ⟨n, hn⟩ := s_M_sheet_28 hd (u4 := none) h hQ
          exact ⟨n + 0, hn⟩
        · rw [if_neg c15] at h
          suffices hh : ∃ n, jx_W jx_ShM d (some .int) jc_290 Q n 26 [some (.ref 0), some (.int x1), some (.int x2), some (.int x3), none] [] z4.2 by
            obtain ⟨n, hn⟩ := hh
            exact ⟨n + 3, And.intro (fun zz => absurd zz c15) (fun _ => hn)⟩
          cases h
          exact ⟨2, And.intro hQ (And.intro rfl rfl)⟩
