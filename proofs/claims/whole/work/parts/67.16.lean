set_option maxRecDepth 20000 in
theorem s_M_dearest_68 {N d : Nat} {Q : jw_Q} {K16 : Int32 → Int32 → Int32 → Int32 → Int32 → Int32 → jw_M → Option (Int32 × jw_M)} (hd : 8 ≤ d) (hK16 : ∀ {x1 : Int32} {x2 : Int32} {x3 : Int32} {x4 : Int32} {x5 : Int32} {x6 : Int32} {σ : jw_M} {z : (Int32 × jw_M)} {u7 : Option Value}, K16 x1 x2 x3 x4 x5 x6 σ = some z → Q (some (.int z.1)) (jx_ShM, z.2) → ∃ n, jx_W jx_ShM d (some .int) jc_242 Q n 16 [some (.ref 0), some (.int x1), some (.int x2), some (.int x3), some (.int x4), some (.int x5), some (.int x6), u7] [] σ) {x1 : Int32} {x2 : Int32} {x3 : Int32} {x4 : Int32} {x6 : Int32} {y0 : Int32} {u5 : Option Value} {u7 : Option Value} {σ : jw_M} {z : (Int32 × jw_M)} (h : f_M_dearest_68 N K16 x1 x2 x3 x4 x6 y0 σ = some z) (hQ : Q (some (.int z.1)) (jx_ShM, z.2)) : ∃ n, jx_W jx_ShM d (some .int) jc_242 Q n 68 [some (.ref 0), some (.int x1), some (.int x2), some (.int x3), some (.int x4), u5, some (.int x6), u7] [.int y0] σ := by
  unfold f_M_dearest_68 at h
  obtain ⟨n, hn⟩ := hK16 (u7 := u7) h hQ
  exact ⟨n + 3, hn⟩
set_option maxRecDepth 20000 in
theorem s_M_dearest_52 {N d : Nat} {Q : jw_Q} {K16 : Int32 → Int32 → Int32 → Int32 → Int32 → Int32 → jw_M → Option (Int32 × jw_M)} (hd : 8 ≤ d) (hK16 : ∀ {x1 : Int32} {x2 : Int32} {x3 : Int32} {x4 : Int32} {x5 : Int32} {x6 : Int32} {σ : jw_M} {z : (Int32 × jw_M)} {u7 : Option Value}, K16 x1 x2 x3 x4 x5 x6 σ = some z → Q (some (.int z.1)) (jx_ShM, z.2) → ∃ n, jx_W jx_ShM d (some .int) jc_242 Q n 16 [some (.ref 0), some (.int x1), some (.int x2), some (.int x3), some (.int x4), some (.int x5), some (.int x6), u7] [] σ) {x1 : Int32} {x2 : Int32} {x3 : Int32} {x5 : Int32} {x6 : Int32} {x7 : Int32} {y0 : Int32} {u4 : Option Value} {σ : jw_M} {z : (Int32 × jw_M)} (h : f_M_dearest_52 N K16 x1 x2 x3 x5 x6 x7 y0 σ = some z) (hQ : Q (some (.int z.1)) (jx_ShM, z.2)) : ∃ n, jx_W jx_ShM d (some .int) jc_242 Q n 52 [some (.ref 0), some (.int x1), some (.int x2), some (.int x3), u4, some (.int x5), some (.int x6), some (.int x7)] [.int y0] σ := by
  unfold f_M_dearest_52 at h
  by_cases c8 : x7 ≤ x5
  · rw [if_pos c8] at h
    suffices hh : ∃ n, jx_W jx_ShM d (some .int) jc_242 Q n 66 [some (.ref 0), some (.int x1), some (.int x2), some (.int x3), some (.int y0), some (.int x5), some (.int x6), some (.int x7)] [] σ by
      obtain ⟨n, hn⟩ := hh
      exact ⟨n + 4, And.intro (fun _ => hn) (fun zz => absurd c8 zz)⟩
    obtain ⟨n, hn⟩ := s_M_dearest_68 hd hK16 (u5 := some (.int x5)) (u7 := some (.int x7)) h hQ
    exact ⟨n + 1, hn⟩
  · rw [if_neg c8] at h
    suffices hh : ∃ n, jx_W jx_ShM d (some .int) jc_242 Q n 61 [some (.ref 0), some (.int x1), some (.int x2), some (.int x3), some (.int y0), some (.int x5), some (.int x6), some (.int x7)] [] σ by
      obtain ⟨n, hn⟩ := hh
      exact ⟨n + 4, And.intro (fun zz => absurd zz c8) (fun _ => hn)⟩
    obtain ⟨n, hn⟩ := s_M_dearest_68 hd hK16 (u5 := some (.int x5)) (u7 := some (.int x7)) h hQ
    exact ⟨n + 2, hn⟩
set_option maxRecDepth 20000 in
theorem s_M_dearest_16 {N d : Nat} {Q : jw_Q} (hd : 8 ≤ d) : ∀ (k : Nat) {x1 : Int32} {x2 : Int32} {x3 : Int32} {x4 : Int32} {x5 : Int32} {x6 : Int32} {u7 : Option Value} {σ : jw_M} {z : (Int32 × jw_M)}, f_M_dearest_16 N k x1 x2 x3 x4 x5 x6 σ = some z → Q (some (.int z.1)) (jx_ShM, z.2) → ∃ n, jx_W jx_ShM d (some .int) jc_242 Q n 16 [some (.ref 0), some (.int x1), some (.int x2), some (.int x3), some (.int x4), some (.int x5), some (.int x6), u7] [] σ
  | 0, _, _, _, _, _, _, _, _, _, h, _ => by cases h
  | k + 1, x1, x2, x3, x4, x5, x6, u7, σ, z, h, hQ => by
    rw [f_M_dearest_16] at h
    by_cases c2 : x2 < x6
    · rw [if_pos c2] at h
      suffices hh : ∃ n, jx_W jx_ShM d (some .int) jc_242 Q n 76 [some (.ref 0), some (.int x1), some (.int x2), some (.int x3), some (.int x4), some (.int x5), some (.int x6), u7] [] σ by
        obtain ⟨n, hn⟩ := hh
        exact ⟨n + 3, And.intro (fun _ => hn) (fun zz => absurd c2 zz)⟩
      cases c3 : jx_in x1 526 with
      | false => rw [c3, cond_false] at h; cases h
      | true =>
        rw [c3, cond_true] at h
        cases h
        exact ⟨7, And.intro (jx_in_ok c3) (And.intro hQ (And.intro rfl rfl))⟩
    · rw [if_neg c2] at h
      suffices hh : ∃ n, jx_W jx_ShM d (some .int) jc_242 Q n 22 [some (.ref 0), some (.int x1), some (.int x2), some (.int x3), some (.int x4), some (.int x5), some (.int x6), u7] [] σ by
        obtain ⟨n, hn⟩ := hh
        exact ⟨n + 3, And.intro (fun zz => absurd zz c2) (fun _ => hn)⟩
      cases c4 : jx_in x1 526 with
      | false => rw [c4, cond_false] at h; cases h
      | true =>
        rw [c4, cond_true] at h
        obtain ⟨z5, h6, h⟩ := Option.bind_eq_some_iff.mp h
        by_cases c7 : z5.1 ≤ x5
        · rw [if_pos c7] at h
          suffices hh : ∃ n, jx_W jx_ShM d (some .int) jc_242 Q n 50 [some (.ref 0), some (.int x1), some (.int x2), some (.int x3), some (.int x4), some (.int x5), some (.int x6), some (.int z5.1)] [] z5.2 by
            obtain ⟨n, hn⟩ := hh
            exact ⟨n + 12, And.intro (jx_in_ok c4) (s_M_restWorth (by omega) h6 (And.intro (fun _ => hn) (fun zz => absurd c7 zz)))⟩
          obtain ⟨n, hn⟩ := s_M_dearest_52 hd (s_M_dearest_16 hd k) (u4 := some (.int x4)) h hQ
          exact ⟨n + 1, hn⟩
        · rw [if_neg c7] at h
          suffices hh : ∃ n, jx_W jx_ShM d (some .int) jc_242 Q n 45 [some (.ref 0), some (.int x1), some (.int x2), some (.int x3), some (.int x4), some (.int x5), some (.int x6), some (.int z5.1)] [] z5.2 by
            obtain ⟨n, hn⟩ := hh
            exact ⟨n + 12, And.intro (jx_in_ok c4) (s_M_restWorth (by omega) h6 (And.intro (fun zz => absurd zz c7) (fun _ => hn)))⟩
          obtain ⟨n, hn⟩ := s_M_dearest_52 hd (s_M_dearest_16 hd k) (u4 := some (.int x4)) h hQ
          exact ⟨n + 2, hn⟩
set_option maxRecDepth 20000 in
theorem s_M_dearest {N d : Nat} {x1 : Int32} {x2 : Int32} (hd : 9 ≤ d) {σ : jw_M} {z : (Int32 × jw_M)} {Q : jw_Q} (h : f_M_dearest N x1 x2 σ = some z) (hQ : Q (some (.int z.1)) (jx_ShM, z.2)) : jw_C jp_kd jp_ys d 242 [.ref 0, .int x1, .int x2] (jx_ShM, σ) Q := by
  obtain ⟨d, rfl⟩ : ∃ e, d = e + 1 := ⟨d - 1, by omega⟩
  replace hd : 8 ≤ d := by omega
  refine jx_C rfl rfl ?_
  unfold f_M_dearest at h
  cases c1 : jx_in x1 526 with
  | false => rw [c1, cond_false] at h; cases h
  | true =>
    rw [c1, cond_true] at h
    obtain ⟨n, hn⟩ := s_M_dearest_16 hd N (u7 := none) h hQ
    exact ⟨n + 11, And.intro (jx_in_ok c1) (hn)⟩
set_option maxRecDepth 20000 in
theorem s_M_quickFor {N d : Nat} {x1 : Int32} (hd : 10 ≤ d) {σ : jw_M} {z : (Int32 × jw_M)} {Q : jw_Q} (h : f_M_quickFor N x1 σ = some z) (hQ : Q (some (.int z.1)) (jx_ShM, z.2)) : jw_C jp_kd jp_ys d 243 [.ref 0, .int x1] (jx_ShM, σ) Q := by
  obtain ⟨d, rfl⟩ : ∃ e, d = e + 1 := ⟨d - 1, by omega⟩
  replace hd : 9 ≤ d := by omega
  refine jx_C rfl rfl ?_
  unfold f_M_quickFor at h
  obtain ⟨z1, h2, h⟩ := Option.bind_eq_some_iff.mp h
  by_cases c3 : z1.1 = 0
  · rw [if_pos c3] at h
    suffices hh : ∃ n, jx_W jx_ShM d (some .int) jc_243 Q n 25 [some (.ref 0), some (.int x1)] [] z1.2 by
      obtain ⟨n, hn⟩ := hh
      exact ⟨n + 4, s_M_isShadow (by omega) h2 (And.intro (fun _ => hn) (fun zz => absurd c3 zz))⟩
    cases h
    exact ⟨2, And.intro hQ (And.intro rfl rfl)⟩
  · rw [if_neg c3] at h
    suffices hh : ∃ n, jx_W jx_ShM d (some .int) jc_243 Q n 8 [some (.ref 0), some (.int x1)] [] z1.2 by
      obtain ⟨n, hn⟩ := hh
      exact ⟨n + 4, s_M_isShadow (by omega) h2 (And.intro (fun zz => absurd zz c3) (fun _ => hn))⟩
    obtain ⟨z4, h5, h⟩ := Option.bind_eq_some_iff.mp h
    cases h
    exact ⟨12, s_M_dearest (by omega) h5 (And.intro hQ (And.intro rfl rfl))⟩
set_option maxRecDepth 20000 in
theorem s_M_roomFor {N d : Nat} {x1 : Int32} (hd : 10 ≤ d) {σ : jw_M} {z : (Int32 × jw_M)} {Q : jw_Q} (h : f_M_roomFor N x1 σ = some z) (hQ : Q (some (.int z.1)) (jx_ShM, z.2)) : jw_C jp_kd jp_ys d 244 [.ref 0, .int x1] (jx_ShM, σ) Q := by
  obtain ⟨d, rfl⟩ : ∃ e, d = e + 1 := ⟨d - 1, by omega⟩
  replace hd : 9 ≤ d := by omega
  refine jx_C rfl rfl ?_
  unfold f_M_roomFor at h
  obtain ⟨z1, h2, h⟩ := Option.bind_eq_some_iff.mp h
  by_cases c3 : z1.1 = 0
  · rw [if_pos c3] at h
    suffices hh : ∃ n, jx_W jx_ShM d (some .int) jc_244 Q n 25 [some (.ref 0), some (.int x1)] [] z1.2 by
      obtain ⟨n, hn⟩ := hh
      exact ⟨n + 4, s_M_isLesson (by omega) h2 (And.intro (fun _ => hn) (fun zz => absurd c3 zz))⟩
    cases h
    exact ⟨2, And.intro hQ (And.intro rfl rfl)⟩
  · rw [if_neg c3] at h
    suffices hh : ∃ n, jx_W jx_ShM d (some .int) jc_244 Q n 8 [some (.ref 0), some (.int x1)] [] z1.2 by
      obtain ⟨n, hn⟩ := hh
      exact ⟨n + 4, s_M_isLesson (by omega) h2 (And.intro (fun zz => absurd zz c3) (fun _ => hn))⟩
    obtain ⟨z4, h5, h⟩ := Option.bind_eq_some_iff.mp h
    cases h
    exact ⟨12, s_M_dearest (by omega) h5 (And.intro hQ (And.intro rfl rfl))⟩
set_option maxRecDepth 20000 in
theorem s_M_letGoBy_67 {N d : Nat} {Q : jw_Q} {K34 : Int32 → Int32 → Int32 → Int32 → Int32 → jw_M → Option (Int32 × jw_M)} (hd : 8 ≤ d) (hK34 : ∀ {x1 : Int32} {x2 : Int32} {x3 : Int32} {x4 : Int32} {x5 : Int32} {σ : jw_M} {z : (Int32 × jw_M)}, K34 x1 x2 x3 x4 x5 σ = some z → Q (some (.int z.1)) (jx_ShM, z.2) → ∃ n, jx_W jx_ShM d (some .int) jc_245 Q n 34 [some (.ref 0), some (.int x1), some (.int x2), some (.int x3), some (.int x4), some (.int x5)] [] σ) {x1 : Int32} {x2 : Int32} {x3 : Int32} {x5 : Int32} {y0 : Int32} {u4 : Option Value} {σ : jw_M} {z : (Int32 × jw_M)} (h : f_M_letGoBy_67 N K34 x1 x2 x3 x5 y0 σ = some z) (hQ : Q (some (.int z.1)) (jx_ShM, z.2)) : ∃ n, jx_W jx_ShM d (some .int) jc_245 Q n 67 [some (.ref 0), some (.int x1), some (.int x2), some (.int x3), u4, some (.int x5)] [.int y0] σ := by
  unfold f_M_letGoBy_67 at h
  obtain ⟨n, hn⟩ := hK34 h hQ
  exact ⟨n + 3, hn⟩
set_option maxRecDepth 20000 in
theorem s_M_letGoBy_34 {N d : Nat} {Q : jw_Q} (hd : 8 ≤ d) : ∀ (k : Nat) {x1 : Int32} {x2 : Int32} {x3 : Int32} {x4 : Int32} {x5 : Int32} {σ : jw_M} {z : (Int32 × jw_M)}, f_M_letGoBy_34 N k x1 x2 x3 x4 x5 σ = some z → Q (some (.int z.1)) (jx_ShM, z.2) → ∃ n, jx_W jx_ShM d (some .int) jc_245 Q n 34 [some (.ref 0), some (.int x1), some (.int x2), some (.int x3), some (.int x4), some (.int x5)] [] σ
  | 0, _, _, _, _, _, _, _, h, _ => by cases h
  | k + 1, x1, x2, x3, x4, x5, σ, z, h, hQ => by
    rw [f_M_letGoBy_34] at h
    by_cases c5 : x5 < 1
    · rw [if_pos c5] at h
      suffices hh : ∃ n, jx_W jx_ShM d (some .int) jc_245 Q n 75 [some (.ref 0), some (.int x1), some (.int x2), some (.int x3), some (.int x4), some (.int x5)] [] σ by
        obtain ⟨n, hn⟩ := hh
        exact ⟨n + 3, And.intro (fun _ => hn) (fun zz => absurd c5 zz)⟩
      cases c6 : jx_in x2 526 with
      | false => rw [c6, cond_false] at h; cases h
      | true =>
        rw [c6, cond_true] at h
        cases h
        exact ⟨7, And.intro (jx_in_ok c6) (And.intro hQ (And.intro rfl rfl))⟩
    · rw [if_neg c5] at h
      suffices hh : ∃ n, jx_W jx_ShM d (some .int) jc_245 Q n 40 [some (.ref 0), some (.int x1), some (.int x2), some (.int x3), some (.int x4), some (.int x5)] [] σ by
        obtain ⟨n, hn⟩ := hh
        exact ⟨n + 3, And.intro (fun zz => absurd zz c5) (fun _ => hn)⟩
      cases c7 : jx_in x2 526 with
      | false => rw [c7, cond_false] at h; cases h
      | true =>
        rw [c7, cond_true] at h
        obtain ⟨z8, h9, h⟩ := Option.bind_eq_some_iff.mp h
        by_cases c10 : ((z8.1 >>> (x1 &&& 31)) &&& 1) = 1
        · rw [if_pos c10] at h
          suffices hh : ∃ n, jx_W jx_ShM d (some .int) jc_245 Q n 60 [some (.ref 0), some (.int x1), some (.int x2), some (.int x3), some (.int x4), some (.int x5)] [] z8.2 by
            obtain ⟨n, hn⟩ := hh
            exact ⟨n + 13, And.intro (jx_in_ok c7) (s_M_letGo (by omega) h9 (And.intro (fun zz => absurd c10 zz) (fun _ => hn)))⟩
          obtain ⟨n, hn⟩ := s_M_letGoBy_67 hd (s_M_letGoBy_34 hd k) (u4 := some (.int x4)) h hQ
          exact ⟨n + 2, hn⟩
        · rw [if_neg c10] at h
          suffices hh : ∃ n, jx_W jx_ShM d (some .int) jc_245 Q n 65 [some (.ref 0), some (.int x1), some (.int x2), some (.int x3), some (.int x4), some (.int x5)] [] z8.2 by
            obtain ⟨n, hn⟩ := hh
            exact ⟨n + 13, And.intro (jx_in_ok c7) (s_M_letGo (by omega) h9 (And.intro (fun _ => hn) (fun zz => absurd zz c10)))⟩
          obtain ⟨n, hn⟩ := s_M_letGoBy_67 hd (s_M_letGoBy_34 hd k) (u4 := some (.int x4)) h hQ
          exact ⟨n + 1, hn⟩
set_option maxRecDepth 20000 in
theorem s_M_letGoBy {N d : Nat} {x1 : Int32} (hd : 9 ≤ d) {σ : jw_M} {z : (Int32 × jw_M)} {Q : jw_Q} (h : f_M_letGoBy N x1 σ = some z) (hQ : Q (some (.int z.1)) (jx_ShM, z.2)) : jw_C jp_kd jp_ys d 245 [.ref 0, .int x1] (jx_ShM, σ) Q := by
  obtain ⟨d, rfl⟩ : ∃ e, d = e + 1 := ⟨d - 1, by omega⟩
  replace hd : 8 ≤ d := by omega
  refine jx_C rfl rfl ?_
  unfold f_M_letGoBy at h
  obtain ⟨z1, h2, h⟩ := Option.bind_eq_some_iff.mp h
  by_cases c3 : z1.1 = 0
  · rw [if_pos c3] at h
    suffices hh : ∃ n, jx_W jx_ShM d (some .int) jc_245 Q n 8 [some (.ref 0), some (.int x1), none, none, none, none] [] z1.2 by
      obtain ⟨n, hn⟩ := hh
      exact ⟨n + 4, s_M_isShadow (by omega) h2 (And.intro (fun zz => absurd c3 zz) (fun _ => hn))⟩
    cases h
    exact ⟨2, And.intro hQ (And.intro rfl rfl)⟩
  · rw [if_neg c3] at h
    suffices hh : ∃ n, jx_W jx_ShM d (some .int) jc_245 Q n 10 [some (.ref 0), some (.int x1), none, none, none, none] [] z1.2 by
      obtain ⟨n, hn⟩ := hh
      exact ⟨n + 4, s_M_isShadow (by omega) h2 (And.intro (fun _ => hn) (fun zz => absurd zz c3))⟩
    cases c4 : jx_in ((6 + (3 * x1)) + 1) 526 with
    | false => rw [c4, cond_false] at h; cases h
    | true =>
      rw [c4, cond_true] at h
      obtain ⟨n, hn⟩ := s_M_letGoBy_34 hd N h hQ
      exact ⟨n + 17, And.intro (jx_in_ok c4) (hn)⟩
set_option maxRecDepth 20000 in
theorem s_M_quarrel {N d : Nat} {x1 : Int32} {x2 : Int32} {x3 : Int32} (hd : 3 ≤ d) {σ : jw_M} {z : (Int32 × jw_M)} {Q : jw_Q} (h : f_M_quarrel N x1 x2 x3 σ = some z) (hQ : Q (some (.int z.1)) (jx_ShM, z.2)) : jw_C jp_kd jp_ys d 246 [.ref 0, .int x1, .int x2, .int x3] (jx_ShM, σ) Q := by
  obtain ⟨d, rfl⟩ : ∃ e, d = e + 1 := ⟨d - 1, by omega⟩
  replace hd : 2 ≤ d := by omega
  refine jx_C rfl rfl ?_
  unfold f_M_quarrel at h
  obtain ⟨z1, h2, h⟩ := Option.bind_eq_some_iff.mp h
  by_cases c3 : z1.1 = 0
  · rw [if_pos c3] at h
    suffices hh : ∃ n, jx_W jx_ShM d (some .int) jc_246 Q n 30 [some (.ref 0), some (.int x1), some (.int x2), some (.int x3), none] [] z1.2 by
      obtain ⟨n, hn⟩ := hh
      exact ⟨n + 4, s_M_isShadow (by omega) h2 (And.intro (fun _ => hn) (fun zz => absurd c3 zz))⟩
    cases h
    exact ⟨2, And.intro hQ (And.intro rfl rfl)⟩
  · rw [if_neg c3] at h
    suffices hh : ∃ n, jx_W jx_ShM d (some .int) jc_246 Q n 8 [some (.ref 0), some (.int x1), some (.int x2), some (.int x3), none] [] z1.2 by
      obtain ⟨n, hn⟩ := hh
      exact ⟨n + 4, s_M_isShadow (by omega) h2 (And.intro (fun zz => absurd zz c3) (fun _ => hn))⟩
    obtain ⟨z4, h5, h⟩ := Option.bind_eq_some_iff.mp h
    by_cases c6 : z4.1 = 0
    · rw [if_pos c6] at h
      suffices hh : ∃ n, jx_W jx_ShM d (some .int) jc_246 Q n 30 [some (.ref 0), some (.int x1), some (.int x2), some (.int x3), none] [] z4.2 by
        obtain ⟨n, hn⟩ := hh
        exact ⟨n + 4, s_M_isShadow (by omega) h5 (And.intro (fun _ => hn) (fun zz => absurd c6 zz))⟩
      cases h
      exact ⟨2, And.intro hQ (And.intro rfl rfl)⟩
    · rw [if_neg c6] at h
      suffices hh : ∃ n, jx_W jx_ShM d (some .int) jc_246 Q n 16 [some (.ref 0), some (.int x1), some (.int x2), some (.int x3), none] [] z4.2 by
        obtain ⟨n, hn⟩ := hh
        exact ⟨n + 4, s_M_isShadow (by omega) h5 (And.intro (fun zz => absurd zz c6) (fun _ => hn))⟩
      by_cases c7 : x1 = x2
      · rw [if_pos c7] at h
        suffices hh : ∃ n, jx_W jx_ShM d (some .int) jc_246 Q n 30 [some (.ref 0), some (.int x1), some (.int x2), some (.int x3), none] [] z4.2 by
          obtain ⟨n, hn⟩ := hh
          exact ⟨n + 3, And.intro (fun _ => hn) (fun zz => absurd c7 zz)⟩
        cases h
        exact ⟨2, And.intro hQ (And.intro rfl rfl)⟩
      · rw [if_neg c7] at h
        suffices hh : ∃ n, jx_W jx_ShM d (some .int) jc_246 Q n 21 [some (.ref 0), some (.int x1), some (.int x2), some (.int x3), none] [] z4.2 by
          obtain ⟨n, hn⟩ := hh
          exact ⟨n + 3, And.intro (fun zz => absurd zz c7) (fun _ => hn)⟩
        obtain ⟨z8, h9, h⟩ := Option.bind_eq_some_iff.mp h
        by_cases c10 : z8.1 = 0
        · rw [if_pos c10] at h
          suffices hh : ∃ n, jx_W jx_ShM d (some .int) jc_246 Q n 30 [some (.ref 0), some (.int x1), some (.int x2), some (.int x3), none] [] z8.2 by
            obtain ⟨n, hn⟩ := hh
            exact ⟨n + 5, s_M_in (by omega) h9 (And.intro (fun zz => absurd c10 zz) (fun _ => hn))⟩
          cases h
          exact ⟨2, And.intro hQ (And.intro rfl rfl)⟩
        · rw [if_neg c10] at h
          suffices hh : ∃ n, jx_W jx_ShM d (some .int) jc_246 Q n 32 [some (.ref 0), some (.int x1), some (.int x2), some (.int x3), none] [] z8.2 by
            obtain ⟨n, hn⟩ := hh
            exact ⟨n + 5, s_M_in (by omega) h9 (And.intro (fun _ => hn) (fun zz => absurd zz c10))⟩
          cases c11 : jx_in (64 + x1) 526 with
          | false => rw [c11, cond_false] at h; cases h
          | true =>
            rw [c11, cond_true] at h
            cases c12 : jx_in (64 + x2) 526 with
            | false => rw [c12, cond_false] at h; cases h
            | true =>
              rw [c12, cond_true] at h
              cases h
              exact ⟨57, And.intro (jx_in_ok c11) (And.intro (jx_in_ok c11) (And.intro (jx_in_ok c11) (And.intro (jx_in_ok c12) (And.intro (jx_in_ok c12) (And.intro hQ (And.intro rfl rfl))))))⟩
set_option maxRecDepth 20000 in
theorem s_M_quarrels {N d : Nat} {x1 : Int32} (hd : 3 ≤ d) {σ : jw_M} {z : (Int32 × jw_M)} {Q : jw_Q} (h : f_M_quarrels N x1 σ = some z) (hQ : Q (some (.int z.1)) (jx_ShM, z.2)) : jw_C jp_kd jp_ys d 247 [.ref 0, .int x1] (jx_ShM, σ) Q := by
  obtain ⟨d, rfl⟩ : ∃ e, d = e + 1 := ⟨d - 1, by omega⟩
  replace hd : 2 ≤ d := by omega
  refine jx_C rfl rfl ?_
  unfold f_M_quarrels at h
  obtain ⟨z1, h2, h⟩ := Option.bind_eq_some_iff.mp h
  by_cases c3 : z1.1 = 0
  · rw [if_pos c3] at h
    suffices hh : ∃ n, jx_W jx_ShM d (some .int) jc_247 Q n 20 [some (.ref 0), some (.int x1)] [] z1.2 by
      obtain ⟨n, hn⟩ := hh
      exact ⟨n + 4, s_M_isShadow (by omega) h2 (And.intro (fun _ => hn) (fun zz => absurd c3 zz))⟩
    cases h
    exact ⟨2, And.intro hQ (And.intro rfl rfl)⟩
  · rw [if_neg c3] at h
    suffices hh : ∃ n, jx_W jx_ShM d (some .int) jc_247 Q n 8 [some (.ref 0), some (.int x1)] [] z1.2 by
      obtain ⟨n, hn⟩ := hh
      exact ⟨n + 4, s_M_isShadow (by omega) h2 (And.intro (fun zz => absurd zz c3) (fun _ => hn))⟩
    cases c4 : jx_in (64 + x1) 526 with
    | false => rw [c4, cond_false] at h; cases h
    | true =>
      rw [c4, cond_true] at h
      cases h
      exact ⟨8, And.intro (jx_in_ok c4) (And.intro hQ (And.intro rfl rfl))⟩
set_option maxRecDepth 20000 in
theorem s_M_isSeating_61 {N d : Nat} {Q : jw_Q} {K4 : Int32 → Int32 → jw_M → Option (Int32 × jw_M)} {K16 : Int32 → Int32 → Int32 → jw_M → Option (Int32 × jw_M)} (hd : 0 ≤ d) (hK4 : ∀ {x1 : Int32} {x2 : Int32} {σ : jw_M} {z : (Int32 × jw_M)} {u3 : Option Value}, K4 x1 x2 σ = some z → Q (some (.int z.1)) (jx_ShM, z.2) → ∃ n, jx_W jx_ShM d (some .boolean) jc_248 Q n 4 [some (.ref 0), some (.int x1), some (.int x2), u3] [] σ) (hK16 : ∀ {x1 : Int32} {x2 : Int32} {x3 : Int32} {σ : jw_M} {z : (Int32 × jw_M)}, K16 x1 x2 x3 σ = some z → Q (some (.int z.1)) (jx_ShM, z.2) → ∃ n, jx_W jx_ShM d (some .boolean) jc_248 Q n 16 [some (.ref 0), some (.int x1), some (.int x2), some (.int x3)] [] σ) {x2 : Int32} {x3 : Int32} {y0 : Int32} {u1 : Option Value} {σ : jw_M} {z : (Int32 × jw_M)} (h : f_M_isSeating_61 N K4 K16 x2 x3 y0 σ = some z) (hQ : Q (some (.int z.1)) (jx_ShM, z.2)) : ∃ n, jx_W jx_ShM d (some .boolean) jc_248 Q n 61 [some (.ref 0), u1, some (.int x2), some (.int x3)] [.int y0] σ := by
  unfold f_M_isSeating_61 at h
  obtain ⟨n, hn⟩ := hK16 h hQ
  exact ⟨n + 3, hn⟩
set_option maxRecDepth 20000 in
theorem s_M_isSeating_60 {N d : Nat} {Q : jw_Q} {K4 : Int32 → Int32 → jw_M → Option (Int32 × jw_M)} {K16 : Int32 → Int32 → Int32 → jw_M → Option (Int32 × jw_M)} (hd : 0 ≤ d) (hK4 : ∀ {x1 : Int32} {x2 : Int32} {σ : jw_M} {z : (Int32 × jw_M)} {u3 : Option Value}, K4 x1 x2 σ = some z → Q (some (.int z.1)) (jx_ShM, z.2) → ∃ n, jx_W jx_ShM d (some .boolean) jc_248 Q n 4 [some (.ref 0), some (.int x1), some (.int x2), u3] [] σ) (hK16 : ∀ {x1 : Int32} {x2 : Int32} {x3 : Int32} {σ : jw_M} {z : (Int32 × jw_M)}, K16 x1 x2 x3 σ = some z → Q (some (.int z.1)) (jx_ShM, z.2) → ∃ n, jx_W jx_ShM d (some .boolean) jc_248 Q n 16 [some (.ref 0), some (.int x1), some (.int x2), some (.int x3)] [] σ) {x2 : Int32} {x3 : Int32} {u1 : Option Value} {σ : jw_M} {z : (Int32 × jw_M)} (h : f_M_isSeating_60 N K4 K16 x2 x3 σ = some z) (hQ : Q (some (.int z.1)) (jx_ShM, z.2)) : ∃ n, jx_W jx_ShM d (some .boolean) jc_248 Q n 60 [some (.ref 0), u1, some (.int x2), some (.int x3)] [] σ := by
  unfold f_M_isSeating_60 at h
  obtain ⟨n, hn⟩ := s_M_isSeating_61 hd hK4 hK16 (u1 := u1) h hQ
  exact ⟨n + 1, hn⟩
set_option maxRecDepth 20000 in
theorem s_M_isSeating_56 {N d : Nat} {Q : jw_Q} {K4 : Int32 → Int32 → jw_M → Option (Int32 × jw_M)} {K16 : Int32 → Int32 → Int32 → jw_M → Option (Int32 × jw_M)} (hd : 0 ≤ d) (hK4 : ∀ {x1 : Int32} {x2 : Int32} {σ : jw_M} {z : (Int32 × jw_M)} {u3 : Option Value}, K4 x1 x2 σ = some z → Q (some (.int z.1)) (jx_ShM, z.2) → ∃ n, jx_W jx_ShM d (some .boolean) jc_248 Q n 4 [some (.ref 0), some (.int x1), some (.int x2), u3] [] σ) (hK16 : ∀ {x1 : Int32} {x2 : Int32} {x3 : Int32} {σ : jw_M} {z : (Int32 × jw_M)}, K16 x1 x2 x3 σ = some z → Q (some (.int z.1)) (jx_ShM, z.2) → ∃ n, jx_W jx_ShM d (some .boolean) jc_248 Q n 16 [some (.ref 0), some (.int x1), some (.int x2), some (.int x3)] [] σ) {x2 : Int32} {x3 : Int32} {u1 : Option Value} {σ : jw_M} {z : (Int32 × jw_M)} (h : f_M_isSeating_56 N K4 K16 x2 x3 σ = some z) (hQ : Q (some (.int z.1)) (jx_ShM, z.2)) : ∃ n, jx_W jx_ShM d (some .boolean) jc_248 Q n 56 [some (.ref 0), u1, some (.int x2), some (.int x3)] [] σ := by
  unfold f_M_isSeating_56 at h
  obtain ⟨n, hn⟩ := s_M_isSeating_61 hd hK4 hK16 (u1 := u1) h hQ
  exact ⟨n + 2, hn⟩
set_option maxRecDepth 20000 in
theorem s_M_isSeating_16 {N d : Nat} {Q : jw_Q} {K4 : Int32 → Int32 → jw_M → Option (Int32 × jw_M)} (hd : 0 ≤ d) (hK4 : ∀ {x1 : Int32} {x2 : Int32} {σ : jw_M} {z : (Int32 × jw_M)} {u3 : Option Value}, K4 x1 x2 σ = some z → Q (some (.int z.1)) (jx_ShM, z.2) → ∃ n, jx_W jx_ShM d (some .boolean) jc_248 Q n 4 [some (.ref 0), some (.int x1), some (.int x2), u3] [] σ) : ∀ (k : Nat) {x1 : Int32} {x2 : Int32} {x3 : Int32} {σ : jw_M} {z : (Int32 × jw_M)}, f_M_isSeating_16 N K4 k x1 x2 x3 σ = some z → Q (some (.int z.1)) (jx_ShM, z.2) → ∃ n, jx_W jx_ShM d (some .boolean) jc_248 Q n 16 [some (.ref 0), some (.int x1), some (.int x2), some (.int x3)] [] σ
  | 0, _, _, _, _, _, h, _ => by cases h
  | k + 1, x1, x2, x3, σ, z, h, hQ => by
    rw [f_M_isSeating_16] at h
    by_cases c3 : x2 ≤ x3
    · rw [if_pos c3] at h
      suffices hh : ∃ n, jx_W jx_ShM d (some .boolean) jc_248 Q n 68 [some (.ref 0), some (.int x1), some (.int x2), some (.int x3)] [] σ by
        obtain ⟨n, hn⟩ := hh
        exact ⟨n + 3, And.intro (fun _ => hn) (fun zz => absurd c3 zz)⟩
      obtain ⟨n, hn⟩ := hK4 (u3 := some (.int x3)) h hQ
      exact ⟨n + 2, hn⟩
    · rw [if_neg c3] at h
      suffices hh : ∃ n, jx_W jx_ShM d (some .boolean) jc_248 Q n 21 [some (.ref 0), some (.int x1), some (.int x2), some (.int x3)] [] σ by
        obtain ⟨n, hn⟩ := hh
        exact ⟨n + 3, And.intro (fun zz => absurd zz c3) (fun _ => hn)⟩
      by_cases c4 : x1 = 0
      · rw [if_pos c4] at h
        suffices hh : ∃ n, jx_W jx_ShM d (some .boolean) jc_248 Q n 60 [some (.ref 0), some (.int x1), some (.int x2), some (.int x3)] [] σ by
          obtain ⟨n, hn⟩ := hh
          exact ⟨n + 2, And.intro (fun _ => hn) (fun zz => absurd c4 zz)⟩
        obtain ⟨n, hn⟩ := s_M_isSeating_60 hd hK4 (s_M_isSeating_16 hd hK4 k) (u1 := some (.int x1)) h hQ
        exact ⟨n + 0, hn⟩
      · rw [if_neg c4] at h
        suffices hh : ∃ n, jx_W jx_ShM d (some .boolean) jc_248 Q n 25 [some (.ref 0), some (.int x1), some (.int x2), some (.int x3)] [] σ by
          obtain ⟨n, hn⟩ := hh
          exact ⟨n + 2, And.intro (fun zz => absurd zz c4) (fun _ => hn)⟩
        cases c5 : jx_in x2 6 with
        | false => rw [c5, cond_false] at h; cases h
        | true =>
          rw [c5, cond_true] at h
          cases c6 : jx_in x3 6 with
          | false => rw [c6, cond_false] at h; cases h
          | true =>
            rw [c6, cond_true] at h
            by_cases c7 : (σ.1 11 (x2).toNatClampNeg) = (σ.1 11 (x3).toNatClampNeg)
            · rw [if_pos c7] at h
              suffices hh : ∃ n, jx_W jx_ShM d (some .boolean) jc_248 Q n 40 [some (.ref 0), some (.int x1), some (.int x2), some (.int x3)] [] σ by
                obtain ⟨n, hn⟩ := hh
                exact ⟨n + 9, And.intro (jx_in_ok c5) (And.intro (jx_in_ok c6) (And.intro (fun zz => absurd c7 zz) (fun _ => hn)))⟩
              cases c8 : jx_in (64 + x2) 526 with
              | false => rw [c8, cond_false] at h; cases h
              | true =>
                rw [c8, cond_true] at h
                by_cases c9 : (((σ.1 3 ((64 + x2)).toNatClampNeg) >>> (x3 &&& 31)) &&& 1) = 0
                · rw [if_pos c9] at h
                  suffices hh : ∃ n, jx_W jx_ShM d (some .boolean) jc_248 Q n 56 [some (.ref 0), some (.int x1), some (.int x2), some (.int x3)] [] σ by
                    obtain ⟨n, hn⟩ := hh
                    exact ⟨n + 11, And.intro (jx_in_ok c8) (And.intro (fun zz => absurd c9 zz) (fun _ => hn))⟩
                  obtain ⟨n, hn⟩ := s_M_isSeating_56 hd hK4 (s_M_isSeating_16 hd hK4 k) (u1 := some (.int x1)) h hQ
                  exact ⟨n + 0, hn⟩
                · rw [if_neg c9] at h
                  suffices hh : ∃ n, jx_W jx_ShM d (some .boolean) jc_248 Q n 60 [some (.ref 0), some (.int x1), some (.int x2), some (.int x3)] [] σ by
                    obtain ⟨n, hn⟩ := hh
                    exact ⟨n + 11, And.intro (jx_in_ok c8) (And.intro (fun _ => hn) (fun zz => absurd zz c9))⟩
                  obtain ⟨n, hn⟩ := s_M_isSeating_60 hd hK4 (s_M_isSeating_16 hd hK4 k) (u1 := some (.int x1)) h hQ
                  exact ⟨n + 0, hn⟩
            · rw [if_neg c7] at h
              suffices hh : ∃ n, jx_W jx_ShM d (some .boolean) jc_248 Q n 56 [some (.ref 0), some (.int x1), some (.int x2), some (.int x3)] [] σ by
                obtain ⟨n, hn⟩ := hh
                exact ⟨n + 9, And.intro (jx_in_ok c5) (And.intro (jx_in_ok c6) (And.intro (fun _ => hn) (fun zz => absurd zz c7)))⟩
              obtain ⟨n, hn⟩ := s_M_isSeating_56 hd hK4 (s_M_isSeating_16 hd hK4 k) (u1 := some (.int x1)) h hQ
              exact ⟨n + 0, hn⟩
set_option maxRecDepth 20000 in
theorem s_M_isSeating_4 {N d : Nat} {Q : jw_Q} (hd : 0 ≤ d) : ∀ (k : Nat) {x1 : Int32} {x2 : Int32} {u3 : Option Value} {σ : jw_M} {z : (Int32 × jw_M)}, f_M_isSeating_4 N k x1 x2 σ = some z → Q (some (.int z.1)) (jx_ShM, z.2) → ∃ n, jx_W jx_ShM d (some .boolean) jc_248 Q n 4 [some (.ref 0), some (.int x1), some (.int x2), u3] [] σ
  | 0, _, _, _, _, _, h, _ => by cases h
  | k + 1, x1, x2, u3, σ, z, h, hQ => by
    rw [f_M_isSeating_4] at h
    by_cases c1 : (σ.1 3 2) ≤ x2
    · rw [if_pos c1] at h
      suffices hh : ∃ n, jx_W jx_ShM d (some .boolean) jc_248 Q n 74 [some (.ref 0), some (.int x1), some (.int x2), u3] [] σ by
        obtain ⟨n, hn⟩ := hh
        exact ⟨n + 6, And.intro (jx_in_ok rfl) (And.intro (fun _ => hn) (fun zz => absurd c1 zz))⟩
      by_cases c2 : x1 = 0 ∨ x1 = 1
      · rw [if_pos c2] at h
        cases h
        exact ⟨2, And.intro c2 (And.intro hQ (And.intro rfl rfl))⟩
      · rw [if_neg c2] at h
        cases h
    · rw [if_neg c1] at h
      suffices hh : ∃ n, jx_W jx_ShM d (some .boolean) jc_248 Q n 14 [some (.ref 0), some (.int x1), some (.int x2), u3] [] σ by
        obtain ⟨n, hn⟩ := hh
        exact ⟨n + 6, And.intro (jx_in_ok rfl) (And.intro (fun zz => absurd zz c1) (fun _ => hn))⟩
      obtain ⟨n, hn⟩ := s_M_isSeating_16 hd (s_M_isSeating_4 hd k) N h hQ
      exact ⟨n + 2, hn⟩
set_option maxRecDepth 20000 in
theorem s_M_isSeating {N d : Nat} (hd : 1 ≤ d) {σ : jw_M} {z : (Int32 × jw_M)} {Q : jw_Q} (h : f_M_isSeating N  σ = some z) (hQ : Q (some (.int z.1)) (jx_ShM, z.2)) : jw_C jp_kd jp_ys d 248 [.ref 0] (jx_ShM, σ) Q := by
  obtain ⟨d, rfl⟩ : ∃ e, d = e + 1 := ⟨d - 1, by omega⟩
  replace hd : 0 ≤ d := by omega
  refine jx_C rfl rfl ?_
  unfold f_M_isSeating at h
  obtain ⟨n, hn⟩ := s_M_isSeating_4 hd N (u3 := none) h hQ
  exact ⟨n + 4, hn⟩
set_option maxRecDepth 20000 in
theorem s_M_isNextWay_52 {N d : Nat} {Q : jw_Q} (hd : 0 ≤ d) {x2 : Int32} {u0 : Option Value} {u1 : Option Value} {σ : jw_M} {z : (Int32 × jw_M)} (h : f_M_isNextWay_52 N x2 σ = some z) (hQ : Q (some (.int z.1)) (jx_ShM, z.2)) : ∃ n, jx_W jx_ShM d (some .boolean) jc_249 Q n 52 [u0, u1, some (.int x2)] [] σ := by
  unfold f_M_isNextWay_52 at h
  by_cases c3 : x2 < 0
  · rw [if_pos c3] at h
    suffices hh : ∃ n, jx_W jx_ShM d (some .boolean) jc_249 Q n 60 [u0, u1, some (.int x2)] [] σ by
      obtain ⟨n, hn⟩ := hh
      exact ⟨n + 2, And.intro (fun _ => hn) (fun zz => absurd c3 zz)⟩
    cases h
    exact ⟨2, And.intro (Or.inl rfl) (And.intro hQ (And.intro rfl rfl))⟩
  · rw [if_neg c3] at h
    suffices hh : ∃ n, jx_W jx_ShM d (some .boolean) jc_249 Q n 56 [u0, u1, some (.int x2)] [] σ by
      obtain ⟨n, hn⟩ := hh
      exact ⟨n + 2, And.intro (fun zz => absurd zz c3) (fun _ => hn)⟩
    cases h
    exact ⟨3, And.intro (Or.inr rfl) (And.intro hQ (And.intro rfl rfl))⟩
set_option maxRecDepth 20000 in
theorem s_M_isNextWay_38 {N d : Nat} {Q : jw_Q} (hd : 0 ≤ d) {x2 : Int32} {u1 : Option Value} {σ : jw_M} {z : (Int32 × jw_M)} (h : f_M_isNextWay_38 N x2 σ = some z) (hQ : Q (some (.int z.1)) (jx_ShM, z.2)) : ∃ n, jx_W jx_ShM d (some .boolean) jc_249 Q n 38 [some (.ref 0), u1, some (.int x2)] [] σ := by
  unfold f_M_isNextWay_38 at h
  by_cases c2 : x2 < 0
  · rw [if_pos c2] at h
    suffices hh : ∃ n, jx_W jx_ShM d (some .boolean) jc_249 Q n 52 [some (.ref 0), u1, some (.int x2)] [] σ by
      obtain ⟨n, hn⟩ := hh
      exact ⟨n + 2, And.intro (fun _ => hn) (fun zz => absurd c2 zz)⟩
    obtain ⟨n, hn⟩ := s_M_isNextWay_52 hd (u0 := some (.ref 0)) (u1 := u1) h hQ
    exact ⟨n + 0, hn⟩
  · rw [if_neg c2] at h
    suffices hh : ∃ n, jx_W jx_ShM d (some .boolean) jc_249 Q n 42 [some (.ref 0), u1, some (.int x2)] [] σ by
      obtain ⟨n, hn⟩ := hh
      exact ⟨n + 2, And.intro (fun zz => absurd zz c2) (fun _ => hn)⟩
    cases c4 : jx_in x2 6 with
    | false => rw [c4, cond_false] at h; cases h
    | true =>
      rw [c4, cond_true] at h
      obtain ⟨n, hn⟩ := s_M_isNextWay_52 hd (u0 := some (.ref 0)) (u1 := u1) h hQ
      exact ⟨n + 8, And.intro (jx_in_ok c4) (And.intro (jx_in_ok c4) (hn))⟩
theorem jx_iinc {Sh : List jw_S} {d : Nat} {ret : Option FieldType} {cs : List jw_I} {Q : jw_Q} {n pc k len : Nat} {i : Int} {res : jw_R} {L L' : jw_L} {st : List Value} {σ : jw_M} {x v : Int32} (hq : jw_at pc cs = some (pc, .iinc k i, len, res)) (hL : L[k]? = some (some (.int x))) (hb : Nat.blt k L.length = true) (hv : v = x + Int32.ofInt i) (hL' : (jw_cl1 L k).set k (some (.int v)) = L') (h : jx_W Sh d ret cs Q n (pc + 3) L' st σ) : jx_W Sh d ret cs Q (n + 1) pc L st σ := by
  unfold jx_W at h ⊢
  rw [jw_wp, hq]
  show jw_ldi L k _
  unfold jw_ldi
  rw [hL]
  dsimp only
  unfold jw_sto
  rw [hb, cond_true, ← hv, hL']
  exact h
theorem jx_m1 {x y : Int32} (h : y = x + (-1)) : y = x + Int32.ofInt (-1) := by
  rw [h, show (-1 : Int32) = Int32.ofInt (-1) from by decide]
set_option maxRecDepth 20000 in
theorem s_M_isNextWay_32 {d : Nat} {Q : jw_Q} {x1 x2 y : Int32} {τ : jw_M} (hy : y = x2 + (-1)) (hh : ∃ n, jx_W jx_ShM d (some .boolean) jc_249 Q n 9 [some (.ref 0), some (.int x1), some (.int y)] [] τ) : ∃ n, jx_W jx_ShM d (some .boolean) jc_249 Q n 32 [some (.ref 0), some (.int x1), some (.int x2)] [] τ := by
  obtain ⟨n, hn⟩ := hh
  have h35 : jx_W jx_ShM d (some .boolean) jc_249 Q (n + 1) 35 [some (.ref 0), some (.int x1), some (.int y)] [] τ := hn
  exact ⟨n + 1 + 1, jx_iinc (k := 2) (i := -1) (x := x2) (v := y) rfl rfl rfl (jx_m1 hy) rfl h35⟩
set_option maxRecDepth 20000 in
theorem s_M_isNextWay_25 {d : Nat} {Q : jw_Q} {x1 x2 y : Int32} {σ : jw_M} (hy : y = x2 + (-1)) (c5 : jx_in x2 6 = true) (hh : ∃ n, jx_W jx_ShM d (some .boolean) jc_249 Q n 9 [some (.ref 0), some (.int x1), some (.int y)] [] (jx_w σ 11 (x2).toNatClampNeg (0 : Int32))) : ∃ n, jx_W jx_ShM d (some .boolean) jc_249 Q n 25 [some (.ref 0), some (.int x1), some (.int x2)] [] σ := by
  obtain ⟨n, hn⟩ := s_M_isNextWay_32 hy hh
  exact ⟨n + 5, And.intro (jx_in_ok c5) (hn)⟩
set_option maxRecDepth 20000 in
theorem s_M_isNextWay_9 {N d : Nat} {Q : jw_Q} (hd : 0 ≤ d) : ∀ (k : Nat) {x1 : Int32} {x2 : Int32} {σ : jw_M} {z : (Int32 × jw_M)}, f_M_isNextWay_9 N k x1 x2 σ = some z → Q (some (.int z.1)) (jx_ShM, z.2) → ∃ n, jx_W jx_ShM d (some .boolean) jc_249 Q n 9 [some (.ref 0), some (.int x1), some (.int x2)] [] σ
  | 0, _, _, _, _, h, _ => by cases h
  | k + 1, x1, x2, σ, z, h, hQ => by
    rw [f_M_isNextWay_9] at h
    by_cases c1 : x2 < 0
    · rw [if_pos c1] at h
      suffices hh : ∃ n, jx_W jx_ShM d (some .boolean) jc_249 Q n 38 [some (.ref 0), some (.int x1), some (.int x2)] [] σ by
        obtain ⟨n, hn⟩ := hh
        exact ⟨n + 2, And.intro (fun _ => hn) (fun zz => absurd c1 zz)⟩
      obtain ⟨n, hn⟩ := s_M_isNextWay_38 hd (u1 := some (.int x1)) h hQ
      exact ⟨n + 0, hn⟩
    · rw [if_neg c1] at h
      suffices hh : ∃ n, jx_W jx_ShM d (some .boolean) jc_249 Q n 13 [some (.ref 0), some (.int x1), some (.int x2)] [] σ by
        obtain ⟨n, hn⟩ := hh
        exact ⟨n + 2, And.intro (fun zz => absurd zz c1) (fun _ => hn)⟩
      cases c5 : jx_in x2 6 with
      | false => rw [c5, cond_false] at h; cases h
      | true =>
        rw [c5, cond_true] at h
        by_cases c6 : (σ.1 11 (x2).toNatClampNeg) = (x1 - 1)
        · rw [if_pos c6] at h
          suffices hh : ∃ n, jx_W jx_ShM d (some .boolean) jc_249 Q n 25 [some (.ref 0), some (.int x1), some (.int x2)] [] σ by
            obtain ⟨n, hn⟩ := hh
            exact ⟨n + 8, And.intro (jx_in_ok c5) (And.intro (fun zz => absurd c6 zz) (fun _ => hn))⟩
          exact s_M_isNextWay_25 rfl c5 (s_M_isNextWay_9 hd k h hQ)
        · rw [if_neg c6] at h
          suffices hh : ∃ n, jx_W jx_ShM d (some .boolean) jc_249 Q n 38 [some (.ref 0), some (.int x1), some (.int x2)] [] σ by
            obtain ⟨n, hn⟩ := hh
            exact ⟨n + 8, And.intro (jx_in_ok c5) (And.intro (fun _ => hn) (fun zz => absurd zz c6))⟩
          obtain ⟨n, hn⟩ := s_M_isNextWay_38 hd (u1 := some (.int x1)) h hQ
          exact ⟨n + 0, hn⟩
set_option maxRecDepth 20000 in
theorem s_M_isNextWay {N d : Nat} {x1 : Int32} (hd : 1 ≤ d) {σ : jw_M} {z : (Int32 × jw_M)} {Q : jw_Q} (h : f_M_isNextWay N x1 σ = some z) (hQ : Q (some (.int z.1)) (jx_ShM, z.2)) : jw_C jp_kd jp_ys d 249 [.ref 0, .int x1] (jx_ShM, σ) Q := by
  obtain ⟨d, rfl⟩ : ∃ e, d = e + 1 := ⟨d - 1, by omega⟩
  replace hd : 0 ≤ d := by omega
  refine jx_C rfl rfl ?_
  unfold f_M_isNextWay at h
  obtain ⟨n, hn⟩ := s_M_isNextWay_9 hd N h hQ
  exact ⟨n + 7, And.intro (jx_in_ok rfl) (hn)⟩
set_option maxRecDepth 20000 in
theorem s_M_allInFirst_2 {N d : Nat} {Q : jw_Q} (hd : 0 ≤ d) : ∀ (k : Nat) {x1 : Int32} {σ : jw_M} {z : jw_M}, f_M_allInFirst_2 N k x1 σ = some z → Q none (jx_ShM, z) → ∃ n, jx_W jx_ShM d none jc_250 Q n 2 [some (.ref 0), some (.int x1)] [] σ
  | 0, _, _, _, h, _ => by cases h
  | k + 1, x1, σ, z, h, hQ => by
    rw [f_M_allInFirst_2] at h
    by_cases c1 : 6 ≤ x1
    · rw [if_pos c1] at h
      suffices hh : ∃ n, jx_W jx_ShM d none jc_250 Q n 21 [some (.ref 0), some (.int x1)] [] σ by
        obtain ⟨n, hn⟩ := hh
        exact ⟨n + 3, And.intro (fun _ => hn) (fun zz => absurd c1 zz)⟩
      cases h
      exact ⟨1, And.intro hQ (And.intro rfl rfl)⟩
    · rw [if_neg c1] at h
      suffices hh : ∃ n, jx_W jx_ShM d none jc_250 Q n 8 [some (.ref 0), some (.int x1)] [] σ by
        obtain ⟨n, hn⟩ := hh
        exact ⟨n + 3, And.intro (fun zz => absurd zz c1) (fun _ => hn)⟩
      cases c2 : jx_in x1 6 with
      | false => rw [c2, cond_false] at h; cases h
      | true =>
        rw [c2, cond_true] at h
        obtain ⟨n, hn⟩ := s_M_allInFirst_2 hd k h hQ
        exact ⟨n + 7, And.intro (jx_in_ok c2) (hn)⟩
set_option maxRecDepth 20000 in
theorem s_M_allInFirst {N d : Nat} (hd : 1 ≤ d) {σ : jw_M} {z : jw_M} {Q : jw_Q} (h : f_M_allInFirst N  σ = some z) (hQ : Q none (jx_ShM, z)) : jw_C jp_kd jp_ys d 250 [.ref 0] (jx_ShM, σ) Q := by
  obtain ⟨d, rfl⟩ : ∃ e, d = e + 1 := ⟨d - 1, by omega⟩
  replace hd : 0 ≤ d := by omega
  refine jx_C rfl rfl ?_
  unfold f_M_allInFirst at h
  obtain ⟨n, hn⟩ := s_M_allInFirst_2 hd N h hQ
  exact ⟨n + 2, hn⟩
set_option maxRecDepth 20000 in
theorem s_M_isFirstSeating_4 {N d : Nat} {Q : jw_Q} (hd : 1 ≤ d) : ∀ (k : Nat) {x1 : Int32} {σ : jw_M} {z : (Int32 × jw_M)}, f_M_isFirstSeating_4 N k x1 σ = some z → Q (some (.int z.1)) (jx_ShM, z.2) → ∃ n, jx_W jx_ShM d (some .boolean) jc_251 Q n 4 [some (.ref 0), some (.int x1)] [] σ
  | 0, _, _, _, h, _ => by cases h
  | k + 1, x1, σ, z, h, hQ => by
    rw [f_M_isFirstSeating_4] at h
    obtain ⟨z3, h4, h⟩ := Option.bind_eq_some_iff.mp h
    by_cases c5 : z3.1 = 0
    · rw [if_pos c5] at h
      suffices hh : ∃ n, jx_W jx_ShM d (some .boolean) jc_251 Q n 11 [some (.ref 0), some (.int x1)] [] z3.2 by
        obtain ⟨n, hn⟩ := hh
        exact ⟨n + 3, s_M_isSeating (by omega) h4 (And.intro (fun zz => absurd c5 zz) (fun _ => hn))⟩
      obtain ⟨z6, h7, h⟩ := Option.bind_eq_some_iff.mp h
      by_cases c8 : z6.1 = 0
      · rw [if_pos c8] at h
        suffices hh : ∃ n, jx_W jx_ShM d (some .boolean) jc_251 Q n 19 [some (.ref 0), some (.int x1)] [] z6.2 by
          obtain ⟨n, hn⟩ := hh
          exact ⟨n + 4, s_M_isNextWay (by omega) h7 (And.intro (fun zz => absurd c8 zz) (fun _ => hn))⟩
        cases h
        exact ⟨2, And.intro (Or.inl rfl) (And.intro hQ (And.intro rfl rfl))⟩
      · rw [if_neg c8] at h
        suffices hh : ∃ n, jx_W jx_ShM d (some .boolean) jc_251 Q n 4 [some (.ref 0), some (.int x1)] [] z6.2 by
          obtain ⟨n, hn⟩ := hh
          exact ⟨n + 4, s_M_isNextWay (by omega) h7 (And.intro (fun _ => hn) (fun zz => absurd zz c8))⟩
        obtain ⟨n, hn⟩ := s_M_isFirstSeating_4 hd k h hQ
        exact ⟨n + 0, hn⟩
    · rw [if_neg c5] at h
      suffices hh : ∃ n, jx_W jx_ShM d (some .boolean) jc_251 Q n 21 [some (.ref 0), some (.int x1)] [] z3.2 by
        obtain ⟨n, hn⟩ := hh
        exact ⟨n + 3, s_M_isSeating (by omega) h4 (And.intro (fun _ => hn) (fun zz => absurd zz c5))⟩
      cases h
      exact ⟨2, And.intro (Or.inr rfl) (And.intro hQ (And.intro rfl rfl))⟩
set_option maxRecDepth 20000 in
theorem s_M_isFirstSeating {N d : Nat} {x1 : Int32} (hd : 2 ≤ d) {σ : jw_M} {z : (Int32 × jw_M)} {Q : jw_Q} (h : f_M_isFirstSeating N x1 σ = some z) (hQ : Q (some (.int z.1)) (jx_ShM, z.2)) : jw_C jp_kd jp_ys d 251 [.ref 0, .int x1] (jx_ShM, σ) Q := by
  obtain ⟨d, rfl⟩ : ∃ e, d = e + 1 := ⟨d - 1, by omega⟩
  replace hd : 1 ≤ d := by omega
  refine jx_C rfl rfl ?_
  unfold f_M_isFirstSeating at h
  obtain ⟨z1, h2, h⟩ := Option.bind_eq_some_iff.mp h
  obtain ⟨n, hn⟩ := s_M_isFirstSeating_4 hd N h hQ
  exact ⟨n + 2, s_M_allInFirst (by omega) h2 (hn)⟩
set_option maxRecDepth 20000 in
theorem s_M_rooms_13 {N d : Nat} {Q : jw_Q} (hd : 2 ≤ d) : ∀ (k : Nat) {x1 : Int32} {σ : jw_M} {z : (Int32 × jw_M)}, f_M_rooms_13 N k x1 σ = some z → Q (some (.int z.1)) (jx_ShM, z.2) → ∃ n, jx_W jx_ShM d (some .int) jc_252 Q n 13 [some (.ref 0), some (.int x1)] [] σ
  | 0, _, _, _, h, _ => by cases h
  | k + 1, x1, σ, z, h, hQ => by
    rw [f_M_rooms_13] at h
    obtain ⟨z2, h3, h⟩ := Option.bind_eq_some_iff.mp h
    by_cases c4 : z2.1 = 0
    · rw [if_pos c4] at h
      suffices hh : ∃ n, jx_W jx_ShM d (some .int) jc_252 Q n 21 [some (.ref 0), some (.int x1)] [] z2.2 by
        obtain ⟨n, hn⟩ := hh
        exact ⟨n + 4, s_M_isFirstSeating (by omega) h3 (And.intro (fun zz => absurd c4 zz) (fun _ => hn))⟩
      obtain ⟨n, hn⟩ := s_M_rooms_13 hd k h hQ
      exact ⟨n + 2, hn⟩
    · rw [if_neg c4] at h
      suffices hh : ∃ n, jx_W jx_ShM d (some .int) jc_252 Q n 27 [some (.ref 0), some (.int x1)] [] z2.2 by
        obtain ⟨n, hn⟩ := hh
        exact ⟨n + 4, s_M_isFirstSeating (by omega) h3 (And.intro (fun _ => hn) (fun zz => absurd zz c4))⟩
      cases h
      exact ⟨2, And.intro hQ (And.intro rfl rfl)⟩
set_option maxRecDepth 20000 in
theorem s_M_rooms {N d : Nat} (hd : 3 ≤ d) {σ : jw_M} {z : (Int32 × jw_M)} {Q : jw_Q} (h : f_M_rooms N  σ = some z) (hQ : Q (some (.int z.1)) (jx_ShM, z.2)) : jw_C jp_kd jp_ys d 252 [.ref 0] (jx_ShM, σ) Q := by
  obtain ⟨d, rfl⟩ : ∃ e, d = e + 1 := ⟨d - 1, by omega⟩
  replace hd : 2 ≤ d := by omega
  refine jx_C rfl rfl ?_
  unfold f_M_rooms at h
  by_cases c1 : (σ.1 3 2) = 0
  · rw [if_pos c1] at h
    suffices hh : ∃ n, jx_W jx_ShM d (some .int) jc_252 Q n 9 [some (.ref 0), none] [] σ by
      obtain ⟨n, hn⟩ := hh
      exact ⟨n + 5, And.intro (jx_in_ok rfl) (And.intro (fun zz => absurd c1 zz) (fun _ => hn))⟩
    cases h
    exact ⟨2, And.intro hQ (And.intro rfl rfl)⟩
  · rw [if_neg c1] at h
    suffices hh : ∃ n, jx_W jx_ShM d (some .int) jc_252 Q n 11 [some (.ref 0), none] [] σ by
      obtain ⟨n, hn⟩ := hh
      exact ⟨n + 5, And.intro (jx_in_ok rfl) (And.intro (fun _ => hn) (fun zz => absurd zz c1))⟩
    obtain ⟨n, hn⟩ := s_M_rooms_13 hd N h hQ
    exact ⟨n + 2, hn⟩
set_option maxRecDepth 20000 in
theorem s_M_seat {N d : Nat} {x1 : Int32} (hd : 4 ≤ d) {σ : jw_M} {z : (Int32 × jw_M)} {Q : jw_Q} (h : f_M_seat N x1 σ = some z) (hQ : Q (some (.int z.1)) (jx_ShM, z.2)) : jw_C jp_kd jp_ys d 253 [.ref 0, .int x1] (jx_ShM, σ) Q := by
  obtain ⟨d, rfl⟩ : ∃ e, d = e + 1 := ⟨d - 1, by omega⟩
  replace hd : 3 ≤ d := by omega
  refine jx_C rfl rfl ?_
  unfold f_M_seat at h
  obtain ⟨z1, h2, h⟩ := Option.bind_eq_some_iff.mp h
  by_cases c3 : z1.1 = 0
  · rw [if_pos c3] at h
    suffices hh : ∃ n, jx_W jx_ShM d (some .int) jc_253 Q n 8 [some (.ref 0), some (.int x1), none] [] z1.2 by
      obtain ⟨n, hn⟩ := hh
      exact ⟨n + 4, s_M_isShadow (by omega) h2 (And.intro (fun zz => absurd c3 zz) (fun _ => hn))⟩
    cases h
    exact ⟨2, And.intro hQ (And.intro rfl rfl)⟩
  · rw [if_neg c3] at h
    suffices hh : ∃ n, jx_W jx_ShM d (some .int) jc_253 Q n 10 [some (.ref 0), some (.int x1), none] [] z1.2 by
      obtain ⟨n, hn⟩ := hh
      exact ⟨n + 4, s_M_isShadow (by omega) h2 (And.intro (fun _ => hn) (fun zz => absurd zz c3))⟩
    obtain ⟨z4, h5, h⟩ := Option.bind_eq_some_iff.mp h
    cases c6 : jx_in x1 6 with
    | false => rw [c6, cond_false] at h; cases h
    | true =>
      rw [c6, cond_true] at h
      cases h
      exact ⟨8, s_M_rooms (by omega) h5 (And.intro (jx_in_ok c6) (And.intro hQ (And.intro rfl rfl)))⟩
set_option maxRecDepth 20000 in
theorem s_M_seatings_36 {N d : Nat} {Q : jw_Q} {K19 : Int32 → Int32 → Int32 → jw_M → Option (Int32 × jw_M)} (hd : 1 ≤ d) (hK19 : ∀ {x1 : Int32} {x2 : Int32} {x3 : Int32} {σ : jw_M} {z : (Int32 × jw_M)}, K19 x1 x2 x3 σ = some z → Q (some (.int z.1)) (jx_ShM, z.2) → ∃ n, jx_W jx_ShM d (some .int) jc_254 Q n 19 [some (.ref 0), some (.int x1), some (.int x2), some (.int x3)] [] σ) {x1 : Int32} {y0 : Int32} {y1 : Int32} {u2 : Option Value} {u3 : Option Value} {σ : jw_M} {z : (Int32 × jw_M)} (h : f_M_seatings_36 N K19 x1 y0 y1 σ = some z) (hQ : Q (some (.int z.1)) (jx_ShM, z.2)) : ∃ n, jx_W jx_ShM d (some .int) jc_254 Q n 36 [some (.ref 0), some (.int x1), u2, u3] [.int y1, .int y0] σ := by
  unfold f_M_seatings_36 at h
  obtain ⟨z10, h11, h⟩ := Option.bind_eq_some_iff.mp h
  obtain ⟨n, hn⟩ := hK19 h hQ
  exact ⟨n + 7, s_M_isNextWay (by omega) h11 (hn)⟩
set_option maxRecDepth 20000 in
theorem s_M_seatings_19 {N d : Nat} {Q : jw_Q} (hd : 1 ≤ d) : ∀ (k : Nat) {x1 : Int32} {x2 : Int32} {x3 : Int32} {σ : jw_M} {z : (Int32 × jw_M)}, f_M_seatings_19 N k x1 x2 x3 σ = some z → Q (some (.int z.1)) (jx_ShM, z.2) → ∃ n, jx_W jx_ShM d (some .int) jc_254 Q n 19 [some (.ref 0), some (.int x1), some (.int x2), some (.int x3)] [] σ
  | 0, _, _, _, _, _, h, _ => by cases h
  | k + 1, x1, x2, x3, σ, z, h, hQ => by
    rw [f_M_seatings_19] at h
    by_cases c6 : x3 = 0
    · rw [if_pos c6] at h
      suffices hh : ∃ n, jx_W jx_ShM d (some .int) jc_254 Q n 47 [some (.ref 0), some (.int x1), some (.int x2), some (.int x3)] [] σ by
        obtain ⟨n, hn⟩ := hh
        exact ⟨n + 2, And.intro (fun _ => hn) (fun zz => absurd c6 zz)⟩
      cases h
      exact ⟨2, And.intro hQ (And.intro rfl rfl)⟩
    · rw [if_neg c6] at h
      suffices hh : ∃ n, jx_W jx_ShM d (some .int) jc_254 Q n 23 [some (.ref 0), some (.int x1), some (.int x2), some (.int x3)] [] σ by
        obtain ⟨n, hn⟩ := hh
        exact ⟨n + 2, And.intro (fun zz => absurd zz c6) (fun _ => hn)⟩
      obtain ⟨z7, h8, h⟩ := Option.bind_eq_some_iff.mp h
      by_cases c9 : z7.1 = 0
      · rw [if_pos c9] at h
        suffices hh : ∃ n, jx_W jx_ShM d (some .int) jc_254 Q n 35 [some (.ref 0), some (.int x1), some (.int x2), some (.int x3)] [.int x2] z7.2 by
          obtain ⟨n, hn⟩ := hh
          exact ⟨n + 4, s_M_isSeating (by omega) h8 (And.intro (fun _ => hn) (fun zz => absurd c9 zz))⟩
        obtain ⟨n, hn⟩ := s_M_seatings_36 hd (s_M_seatings_19 hd k) (u2 := some (.int x2)) (u3 := some (.int x3)) h hQ
        exact ⟨n + 1, hn⟩
      · rw [if_neg c9] at h
        suffices hh : ∃ n, jx_W jx_ShM d (some .int) jc_254 Q n 31 [some (.ref 0), some (.int x1), some (.int x2), some (.int x3)] [.int x2] z7.2 by
          obtain ⟨n, hn⟩ := hh
          exact ⟨n + 4, s_M_isSeating (by omega) h8 (And.intro (fun zz => absurd zz c9) (fun _ => hn))⟩
        obtain ⟨n, hn⟩ := s_M_seatings_36 hd (s_M_seatings_19 hd k) (u2 := some (.int x2)) (u3 := some (.int x3)) h hQ
        exact ⟨n + 2, hn⟩
set_option maxRecDepth 20000 in
theorem s_M_seatings {N d : Nat} {x1 : Int32} (hd : 2 ≤ d) {σ : jw_M} {z : (Int32 × jw_M)} {Q : jw_Q} (h : f_M_seatings N x1 σ = some z) (hQ : Q (some (.int z.1)) (jx_ShM, z.2)) : jw_C jp_kd jp_ys d 254 [.ref 0, .int x1] (jx_ShM, σ) Q := by
  obtain ⟨d, rfl⟩ : ∃ e, d = e + 1 := ⟨d - 1, by omega⟩
  replace hd : 1 ≤ d := by omega
  refine jx_C rfl rfl ?_
  unfold f_M_seatings at h
  obtain ⟨z1, h2, h⟩ := Option.bind_eq_some_iff.mp h
  by_cases c3 : z1.1 = 0
  · rw [if_pos c3] at h
    suffices hh : ∃ n, jx_W jx_ShM d (some .int) jc_254 Q n 9 [some (.ref 0), some (.int x1), none, none] [] z1.2 by
      obtain ⟨n, hn⟩ := hh
      exact ⟨n + 5, s_M_in (by omega) h2 (And.intro (fun zz => absurd c3 zz) (fun _ => hn))⟩
    cases h
    exact ⟨2, And.intro hQ (And.intro rfl rfl)⟩
  · rw [if_neg c3] at h
    suffices hh : ∃ n, jx_W jx_ShM d (some .int) jc_254 Q n 11 [some (.ref 0), some (.int x1), none, none] [] z1.2 by
      obtain ⟨n, hn⟩ := hh
      exact ⟨n + 5, s_M_in (by omega) h2 (And.intro (fun _ => hn) (fun zz => absurd zz c3))⟩
    obtain ⟨z4, h5, h⟩ := Option.bind_eq_some_iff.mp h
    obtain ⟨n, hn⟩ := s_M_seatings_19 hd N h hQ
    exact ⟨n + 6, s_M_allInFirst (by omega) h5 (hn)⟩
set_option maxRecDepth 20000 in
theorem s_M_isSheet {N d : Nat} {x0 : Int32} (hd : 2 ≤ d) {σ : jw_M} {z : (Int32 × jw_M)} {Q : jw_Q} (h : f_M_isSheet N x0 σ = some z) (hQ : Q (some (.int z.1)) (jx_ShM, z.2)) : jw_C jp_kd jp_ys d 288 [.int x0] (jx_ShM, σ) Q := by
  obtain ⟨d, rfl⟩ : ∃ e, d = e + 1 := ⟨d - 1, by omega⟩
  replace hd : 1 ≤ d := by omega
  refine jx_C rfl rfl ?_
  unfold f_M_isSheet at h
  obtain ⟨z1, h2, h⟩ := Option.bind_eq_some_iff.mp h
  by_cases c3 : z1.1 = 0 ∨ z1.1 = 1
  · rw [if_pos c3] at h
    cases h
    exact ⟨5, s_M_in (by omega) h2 (And.intro c3 (And.intro hQ (And.intro rfl rfl)))⟩
  · rw [if_neg c3] at h
    cases h
set_option maxRecDepth 20000 in
theorem s_M_lacksSort {N d : Nat} {x1 : Int32} {x2 : Int32} (hd : 1 ≤ d) {σ : jw_M} {z : (Int32 × jw_M)} {Q : jw_Q} (h : f_M_lacksSort N x1 x2 σ = some z) (hQ : Q (some (.int z.1)) (jx_ShM, z.2)) : jw_C jp_kd jp_ys d 289 [.ref 0, .int x1, .int x2] (jx_ShM, σ) Q := by
  obtain ⟨d, rfl⟩ : ∃ e, d = e + 1 := ⟨d - 1, by omega⟩
  replace hd : 0 ≤ d := by omega
  refine jx_C rfl rfl ?_
  unfold f_M_lacksSort at h
  cases c1 : jx_in x1 4 with
  | false => rw [c1, cond_false] at h; cases h
  | true =>
    rw [c1, cond_true] at h
    by_cases c2 : 0 ≤ (σ.1 14 (x1).toNatClampNeg)
    · rw [if_pos c2] at h
      suffices hh : ∃ n, jx_W jx_ShM d (some .int) jc_289 Q n 14 [some (.ref 0), some (.int x1), some (.int x2)] [] σ by
        obtain ⟨n, hn⟩ := hh
        exact ⟨n + 5, And.intro (jx_in_ok c1) (And.intro (fun _ => hn) (fun zz => absurd c2 zz))⟩
      by_cases c3 : (σ.1 14 (x1).toNatClampNeg) = x2
      · rw [if_pos c3] at h
        suffices hh : ∃ n, jx_W jx_ShM d (some .int) jc_289 Q n 29 [some (.ref 0), some (.int x1), some (.int x2)] [] σ by
          obtain ⟨n, hn⟩ := hh
          exact ⟨n + 6, And.intro (jx_in_ok c1) (And.intro (fun _ => hn) (fun zz => absurd c3 zz))⟩
        cases h
        exact ⟨2, And.intro hQ (And.intro rfl rfl)⟩
      · rw [if_neg c3] at h
        suffices hh : ∃ n, jx_W jx_ShM d (some .int) jc_289 Q n 24 [some (.ref 0), some (.int x1), some (.int x2)] [] σ by
          obtain ⟨n, hn⟩ := hh
          exact ⟨n + 6, And.intro (jx_in_ok c1) (And.intro (fun zz => absurd zz c3) (fun _ => hn))⟩
        cases h
        exact ⟨3, And.intro hQ (And.intro rfl rfl)⟩
    · rw [if_neg c2] at h
      suffices hh : ∃ n, jx_W jx_ShM d (some .int) jc_289 Q n 9 [some (.ref 0), some (.int x1), some (.int x2)] [] σ by
        obtain ⟨n, hn⟩ := hh
        exact ⟨n + 5, And.intro (jx_in_ok c1) (And.intro (fun zz => absurd zz c2) (fun _ => hn))⟩
      cases h
      exact ⟨3, And.intro hQ (And.intro rfl rfl)⟩
set_option maxRecDepth 20000 in
theorem s_M_match_227 {N d : Nat} {Q : jw_Q} {K103 : Int32 → Int32 → Int32 → Int32 → Int32 → jw_M → Option (Int32 × jw_M)} {K135 : Int32 → Int32 → Int32 → Int32 → Int32 → Int32 → Int32 → jw_M → Option (Int32 × jw_M)} (hd : 2 ≤ d) (hK103 : ∀ {x1 : Int32} {x2 : Int32} {x3 : Int32} {x5 : Int32} {x6 : Int32} {σ : jw_M} {z : (Int32 × jw_M)} {u4 : Option Value} {u7 : Option Value} {u8 : Option Value} {u9 : Option Value}, K103 x1 x2 x3 x5 x6 σ = some z → Q (some (.int z.1)) (jx_ShM, z.2) → ∃ n, jx_W jx_ShM d (some .int) jc_255 Q n 103 [some (.ref 0), some (.int x1), some (.int x2), some (.int x3), u4, some (.int x5), some (.int x6), u7, u8, u9] [] σ) (hK135 : ∀ {x1 : Int32} {x2 : Int32} {x3 : Int32} {x5 : Int32} {x6 : Int32} {x7 : Int32} {x8 : Int32} {σ : jw_M} {z : (Int32 × jw_M)} {u4 : Option Value} {u9 : Option Value}, K135 x1 x2 x3 x5 x6 x7 x8 σ = some z → Q (some (.int z.1)) (jx_ShM, z.2) → ∃ n, jx_W jx_ShM d (some .int) jc_255 Q n 135 [some (.ref 0), some (.int x1), some (.int x2), some (.int x3), u4, some (.int x5), some (.int x6), some (.int x7), some (.int x8), u9] [] σ) {x1 : Int32} {x2 : Int32} {x3 : Int32} {x5 : Int32} {x6 : Int32} {x7 : Int32} {x8 : Int32} {y1 : Int32} {y2 : Int32} {y3 : Int32} {u4 : Option Value} {u9 : Option Value} {σ : jw_M} {z : (Int32 × jw_M)} (h : f_M_match_227 N K103 K135 x1 x2 x3 x5 x6 x7 x8 y1 y2 y3 σ = some z) (hQ : Q (some (.int z.1)) (jx_ShM, z.2)) : ∃ n, jx_W jx_ShM d (some .int) jc_255 Q n 227 [some (.ref 0), some (.int x1), some (.int x2), some (.int x3), u4, some (.int x5), some (.int x6), some (.int x7), some (.int x8), u9] [.int y3, .int y2, .int y1, .ref 12] σ := by
  unfold f_M_match_227 at h
  cases c32 : jx_in y1 64 with
  | false => rw [c32, cond_false] at h; cases h
  | true =>
    rw [c32, cond_true] at h
    obtain ⟨n, hn⟩ := hK135 (u4 := u4) (u9 := u9) h hQ
    exact ⟨n + 4, And.intro (jx_in_ok c32) (hn)⟩
set_option maxRecDepth 20000 in
theorem s_M_match_194 {N d : Nat} {Q : jw_Q} {K103 : Int32 → Int32 → Int32 → Int32 → Int32 → jw_M → Option (Int32 × jw_M)} {K135 : Int32 → Int32 → Int32 → Int32 → Int32 → Int32 → Int32 → jw_M → Option (Int32 × jw_M)} (hd : 2 ≤ d) (hK103 : ∀ {x1 : Int32} {x2 : Int32} {x3 : Int32} {x5 : Int32} {x6 : Int32} {σ : jw_M} {z : (Int32 × jw_M)} {u4 : Option Value} {u7 : Option Value} {u8 : Option Value} {u9 : Option Value}, K103 x1 x2 x3 x5 x6 σ = some z → Q (some (.int z.1)) (jx_ShM, z.2) → ∃ n, jx_W jx_ShM d (some .int) jc_255 Q n 103 [some (.ref 0), some (.int x1), some (.int x2), some (.int x3), u4, some (.int x5), some (.int x6), u7, u8, u9] [] σ) (hK135 : ∀ {x1 : Int32} {x2 : Int32} {x3 : Int32} {x5 : Int32} {x6 : Int32} {x7 : Int32} {x8 : Int32} {σ : jw_M} {z : (Int32 × jw_M)} {u4 : Option Value} {u9 : Option Value}, K135 x1 x2 x3 x5 x6 x7 x8 σ = some z → Q (some (.int z.1)) (jx_ShM, z.2) → ∃ n, jx_W jx_ShM d (some .int) jc_255 Q n 135 [some (.ref 0), some (.int x1), some (.int x2), some (.int x3), u4, some (.int x5), some (.int x6), some (.int x7), some (.int x8), u9] [] σ) {x1 : Int32} {x2 : Int32} {x3 : Int32} {x5 : Int32} {x6 : Int32} {x7 : Int32} {x8 : Int32} {y0 : Int32} {u4 : Option Value} {u9 : Option Value} {σ : jw_M} {z : (Int32 × jw_M)} (h : f_M_match_194 N K103 K135 x1 x2 x3 x5 x6 x7 x8 y0 σ = some z) (hQ : Q (some (.int z.1)) (jx_ShM, z.2)) : ∃ n, jx_W jx_ShM d (some .int) jc_255 Q n 194 [some (.ref 0), some (.int x1), some (.int x2), some (.int x3), u4, some (.int x5), some (.int x6), some (.int x7), some (.int x8), u9] [.int y0] σ := by
  unfold f_M_match_194 at h
  cases c30 : jx_in x6 64 with
  | false => rw [c30, cond_false] at h; cases h
  | true =>
    rw [c30, cond_true] at h
    by_cases c31 : y0 = 0
    · rw [if_pos c31] at h
      suffices hh : ∃ n, jx_W jx_ShM d (some .int) jc_255 Q n 226 [some (.ref 0), some (.int x1), some (.int x2), some (.int x3), u4, some (.int x5), some (.int x6), some (.int x7), some (.int x8), some (.int y0)] [.int (σ.1 12 (x6).toNatClampNeg), .int x6, .ref 12] σ by
        obtain ⟨n, hn⟩ := hh
        exact ⟨n + 8, And.intro (jx_in_ok c30) (And.intro (fun _ => hn) (fun zz => absurd c31 zz))⟩
      obtain ⟨n, hn⟩ := s_M_match_227 hd hK103 hK135 (u4 := u4) (u9 := some (.int y0)) h hQ
      exact ⟨n + 1, hn⟩
    · rw [if_neg c31] at h
      suffices hh : ∃ n, jx_W jx_ShM d (some .int) jc_255 Q n 209 [some (.ref 0), some (.int x1), some (.int x2), some (.int x3), u4, some (.int x5), some (.int x6), some (.int x7), some (.int x8), some (.int y0)] [.int (σ.1 12 (x6).toNatClampNeg), .int x6, .ref 12] σ by
        obtain ⟨n, hn⟩ := hh
        exact ⟨n + 8, And.intro (jx_in_ok c30) (And.intro (fun zz => absurd zz c31) (fun _ => hn))⟩
      cases c33 : jx_in (x6 &&& (((1 : Int32) <<< (x8 &&& 31)) ^^^ (-1))) 64 with
      | false => rw [c33, cond_false] at h; cases h
      | true =>
        rw [c33, cond_true] at h
        obtain ⟨n, hn⟩ := s_M_match_227 hd hK103 hK135 (u4 := u4) (u9 := some (.int y0)) h hQ
        exact ⟨n + 11, And.intro (jx_in_ok c33) (hn)⟩
set_option maxRecDepth 20000 in
theorem s_M_match_193 {N d : Nat} {Q : jw_Q} {K103 : Int32 → Int32 → Int32 → Int32 → Int32 → jw_M → Option (Int32 × jw_M)} {K135 : Int32 → Int32 → Int32 → Int32 → Int32 → Int32 → Int32 → jw_M → Option (Int32 × jw_M)} (hd : 2 ≤ d) (hK103 : ∀ {x1 : Int32} {x2 : Int32} {x3 : Int32} {x5 : Int32} {x6 : Int32} {σ : jw_M} {z : (Int32 × jw_M)} {u4 : Option Value} {u7 : Option Value} {u8 : Option Value} {u9 : Option Value}, K103 x1 x2 x3 x5 x6 σ = some z → Q (some (.int z.1)) (jx_ShM, z.2) → ∃ n, jx_W jx_ShM d (some .int) jc_255 Q n 103 [some (.ref 0), some (.int x1), some (.int x2), some (.int x3), u4, some (.int x5), some (.int x6), u7, u8, u9] [] σ) (hK135 : ∀ {x1 : Int32} {x2 : Int32} {x3 : Int32} {x5 : Int32} {x6 : Int32} {x7 : Int32} {x8 : Int32} {σ : jw_M} {z : (Int32 × jw_M)} {u4 : Option Value} {u9 : Option Value}, K135 x1 x2 x3 x5 x6 x7 x8 σ = some z → Q (some (.int z.1)) (jx_ShM, z.2) → ∃ n, jx_W jx_ShM d (some .int) jc_255 Q n 135 [some (.ref 0), some (.int x1), some (.int x2), some (.int x3), u4, some (.int x5), some (.int x6), some (.int x7), some (.int x8), u9] [] σ) {x1 : Int32} {x2 : Int32} {x3 : Int32} {x5 : Int32} {x6 : Int32} {x7 : Int32} {x8 : Int32} {u4 : Option Value} {u9 : Option Value} {σ : jw_M} {z : (Int32 × jw_M)} (h : f_M_match_193 N K103 K135 x1 x2 x3 x5 x6 x7 x8 σ = some z) (hQ : Q (some (.int z.1)) (jx_ShM, z.2)) : ∃ n, jx_W jx_ShM d (some .int) jc_255 Q n 193 [some (.ref 0), some (.int x1), some (.int x2), some (.int x3), u4, some (.int x5), some (.int x6), some (.int x7), some (.int x8), u9] [] σ := by
  unfold f_M_match_193 at h
  obtain ⟨n, hn⟩ := s_M_match_194 hd hK103 hK135 (u4 := u4) (u9 := u9) h hQ
  exact ⟨n + 1, hn⟩
set_option maxRecDepth 20000 in
theorem s_M_match_135 {N d : Nat} {Q : jw_Q} {K103 : Int32 → Int32 → Int32 → Int32 → Int32 → jw_M → Option (Int32 × jw_M)} (hd : 2 ≤ d) (hK103 : ∀ {x1 : Int32} {x2 : Int32} {x3 : Int32} {x5 : Int32} {x6 : Int32} {σ : jw_M} {z : (Int32 × jw_M)} {u4 : Option Value} {u7 : Option Value} {u8 : Option Value} {u9 : Option Value}, K103 x1 x2 x3 x5 x6 σ = some z → Q (some (.int z.1)) (jx_ShM, z.2) → ∃ n, jx_W jx_ShM d (some .int) jc_255 Q n 103 [some (.ref 0), some (.int x1), some (.int x2), some (.int x3), u4, some (.int x5), some (.int x6), u7, u8, u9] [] σ) : ∀ (k : Nat) {x1 : Int32} {x2 : Int32} {x3 : Int32} {x5 : Int32} {x6 : Int32} {x7 : Int32} {x8 : Int32} {u4 : Option Value} {u9 : Option Value} {σ : jw_M} {z : (Int32 × jw_M)}, f_M_match_135 N K103 k x1 x2 x3 x5 x6 x7 x8 σ = some z → Q (some (.int z.1)) (jx_ShM, z.2) → ∃ n, jx_W jx_ShM d (some .int) jc_255 Q n 135 [some (.ref 0), some (.int x1), some (.int x2), some (.int x3), u4, some (.int x5), some (.int x6), some (.int x7), some (.int x8), u9] [] σ
  | 0, _, _, _, _, _, _, _, _, _, _, _, h, _ => by cases h
  | k + 1, x1, x2, x3, x5, x6, x7, x8, u4, u9, σ, z, h, hQ => by
    rw [f_M_match_135] at h
    by_cases c19 : (σ.1 3 2) ≤ x8
    · rw [if_pos c19] at h
      suffices hh : ∃ n, jx_W jx_ShM d (some .int) jc_255 Q n 235 [some (.ref 0), some (.int x1), some (.int x2), some (.int x3), u4, some (.int x5), some (.int x6), some (.int x7), some (.int x8), u9] [] σ by
        obtain ⟨n, hn⟩ := hh
        exact ⟨n + 6, And.intro (jx_in_ok rfl) (And.intro (fun _ => hn) (fun zz => absurd c19 zz))⟩
      obtain ⟨n, hn⟩ := hK103 (u4 := u4) (u7 := some (.int x7)) (u8 := some (.int x8)) (u9 := u9) h hQ
      exact ⟨n + 2, hn⟩
    · rw [if_neg c19] at h
      suffices hh : ∃ n, jx_W jx_ShM d (some .int) jc_255 Q n 146 [some (.ref 0), some (.int x1), some (.int x2), some (.int x3), u4, some (.int x5), some (.int x6), some (.int x7), some (.int x8), u9] [] σ by
        obtain ⟨n, hn⟩ := hh
        exact ⟨n + 6, And.intro (jx_in_ok rfl) (And.intro (fun zz => absurd zz c19) (fun _ => hn))⟩
      by_cases c20 : ((x6 >>> (x8 &&& 31)) &&& 1) = 1
      · rw [if_pos c20] at h
        suffices hh : ∃ n, jx_W jx_ShM d (some .int) jc_255 Q n 157 [some (.ref 0), some (.int x1), some (.int x2), some (.int x3), u4, some (.int x5), some (.int x6), some (.int x7), some (.int x8), u9] [] σ by
          obtain ⟨n, hn⟩ := hh
          exact ⟨n + 7, And.intro (fun zz => absurd c20 zz) (fun _ => hn)⟩
        obtain ⟨z21, h22, h⟩ := Option.bind_eq_some_iff.mp h
        obtain ⟨z23, h24, h⟩ := Option.bind_eq_some_iff.mp h
        obtain ⟨z25, h26, h⟩ := Option.bind_eq_some_iff.mp h
        obtain ⟨z27, h28, h⟩ := Option.bind_eq_some_iff.mp h
        by_cases c29 : x3 < z27.1
        · rw [if_pos c29] at h
          suffices hh : ∃ n, jx_W jx_ShM d (some .int) jc_255 Q n 193 [some (.ref 0), some (.int x1), some (.int x2), some (.int x3), u4, some (.int x5), some (.int x6), some (.int x7), some (.int x8), u9] [] z27.2 by
            obtain ⟨n, hn⟩ := hh
            exact ⟨n + 17, s_M_of (by omega) h22 (s_M_of (by omega) h24 (And.intro (jx_in_ok rfl) (s_M_lengthBy (by omega) h26 (s_M_far (by omega) h28 (And.intro (fun _ => hn) (fun zz => absurd c29 zz))))))⟩
          obtain ⟨n, hn⟩ := s_M_match_193 hd hK103 (s_M_match_135 hd hK103 k) (u4 := u4) (u9 := u9) h hQ
          exact ⟨n + 0, hn⟩
        · rw [if_neg c29] at h
          suffices hh : ∃ n, jx_W jx_ShM d (some .int) jc_255 Q n 189 [some (.ref 0), some (.int x1), some (.int x2), some (.int x3), u4, some (.int x5), some (.int x6), some (.int x7), some (.int x8), u9] [] z27.2 by
            obtain ⟨n, hn⟩ := hh
            exact ⟨n + 17, s_M_of (by omega) h22 (s_M_of (by omega) h24 (And.intro (jx_in_ok rfl) (s_M_lengthBy (by omega) h26 (s_M_far (by omega) h28 (And.intro (fun zz => absurd zz c29) (fun _ => hn))))))⟩
          obtain ⟨n, hn⟩ := s_M_match_194 hd hK103 (s_M_match_135 hd hK103 k) (u4 := u4) (u9 := u9) h hQ
          exact ⟨n + 2, hn⟩
      · rw [if_neg c20] at h
        suffices hh : ∃ n, jx_W jx_ShM d (some .int) jc_255 Q n 193 [some (.ref 0), some (.int x1), some (.int x2), some (.int x3), u4, some (.int x5), some (.int x6), some (.int x7), some (.int x8), u9] [] σ by
          obtain ⟨n, hn⟩ := hh
          exact ⟨n + 7, And.intro (fun _ => hn) (fun zz => absurd zz c20)⟩
        obtain ⟨n, hn⟩ := s_M_match_193 hd hK103 (s_M_match_135 hd hK103 k) (u4 := u4) (u9 := u9) h hQ
        exact ⟨n + 0, hn⟩
set_option maxRecDepth 20000 in
theorem s_M_match_103 {N d : Nat} {Q : jw_Q} (hd : 2 ≤ d) : ∀ (k : Nat) {x1 : Int32} {x2 : Int32} {x3 : Int32} {x5 : Int32} {x6 : Int32} {u4 : Option Value} {u7 : Option Value} {u8 : Option Value} {u9 : Option Value} {σ : jw_M} {z : (Int32 × jw_M)}, f_M_match_103 N k x1 x2 x3 x5 x6 σ = some z → Q (some (.int z.1)) (jx_ShM, z.2) → ∃ n, jx_W jx_ShM d (some .int) jc_255 Q n 103 [some (.ref 0), some (.int x1), some (.int x2), some (.int x3), u4, some (.int x5), some (.int x6), u7, u8, u9] [] σ
  | 0, _, _, _, _, _, _, _, _, _, _, _, h, _ => by cases h
  | k + 1, x1, x2, x3, x5, x6, u4, u7, u8, u9, σ, z, h, hQ => by
    rw [f_M_match_103] at h
    by_cases c14 : x5 ≤ x6
    · rw [if_pos c14] at h
      suffices hh : ∃ n, jx_W jx_ShM d (some .int) jc_255 Q n 241 [some (.ref 0), some (.int x1), some (.int x2), some (.int x3), u4, some (.int x5), some (.int x6), u7, u8, u9] [] σ by
        obtain ⟨n, hn⟩ := hh
        exact ⟨n + 3, And.intro (fun _ => hn) (fun zz => absurd c14 zz)⟩
      cases c15 : jx_in (x5 - 1) 64 with
      | false => rw [c15, cond_false] at h; cases h
      | true =>
        rw [c15, cond_true] at h
        cases h
        exact ⟨7, And.intro (jx_in_ok c15) (And.intro hQ (And.intro rfl rfl))⟩
    · rw [if_neg c14] at h
      suffices hh : ∃ n, jx_W jx_ShM d (some .int) jc_255 Q n 110 [some (.ref 0), some (.int x1), some (.int x2), some (.int x3), u4, some (.int x5), some (.int x6), u7, u8, u9] [] σ by
        obtain ⟨n, hn⟩ := hh
        exact ⟨n + 3, And.intro (fun zz => absurd zz c14) (fun _ => hn)⟩
      obtain ⟨z16, h17, h⟩ := Option.bind_eq_some_iff.mp h
      cases c18 : jx_in ((((40 * x1) + x2) + z16.1) - 1) 160 with
      | false => rw [c18, cond_false] at h; cases h
      | true =>
        rw [c18, cond_true] at h
        obtain ⟨n, hn⟩ := s_M_match_135 hd (s_M_match_103 hd k) N (u4 := u4) (u9 := u9) h hQ
        exact ⟨n + 17, s_M_ones (by omega) h17 (And.intro (jx_in_ok c18) (hn))⟩
set_option maxRecDepth 20000 in
theorem s_M_match_72 {N d : Nat} {Q : jw_Q} (hd : 2 ≤ d) : ∀ (k : Nat) {x1 : Int32} {x2 : Int32} {x3 : Int32} {x5 : Int32} {x6 : Int32} {u4 : Option Value} {u7 : Option Value} {u8 : Option Value} {u9 : Option Value} {σ : jw_M} {z : (Int32 × jw_M)}, f_M_match_72 N k x1 x2 x3 x5 x6 σ = some z → Q (some (.int z.1)) (jx_ShM, z.2) → ∃ n, jx_W jx_ShM d (some .int) jc_255 Q n 72 [some (.ref 0), some (.int x1), some (.int x2), some (.int x3), u4, some (.int x5), some (.int x6), u7, u8, u9] [] σ
  | 0, _, _, _, _, _, _, _, _, _, _, _, h, _ => by cases h
  | k + 1, x1, x2, x3, x5, x6, u4, u7, u8, u9, σ, z, h, hQ => by
    rw [f_M_match_72] at h
    by_cases c13 : x5 ≤ x6
    · rw [if_pos c13] at h
      suffices hh : ∃ n, jx_W jx_ShM d (some .int) jc_255 Q n 93 [some (.ref 0), some (.int x1), some (.int x2), some (.int x3), u4, some (.int x5), some (.int x6), u7, u8, u9] [] σ by
        obtain ⟨n, hn⟩ := hh
        exact ⟨n + 3, And.intro (fun _ => hn) (fun zz => absurd c13 zz)⟩
      obtain ⟨n, hn⟩ := s_M_match_103 hd N (u4 := u4) (u7 := u7) (u8 := u8) (u9 := u9) h hQ
      exact ⟨n + 7, And.intro (jx_in_ok rfl) (hn)⟩
    · rw [if_neg c13] at h
      suffices hh : ∃ n, jx_W jx_ShM d (some .int) jc_255 Q n 79 [some (.ref 0), some (.int x1), some (.int x2), some (.int x3), u4, some (.int x5), some (.int x6), u7, u8, u9] [] σ by
        obtain ⟨n, hn⟩ := hh
        exact ⟨n + 3, And.intro (fun zz => absurd zz c13) (fun _ => hn)⟩
      cases c34 : jx_in x6 64 with
      | false => rw [c34, cond_false] at h; cases h
      | true =>
        rw [c34, cond_true] at h
        obtain ⟨n, hn⟩ := s_M_match_72 hd k (u4 := u4) (u7 := u7) (u8 := u8) (u9 := u9) h hQ
        exact ⟨n + 7, And.intro (jx_in_ok c34) (hn)⟩
set_option maxRecDepth 20000 in
theorem s_M_match {N d : Nat} {x1 : Int32} {x2 : Int32} {x3 : Int32} (hd : 3 ≤ d) {σ : jw_M} {z : (Int32 × jw_M)} {Q : jw_Q} (h : f_M_match N x1 x2 x3 σ = some z) (hQ : Q (some (.int z.1)) (jx_ShM, z.2)) : jw_C jp_kd jp_ys d 255 [.ref 0, .int x1, .int x2, .int x3] (jx_ShM, σ) Q := by
  obtain ⟨d, rfl⟩ : ∃ e, d = e + 1 := ⟨d - 1, by omega⟩
  replace hd : 2 ≤ d := by omega
  refine jx_C rfl rfl ?_
  unfold f_M_match at h
  obtain ⟨z1, h2, h⟩ := Option.bind_eq_some_iff.mp h
  by_cases c3 : z1.1 = 0
  · rw [if_pos c3] at h
    suffices hh : ∃ n, jx_W jx_ShM d (some .int) jc_255 Q n 17 [some (.ref 0), some (.int x1), some (.int x2), some (.int x3), none, none, none, none, none, none] [] z1.2 by
      obtain ⟨n, hn⟩ := hh
      exact ⟨n + 3, s_M_isSheet (by omega) h2 (And.intro (fun _ => hn) (fun zz => absurd c3 zz))⟩
    cases h
    exact ⟨2, And.intro hQ (And.intro rfl rfl)⟩
  · rw [if_neg c3] at h
    suffices hh : ∃ n, jx_W jx_ShM d (some .int) jc_255 Q n 7 [some (.ref 0), some (.int x1), some (.int x2), some (.int x3), none, none, none, none, none, none] [] z1.2 by
      obtain ⟨n, hn⟩ := hh
      exact ⟨n + 3, s_M_isSheet (by omega) h2 (And.intro (fun zz => absurd zz c3) (fun _ => hn))⟩
    obtain ⟨z4, h5, h⟩ := Option.bind_eq_some_iff.mp h
    by_cases c6 : z4.1 = 0
    · rw [if_pos c6] at h
      suffices hh : ∃ n, jx_W jx_ShM d (some .int) jc_255 Q n 17 [some (.ref 0), some (.int x1), some (.int x2), some (.int x3), none, none, none, none, none, none] [] z4.2 by
        obtain ⟨n, hn⟩ := hh
        exact ⟨n + 5, s_M_in (by omega) h5 (And.intro (fun zz => absurd c6 zz) (fun _ => hn))⟩
      cases h
      exact ⟨2, And.intro hQ (And.intro rfl rfl)⟩
    · rw [if_neg c6] at h
      suffices hh : ∃ n, jx_W jx_ShM d (some .int) jc_255 Q n 19 [some (.ref 0), some (.int x1), some (.int x2), some (.int x3), none, none, none, none, none, none] [] z4.2 by
        obtain ⟨n, hn⟩ := hh
        exact ⟨n + 5, s_M_in (by omega) h5 (And.intro (fun _ => hn) (fun zz => absurd zz c6))⟩
      obtain ⟨z7, h8, h⟩ := Option.bind_eq_some_iff.mp h
      by_cases c9 : z7.1 = 0
      · rw [if_pos c9] at h
        suffices hh : ∃ n, jx_W jx_ShM d (some .int) jc_255 Q n 35 [some (.ref 0), some (.int x1), some (.int x2), some (.int x3), some (.int z7.1), none, none, none, none, none] [] z7.2 by
          obtain ⟨n, hn⟩ := hh
          exact ⟨n + 7, s_M_lacksSort (by omega) h8 (And.intro (fun _ => hn) (fun zz => absurd c9 zz))⟩
        by_cases c10 : x2 < 0
        · rw [if_pos c10] at h
          suffices hh : ∃ n, jx_W jx_ShM d (some .int) jc_255 Q n 56 [some (.ref 0), some (.int x1), some (.int x2), some (.int x3), some (.int z7.1), none, none, none, none, none] [] z7.2 by
            obtain ⟨n, hn⟩ := hh
            exact ⟨n + 2, And.intro (fun _ => hn) (fun zz => absurd c10 zz)⟩
          cases h
          exact ⟨2, And.intro hQ (And.intro rfl rfl)⟩
        · rw [if_neg c10] at h
          suffices hh : ∃ n, jx_W jx_ShM d (some .int) jc_255 Q n 39 [some (.ref 0), some (.int x1), some (.int x2), some (.int x3), some (.int z7.1), none, none, none, none, none] [] z7.2 by
            obtain ⟨n, hn⟩ := hh
            exact ⟨n + 2, And.intro (fun zz => absurd zz c10) (fun _ => hn)⟩
          cases c11 : jx_in x1 4 with
          | false => rw [c11, cond_false] at h; cases h
          | true =>
            rw [c11, cond_true] at h
            by_cases c12 : x2 ≤ ((z7.2.1 15 (x1).toNatClampNeg) - (z7.2.1 3 2))
            · rw [if_pos c12] at h
              suffices hh : ∃ n, jx_W jx_ShM d (some .int) jc_255 Q n 59 [some (.ref 0), some (.int x1), some (.int x2), some (.int x3), some (.int z7.1), none, none, none, none, none] [] z7.2 by
                obtain ⟨n, hn⟩ := hh
                exact ⟨n + 11, And.intro (jx_in_ok c11) (And.intro (jx_in_ok rfl) (And.intro (fun _ => hn) (fun zz => absurd c12 zz)))⟩
              obtain ⟨n, hn⟩ := s_M_match_72 hd N (u4 := some (.int z7.1)) (u7 := none) (u8 := none) (u9 := none) h hQ
              exact ⟨n + 9, And.intro (jx_in_ok rfl) (hn)⟩
            · rw [if_neg c12] at h
              suffices hh : ∃ n, jx_W jx_ShM d (some .int) jc_255 Q n 56 [some (.ref 0), some (.int x1), some (.int x2), some (.int x3), some (.int z7.1), none, none, none, none, none] [] z7.2 by
                obtain ⟨n, hn⟩ := hh
                exact ⟨n + 11, And.intro (jx_in_ok c11) (And.intro (jx_in_ok rfl) (And.intro (fun zz => absurd zz c12) (fun _ => hn)))⟩
              cases h
              exact ⟨2, And.intro hQ (And.intro rfl rfl)⟩
      · rw [if_neg c9] at h
        suffices hh : ∃ n, jx_W jx_ShM d (some .int) jc_255 Q n 32 [some (.ref 0), some (.int x1), some (.int x2), some (.int x3), some (.int z7.1), none, none, none, none, none] [] z7.2 by
          obtain ⟨n, hn⟩ := hh
          exact ⟨n + 7, s_M_lacksSort (by omega) h8 (And.intro (fun zz => absurd zz c9) (fun _ => hn))⟩
        cases h
        exact ⟨2, And.intro hQ (And.intro rfl rfl)⟩
