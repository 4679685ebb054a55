set_option maxRecDepth 20000 in
theorem s_F_seed {N d : Nat} {x1 : Int32} (hd : 1 ≤ d) {σ : jw_M} {z : (Int32 × jw_M)} {Q : jw_Q} (h : f_F_seed N x1 σ = some z) (hQ : Q (some (.int z.1)) (jx_ShC, z.2)) : jw_C jp_kd jp_ys d 155 [.ref 0, .int x1] (jx_ShC, σ) Q := by
  obtain ⟨d, rfl⟩ : ∃ e, d = e + 1 := ⟨d - 1, by omega⟩
  replace hd : 0 ≤ d := by omega
  refine jx_C rfl rfl ?_
  unfold f_F_seed at h
  cases h
  exact ⟨10, And.intro hQ (And.intro rfl rfl)⟩
set_option maxRecDepth 20000 in
theorem s_F_lot {N d : Nat} (hd : 7 ≤ d) {σ : jw_M} {z : (Int32 × jw_M)} {Q : jw_Q} (h : f_F_lot N  σ = some z) (hQ : Q (some (.int z.1)) (jx_ShC, z.2)) : jw_C jp_kd jp_ys d 156 [.ref 0] (jx_ShC, σ) Q := by
  obtain ⟨d, rfl⟩ : ∃ e, d = e + 1 := ⟨d - 1, by omega⟩
  replace hd : 6 ≤ d := by omega
  refine jx_C rfl rfl ?_
  unfold f_F_lot at h
  obtain ⟨z1, h2, h⟩ := Option.bind_eq_some_iff.mp h
  by_cases c3 : z1.1 = 0
  · rw [if_pos c3] at h
    suffices hh : ∃ n, jx_W jx_ShC d (some .int) jc_156 Q n 22 [some (.ref 0)] [] z1.2 by
      obtain ⟨n, hn⟩ := hh
      exact ⟨n + 7, s_S_isOver (by omega) (by decide) h2 (And.intro (fun _ => hn) (fun zz => absurd c3 zz))⟩
    obtain ⟨z4, h5, h⟩ := Option.bind_eq_some_iff.mp h
    cases h
    exact ⟨7, s_S_goByLot (by omega) (by decide) h5 (And.intro hQ (And.intro rfl rfl))⟩
  · rw [if_neg c3] at h
    suffices hh : ∃ n, jx_W jx_ShC d (some .int) jc_156 Q n 17 [some (.ref 0)] [] z1.2 by
      obtain ⟨n, hn⟩ := hh
      exact ⟨n + 7, s_S_isOver (by omega) (by decide) h2 (And.intro (fun zz => absurd zz c3) (fun _ => hn))⟩
    cases h
    exact ⟨3, And.intro hQ (And.intro rfl rfl)⟩
set_option maxRecDepth 20000 in
theorem s_F_often_112 {N d : Nat} {Q : jw_Q} {K37 : Int32 → Int32 → Int32 → Int32 → Int32 → jw_M → Option (Int32 × jw_M)} (hd : 6 ≤ d) (hK37 : ∀ {x1 : Int32} {x2 : Int32} {x3 : Int32} {x4 : Int32} {x5 : Int32} {σ : jw_M} {z : (Int32 × jw_M)} {u6 : Option Value} {u7 : Option Value}, K37 x1 x2 x3 x4 x5 σ = some z → Q (some (.int z.1)) (jx_ShC, z.2) → ∃ n, jx_W jx_ShC d (some .int) jc_157 Q n 37 [some (.ref 0), some (.int x1), some (.int x2), some (.int x3), some (.int x4), some (.int x5), u6, u7] [] σ) {x1 : Int32} {x2 : Int32} {x3 : Int32} {x4 : Int32} {x5 : Int32} {u6 : Option Value} {u7 : Option Value} {σ : jw_M} {z : (Int32 × jw_M)} (h : f_F_often_112 N K37 x1 x2 x3 x4 x5 σ = some z) (hQ : Q (some (.int z.1)) (jx_ShC, z.2)) : ∃ n, jx_W jx_ShC d (some .int) jc_157 Q n 112 [some (.ref 0), some (.int x1), some (.int x2), some (.int x3), some (.int x4), some (.int x5), u6, u7] [] σ := by
  unfold f_F_often_112 at h
  obtain ⟨n, hn⟩ := hK37 (u6 := u6) (u7 := u7) h hQ
  exact ⟨n + 2, hn⟩
set_option maxRecDepth 20000 in
theorem s_F_often_69 {N d : Nat} {Q : jw_Q} {K37 : Int32 → Int32 → Int32 → Int32 → Int32 → jw_M → Option (Int32 × jw_M)} (hd : 6 ≤ d) (hK37 : ∀ {x1 : Int32} {x2 : Int32} {x3 : Int32} {x4 : Int32} {x5 : Int32} {σ : jw_M} {z : (Int32 × jw_M)} {u6 : Option Value} {u7 : Option Value}, K37 x1 x2 x3 x4 x5 σ = some z → Q (some (.int z.1)) (jx_ShC, z.2) → ∃ n, jx_W jx_ShC d (some .int) jc_157 Q n 37 [some (.ref 0), some (.int x1), some (.int x2), some (.int x3), some (.int x4), some (.int x5), u6, u7] [] σ) : ∀ (k : Nat) {x1 : Int32} {x2 : Int32} {x3 : Int32} {x4 : Int32} {x5 : Int32} {x6 : Int32} {x7 : Int32} {σ : jw_M} {z : (Int32 × jw_M)}, f_F_often_69 N K37 k x1 x2 x3 x4 x5 x6 x7 σ = some z → Q (some (.int z.1)) (jx_ShC, z.2) → ∃ n, jx_W jx_ShC d (some .int) jc_157 Q n 69 [some (.ref 0), some (.int x1), some (.int x2), some (.int x3), some (.int x4), some (.int x5), some (.int x6), some (.int x7)] [] σ
  | 0, _, _, _, _, _, _, _, _, _, h, _ => by cases h
  | k + 1, x1, x2, x3, x4, x5, x6, x7, σ, z, h, hQ => by
    rw [f_F_often_69] at h
    by_cases c10 : (σ.1 1 14) ≤ x7
    · rw [if_pos c10] at h
      suffices hh : ∃ n, jx_W jx_ShC d (some .int) jc_157 Q n 103 [some (.ref 0), some (.int x1), some (.int x2), some (.int x3), some (.int x4), some (.int x5), some (.int x6), some (.int x7)] [] σ by
        obtain ⟨n, hn⟩ := hh
        exact ⟨n + 5, And.intro (fun _ => hn) (fun zz => absurd c10 zz)⟩
      by_cases c11 : x6 < x2
      · rw [if_pos c11] at h
        suffices hh : ∃ n, jx_W jx_ShC d (some .int) jc_157 Q n 112 [some (.ref 0), some (.int x1), some (.int x2), some (.int x3), some (.int x4), some (.int x5), some (.int x6), some (.int x7)] [] σ by
          obtain ⟨n, hn⟩ := hh
          exact ⟨n + 3, And.intro (fun _ => hn) (fun zz => absurd c11 zz)⟩
        obtain ⟨n, hn⟩ := s_F_often_112 hd hK37 (u6 := some (.int x6)) (u7 := some (.int x7)) h hQ
        exact ⟨n + 0, hn⟩
      · rw [if_neg c11] at h
        suffices hh : ∃ n, jx_W jx_ShC d (some .int) jc_157 Q n 109 [some (.ref 0), some (.int x1), some (.int x2), some (.int x3), some (.int x4), some (.int x5), some (.int x6), some (.int x7)] [] σ by
          obtain ⟨n, hn⟩ := hh
          exact ⟨n + 3, And.intro (fun zz => absurd zz c11) (fun _ => hn)⟩
        obtain ⟨n, hn⟩ := s_F_often_112 hd hK37 (u6 := some (.int x6)) (u7 := some (.int x7)) h hQ
        exact ⟨n + 1, hn⟩
    · rw [if_neg c10] at h
      suffices hh : ∃ n, jx_W jx_ShC d (some .int) jc_157 Q n 81 [some (.ref 0), some (.int x1), some (.int x2), some (.int x3), some (.int x4), some (.int x5), some (.int x6), some (.int x7)] [] σ by
        obtain ⟨n, hn⟩ := hh
        exact ⟨n + 5, And.intro (fun zz => absurd zz c10) (fun _ => hn)⟩
      obtain ⟨z12, h13, h⟩ := Option.bind_eq_some_iff.mp h
      obtain ⟨n, hn⟩ := s_F_often_69 hd hK37 k h hQ
      exact ⟨n + 10, s_S_goByLot (by omega) (by decide) h13 (hn)⟩
set_option maxRecDepth 20000 in
theorem s_F_often_37 {N d : Nat} {Q : jw_Q} (hd : 6 ≤ d) : ∀ (k : Nat) {x1 : Int32} {x2 : Int32} {x3 : Int32} {x4 : Int32} {x5 : Int32} {u6 : Option Value} {u7 : Option Value} {σ : jw_M} {z : (Int32 × jw_M)}, f_F_often_37 N k x1 x2 x3 x4 x5 σ = some z → Q (some (.int z.1)) (jx_ShC, z.2) → ∃ n, jx_W jx_ShC d (some .int) jc_157 Q n 37 [some (.ref 0), some (.int x1), some (.int x2), some (.int x3), some (.int x4), some (.int x5), u6, u7] [] σ
  | 0, _, _, _, _, _, _, _, _, _, h, _ => by cases h
  | k + 1, x1, x2, x3, x4, x5, u6, u7, σ, z, h, hQ => by
    rw [f_F_often_37] at h
    by_cases c7 : x1 ≤ x5
    · rw [if_pos c7] at h
      suffices hh : ∃ n, jx_W jx_ShC d (some .int) jc_157 Q n 118 [some (.ref 0), some (.int x1), some (.int x2), some (.int x3), some (.int x4), some (.int x5), u6, u7] [] σ by
        obtain ⟨n, hn⟩ := hh
        exact ⟨n + 3, And.intro (fun _ => hn) (fun zz => absurd c7 zz)⟩
      cases h
      exact ⟨6, And.intro hQ (And.intro rfl rfl)⟩
    · rw [if_neg c7] at h
      suffices hh : ∃ n, jx_W jx_ShC d (some .int) jc_157 Q n 43 [some (.ref 0), some (.int x1), some (.int x2), some (.int x3), some (.int x4), some (.int x5), u6, u7] [] σ by
        obtain ⟨n, hn⟩ := hh
        exact ⟨n + 3, And.intro (fun zz => absurd zz c7) (fun _ => hn)⟩
      obtain ⟨z8, h9, h⟩ := Option.bind_eq_some_iff.mp h
      obtain ⟨n, hn⟩ := s_F_often_69 hd (s_F_often_37 hd k) N h hQ
      exact ⟨n + 12, s_P_copyFrom (by omega) (by decide) h9 (hn)⟩
set_option maxRecDepth 20000 in
theorem s_F_often {N d : Nat} {x1 : Int32} {x2 : Int32} (hd : 7 ≤ d) {σ : jw_M} {z : (Int32 × jw_M)} {Q : jw_Q} (h : f_F_often N x1 x2 σ = some z) (hQ : Q (some (.int z.1)) (jx_ShC, z.2)) : jw_C jp_kd jp_ys d 157 [.ref 0, .int x1, .int x2] (jx_ShC, σ) Q := by
  obtain ⟨d, rfl⟩ : ∃ e, d = e + 1 := ⟨d - 1, by omega⟩
  replace hd : 6 ≤ d := by omega
  refine jx_C rfl rfl ?_
  unfold f_F_often at h
  obtain ⟨z1, h2, h⟩ := Option.bind_eq_some_iff.mp h
  by_cases c3 : z1.1 = 0
  · rw [if_pos c3] at h
    suffices hh : ∃ n, jx_W jx_ShC d (some .int) jc_157 Q n 21 [some (.ref 0), some (.int x1), some (.int x2), none, none, none, none, none] [] z1.2 by
      obtain ⟨n, hn⟩ := hh
      exact ⟨n + 5, s_F_isWithin (by omega) h2 (And.intro (fun _ => hn) (fun zz => absurd c3 zz))⟩
    cases h
    exact ⟨2, And.intro hQ (And.intro rfl rfl)⟩
  · rw [if_neg c3] at h
    suffices hh : ∃ n, jx_W jx_ShC d (some .int) jc_157 Q n 10 [some (.ref 0), some (.int x1), some (.int x2), none, none, none, none, none] [] z1.2 by
      obtain ⟨n, hn⟩ := hh
      exact ⟨n + 5, s_F_isWithin (by omega) h2 (And.intro (fun zz => absurd zz c3) (fun _ => hn))⟩
    obtain ⟨z4, h5, h⟩ := Option.bind_eq_some_iff.mp h
    by_cases c6 : z4.1 = 0
    · rw [if_pos c6] at h
      suffices hh : ∃ n, jx_W jx_ShC d (some .int) jc_157 Q n 21 [some (.ref 0), some (.int x1), some (.int x2), none, none, none, none, none] [] z4.2 by
        obtain ⟨n, hn⟩ := hh
        exact ⟨n + 5, s_F_isWithin (by omega) h5 (And.intro (fun zz => absurd c6 zz) (fun _ => hn))⟩
      cases h
      exact ⟨2, And.intro hQ (And.intro rfl rfl)⟩
    · rw [if_neg c6] at h
      suffices hh : ∃ n, jx_W jx_ShC d (some .int) jc_157 Q n 23 [some (.ref 0), some (.int x1), some (.int x2), none, none, none, none, none] [] z4.2 by
        obtain ⟨n, hn⟩ := hh
        exact ⟨n + 5, s_F_isWithin (by omega) h5 (And.intro (fun _ => hn) (fun zz => absurd zz c6))⟩
      obtain ⟨n, hn⟩ := s_F_often_37 hd N (u6 := none) (u7 := none) h hQ
      exact ⟨n + 8, hn⟩
set_option maxRecDepth 20000 in
theorem s_F_prove {N d : Nat} {x1 : Int32} (hd : 72 ≤ d) {σ : jw_M} {z : (Int32 × jw_M)} {Q : jw_Q} (h : f_F_prove N x1 σ = some z) (hQ : Q (some (.int z.1)) (jx_ShC, z.2)) : jw_C jp_kd jp_ys d 158 [.ref 0, .int x1] (jx_ShC, σ) Q := by
  obtain ⟨d, rfl⟩ : ∃ e, d = e + 1 := ⟨d - 1, by omega⟩
  replace hd : 71 ≤ d := by omega
  refine jx_C rfl rfl ?_
  unfold f_F_prove at h
  obtain ⟨z1, h2, h⟩ := Option.bind_eq_some_iff.mp h
  by_cases c3 : z1.1 = 0
  · rw [if_pos c3] at h
    suffices hh : ∃ n, jx_W jx_ShC d (some .int) jc_158 Q n 9 [some (.ref 0), some (.int x1)] [] z1.2 by
      obtain ⟨n, hn⟩ := hh
      exact ⟨n + 5, s_F_isWithin (by omega) h2 (And.intro (fun zz => absurd c3 zz) (fun _ => hn))⟩
    cases h
    exact ⟨2, And.intro hQ (And.intro rfl rfl)⟩
  · rw [if_neg c3] at h
    suffices hh : ∃ n, jx_W jx_ShC d (some .int) jc_158 Q n 11 [some (.ref 0), some (.int x1)] [] z1.2 by
      obtain ⟨n, hn⟩ := hh
      exact ⟨n + 5, s_F_isWithin (by omega) h2 (And.intro (fun _ => hn) (fun zz => absurd zz c3))⟩
    obtain ⟨z4, h5, h⟩ := Option.bind_eq_some_iff.mp h
    obtain ⟨z6, h7, h⟩ := Option.bind_eq_some_iff.mp h
    cases h
    exact ⟨13, s_L_walkAll (by omega) h5 (s_L_makeRows (by omega) h7 (And.intro hQ (And.intro rfl rfl)))⟩
set_option maxRecDepth 20000 in
theorem s_F_row_21 {N d : Nat} {Q : jw_Q} (hd : 1 ≤ d) {x2 : Int32} {r_0 : Nat} {u0 : Option Value} {u1 : Option Value} {σ : jw_M} {z : (Int32 × jw_M)} (hr_0 : r_0 = 117 ∨ r_0 = 118 ∨ r_0 = 119 ∨ r_0 = 120) (h : f_F_row_21 N x2 r_0 σ = some z) (hQ : Q (some (.int z.1)) (jx_ShC, z.2)) : ∃ n, jx_W jx_ShC d (some .int) jc_159 Q n 21 [u0, u1, some (.int x2)] [.ref r_0] σ := by
  rcases hr_0 with rfl | rfl | rfl | rfl
  · unfold f_F_row_21 at h
    cases c5 : jx_in x2 3 with
    | false => rw [c5, cond_false] at h; cases h
    | true =>
      rw [c5, cond_true] at h
      cases h
      exact ⟨4, And.intro (jx_in_ok c5) (And.intro hQ (And.intro rfl rfl))⟩
  · unfold f_F_row_21 at h
    cases c5 : jx_in x2 3 with
    | false => rw [c5, cond_false] at h; cases h
    | true =>
      rw [c5, cond_true] at h
      cases h
      exact ⟨4, And.intro (jx_in_ok c5) (And.intro hQ (And.intro rfl rfl))⟩
  · unfold f_F_row_21 at h
    cases c5 : jx_in x2 3 with
    | false => rw [c5, cond_false] at h; cases h
    | true =>
      rw [c5, cond_true] at h
      cases h
      exact ⟨4, And.intro (jx_in_ok c5) (And.intro hQ (And.intro rfl rfl))⟩
  · unfold f_F_row_21 at h
    cases c5 : jx_in x2 3 with
    | false => rw [c5, cond_false] at h; cases h
    | true =>
      rw [c5, cond_true] at h
      cases h
      exact ⟨4, And.intro (jx_in_ok c5) (And.intro hQ (And.intro rfl rfl))⟩
set_option maxRecDepth 20000 in
theorem s_F_row_20 {N d : Nat} {Q : jw_Q} (hd : 1 ≤ d) {x2 : Int32} {y1 : Int32} {u0 : Option Value} {u1 : Option Value} {σ : jw_M} {z : (Int32 × jw_M)} (h : f_F_row_20 N x2 y1 σ = some z) (hQ : Q (some (.int z.1)) (jx_ShC, z.2)) : ∃ n, jx_W jx_ShC d (some .int) jc_159 Q n 20 [u0, u1, some (.int x2)] [.int y1, .ref 116] σ := by
  unfold f_F_row_20 at h
  cases c4 : jx_in y1 4 with
  | false => rw [c4, cond_false] at h; cases h
  | true =>
    rw [c4, cond_true] at h
    rcases jx_ix4 (jx_in_ok c4) with rfl | rfl | rfl | rfl
    · try rw [show (117 + (0 : Int32).toNatClampNeg) = 117 from by decide] at h
      obtain ⟨n, hn⟩ := s_F_row_21 hd (u0 := u0) (u1 := u1) (by decide) h hQ
      exact ⟨n + 1, And.intro (jx_in_ok c4) (hn)⟩
    · try rw [show (117 + (1 : Int32).toNatClampNeg) = 118 from by decide] at h
      obtain ⟨n, hn⟩ := s_F_row_21 hd (u0 := u0) (u1 := u1) (by decide) h hQ
      exact ⟨n + 1, And.intro (jx_in_ok c4) (hn)⟩
    · try rw [show (117 + (2 : Int32).toNatClampNeg) = 119 from by decide] at h
      obtain ⟨n, hn⟩ := s_F_row_21 hd (u0 := u0) (u1 := u1) (by decide) h hQ
      exact ⟨n + 1, And.intro (jx_in_ok c4) (hn)⟩
    · try rw [show (117 + (3 : Int32).toNatClampNeg) = 120 from by decide] at h
      obtain ⟨n, hn⟩ := s_F_row_21 hd (u0 := u0) (u1 := u1) (by decide) h hQ
      exact ⟨n + 1, And.intro (jx_in_ok c4) (hn)⟩
set_option maxRecDepth 20000 in
theorem s_F_row {N d : Nat} {x1 : Int32} {x2 : Int32} (hd : 2 ≤ d) {σ : jw_M} {z : (Int32 × jw_M)} {Q : jw_Q} (h : f_F_row N x1 x2 σ = some z) (hQ : Q (some (.int z.1)) (jx_ShC, z.2)) : jw_C jp_kd jp_ys d 159 [.ref 0, .int x1, .int x2] (jx_ShC, σ) Q := by
  obtain ⟨d, rfl⟩ : ∃ e, d = e + 1 := ⟨d - 1, by omega⟩
  replace hd : 1 ≤ d := by omega
  refine jx_C rfl rfl ?_
  unfold f_F_row at h
  obtain ⟨z1, h2, h⟩ := Option.bind_eq_some_iff.mp h
  by_cases c3 : z1.1 = 0
  · rw [if_pos c3] at h
    suffices hh : ∃ n, jx_W jx_ShC d (some .int) jc_159 Q n 26 [some (.ref 0), some (.int x1), some (.int x2)] [] z1.2 by
      obtain ⟨n, hn⟩ := hh
      exact ⟨n + 6, s_L_hasRowPart (by omega) h2 (And.intro (fun _ => hn) (fun zz => absurd c3 zz))⟩
    cases h
    exact ⟨2, And.intro hQ (And.intro rfl rfl)⟩
  · rw [if_neg c3] at h
    suffices hh : ∃ n, jx_W jx_ShC d (some .int) jc_159 Q n 12 [some (.ref 0), some (.int x1), some (.int x2)] [] z1.2 by
      obtain ⟨n, hn⟩ := hh
      exact ⟨n + 6, s_L_hasRowPart (by omega) h2 (And.intro (fun zz => absurd zz c3) (fun _ => hn))⟩
    obtain ⟨n, hn⟩ := s_F_row_20 hd (u0 := some (.ref 0)) (u1 := some (.int x1)) h hQ
    exact ⟨n + 4, hn⟩
set_option maxRecDepth 20000 in
theorem s_F_alterRow_37 {N d : Nat} {Q : jw_Q} (hd : 1 ≤ d) {x2 : Int32} {x3 : Int32} {x4 : Int32} {r_0 : Nat} {u0 : Option Value} {u1 : Option Value} {σ : jw_M} {z : (Int32 × jw_M)} (hr_0 : r_0 = 117 ∨ r_0 = 118 ∨ r_0 = 119 ∨ r_0 = 120) (h : f_F_alterRow_37 N x2 x3 x4 r_0 σ = some z) (hQ : Q (some (.int z.1)) (jx_ShC, z.2)) : ∃ n, jx_W jx_ShC d (some .int) jc_160 Q n 37 [u0, u1, some (.int x2), some (.int x3), some (.int x4)] [.ref r_0] σ := by
  rcases hr_0 with rfl | rfl | rfl | rfl
  · unfold f_F_alterRow_37 at h
    cases c7 : jx_in x2 3 with
    | false => rw [c7, cond_false] at h; cases h
    | true =>
      rw [c7, cond_true] at h
      cases h
      exact ⟨5, And.intro (jx_in_ok c7) (And.intro hQ (And.intro rfl rfl))⟩
  · unfold f_F_alterRow_37 at h
    cases c7 : jx_in x2 3 with
    | false => rw [c7, cond_false] at h; cases h
    | true =>
      rw [c7, cond_true] at h
      cases h
      exact ⟨5, And.intro (jx_in_ok c7) (And.intro hQ (And.intro rfl rfl))⟩
  · unfold f_F_alterRow_37 at h
    cases c7 : jx_in x2 3 with
    | false => rw [c7, cond_false] at h; cases h
    | true =>
      rw [c7, cond_true] at h
      cases h
      exact ⟨5, And.intro (jx_in_ok c7) (And.intro hQ (And.intro rfl rfl))⟩
  · unfold f_F_alterRow_37 at h
    cases c7 : jx_in x2 3 with
    | false => rw [c7, cond_false] at h; cases h
    | true =>
      rw [c7, cond_true] at h
      cases h
      exact ⟨5, And.intro (jx_in_ok c7) (And.intro hQ (And.intro rfl rfl))⟩
set_option maxRecDepth 20000 in
theorem s_F_alterRow_36 {N d : Nat} {Q : jw_Q} (hd : 1 ≤ d) {x2 : Int32} {x3 : Int32} {x4 : Int32} {y1 : Int32} {u0 : Option Value} {u1 : Option Value} {σ : jw_M} {z : (Int32 × jw_M)} (h : f_F_alterRow_36 N x2 x3 x4 y1 σ = some z) (hQ : Q (some (.int z.1)) (jx_ShC, z.2)) : ∃ n, jx_W jx_ShC d (some .int) jc_160 Q n 36 [u0, u1, some (.int x2), some (.int x3), some (.int x4)] [.int y1, .ref 116] σ := by
  unfold f_F_alterRow_36 at h
  cases c6 : jx_in y1 4 with
  | false => rw [c6, cond_false] at h; cases h
  | true =>
    rw [c6, cond_true] at h
    rcases jx_ix4 (jx_in_ok c6) with rfl | rfl | rfl | rfl
    · try rw [show (117 + (0 : Int32).toNatClampNeg) = 117 from by decide] at h
      obtain ⟨n, hn⟩ := s_F_alterRow_37 hd (u0 := u0) (u1 := u1) (by decide) h hQ
      exact ⟨n + 1, And.intro (jx_in_ok c6) (hn)⟩
    · try rw [show (117 + (1 : Int32).toNatClampNeg) = 118 from by decide] at h
      obtain ⟨n, hn⟩ := s_F_alterRow_37 hd (u0 := u0) (u1 := u1) (by decide) h hQ
      exact ⟨n + 1, And.intro (jx_in_ok c6) (hn)⟩
    · try rw [show (117 + (2 : Int32).toNatClampNeg) = 119 from by decide] at h
      obtain ⟨n, hn⟩ := s_F_alterRow_37 hd (u0 := u0) (u1 := u1) (by decide) h hQ
      exact ⟨n + 1, And.intro (jx_in_ok c6) (hn)⟩
    · try rw [show (117 + (3 : Int32).toNatClampNeg) = 120 from by decide] at h
      obtain ⟨n, hn⟩ := s_F_alterRow_37 hd (u0 := u0) (u1 := u1) (by decide) h hQ
      exact ⟨n + 1, And.intro (jx_in_ok c6) (hn)⟩
set_option maxRecDepth 20000 in
theorem s_F_alterRow_24 {N d : Nat} {Q : jw_Q} (hd : 1 ≤ d) {x1 : Int32} {x2 : Int32} {x3 : Int32} {r_0 : Nat} {u4 : Option Value} {σ : jw_M} {z : (Int32 × jw_M)} (hr_0 : r_0 = 117 ∨ r_0 = 118 ∨ r_0 = 119 ∨ r_0 = 120) (h : f_F_alterRow_24 N x1 x2 x3 r_0 σ = some z) (hQ : Q (some (.int z.1)) (jx_ShC, z.2)) : ∃ n, jx_W jx_ShC d (some .int) jc_160 Q n 24 [some (.ref 0), some (.int x1), some (.int x2), some (.int x3), u4] [.ref r_0] σ := by
  rcases hr_0 with rfl | rfl | rfl | rfl
  · unfold f_F_alterRow_24 at h
    cases c5 : jx_in x2 3 with
    | false => rw [c5, cond_false] at h; cases h
    | true =>
      rw [c5, cond_true] at h
      obtain ⟨n, hn⟩ := s_F_alterRow_36 hd (u0 := some (.ref 0)) (u1 := some (.int x1)) h hQ
      exact ⟨n + 7, And.intro (jx_in_ok c5) (hn)⟩
  · unfold f_F_alterRow_24 at h
    cases c5 : jx_in x2 3 with
    | false => rw [c5, cond_false] at h; cases h
    | true =>
      rw [c5, cond_true] at h
      obtain ⟨n, hn⟩ := s_F_alterRow_36 hd (u0 := some (.ref 0)) (u1 := some (.int x1)) h hQ
      exact ⟨n + 7, And.intro (jx_in_ok c5) (hn)⟩
  · unfold f_F_alterRow_24 at h
    cases c5 : jx_in x2 3 with
    | false => rw [c5, cond_false] at h; cases h
    | true =>
      rw [c5, cond_true] at h
      obtain ⟨n, hn⟩ := s_F_alterRow_36 hd (u0 := some (.ref 0)) (u1 := some (.int x1)) h hQ
      exact ⟨n + 7, And.intro (jx_in_ok c5) (hn)⟩
  · unfold f_F_alterRow_24 at h
    cases c5 : jx_in x2 3 with
    | false => rw [c5, cond_false] at h; cases h
    | true =>
      rw [c5, cond_true] at h
      obtain ⟨n, hn⟩ := s_F_alterRow_36 hd (u0 := some (.ref 0)) (u1 := some (.int x1)) h hQ
      exact ⟨n + 7, And.intro (jx_in_ok c5) (hn)⟩
set_option maxRecDepth 20000 in
theorem s_F_alterRow_23 {N d : Nat} {Q : jw_Q} (hd : 1 ≤ d) {x1 : Int32} {x2 : Int32} {x3 : Int32} {y1 : Int32} {u4 : Option Value} {σ : jw_M} {z : (Int32 × jw_M)} (h : f_F_alterRow_23 N x1 x2 x3 y1 σ = some z) (hQ : Q (some (.int z.1)) (jx_ShC, z.2)) : ∃ n, jx_W jx_ShC d (some .int) jc_160 Q n 23 [some (.ref 0), some (.int x1), some (.int x2), some (.int x3), u4] [.int y1, .ref 116] σ := by
  unfold f_F_alterRow_23 at h
  cases c4 : jx_in y1 4 with
  | false => rw [c4, cond_false] at h; cases h
  | true =>
    rw [c4, cond_true] at h
    rcases jx_ix4 (jx_in_ok c4) with rfl | rfl | rfl | rfl
    · try rw [show (117 + (0 : Int32).toNatClampNeg) = 117 from by decide] at h
      obtain ⟨n, hn⟩ := s_F_alterRow_24 hd (u4 := u4) (by decide) h hQ
      exact ⟨n + 1, And.intro (jx_in_ok c4) (hn)⟩
    · try rw [show (117 + (1 : Int32).toNatClampNeg) = 118 from by decide] at h
      obtain ⟨n, hn⟩ := s_F_alterRow_24 hd (u4 := u4) (by decide) h hQ
      exact ⟨n + 1, And.intro (jx_in_ok c4) (hn)⟩
    · try rw [show (117 + (2 : Int32).toNatClampNeg) = 119 from by decide] at h
      obtain ⟨n, hn⟩ := s_F_alterRow_24 hd (u4 := u4) (by decide) h hQ
      exact ⟨n + 1, And.intro (jx_in_ok c4) (hn)⟩
    · try rw [show (117 + (3 : Int32).toNatClampNeg) = 120 from by decide] at h
      obtain ⟨n, hn⟩ := s_F_alterRow_24 hd (u4 := u4) (by decide) h hQ
      exact ⟨n + 1, And.intro (jx_in_ok c4) (hn)⟩
set_option maxRecDepth 20000 in
theorem s_F_alterRow {N d : Nat} {x1 : Int32} {x2 : Int32} {x3 : Int32} (hd : 2 ≤ d) {σ : jw_M} {z : (Int32 × jw_M)} {Q : jw_Q} (h : f_F_alterRow N x1 x2 x3 σ = some z) (hQ : Q (some (.int z.1)) (jx_ShC, z.2)) : jw_C jp_kd jp_ys d 160 [.ref 0, .int x1, .int x2, .int x3] (jx_ShC, σ) Q := by
  obtain ⟨d, rfl⟩ : ∃ e, d = e + 1 := ⟨d - 1, by omega⟩
  replace hd : 1 ≤ d := by omega
  refine jx_C rfl rfl ?_
  unfold f_F_alterRow at h
  obtain ⟨z1, h2, h⟩ := Option.bind_eq_some_iff.mp h
  by_cases c3 : z1.1 = 0
  · rw [if_pos c3] at h
    suffices hh : ∃ n, jx_W jx_ShC d (some .int) jc_160 Q n 12 [some (.ref 0), some (.int x1), some (.int x2), some (.int x3), none] [] z1.2 by
      obtain ⟨n, hn⟩ := hh
      exact ⟨n + 6, s_L_hasRowPart (by omega) h2 (And.intro (fun zz => absurd c3 zz) (fun _ => hn))⟩
    cases h
    exact ⟨2, And.intro hQ (And.intro rfl rfl)⟩
  · rw [if_neg c3] at h
    suffices hh : ∃ n, jx_W jx_ShC d (some .int) jc_160 Q n 15 [some (.ref 0), some (.int x1), some (.int x2), some (.int x3), none] [] z1.2 by
      obtain ⟨n, hn⟩ := hh
      exact ⟨n + 6, s_L_hasRowPart (by omega) h2 (And.intro (fun _ => hn) (fun zz => absurd zz c3))⟩
    obtain ⟨n, hn⟩ := s_F_alterRow_23 hd (u4 := none) h hQ
    exact ⟨n + 4, hn⟩
set_option maxRecDepth 20000 in
theorem s_F_judge {N d : Nat} (hd : 7 ≤ d) {σ : jw_M} {z : (Int32 × jw_M)} {Q : jw_Q} (h : f_F_judge N  σ = some z) (hQ : Q (some (.int z.1)) (jx_ShC, z.2)) : jw_C jp_kd jp_ys d 161 [.ref 0] (jx_ShC, σ) Q := by
  obtain ⟨d, rfl⟩ : ∃ e, d = e + 1 := ⟨d - 1, by omega⟩
  replace hd : 6 ≤ d := by omega
  refine jx_C rfl rfl ?_
  unfold f_F_judge at h
  obtain ⟨z1, h2, h⟩ := Option.bind_eq_some_iff.mp h
  cases h
  exact ⟨6, s_L_firstWrongRow (by omega) h2 (And.intro hQ (And.intro rfl rfl))⟩
set_option maxRecDepth 20000 in
theorem s_F_sheet_47 {N d : Nat} {Q : jw_Q} (hd : 3 ≤ d) {x1 : Int32} {x2 : Int32} {x3 : Int32} {σ : jw_M} {z : (Int32 × jw_M)} (h : f_F_sheet_47 N x1 x2 x3 σ = some z) (hQ : Q (some (.int z.1)) (jx_ShC, z.2)) : ∃ n, jx_W jx_ShC d (some .int) jc_162 Q n 47 [some (.ref 0), some (.int x1), some (.int x2), some (.int x3)] [] σ := by
  unfold f_F_sheet_47 at h
  obtain ⟨z9, h10, h⟩ := Option.bind_eq_some_iff.mp h
  cases h
  exact ⟨8, s_H_makeRow (by omega) h10 (And.intro hQ (And.intro rfl rfl))⟩
set_option maxRecDepth 20000 in
theorem s_F_sheet_35 {N d : Nat} {Q : jw_Q} (hd : 3 ≤ d) {x1 : Int32} {x2 : Int32} {x3 : Int32} {σ : jw_M} {z : (Int32 × jw_M)} (h : f_F_sheet_35 N x1 x2 x3 σ = some z) (hQ : Q (some (.int z.1)) (jx_ShC, z.2)) : ∃ n, jx_W jx_ShC d (some .int) jc_162 Q n 35 [some (.ref 0), some (.int x1), some (.int x2), some (.int x3)] [] σ := by
  unfold f_F_sheet_35 at h
  by_cases c8 : x2 = (-1)
  · rw [if_pos c8] at h
    suffices hh : ∃ n, jx_W jx_ShC d (some .int) jc_162 Q n 47 [some (.ref 0), some (.int x1), some (.int x2), some (.int x3)] [] σ by
      obtain ⟨n, hn⟩ := hh
      exact ⟨n + 3, And.intro (fun _ => hn) (fun zz => absurd c8 zz)⟩
    obtain ⟨n, hn⟩ := s_F_sheet_47 hd h hQ
    exact ⟨n + 0, hn⟩
  · rw [if_neg c8] at h
    suffices hh : ∃ n, jx_W jx_ShC d (some .int) jc_162 Q n 40 [some (.ref 0), some (.int x1), some (.int x2), some (.int x3)] [] σ by
      obtain ⟨n, hn⟩ := hh
      exact ⟨n + 3, And.intro (fun zz => absurd zz c8) (fun _ => hn)⟩
    by_cases c11 : 0 ≤ x3
    · rw [if_pos c11] at h
      suffices hh : ∃ n, jx_W jx_ShC d (some .int) jc_162 Q n 47 [some (.ref 0), some (.int x1), some (.int x2), some (.int x3)] [] σ by
        obtain ⟨n, hn⟩ := hh
        exact ⟨n + 2, And.intro (fun _ => hn) (fun zz => absurd c11 zz)⟩
      obtain ⟨n, hn⟩ := s_F_sheet_47 hd h hQ
      exact ⟨n + 0, hn⟩
    · rw [if_neg c11] at h
      suffices hh : ∃ n, jx_W jx_ShC d (some .int) jc_162 Q n 44 [some (.ref 0), some (.int x1), some (.int x2), some (.int x3)] [] σ by
        obtain ⟨n, hn⟩ := hh
        exact ⟨n + 2, And.intro (fun zz => absurd zz c11) (fun _ => hn)⟩
      cases h
      exact ⟨2, And.intro hQ (And.intro rfl rfl)⟩
set_option maxRecDepth 20000 in
theorem s_F_sheet {N d : Nat} {x1 : Int32} {x2 : Int32} {x3 : Int32} (hd : 4 ≤ d) {σ : jw_M} {z : (Int32 × jw_M)} {Q : jw_Q} (h : f_F_sheet N x1 x2 x3 σ = some z) (hQ : Q (some (.int z.1)) (jx_ShC, z.2)) : jw_C jp_kd jp_ys d 162 [.ref 0, .int x1, .int x2, .int x3] (jx_ShC, σ) Q := by
  obtain ⟨d, rfl⟩ : ∃ e, d = e + 1 := ⟨d - 1, by omega⟩
  replace hd : 3 ≤ d := by omega
  refine jx_C rfl rfl ?_
  unfold f_F_sheet at h
  obtain ⟨z1, h2, h⟩ := Option.bind_eq_some_iff.mp h
  by_cases c3 : z1.1 = 0
  · rw [if_pos c3] at h
    suffices hh : ∃ n, jx_W jx_ShC d (some .int) jc_162 Q n 20 [some (.ref 0), some (.int x1), some (.int x2), some (.int x3)] [] z1.2 by
      obtain ⟨n, hn⟩ := hh
      exact ⟨n + 5, s_H_isSheet (by omega) h2 (And.intro (fun _ => hn) (fun zz => absurd c3 zz))⟩
    cases h
    exact ⟨2, And.intro hQ (And.intro rfl rfl)⟩
  · rw [if_neg c3] at h
    suffices hh : ∃ n, jx_W jx_ShC d (some .int) jc_162 Q n 11 [some (.ref 0), some (.int x1), some (.int x2), some (.int x3)] [] z1.2 by
      obtain ⟨n, hn⟩ := hh
      exact ⟨n + 5, s_H_isSheet (by omega) h2 (And.intro (fun zz => absurd zz c3) (fun _ => hn))⟩
    obtain ⟨z4, h5, h⟩ := Option.bind_eq_some_iff.mp h
    by_cases c6 : z4.1 = 0
    · rw [if_pos c6] at h
      suffices hh : ∃ n, jx_W jx_ShC d (some .int) jc_162 Q n 20 [some (.ref 0), some (.int x1), some (.int x2), some (.int x3)] [] z4.2 by
        obtain ⟨n, hn⟩ := hh
        exact ⟨n + 5, s_F_isWithin (by omega) h5 (And.intro (fun zz => absurd c6 zz) (fun _ => hn))⟩
      cases h
      exact ⟨2, And.intro hQ (And.intro rfl rfl)⟩
    · rw [if_neg c6] at h
      suffices hh : ∃ n, jx_W jx_ShC d (some .int) jc_162 Q n 22 [some (.ref 0), some (.int x1), some (.int x2), some (.int x3)] [] z4.2 by
        obtain ⟨n, hn⟩ := hh
        exact ⟨n + 5, s_F_isWithin (by omega) h5 (And.intro (fun _ => hn) (fun zz => absurd zz c6))⟩
      by_cases c7 : x2 = (-1)
      · rw [if_pos c7] at h
        suffices hh : ∃ n, jx_W jx_ShC d (some .int) jc_162 Q n 35 [some (.ref 0), some (.int x1), some (.int x2), some (.int x3)] [] z4.2 by
          obtain ⟨n, hn⟩ := hh
          exact ⟨n + 3, And.intro (fun _ => hn) (fun zz => absurd c7 zz)⟩
        obtain ⟨n, hn⟩ := s_F_sheet_35 hd h hQ
        exact ⟨n + 0, hn⟩
      · rw [if_neg c7] at h
        suffices hh : ∃ n, jx_W jx_ShC d (some .int) jc_162 Q n 27 [some (.ref 0), some (.int x1), some (.int x2), some (.int x3)] [] z4.2 by
          obtain ⟨n, hn⟩ := hh
          exact ⟨n + 3, And.intro (fun zz => absurd zz c7) (fun _ => hn)⟩
        by_cases c12 : x3 ≤ 40
        · rw [if_pos c12] at h
          suffices hh : ∃ n, jx_W jx_ShC d (some .int) jc_162 Q n 35 [some (.ref 0), some (.int x1), some (.int x2), some (.int x3)] [] z4.2 by
            obtain ⟨n, hn⟩ := hh
            exact ⟨n + 3, And.intro (fun _ => hn) (fun zz => absurd c12 zz)⟩
          obtain ⟨n, hn⟩ := s_F_sheet_35 hd h hQ
          exact ⟨n + 0, hn⟩
        · rw [if_neg c12] at h
          suffices hh : ∃ n, jx_W jx_ShC d (some .int) jc_162 Q n 33 [some (.ref 0), some (.int x1), some (.int x2), some (.int x3)] [] z4.2 by
            obtain ⟨n, hn⟩ := hh
            exact ⟨n + 3, And.intro (fun zz => absurd zz c12) (fun _ => hn)⟩
          cases h
          exact ⟨2, And.intro hQ (And.intro rfl rfl)⟩
set_option maxRecDepth 20000 in
theorem s_F_write {N d : Nat} {x1 : Int32} {x2 : Int32} {x3 : Int32} (hd : 2 ≤ d) {σ : jw_M} {z : (Int32 × jw_M)} {Q : jw_Q} (h : f_F_write N x1 x2 x3 σ = some z) (hQ : Q (some (.int z.1)) (jx_ShC, z.2)) : jw_C jp_kd jp_ys d 163 [.ref 0, .int x1, .int x2, .int x3] (jx_ShC, σ) Q := by
  obtain ⟨d, rfl⟩ : ∃ e, d = e + 1 := ⟨d - 1, by omega⟩
  replace hd : 1 ≤ d := by omega
  refine jx_C rfl rfl ?_
  unfold f_F_write at h
  obtain ⟨z1, h2, h⟩ := Option.bind_eq_some_iff.mp h
  by_cases c3 : z1.1 = 0
  · rw [if_pos c3] at h
    suffices hh : ∃ n, jx_W jx_ShC d (some .int) jc_163 Q n 11 [some (.ref 0), some (.int x1), some (.int x2), some (.int x3)] [] z1.2 by
      obtain ⟨n, hn⟩ := hh
      exact ⟨n + 5, s_H_isSheet (by omega) h2 (And.intro (fun zz => absurd c3 zz) (fun _ => hn))⟩
    cases h
    exact ⟨2, And.intro hQ (And.intro rfl rfl)⟩
  · rw [if_neg c3] at h
    suffices hh : ∃ n, jx_W jx_ShC d (some .int) jc_163 Q n 13 [some (.ref 0), some (.int x1), some (.int x2), some (.int x3)] [] z1.2 by
      obtain ⟨n, hn⟩ := hh
      exact ⟨n + 5, s_H_isSheet (by omega) h2 (And.intro (fun _ => hn) (fun zz => absurd zz c3))⟩
    cases c4 : jx_in x1 4 with
    | false => rw [c4, cond_false] at h; cases h
    | true =>
      rw [c4, cond_true] at h
      by_cases c5 : (z1.2.1 122 (x1).toNatClampNeg) = (-1)
      · rw [if_pos c5] at h
        suffices hh : ∃ n, jx_W jx_ShC d (some .int) jc_163 Q n 26 [some (.ref 0), some (.int x1), some (.int x2), some (.int x3)] [] z1.2 by
          obtain ⟨n, hn⟩ := hh
          exact ⟨n + 7, And.intro (jx_in_ok c4) (And.intro (fun zz => absurd c5 zz) (fun _ => hn))⟩
        cases h
        exact ⟨2, And.intro hQ (And.intro rfl rfl)⟩
      · rw [if_neg c5] at h
        suffices hh : ∃ n, jx_W jx_ShC d (some .int) jc_163 Q n 29 [some (.ref 0), some (.int x1), some (.int x2), some (.int x3)] [] z1.2 by
          obtain ⟨n, hn⟩ := hh
          exact ⟨n + 7, And.intro (jx_in_ok c4) (And.intro (fun _ => hn) (fun zz => absurd zz c5))⟩
        obtain ⟨z6, h7, h⟩ := Option.bind_eq_some_iff.mp h
        by_cases c8 : z6.1 = 0
        · rw [if_pos c8] at h
          suffices hh : ∃ n, jx_W jx_ShC d (some .int) jc_163 Q n 41 [some (.ref 0), some (.int x1), some (.int x2), some (.int x3)] [] z6.2 by
            obtain ⟨n, hn⟩ := hh
            exact ⟨n + 6, s_H_hasItem (by omega) h7 (And.intro (fun zz => absurd c8 zz) (fun _ => hn))⟩
          cases h
          exact ⟨2, And.intro hQ (And.intro rfl rfl)⟩
        · rw [if_neg c8] at h
          suffices hh : ∃ n, jx_W jx_ShC d (some .int) jc_163 Q n 44 [some (.ref 0), some (.int x1), some (.int x2), some (.int x3)] [] z6.2 by
            obtain ⟨n, hn⟩ := hh
            exact ⟨n + 6, s_H_hasItem (by omega) h7 (And.intro (fun _ => hn) (fun zz => absurd zz c8))⟩
          obtain ⟨z9, h10, h⟩ := Option.bind_eq_some_iff.mp h
          cases h
          exact ⟨8, s_H_putItem (by omega) h10 (And.intro hQ (And.intro rfl rfl))⟩
set_option maxRecDepth 20000 in
theorem s_F_item {N d : Nat} {x1 : Int32} {x2 : Int32} {x3 : Int32} (hd : 2 ≤ d) {σ : jw_M} {z : (Int32 × jw_M)} {Q : jw_Q} (h : f_F_item N x1 x2 x3 σ = some z) (hQ : Q (some (.int z.1)) (jx_ShC, z.2)) : jw_C jp_kd jp_ys d 164 [.ref 0, .int x1, .int x2, .int x3] (jx_ShC, σ) Q := by
  obtain ⟨d, rfl⟩ : ∃ e, d = e + 1 := ⟨d - 1, by omega⟩
  replace hd : 1 ≤ d := by omega
  refine jx_C rfl rfl ?_
  unfold f_F_item at h
  obtain ⟨z1, h2, h⟩ := Option.bind_eq_some_iff.mp h
  by_cases c3 : z1.1 = 0
  · rw [if_pos c3] at h
    suffices hh : ∃ n, jx_W jx_ShC d (some .int) jc_164 Q n 20 [some (.ref 0), some (.int x1), some (.int x2), some (.int x3), none] [] z1.2 by
      obtain ⟨n, hn⟩ := hh
      exact ⟨n + 5, s_H_isSheet (by omega) h2 (And.intro (fun _ => hn) (fun zz => absurd c3 zz))⟩
    cases h
    exact ⟨2, And.intro hQ (And.intro rfl rfl)⟩
  · rw [if_neg c3] at h
    suffices hh : ∃ n, jx_W jx_ShC d (some .int) jc_164 Q n 11 [some (.ref 0), some (.int x1), some (.int x2), some (.int x3), none] [] z1.2 by
      obtain ⟨n, hn⟩ := hh
      exact ⟨n + 5, s_H_isSheet (by omega) h2 (And.intro (fun zz => absurd zz c3) (fun _ => hn))⟩
    obtain ⟨z4, h5, h⟩ := Option.bind_eq_some_iff.mp h
    by_cases c6 : z4.1 = 0
    · rw [if_pos c6] at h
      suffices hh : ∃ n, jx_W jx_ShC d (some .int) jc_164 Q n 20 [some (.ref 0), some (.int x1), some (.int x2), some (.int x3), none] [] z4.2 by
        obtain ⟨n, hn⟩ := hh
        exact ⟨n + 5, s_F_isWithin (by omega) h5 (And.intro (fun zz => absurd c6 zz) (fun _ => hn))⟩
      cases h
      exact ⟨2, And.intro hQ (And.intro rfl rfl)⟩
    · rw [if_neg c6] at h
      suffices hh : ∃ n, jx_W jx_ShC d (some .int) jc_164 Q n 22 [some (.ref 0), some (.int x1), some (.int x2), some (.int x3), none] [] z4.2 by
        obtain ⟨n, hn⟩ := hh
        exact ⟨n + 5, s_F_isWithin (by omega) h5 (And.intro (fun _ => hn) (fun zz => absurd zz c6))⟩
      obtain ⟨z7, h8, h⟩ := Option.bind_eq_some_iff.mp h
      by_cases c9 : z7.1 = 0
      · rw [if_pos c9] at h
        suffices hh : ∃ n, jx_W jx_ShC d (some .int) jc_164 Q n 41 [some (.ref 0), some (.int x1), some (.int x2), some (.int x3), some (.int z7.1)] [] z7.2 by
          obtain ⟨n, hn⟩ := hh
          exact ⟨n + 8, s_H_refusalAs (by omega) h8 (And.intro (fun _ => hn) (fun zz => absurd c9 zz))⟩
        obtain ⟨z10, h11, h⟩ := Option.bind_eq_some_iff.mp h
        by_cases c12 : z10.1 = 0
        · rw [if_pos c12] at h
          suffices hh : ∃ n, jx_W jx_ShC d (some .int) jc_164 Q n 65 [some (.ref 0), some (.int x1), some (.int x2), some (.int x3), some (.int z7.1)] [] z10.2 by
            obtain ⟨n, hn⟩ := hh
            exact ⟨n + 6, s_H_hasItem (by omega) h11 (And.intro (fun _ => hn) (fun zz => absurd c12 zz))⟩
          cases h
          exact ⟨2, And.intro hQ (And.intro rfl rfl)⟩
        · rw [if_neg c12] at h
          suffices hh : ∃ n, jx_W jx_ShC d (some .int) jc_164 Q n 53 [some (.ref 0), some (.int x1), some (.int x2), some (.int x3), some (.int z7.1)] [] z10.2 by
            obtain ⟨n, hn⟩ := hh
            exact ⟨n + 6, s_H_hasItem (by omega) h11 (And.intro (fun zz => absurd zz c12) (fun _ => hn))⟩
          obtain ⟨z13, h14, h⟩ := Option.bind_eq_some_iff.mp h
          cases h
          exact ⟨7, s_H_itemAt (by omega) h14 (And.intro hQ (And.intro rfl rfl))⟩
      · rw [if_neg c9] at h
        suffices hh : ∃ n, jx_W jx_ShC d (some .int) jc_164 Q n 38 [some (.ref 0), some (.int x1), some (.int x2), some (.int x3), some (.int z7.1)] [] z7.2 by
          obtain ⟨n, hn⟩ := hh
          exact ⟨n + 8, s_H_refusalAs (by omega) h8 (And.intro (fun zz => absurd zz c9) (fun _ => hn))⟩
        cases h
        exact ⟨2, And.intro hQ (And.intro rfl rfl)⟩
set_option maxRecDepth 20000 in
theorem s_F_goAll_136 {N d : Nat} {Q : jw_Q} {K48 : Int32 → Int32 → Int32 → Int32 → Int32 → jw_M → Option (Int32 × jw_M)} (hd : 5 ≤ d) (hK48 : ∀ {x1 : Int32} {x2 : Int32} {x3 : Int32} {x5 : Int32} {x6 : Int32} {σ : jw_M} {z : (Int32 × jw_M)} {u4 : Option Value} {u7 : Option Value}, K48 x1 x2 x3 x5 x6 σ = some z → Q (some (.int z.1)) (jx_ShC, z.2) → ∃ n, jx_W jx_ShC d (some .int) jc_165 Q n 48 [some (.ref 0), some (.int x1), some (.int x2), some (.int x3), u4, some (.int x5), some (.int x6), u7] [] σ) {x1 : Int32} {x2 : Int32} {x3 : Int32} {x5 : Int32} {x6 : Int32} {u4 : Option Value} {u7 : Option Value} {σ : jw_M} {z : (Int32 × jw_M)} (h : f_F_goAll_136 N K48 x1 x2 x3 x5 x6 σ = some z) (hQ : Q (some (.int z.1)) (jx_ShC, z.2)) : ∃ n, jx_W jx_ShC d (some .int) jc_165 Q n 136 [some (.ref 0), some (.int x1), some (.int x2), some (.int x3), u4, some (.int x5), some (.int x6), u7] [] σ := by
  unfold f_F_goAll_136 at h
  obtain ⟨n, hn⟩ := hK48 (u4 := u4) (u7 := u7) h hQ
  exact ⟨n + 2, hn⟩
set_option maxRecDepth 20000 in
theorem s_F_goAll_48 {N d : Nat} {Q : jw_Q} (hd : 5 ≤ d) : ∀ (k : Nat) {x1 : Int32} {x2 : Int32} {x3 : Int32} {x5 : Int32} {x6 : Int32} {u4 : Option Value} {u7 : Option Value} {σ : jw_M} {z : (Int32 × jw_M)}, f_F_goAll_48 N k x1 x2 x3 x5 x6 σ = some z → Q (some (.int z.1)) (jx_ShC, z.2) → ∃ n, jx_W jx_ShC d (some .int) jc_165 Q n 48 [some (.ref 0), some (.int x1), some (.int x2), some (.int x3), u4, some (.int x5), some (.int x6), u7] [] σ
  | 0, _, _, _, _, _, _, _, _, _, h, _ => by cases h
  | k + 1, x1, x2, x3, x5, x6, u4, u7, σ, z, h, hQ => by
    rw [f_F_goAll_48] at h
    by_cases c10 : x3 ≤ x6
    · rw [if_pos c10] at h
      suffices hh : ∃ n, jx_W jx_ShC d (some .int) jc_165 Q n 142 [some (.ref 0), some (.int x1), some (.int x2), some (.int x3), u4, some (.int x5), some (.int x6), u7] [] σ by
        obtain ⟨n, hn⟩ := hh
        exact ⟨n + 3, And.intro (fun _ => hn) (fun zz => absurd c10 zz)⟩
      cases h
      exact ⟨2, And.intro hQ (And.intro rfl rfl)⟩
    · rw [if_neg c10] at h
      suffices hh : ∃ n, jx_W jx_ShC d (some .int) jc_165 Q n 54 [some (.ref 0), some (.int x1), some (.int x2), some (.int x3), u4, some (.int x5), some (.int x6), u7] [] σ by
        obtain ⟨n, hn⟩ := hh
        exact ⟨n + 3, And.intro (fun zz => absurd zz c10) (fun _ => hn)⟩
      obtain ⟨z11, h12, h⟩ := Option.bind_eq_some_iff.mp h
      by_cases c13 : z11.1 = 0
      · rw [if_pos c13] at h
        suffices hh : ∃ n, jx_W jx_ShC d (some .int) jc_165 Q n 69 [some (.ref 0), some (.int x1), some (.int x2), some (.int x3), u4, some (.int x5), some (.int x6), u7] [] z11.2 by
          obtain ⟨n, hn⟩ := hh
          exact ⟨n + 8, s_H_hasItem (by omega) h12 (And.intro (fun zz => absurd c13 zz) (fun _ => hn))⟩
        cases h
        exact ⟨2, And.intro hQ (And.intro rfl rfl)⟩
      · rw [if_neg c13] at h
        suffices hh : ∃ n, jx_W jx_ShC d (some .int) jc_165 Q n 72 [some (.ref 0), some (.int x1), some (.int x2), some (.int x3), u4, some (.int x5), some (.int x6), u7] [] z11.2 by
          obtain ⟨n, hn⟩ := hh
          exact ⟨n + 8, s_H_hasItem (by omega) h12 (And.intro (fun _ => hn) (fun zz => absurd zz c13))⟩
        obtain ⟨z14, h15, h⟩ := Option.bind_eq_some_iff.mp h
        obtain ⟨z16, h17, h⟩ := Option.bind_eq_some_iff.mp h
        by_cases c18 : z16.1 = 0
        · rw [if_pos c18] at h
          suffices hh : ∃ n, jx_W jx_ShC d (some .int) jc_165 Q n 136 [some (.ref 0), some (.int x1), some (.int x2), some (.int x3), u4, some (.int x5), some (.int x6), some (.int z14.1)] [] z16.2 by
            obtain ⟨n, hn⟩ := hh
            exact ⟨n + 13, s_H_itemAt (by omega) h15 (s_S_isAct (by omega) h17 (And.intro (fun _ => hn) (fun zz => absurd c18 zz)))⟩
          obtain ⟨n, hn⟩ := s_F_goAll_136 hd (s_F_goAll_48 hd k) (u4 := u4) (u7 := some (.int z14.1)) h hQ
          exact ⟨n + 0, hn⟩
        · rw [if_neg c18] at h
          suffices hh : ∃ n, jx_W jx_ShC d (some .int) jc_165 Q n 98 [some (.ref 0), some (.int x1), some (.int x2), some (.int x3), u4, some (.int x5), some (.int x6), some (.int z14.1)] [] z16.2 by
            obtain ⟨n, hn⟩ := hh
            exact ⟨n + 13, s_H_itemAt (by omega) h15 (s_S_isAct (by omega) h17 (And.intro (fun zz => absurd zz c18) (fun _ => hn)))⟩
          obtain ⟨z19, h20, h⟩ := Option.bind_eq_some_iff.mp h
          by_cases c21 : z19.1 = 0
          · rw [if_pos c21] at h
            suffices hh : ∃ n, jx_W jx_ShC d (some .int) jc_165 Q n 115 [some (.ref 0), some (.int x1), some (.int x2), some (.int x3), u4, some (.int x5), some (.int x6), some (.int z14.1)] [] z19.2 by
              obtain ⟨n, hn⟩ := hh
              exact ⟨n + 7, s_S_isOver (by omega) (by decide) h20 (And.intro (fun zz => absurd c21 zz) (fun _ => hn))⟩
            obtain ⟨z22, h23, h⟩ := Option.bind_eq_some_iff.mp h
            obtain ⟨n, hn⟩ := s_F_goAll_136 hd (s_F_goAll_48 hd k) (u4 := (jw_clr u4)) (u7 := some (.int z14.1)) h hQ
            exact ⟨n + 10, s_S_goBy (by omega) (by decide) h23 (hn)⟩
          · rw [if_neg c21] at h
            suffices hh : ∃ n, jx_W jx_ShC d (some .int) jc_165 Q n 136 [some (.ref 0), some (.int x1), some (.int x2), some (.int x3), u4, some (.int x5), some (.int x6), some (.int z14.1)] [] z19.2 by
              obtain ⟨n, hn⟩ := hh
              exact ⟨n + 7, s_S_isOver (by omega) (by decide) h20 (And.intro (fun _ => hn) (fun zz => absurd zz c21))⟩
            obtain ⟨n, hn⟩ := s_F_goAll_136 hd (s_F_goAll_48 hd k) (u4 := u4) (u7 := some (.int z14.1)) h hQ
            exact ⟨n + 0, hn⟩
set_option maxRecDepth 20000 in
theorem s_F_goAll {N d : Nat} {x1 : Int32} {x2 : Int32} {x3 : Int32} (hd : 6 ≤ d) {σ : jw_M} {z : (Int32 × jw_M)} {Q : jw_Q} (h : f_F_goAll N x1 x2 x3 σ = some z) (hQ : Q (some (.int z.1)) (jx_ShC, z.2)) : jw_C jp_kd jp_ys d 165 [.ref 0, .int x1, .int x2, .int x3] (jx_ShC, σ) Q := by
  obtain ⟨d, rfl⟩ : ∃ e, d = e + 1 := ⟨d - 1, by omega⟩
  replace hd : 5 ≤ d := by omega
  refine jx_C rfl rfl ?_
  unfold f_F_goAll at h
  obtain ⟨z1, h2, h⟩ := Option.bind_eq_some_iff.mp h
  by_cases c3 : z1.1 = 0
  · rw [if_pos c3] at h
    suffices hh : ∃ n, jx_W jx_ShC d (some .int) jc_165 Q n 21 [some (.ref 0), some (.int x1), some (.int x2), some (.int x3), none, none, none, none] [] z1.2 by
      obtain ⟨n, hn⟩ := hh
      exact ⟨n + 5, s_H_isSheet (by omega) h2 (And.intro (fun _ => hn) (fun zz => absurd c3 zz))⟩
    cases h
    exact ⟨2, And.intro hQ (And.intro rfl rfl)⟩
  · rw [if_neg c3] at h
    suffices hh : ∃ n, jx_W jx_ShC d (some .int) jc_165 Q n 11 [some (.ref 0), some (.int x1), some (.int x2), some (.int x3), none, none, none, none] [] z1.2 by
      obtain ⟨n, hn⟩ := hh
      exact ⟨n + 5, s_H_isSheet (by omega) h2 (And.intro (fun zz => absurd zz c3) (fun _ => hn))⟩
    obtain ⟨z4, h5, h⟩ := Option.bind_eq_some_iff.mp h
    by_cases c6 : z4.1 = 0
    · rw [if_pos c6] at h
      suffices hh : ∃ n, jx_W jx_ShC d (some .int) jc_165 Q n 21 [some (.ref 0), some (.int x1), some (.int x2), some (.int x3), none, none, none, none] [] z4.2 by
        obtain ⟨n, hn⟩ := hh
        exact ⟨n + 5, s_F_isWithin (by omega) h5 (And.intro (fun zz => absurd c6 zz) (fun _ => hn))⟩
      cases h
      exact ⟨2, And.intro hQ (And.intro rfl rfl)⟩
    · rw [if_neg c6] at h
      suffices hh : ∃ n, jx_W jx_ShC d (some .int) jc_165 Q n 23 [some (.ref 0), some (.int x1), some (.int x2), some (.int x3), none, none, none, none] [] z4.2 by
        obtain ⟨n, hn⟩ := hh
        exact ⟨n + 5, s_F_isWithin (by omega) h5 (And.intro (fun _ => hn) (fun zz => absurd zz c6))⟩
      obtain ⟨z7, h8, h⟩ := Option.bind_eq_some_iff.mp h
      by_cases c9 : z7.1 = 0
      · rw [if_pos c9] at h
        suffices hh : ∃ n, jx_W jx_ShC d (some .int) jc_165 Q n 42 [some (.ref 0), some (.int x1), some (.int x2), some (.int x3), some (.int z7.1), none, none, none] [] z7.2 by
          obtain ⟨n, hn⟩ := hh
          exact ⟨n + 8, s_H_refusalAs (by omega) h8 (And.intro (fun _ => hn) (fun zz => absurd c9 zz))⟩
        obtain ⟨n, hn⟩ := s_F_goAll_48 hd N (u4 := some (.int z7.1)) (u7 := none) h hQ
        exact ⟨n + 4, hn⟩
      · rw [if_neg c9] at h
        suffices hh : ∃ n, jx_W jx_ShC d (some .int) jc_165 Q n 39 [some (.ref 0), some (.int x1), some (.int x2), some (.int x3), some (.int z7.1), none, none, none] [] z7.2 by
          obtain ⟨n, hn⟩ := hh
          exact ⟨n + 8, s_H_refusalAs (by omega) h8 (And.intro (fun zz => absurd zz c9) (fun _ => hn))⟩
        cases h
        exact ⟨2, And.intro hQ (And.intro rfl rfl)⟩
set_option maxRecDepth 20000 in
theorem s_F_wouldBe_62 {N d : Nat} {Q : jw_Q} (hd : 5 ≤ d) : ∀ (k : Nat) {x1 : Int32} {x2 : Int32} {x3 : Int32} {x5 : Int32} {x6 : Int32} {u4 : Option Value} {u7 : Option Value} {σ : jw_M} {z : (Int32 × jw_M)}, f_F_wouldBe_62 N k x1 x2 x3 x5 x6 σ = some z → Q (some (.int z.1)) (jx_ShC, z.2) → ∃ n, jx_W jx_ShC d (some .int) jc_166 Q n 62 [some (.ref 0), some (.int x1), some (.int x2), some (.int x3), u4, some (.int x5), some (.int x6), u7] [] σ
  | 0, _, _, _, _, _, _, _, _, _, h, _ => by cases h
  | k + 1, x1, x2, x3, x5, x6, u4, u7, σ, z, h, hQ => by
    rw [f_F_wouldBe_62] at h
    by_cases c12 : x3 ≤ x6
    · rw [if_pos c12] at h
      suffices hh : ∃ n, jx_W jx_ShC d (some .int) jc_166 Q n 153 [some (.ref 0), some (.int x1), some (.int x2), some (.int x3), u4, some (.int x5), some (.int x6), u7] [] σ by
        obtain ⟨n, hn⟩ := hh
        exact ⟨n + 3, And.intro (fun _ => hn) (fun zz => absurd c12 zz)⟩
      cases h
      exact ⟨2, And.intro hQ (And.intro rfl rfl)⟩
    · rw [if_neg c12] at h
      suffices hh : ∃ n, jx_W jx_ShC d (some .int) jc_166 Q n 68 [some (.ref 0), some (.int x1), some (.int x2), some (.int x3), u4, some (.int x5), some (.int x6), u7] [] σ by
        obtain ⟨n, hn⟩ := hh
        exact ⟨n + 3, And.intro (fun zz => absurd zz c12) (fun _ => hn)⟩
      obtain ⟨z13, h14, h⟩ := Option.bind_eq_some_iff.mp h
      by_cases c15 : z13.1 = 0
      · rw [if_pos c15] at h
        suffices hh : ∃ n, jx_W jx_ShC d (some .int) jc_166 Q n 83 [some (.ref 0), some (.int x1), some (.int x2), some (.int x3), u4, some (.int x5), some (.int x6), u7] [] z13.2 by
          obtain ⟨n, hn⟩ := hh
          exact ⟨n + 8, s_H_hasItem (by omega) h14 (And.intro (fun zz => absurd c15 zz) (fun _ => hn))⟩
        cases h
        exact ⟨2, And.intro hQ (And.intro rfl rfl)⟩
      · rw [if_neg c15] at h
        suffices hh : ∃ n, jx_W jx_ShC d (some .int) jc_166 Q n 86 [some (.ref 0), some (.int x1), some (.int x2), some (.int x3), u4, some (.int x5), some (.int x6), u7] [] z13.2 by
          obtain ⟨n, hn⟩ := hh
          exact ⟨n + 8, s_H_hasItem (by omega) h14 (And.intro (fun _ => hn) (fun zz => absurd zz c15))⟩
        obtain ⟨z16, h17, h⟩ := Option.bind_eq_some_iff.mp h
        obtain ⟨z18, h19, h⟩ := Option.bind_eq_some_iff.mp h
        by_cases c20 : z18.1 = 0
        · rw [if_pos c20] at h
          suffices hh : ∃ n, jx_W jx_ShC d (some .int) jc_166 Q n 126 [some (.ref 0), some (.int x1), some (.int x2), some (.int x3), u4, some (.int x5), some (.int x6), some (.int z16.1)] [] z18.2 by
            obtain ⟨n, hn⟩ := hh
            exact ⟨n + 13, s_H_itemAt (by omega) h17 (s_S_isAct (by omega) h19 (And.intro (fun _ => hn) (fun zz => absurd c20 zz)))⟩
          cases h
          exact ⟨2, And.intro hQ (And.intro rfl rfl)⟩
        · rw [if_neg c20] at h
          suffices hh : ∃ n, jx_W jx_ShC d (some .int) jc_166 Q n 112 [some (.ref 0), some (.int x1), some (.int x2), some (.int x3), u4, some (.int x5), some (.int x6), some (.int z16.1)] [] z18.2 by
            obtain ⟨n, hn⟩ := hh
            exact ⟨n + 13, s_H_itemAt (by omega) h17 (s_S_isAct (by omega) h19 (And.intro (fun zz => absurd zz c20) (fun _ => hn)))⟩
          obtain ⟨z21, h22, h⟩ := Option.bind_eq_some_iff.mp h
          by_cases c23 : z21.1 = 0
          · rw [if_pos c23] at h
            suffices hh : ∃ n, jx_W jx_ShC d (some .int) jc_166 Q n 129 [some (.ref 0), some (.int x1), some (.int x2), some (.int x3), u4, some (.int x5), some (.int x6), some (.int z16.1)] [] z21.2 by
              obtain ⟨n, hn⟩ := hh
              exact ⟨n + 6, s_S_isOver (by omega) (by decide) h22 (And.intro (fun _ => hn) (fun zz => absurd c23 zz))⟩
            obtain ⟨z24, h25, h⟩ := Option.bind_eq_some_iff.mp h
            obtain ⟨n, hn⟩ := s_F_wouldBe_62 hd k (u4 := (jw_clr u4)) (u7 := some (.int z16.1)) h hQ
            exact ⟨n + 11, s_S_goBy (by omega) (by decide) h25 (hn)⟩
          · rw [if_neg c23] at h
            suffices hh : ∃ n, jx_W jx_ShC d (some .int) jc_166 Q n 126 [some (.ref 0), some (.int x1), some (.int x2), some (.int x3), u4, some (.int x5), some (.int x6), some (.int z16.1)] [] z21.2 by
              obtain ⟨n, hn⟩ := hh
              exact ⟨n + 6, s_S_isOver (by omega) (by decide) h22 (And.intro (fun zz => absurd zz c23) (fun _ => hn))⟩
            cases h
            exact ⟨2, And.intro hQ (And.intro rfl rfl)⟩
set_option maxRecDepth 20000 in
theorem s_F_wouldBe {N d : Nat} {x1 : Int32} {x2 : Int32} {x3 : Int32} (hd : 6 ≤ d) {σ : jw_M} {z : (Int32 × jw_M)} {Q : jw_Q} (h : f_F_wouldBe N x1 x2 x3 σ = some z) (hQ : Q (some (.int z.1)) (jx_ShC, z.2)) : jw_C jp_kd jp_ys d 166 [.ref 0, .int x1, .int x2, .int x3] (jx_ShC, σ) Q := by
  obtain ⟨d, rfl⟩ : ∃ e, d = e + 1 := ⟨d - 1, by omega⟩
  replace hd : 5 ≤ d := by omega
  refine jx_C rfl rfl ?_
  unfold f_F_wouldBe at h
  obtain ⟨z1, h2, h⟩ := Option.bind_eq_some_iff.mp h
  by_cases c3 : z1.1 = 0
  · rw [if_pos c3] at h
    suffices hh : ∃ n, jx_W jx_ShC d (some .int) jc_166 Q n 21 [some (.ref 0), some (.int x1), some (.int x2), some (.int x3), none, none, none, none] [] z1.2 by
      obtain ⟨n, hn⟩ := hh
      exact ⟨n + 5, s_H_isSheet (by omega) h2 (And.intro (fun _ => hn) (fun zz => absurd c3 zz))⟩
    cases h
    exact ⟨2, And.intro hQ (And.intro rfl rfl)⟩
  · rw [if_neg c3] at h
    suffices hh : ∃ n, jx_W jx_ShC d (some .int) jc_166 Q n 11 [some (.ref 0), some (.int x1), some (.int x2), some (.int x3), none, none, none, none] [] z1.2 by
      obtain ⟨n, hn⟩ := hh
      exact ⟨n + 5, s_H_isSheet (by omega) h2 (And.intro (fun zz => absurd zz c3) (fun _ => hn))⟩
    obtain ⟨z4, h5, h⟩ := Option.bind_eq_some_iff.mp h
    by_cases c6 : z4.1 = 0
    · rw [if_pos c6] at h
      suffices hh : ∃ n, jx_W jx_ShC d (some .int) jc_166 Q n 21 [some (.ref 0), some (.int x1), some (.int x2), some (.int x3), none, none, none, none] [] z4.2 by
        obtain ⟨n, hn⟩ := hh
        exact ⟨n + 5, s_F_isWithin (by omega) h5 (And.intro (fun zz => absurd c6 zz) (fun _ => hn))⟩
      cases h
      exact ⟨2, And.intro hQ (And.intro rfl rfl)⟩
    · rw [if_neg c6] at h
      suffices hh : ∃ n, jx_W jx_ShC d (some .int) jc_166 Q n 23 [some (.ref 0), some (.int x1), some (.int x2), some (.int x3), none, none, none, none] [] z4.2 by
        obtain ⟨n, hn⟩ := hh
        exact ⟨n + 5, s_F_isWithin (by omega) h5 (And.intro (fun _ => hn) (fun zz => absurd zz c6))⟩
      obtain ⟨z7, h8, h⟩ := Option.bind_eq_some_iff.mp h
      by_cases c9 : z7.1 = 0
      · rw [if_pos c9] at h
        suffices hh : ∃ n, jx_W jx_ShC d (some .int) jc_166 Q n 42 [some (.ref 0), some (.int x1), some (.int x2), some (.int x3), some (.int z7.1), none, none, none] [] z7.2 by
          obtain ⟨n, hn⟩ := hh
          exact ⟨n + 8, s_H_refusalAs (by omega) h8 (And.intro (fun _ => hn) (fun zz => absurd c9 zz))⟩
        obtain ⟨z10, h11, h⟩ := Option.bind_eq_some_iff.mp h
        obtain ⟨n, hn⟩ := s_F_wouldBe_62 hd N (u4 := some (.int z7.1)) (u7 := none) h hQ
        exact ⟨n + 10, s_P_copyFrom (by omega) (by decide) h11 (hn)⟩
      · rw [if_neg c9] at h
        suffices hh : ∃ n, jx_W jx_ShC d (some .int) jc_166 Q n 39 [some (.ref 0), some (.int x1), some (.int x2), some (.int x3), some (.int z7.1), none, none, none] [] z7.2 by
          obtain ⟨n, hn⟩ := hh
          exact ⟨n + 8, s_H_refusalAs (by omega) h8 (And.intro (fun zz => absurd zz c9) (fun _ => hn))⟩
        cases h
        exact ⟨2, And.intro hQ (And.intro rfl rfl)⟩
set_option maxRecDepth 20000 in
theorem s_F_shelf_54 {N d : Nat} {Q : jw_Q} (hd : 1 ≤ d) {x1 : Int32} {x2 : Int32} {x3 : Int32} {y0 : Int32} {u4 : Option Value} {σ : jw_M} {z : (Int32 × jw_M)} (h : f_F_shelf_54 N x1 x2 x3 y0 σ = some z) (hQ : Q (some (.int z.1)) (jx_ShC, z.2)) : ∃ n, jx_W jx_ShC d (some .int) jc_167 Q n 54 [some (.ref 0), some (.int x1), some (.int x2), some (.int x3), u4] [.int y0] σ := by
  unfold f_F_shelf_54 at h
  by_cases c13 : y0 = 0
  · rw [if_pos c13] at h
    suffices hh : ∃ n, jx_W jx_ShC d (some .int) jc_167 Q n 61 [some (.ref 0), some (.int x1), some (.int x2), some (.int x3), some (.int y0)] [] σ by
      obtain ⟨n, hn⟩ := hh
      exact ⟨n + 3, And.intro (fun zz => absurd c13 zz) (fun _ => hn)⟩
    cases h
    exact ⟨2, And.intro hQ (And.intro rfl rfl)⟩
  · rw [if_neg c13] at h
    suffices hh : ∃ n, jx_W jx_ShC d (some .int) jc_167 Q n 63 [some (.ref 0), some (.int x1), some (.int x2), some (.int x3), some (.int y0)] [] σ by
      obtain ⟨n, hn⟩ := hh
      exact ⟨n + 3, And.intro (fun _ => hn) (fun zz => absurd zz c13)⟩
    obtain ⟨z14, h15, h⟩ := Option.bind_eq_some_iff.mp h
    cases h
    exact ⟨8, s_H_put (by omega) h15 (And.intro hQ (And.intro rfl rfl))⟩
set_option maxRecDepth 20000 in
theorem s_F_shelf_49 {N d : Nat} {Q : jw_Q} (hd : 1 ≤ d) {x1 : Int32} {x2 : Int32} {x3 : Int32} {u4 : Option Value} {σ : jw_M} {z : (Int32 × jw_M)} (h : f_F_shelf_49 N x1 x2 x3 σ = some z) (hQ : Q (some (.int z.1)) (jx_ShC, z.2)) : ∃ n, jx_W jx_ShC d (some .int) jc_167 Q n 49 [some (.ref 0), some (.int x1), some (.int x2), some (.int x3), u4] [] σ := by
  unfold f_F_shelf_49 at h
  obtain ⟨n, hn⟩ := s_F_shelf_54 hd (u4 := u4) h hQ
  exact ⟨n + 2, hn⟩
set_option maxRecDepth 20000 in
theorem s_F_shelf_44 {N d : Nat} {Q : jw_Q} (hd : 1 ≤ d) {x1 : Int32} {x2 : Int32} {x3 : Int32} {u4 : Option Value} {σ : jw_M} {z : (Int32 × jw_M)} (h : f_F_shelf_44 N x1 x2 x3 σ = some z) (hQ : Q (some (.int z.1)) (jx_ShC, z.2)) : ∃ n, jx_W jx_ShC d (some .int) jc_167 Q n 44 [some (.ref 0), some (.int x1), some (.int x2), some (.int x3), u4] [] σ := by
  unfold f_F_shelf_44 at h
  by_cases c12 : x2 = 2
  · rw [if_pos c12] at h
    suffices hh : ∃ n, jx_W jx_ShC d (some .int) jc_167 Q n 49 [some (.ref 0), some (.int x1), some (.int x2), some (.int x3), u4] [] σ by
      obtain ⟨n, hn⟩ := hh
      exact ⟨n + 3, And.intro (fun zz => absurd c12 zz) (fun _ => hn)⟩
    obtain ⟨n, hn⟩ := s_F_shelf_49 hd (u4 := u4) h hQ
    exact ⟨n + 0, hn⟩
  · rw [if_neg c12] at h
    suffices hh : ∃ n, jx_W jx_ShC d (some .int) jc_167 Q n 53 [some (.ref 0), some (.int x1), some (.int x2), some (.int x3), u4] [] σ by
      obtain ⟨n, hn⟩ := hh
      exact ⟨n + 3, And.intro (fun _ => hn) (fun zz => absurd zz c12)⟩
    obtain ⟨n, hn⟩ := s_F_shelf_54 hd (u4 := u4) h hQ
    exact ⟨n + 1, hn⟩
set_option maxRecDepth 20000 in
theorem s_F_shelf_28 {N d : Nat} {Q : jw_Q} (hd : 1 ≤ d) {x1 : Int32} {x2 : Int32} {x3 : Int32} {u4 : Option Value} {σ : jw_M} {z : (Int32 × jw_M)} (h : f_F_shelf_28 N x1 x2 x3 σ = some z) (hQ : Q (some (.int z.1)) (jx_ShC, z.2)) : ∃ n, jx_W jx_ShC d (some .int) jc_167 Q n 28 [some (.ref 0), some (.int x1), some (.int x2), some (.int x3), u4] [] σ := by
  unfold f_F_shelf_28 at h
  by_cases c8 : x2 = 1
  · rw [if_pos c8] at h
    suffices hh : ∃ n, jx_W jx_ShC d (some .int) jc_167 Q n 33 [some (.ref 0), some (.int x1), some (.int x2), some (.int x3), u4] [] σ by
      obtain ⟨n, hn⟩ := hh
      exact ⟨n + 3, And.intro (fun zz => absurd c8 zz) (fun _ => hn)⟩
    obtain ⟨z9, h10, h⟩ := Option.bind_eq_some_iff.mp h
    by_cases c11 : z9.1 = 0
    · rw [if_pos c11] at h
      suffices hh : ∃ n, jx_W jx_ShC d (some .int) jc_167 Q n 44 [some (.ref 0), some (.int x1), some (.int x2), some (.int x3), u4] [] z9.2 by
        obtain ⟨n, hn⟩ := hh
        exact ⟨n + 5, s_H_isSheet (by omega) h10 (And.intro (fun zz => absurd c11 zz) (fun _ => hn))⟩
      obtain ⟨n, hn⟩ := s_F_shelf_44 hd (u4 := u4) h hQ
      exact ⟨n + 0, hn⟩
    · rw [if_neg c11] at h
      suffices hh : ∃ n, jx_W jx_ShC d (some .int) jc_167 Q n 49 [some (.ref 0), some (.int x1), some (.int x2), some (.int x3), u4] [] z9.2 by
        obtain ⟨n, hn⟩ := hh
        exact ⟨n + 5, s_H_isSheet (by omega) h10 (And.intro (fun _ => hn) (fun zz => absurd zz c11))⟩
      obtain ⟨n, hn⟩ := s_F_shelf_49 hd (u4 := u4) h hQ
      exact ⟨n + 0, hn⟩
  · rw [if_neg c8] at h
    suffices hh : ∃ n, jx_W jx_ShC d (some .int) jc_167 Q n 44 [some (.ref 0), some (.int x1), some (.int x2), some (.int x3), u4] [] σ by
      obtain ⟨n, hn⟩ := hh
      exact ⟨n + 3, And.intro (fun _ => hn) (fun zz => absurd zz c8)⟩
    obtain ⟨n, hn⟩ := s_F_shelf_44 hd (u4 := u4) h hQ
    exact ⟨n + 0, hn⟩
set_option maxRecDepth 20000 in
theorem s_F_shelf {N d : Nat} {x1 : Int32} {x2 : Int32} {x3 : Int32} (hd : 2 ≤ d) {σ : jw_M} {z : (Int32 × jw_M)} {Q : jw_Q} (h : f_F_shelf N x1 x2 x3 σ = some z) (hQ : Q (some (.int z.1)) (jx_ShC, z.2)) : jw_C jp_kd jp_ys d 167 [.ref 0, .int x1, .int x2, .int x3] (jx_ShC, σ) Q := by
  obtain ⟨d, rfl⟩ : ∃ e, d = e + 1 := ⟨d - 1, by omega⟩
  replace hd : 1 ≤ d := by omega
  refine jx_C rfl rfl ?_
  unfold f_F_shelf at h
  obtain ⟨z1, h2, h⟩ := Option.bind_eq_some_iff.mp h
  by_cases c3 : z1.1 = 0
  · rw [if_pos c3] at h
    suffices hh : ∃ n, jx_W jx_ShC d (some .int) jc_167 Q n 11 [some (.ref 0), some (.int x1), some (.int x2), some (.int x3), none] [] z1.2 by
      obtain ⟨n, hn⟩ := hh
      exact ⟨n + 5, s_H_isShelf (by omega) h2 (And.intro (fun zz => absurd c3 zz) (fun _ => hn))⟩
    cases h
    exact ⟨2, And.intro hQ (And.intro rfl rfl)⟩
  · rw [if_neg c3] at h
    suffices hh : ∃ n, jx_W jx_ShC d (some .int) jc_167 Q n 13 [some (.ref 0), some (.int x1), some (.int x2), some (.int x3), none] [] z1.2 by
      obtain ⟨n, hn⟩ := hh
      exact ⟨n + 5, s_H_isShelf (by omega) h2 (And.intro (fun _ => hn) (fun zz => absurd zz c3))⟩
    by_cases c4 : x2 = 0
    · rw [if_pos c4] at h
      suffices hh : ∃ n, jx_W jx_ShC d (some .int) jc_167 Q n 17 [some (.ref 0), some (.int x1), some (.int x2), some (.int x3), none] [] z1.2 by
        obtain ⟨n, hn⟩ := hh
        exact ⟨n + 2, And.intro (fun zz => absurd c4 zz) (fun _ => hn)⟩
      obtain ⟨z5, h6, h⟩ := Option.bind_eq_some_iff.mp h
      by_cases c7 : z5.1 = 0
      · rw [if_pos c7] at h
        suffices hh : ∃ n, jx_W jx_ShC d (some .int) jc_167 Q n 28 [some (.ref 0), some (.int x1), some (.int x2), some (.int x3), none] [] z5.2 by
          obtain ⟨n, hn⟩ := hh
          exact ⟨n + 5, s_S_isShadow (by omega) h6 (And.intro (fun zz => absurd c7 zz) (fun _ => hn))⟩
        obtain ⟨n, hn⟩ := s_F_shelf_28 hd (u4 := none) h hQ
        exact ⟨n + 0, hn⟩
      · rw [if_neg c7] at h
        suffices hh : ∃ n, jx_W jx_ShC d (some .int) jc_167 Q n 49 [some (.ref 0), some (.int x1), some (.int x2), some (.int x3), none] [] z5.2 by
          obtain ⟨n, hn⟩ := hh
          exact ⟨n + 5, s_S_isShadow (by omega) h6 (And.intro (fun _ => hn) (fun zz => absurd zz c7))⟩
        obtain ⟨n, hn⟩ := s_F_shelf_49 hd (u4 := none) h hQ
        exact ⟨n + 0, hn⟩
    · rw [if_neg c4] at h
      suffices hh : ∃ n, jx_W jx_ShC d (some .int) jc_167 Q n 28 [some (.ref 0), some (.int x1), some (.int x2), some (.int x3), none] [] z1.2 by
        obtain ⟨n, hn⟩ := hh
        exact ⟨n + 2, And.intro (fun _ => hn) (fun zz => absurd zz c4)⟩
      obtain ⟨n, hn⟩ := s_F_shelf_28 hd (u4 := none) h hQ
      exact ⟨n + 0, hn⟩
set_option maxRecDepth 20000 in
theorem s_F_taken_33 {N d : Nat} {Q : jw_Q} (hd : 1 ≤ d) {x1 : Int32} {x2 : Int32} {u3 : Option Value} {σ : jw_M} {z : (Int32 × jw_M)} (h : f_F_taken_33 N x1 x2 σ = some z) (hQ : Q (some (.int z.1)) (jx_ShC, z.2)) : ∃ n, jx_W jx_ShC d (some .int) jc_168 Q n 33 [some (.ref 0), some (.int x1), some (.int x2), u3] [] σ := by
  unfold f_F_taken_33 at h
  cases c10 : jx_in x1 4 with
  | false => rw [c10, cond_false] at h; cases h
  | true =>
    rw [c10, cond_true] at h
    by_cases c11 : (σ.1 129 (x1).toNatClampNeg) = 1
    · rw [if_pos c11] at h
      suffices hh : ∃ n, jx_W jx_ShC d (some .int) jc_168 Q n 46 [some (.ref 0), some (.int x1), some (.int x2), u3] [] σ by
        obtain ⟨n, hn⟩ := hh
        exact ⟨n + 7, And.intro (jx_in_ok c10) (And.intro (fun zz => absurd c11 zz) (fun _ => hn))⟩
      by_cases c12 : (σ.1 131 (x1).toNatClampNeg) = (x2 - 10)
      · rw [if_pos c12] at h
        suffices hh : ∃ n, jx_W jx_ShC d (some .int) jc_168 Q n 62 [some (.ref 0), some (.int x1), some (.int x2), u3] [] σ by
          obtain ⟨n, hn⟩ := hh
          exact ⟨n + 9, And.intro (jx_in_ok c10) (And.intro (fun zz => absurd c12 zz) (fun _ => hn))⟩
        cases h
        exact ⟨7, And.intro (jx_in_ok c10) (And.intro hQ (And.intro rfl rfl))⟩
      · rw [if_neg c12] at h
        suffices hh : ∃ n, jx_W jx_ShC d (some .int) jc_168 Q n 74 [some (.ref 0), some (.int x1), some (.int x2), u3] [] σ by
          obtain ⟨n, hn⟩ := hh
          exact ⟨n + 9, And.intro (jx_in_ok c10) (And.intro (fun _ => hn) (fun zz => absurd zz c12))⟩
        cases h
        exact ⟨2, And.intro hQ (And.intro rfl rfl)⟩
    · rw [if_neg c11] at h
      suffices hh : ∃ n, jx_W jx_ShC d (some .int) jc_168 Q n 77 [some (.ref 0), some (.int x1), some (.int x2), u3] [] σ by
        obtain ⟨n, hn⟩ := hh
        exact ⟨n + 7, And.intro (jx_in_ok c10) (And.intro (fun _ => hn) (fun zz => absurd zz c11))⟩
      obtain ⟨z13, h14, h⟩ := Option.bind_eq_some_iff.mp h
      obtain ⟨z15, h16, h⟩ := Option.bind_eq_some_iff.mp h
      by_cases c17 : z15.1 = 0
      · rw [if_pos c17] at h
        suffices hh : ∃ n, jx_W jx_ShC d (some .int) jc_168 Q n 97 [some (.ref 0), some (.int x1), some (.int x2), some (.int z13.1)] [] z15.2 by
          obtain ⟨n, hn⟩ := hh
          exact ⟨n + 10, s_H_shadowOn (by omega) h14 (s_S_isShadow (by omega) h16 (And.intro (fun zz => absurd c17 zz) (fun _ => hn)))⟩
        cases h
        exact ⟨2, And.intro hQ (And.intro rfl rfl)⟩
      · rw [if_neg c17] at h
        suffices hh : ∃ n, jx_W jx_ShC d (some .int) jc_168 Q n 100 [some (.ref 0), some (.int x1), some (.int x2), some (.int z13.1)] [] z15.2 by
          obtain ⟨n, hn⟩ := hh
          exact ⟨n + 10, s_H_shadowOn (by omega) h14 (s_S_isShadow (by omega) h16 (And.intro (fun _ => hn) (fun zz => absurd zz c17)))⟩
        by_cases c18 : 5 < x2
        · rw [if_pos c18] at h
          suffices hh : ∃ n, jx_W jx_ShC d (some .int) jc_168 Q n 125 [some (.ref 0), some (.int x1), some (.int x2), some (.int z13.1)] [] z15.2 by
            obtain ⟨n, hn⟩ := hh
            exact ⟨n + 3, And.intro (fun _ => hn) (fun zz => absurd c18 zz)⟩
          cases h
          exact ⟨2, And.intro hQ (And.intro rfl rfl)⟩
        · rw [if_neg c18] at h
          suffices hh : ∃ n, jx_W jx_ShC d (some .int) jc_168 Q n 105 [some (.ref 0), some (.int x1), some (.int x2), some (.int z13.1)] [] z15.2 by
            obtain ⟨n, hn⟩ := hh
            exact ⟨n + 3, And.intro (fun zz => absurd zz c18) (fun _ => hn)⟩
          cases c19 : jx_in (z13.1) 6 with
          | false => rw [c19, cond_false] at h; cases h
          | true =>
            rw [c19, cond_true] at h
            obtain ⟨z20, h21, h⟩ := Option.bind_eq_some_iff.mp h
            by_cases c22 : z20.1 = 0
            · rw [if_pos c22] at h
              suffices hh : ∃ n, jx_W jx_ShC d (some .int) jc_168 Q n 125 [some (.ref 0), some (.int x1), some (.int x2), some (.int z13.1)] [] z20.2 by
                obtain ⟨n, hn⟩ := hh
                exact ⟨n + 8, And.intro (jx_in_ok c19) (s_F_isOrIsUnder (by omega) h21 (And.intro (fun _ => hn) (fun zz => absurd c22 zz)))⟩
              cases h
              exact ⟨2, And.intro hQ (And.intro rfl rfl)⟩
            · rw [if_neg c22] at h
              suffices hh : ∃ n, jx_W jx_ShC d (some .int) jc_168 Q n 121 [some (.ref 0), some (.int x1), some (.int x2), some (.int z13.1)] [] z20.2 by
                obtain ⟨n, hn⟩ := hh
                exact ⟨n + 8, And.intro (jx_in_ok c19) (s_F_isOrIsUnder (by omega) h21 (And.intro (fun zz => absurd zz c22) (fun _ => hn)))⟩
              cases h
              exact ⟨3, And.intro hQ (And.intro rfl rfl)⟩
set_option maxRecDepth 20000 in
theorem s_F_taken {N d : Nat} {x1 : Int32} {x2 : Int32} (hd : 2 ≤ d) {σ : jw_M} {z : (Int32 × jw_M)} {Q : jw_Q} (h : f_F_taken N x1 x2 σ = some z) (hQ : Q (some (.int z.1)) (jx_ShC, z.2)) : jw_C jp_kd jp_ys d 168 [.ref 0, .int x1, .int x2] (jx_ShC, σ) Q := by
  obtain ⟨d, rfl⟩ : ∃ e, d = e + 1 := ⟨d - 1, by omega⟩
  replace hd : 1 ≤ d := by omega
  refine jx_C rfl rfl ?_
  unfold f_F_taken at h
  obtain ⟨z1, h2, h⟩ := Option.bind_eq_some_iff.mp h
  by_cases c3 : z1.1 = 0
  · rw [if_pos c3] at h
    suffices hh : ∃ n, jx_W jx_ShC d (some .int) jc_168 Q n 31 [some (.ref 0), some (.int x1), some (.int x2), none] [] z1.2 by
      obtain ⟨n, hn⟩ := hh
      exact ⟨n + 5, s_H_isShelf (by omega) h2 (And.intro (fun _ => hn) (fun zz => absurd c3 zz))⟩
    cases h
    exact ⟨2, And.intro hQ (And.intro rfl rfl)⟩
  · rw [if_neg c3] at h
    suffices hh : ∃ n, jx_W jx_ShC d (some .int) jc_168 Q n 11 [some (.ref 0), some (.int x1), some (.int x2), none] [] z1.2 by
      obtain ⟨n, hn⟩ := hh
      exact ⟨n + 5, s_H_isShelf (by omega) h2 (And.intro (fun zz => absurd zz c3) (fun _ => hn))⟩
    obtain ⟨z4, h5, h⟩ := Option.bind_eq_some_iff.mp h
    by_cases c6 : z4.1 = 0
    · rw [if_pos c6] at h
      suffices hh : ∃ n, jx_W jx_ShC d (some .int) jc_168 Q n 20 [some (.ref 0), some (.int x1), some (.int x2), none] [] z4.2 by
        obtain ⟨n, hn⟩ := hh
        exact ⟨n + 5, s_F_isWithin (by omega) h5 (And.intro (fun zz => absurd c6 zz) (fun _ => hn))⟩
      obtain ⟨z7, h8, h⟩ := Option.bind_eq_some_iff.mp h
      by_cases c9 : z7.1 = 0
      · rw [if_pos c9] at h
        suffices hh : ∃ n, jx_W jx_ShC d (some .int) jc_168 Q n 31 [some (.ref 0), some (.int x1), some (.int x2), none] [] z7.2 by
          obtain ⟨n, hn⟩ := hh
          exact ⟨n + 5, s_F_isWithin (by omega) h8 (And.intro (fun zz => absurd c9 zz) (fun _ => hn))⟩
        cases h
        exact ⟨2, And.intro hQ (And.intro rfl rfl)⟩
      · rw [if_neg c9] at h
        suffices hh : ∃ n, jx_W jx_ShC d (some .int) jc_168 Q n 33 [some (.ref 0), some (.int x1), some (.int x2), none] [] z7.2 by
          obtain ⟨n, hn⟩ := hh
          exact ⟨n + 5, s_F_isWithin (by omega) h8 (And.intro (fun _ => hn) (fun zz => absurd zz c9))⟩
        obtain ⟨n, hn⟩ := s_F_taken_33 hd (u3 := none) h hQ
        exact ⟨n + 0, hn⟩
    · rw [if_neg c6] at h
      suffices hh : ∃ n, jx_W jx_ShC d (some .int) jc_168 Q n 33 [some (.ref 0), some (.int x1), some (.int x2), none] [] z4.2 by
        obtain ⟨n, hn⟩ := hh
        exact ⟨n + 5, s_F_isWithin (by omega) h5 (And.intro (fun _ => hn) (fun zz => absurd zz c6))⟩
      obtain ⟨n, hn⟩ := s_F_taken_33 hd (u3 := none) h hQ
      exact ⟨n + 0, hn⟩
