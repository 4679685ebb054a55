set_option maxRecDepth 20000 in
theorem s_M_readAll_4 {N d : Nat} {Dr : Nat} {Rec : jw_M → Option jw_M} {Q : jw_Q} (hRec : ∀ {d : Nat} {σ : jw_M} {z : jw_M} {Q : jw_Q}, Dr ≤ d → Rec  σ = some z → Q none (jx_ShM, z) → jw_C jp_kd jp_ys d 219 [.ref 0] (jx_ShM, σ) Q) (hd0 : 1 + Dr ≤ d) (hd : 6 ≤ d) : ∀ (k : Nat) {σ : jw_M} {z : jw_M}, f_M_readAll_4 N Rec k  σ = some z → Q none (jx_ShM, z) → ∃ n, jx_W jx_ShM d none jc_218 Q n 4 [some (.ref 0)] [] σ
  | 0, _, _, h, _ => by cases h
  | k + 1, σ, z, h, hQ => by
    rw [f_M_readAll_4] at h
    by_cases c3 : (σ.1 0 13) = 0
    · rw [if_pos c3] at h
      suffices hh : ∃ n, jx_W jx_ShM d none jc_218 Q n 45 [some (.ref 0)] [] σ by
        obtain ⟨n, hn⟩ := hh
        exact ⟨n + 3, And.intro (fun _ => hn) (fun zz => absurd c3 zz)⟩
      cases h
      exact ⟨1, And.intro hQ (And.intro rfl rfl)⟩
    · rw [if_neg c3] at h
      suffices hh : ∃ n, jx_W jx_ShM d none jc_218 Q n 11 [some (.ref 0)] [] σ by
        obtain ⟨n, hn⟩ := hh
        exact ⟨n + 3, And.intro (fun zz => absurd zz c3) (fun _ => hn)⟩
      obtain ⟨z4, h5, h⟩ := Option.bind_eq_some_iff.mp h
      by_cases c6 : z4.1 = 0
      · rw [if_pos c6] at h
        suffices hh : ∃ n, jx_W jx_ShM d none jc_218 Q n 45 [some (.ref 0)] [] z4.2 by
          obtain ⟨n, hn⟩ := hh
          exact ⟨n + 4, s_M_isWord (by omega) h5 (And.intro (fun _ => hn) (fun zz => absurd c6 zz))⟩
        cases h
        exact ⟨1, And.intro hQ (And.intro rfl rfl)⟩
      · rw [if_neg c6] at h
        suffices hh : ∃ n, jx_W jx_ShM d none jc_218 Q n 21 [some (.ref 0)] [] z4.2 by
          obtain ⟨n, hn⟩ := hh
          exact ⟨n + 4, s_M_isWord (by omega) h5 (And.intro (fun zz => absurd zz c6) (fun _ => hn))⟩
        obtain ⟨z7, h8, h⟩ := Option.bind_eq_some_iff.mp h
        obtain ⟨z9, h10, h⟩ := Option.bind_eq_some_iff.mp h
        by_cases c11 : (z9.1 0 13) = 0
        · rw [if_pos c11] at h
          suffices hh : ∃ n, jx_W jx_ShM d none jc_218 Q n 4 [some (.ref 0)] [] z9 by
            obtain ⟨n, hn⟩ := hh
            exact ⟨n + 7, s_M_advance (by omega) h8 (s_M_readOne hRec (by omega) (by omega) h10 (And.intro (fun _ => hn) (fun zz => absurd c11 zz)))⟩
          obtain ⟨n, hn⟩ := s_M_readAll_4 hRec hd0 hd k h hQ
          exact ⟨n + 0, hn⟩
        · rw [if_neg c11] at h
          suffices hh : ∃ n, jx_W jx_ShM d none jc_218 Q n 36 [some (.ref 0)] [] z9 by
            obtain ⟨n, hn⟩ := hh
            exact ⟨n + 7, s_M_advance (by omega) h8 (s_M_readOne hRec (by omega) (by omega) h10 (And.intro (fun zz => absurd zz c11) (fun _ => hn)))⟩
          obtain ⟨z12, h13, h⟩ := Option.bind_eq_some_iff.mp h
          obtain ⟨n, hn⟩ := s_M_readAll_4 hRec hd0 hd k h hQ
          exact ⟨n + 5, s_M_step (by omega) h13 (hn)⟩
set_option maxRecDepth 20000 in
theorem s_M_readAll {N d : Nat} {Dr : Nat} {Rec : jw_M → Option jw_M} (hRec : ∀ {d : Nat} {σ : jw_M} {z : jw_M} {Q : jw_Q}, Dr ≤ d → Rec  σ = some z → Q none (jx_ShM, z) → jw_C jp_kd jp_ys d 219 [.ref 0] (jx_ShM, σ) Q) (hd0 : 2 + Dr ≤ d) (hd : 7 ≤ d) {σ : jw_M} {z : jw_M} {Q : jw_Q} (h : f_M_readAll N Rec  σ = some z) (hQ : Q none (jx_ShM, z)) : jw_C jp_kd jp_ys d 218 [.ref 0] (jx_ShM, σ) Q := by
  obtain ⟨d, rfl⟩ : ∃ e, d = e + 1 := ⟨d - 1, by omega⟩
  replace hd0 : 1 + Dr ≤ d := by omega
  replace hd : 6 ≤ d := by omega
  refine jx_C rfl rfl ?_
  unfold f_M_readAll at h
  obtain ⟨z1, h2, h⟩ := Option.bind_eq_some_iff.mp h
  obtain ⟨n, hn⟩ := s_M_readAll_4 hRec hd0 hd N h hQ
  exact ⟨n + 2, s_M_readOne hRec (by omega) (by omega) h2 (hn)⟩
set_option maxRecDepth 20000 in
theorem s_M_readCondition_12 {N d : Nat} {Dr : Nat} {Rec : jw_M → Option jw_M} {Q : jw_Q} (hRec : ∀ {d : Nat} {σ : jw_M} {z : jw_M} {Q : jw_Q}, Dr ≤ d → Rec  σ = some z → Q none (jx_ShM, z) → jw_C jp_kd jp_ys d 219 [.ref 0] (jx_ShM, σ) Q) (hd0 : 2 + Dr ≤ d) (hd : 7 ≤ d) : ∀ (k : Nat) {σ : jw_M} {z : jw_M}, f_M_readCondition_12 N Rec k  σ = some z → Q none (jx_ShM, z) → ∃ n, jx_W jx_ShM d none jc_219 Q n 12 [some (.ref 0)] [] σ
  | 0, _, _, h, _ => by cases h
  | k + 1, σ, z, h, hQ => by
    rw [f_M_readCondition_12] at h
    by_cases c4 : (σ.1 0 13) = 0
    · rw [if_pos c4] at h
      suffices hh : ∃ n, jx_W jx_ShM d none jc_219 Q n 53 [some (.ref 0)] [] σ by
        obtain ⟨n, hn⟩ := hh
        exact ⟨n + 3, And.intro (fun _ => hn) (fun zz => absurd c4 zz)⟩
      cases h
      exact ⟨1, And.intro hQ (And.intro rfl rfl)⟩
    · rw [if_neg c4] at h
      suffices hh : ∃ n, jx_W jx_ShM d none jc_219 Q n 19 [some (.ref 0)] [] σ by
        obtain ⟨n, hn⟩ := hh
        exact ⟨n + 3, And.intro (fun zz => absurd zz c4) (fun _ => hn)⟩
      obtain ⟨z5, h6, h⟩ := Option.bind_eq_some_iff.mp h
      by_cases c7 : z5.1 = 0
      · rw [if_pos c7] at h
        suffices hh : ∃ n, jx_W jx_ShM d none jc_219 Q n 53 [some (.ref 0)] [] z5.2 by
          obtain ⟨n, hn⟩ := hh
          exact ⟨n + 4, s_M_isWord (by omega) h6 (And.intro (fun _ => hn) (fun zz => absurd c7 zz))⟩
        cases h
        exact ⟨1, And.intro hQ (And.intro rfl rfl)⟩
      · rw [if_neg c7] at h
        suffices hh : ∃ n, jx_W jx_ShM d none jc_219 Q n 29 [some (.ref 0)] [] z5.2 by
          obtain ⟨n, hn⟩ := hh
          exact ⟨n + 4, s_M_isWord (by omega) h6 (And.intro (fun zz => absurd zz c7) (fun _ => hn))⟩
        obtain ⟨z8, h9, h⟩ := Option.bind_eq_some_iff.mp h
        obtain ⟨z10, h11, h⟩ := Option.bind_eq_some_iff.mp h
        by_cases c12 : (z10.1 0 13) = 0
        · rw [if_pos c12] at h
          suffices hh : ∃ n, jx_W jx_ShM d none jc_219 Q n 12 [some (.ref 0)] [] z10 by
            obtain ⟨n, hn⟩ := hh
            exact ⟨n + 7, s_M_advance (by omega) h9 (s_M_readAll hRec (by omega) (by omega) h11 (And.intro (fun _ => hn) (fun zz => absurd c12 zz)))⟩
          obtain ⟨n, hn⟩ := s_M_readCondition_12 hRec hd0 hd k h hQ
          exact ⟨n + 0, hn⟩
        · rw [if_neg c12] at h
          suffices hh : ∃ n, jx_W jx_ShM d none jc_219 Q n 44 [some (.ref 0)] [] z10 by
            obtain ⟨n, hn⟩ := hh
            exact ⟨n + 7, s_M_advance (by omega) h9 (s_M_readAll hRec (by omega) (by omega) h11 (And.intro (fun zz => absurd zz c12) (fun _ => hn)))⟩
          obtain ⟨z13, h14, h⟩ := Option.bind_eq_some_iff.mp h
          obtain ⟨n, hn⟩ := s_M_readCondition_12 hRec hd0 hd k h hQ
          exact ⟨n + 5, s_M_step (by omega) h14 (hn)⟩
set_option maxRecDepth 20000 in
theorem s_M_readCondition {N : Nat} : ∀ (r : Nat) {d : Nat} {σ : jw_M} {z : jw_M} {Q : jw_Q}, 8 + 3 * r ≤ d → f_M_readCondition N r  σ = some z → Q none (jx_ShM, z) → jw_C jp_kd jp_ys d 219 [.ref 0] (jx_ShM, σ) Q
  | 0, _, _, _, _, _, h, _ => by cases h
  | r + 1, d, σ, z, Q, hd, h, hQ => by
    obtain ⟨d, rfl⟩ : ∃ e, d = e + 1 := ⟨d - 1, by omega⟩
    have hd0 : 2 + (8 + 3 * r) ≤ d := by omega
    replace hd : 7 ≤ d := by omega
    have hRec := @s_M_readCondition N r
    refine jx_C rfl rfl ?_
    rw [f_M_readCondition] at h
    by_cases c1 : (σ.1 0 13) = 0
    · rw [if_pos c1] at h
      suffices hh : ∃ n, jx_W jx_ShM d none jc_219 Q n 7 [some (.ref 0)] [] σ by
        obtain ⟨n, hn⟩ := hh
        exact ⟨n + 3, And.intro (fun zz => absurd c1 zz) (fun _ => hn)⟩
      cases h
      exact ⟨1, And.intro hQ (And.intro rfl rfl)⟩
    · rw [if_neg c1] at h
      suffices hh : ∃ n, jx_W jx_ShM d none jc_219 Q n 8 [some (.ref 0)] [] σ by
        obtain ⟨n, hn⟩ := hh
        exact ⟨n + 3, And.intro (fun _ => hn) (fun zz => absurd zz c1)⟩
      obtain ⟨z2, h3, h⟩ := Option.bind_eq_some_iff.mp h
      obtain ⟨n, hn⟩ := s_M_readCondition_12 hRec hd0 hd N h hQ
      exact ⟨n + 2, s_M_readAll hRec (by omega) (by omega) h3 (hn)⟩
set_option maxRecDepth 20000 in
theorem s_M_readRule_164 {N d : Nat} {Q : jw_Q} (hd : 200 ≤ d) {x1 : Int32} {x2 : Int32} {x3 : Int32} {x4 : Int32} {y1 : Int32} {σ : jw_M} {z : jw_M} (h : f_M_readRule_164 N x1 x2 x3 x4 y1 σ = some z) (hQ : Q none (jx_ShM, z)) : ∃ n, jx_W jx_ShM d none jc_220 Q n 164 [some (.ref 0), some (.int x1), some (.int x2), some (.int x3), some (.int x4)] [.int y1, .ref 0] σ := by
  unfold f_M_readRule_164 at h
  by_cases c20 : y1 = 0 ∨ y1 = 1
  · rw [if_pos c20] at h
    by_cases c21 : ((jx_w σ 0 13 y1).1 0 13) = 0
    · rw [if_pos c21] at h
      suffices hh : ∃ n, jx_W jx_ShM d none jc_220 Q n 226 [some (.ref 0), some (.int x1), some (.int x2), some (.int x3), some (.int x4)] [] (jx_w σ 0 13 y1) by
        obtain ⟨n, hn⟩ := hh
        exact ⟨n + 4, And.intro c20 (And.intro (fun _ => hn) (fun zz => absurd c21 zz))⟩
      cases h
      exact ⟨1, And.intro hQ (And.intro rfl rfl)⟩
    · rw [if_neg c21] at h
      suffices hh : ∃ n, jx_W jx_ShM d none jc_220 Q n 174 [some (.ref 0), some (.int x1), some (.int x2), some (.int x3), some (.int x4)] [] (jx_w σ 0 13 y1) by
        obtain ⟨n, hn⟩ := hh
        exact ⟨n + 4, And.intro c20 (And.intro (fun zz => absurd zz c21) (fun _ => hn))⟩
      obtain ⟨z22, h23, h⟩ := Option.bind_eq_some_iff.mp h
      cases c24 : jx_in (4 * x1) 32 with
      | false => rw [c24, cond_false] at h; cases h
      | true =>
        rw [c24, cond_true] at h
        cases c25 : jx_in ((4 * x1) + 1) 32 with
        | false => rw [c25, cond_false] at h; cases h
        | true =>
          rw [c25, cond_true] at h
          cases c26 : jx_in ((4 * x1) + 2) 32 with
          | false => rw [c26, cond_false] at h; cases h
          | true =>
            rw [c26, cond_true] at h
            cases c27 : jx_in ((4 * x1) + 3) 32 with
            | false => rw [c27, cond_false] at h; cases h
            | true =>
              rw [c27, cond_true] at h
              cases h
              exact ⟨40, s_M_advance (by omega) h23 (And.intro (jx_in_ok c24) (And.intro (jx_in_ok c25) (And.intro (jx_in_ok c26) (And.intro (jx_in_ok c27) (And.intro hQ (And.intro rfl rfl))))))⟩
  · rw [if_neg c20] at h
    cases h
set_option maxRecDepth 20000 in
theorem s_M_readRule_163 {N d : Nat} {Q : jw_Q} (hd : 200 ≤ d) {x1 : Int32} {x2 : Int32} {x3 : Int32} {x4 : Int32} {σ : jw_M} {z : jw_M} (h : f_M_readRule_163 N x1 x2 x3 x4 σ = some z) (hQ : Q none (jx_ShM, z)) : ∃ n, jx_W jx_ShM d none jc_220 Q n 163 [some (.ref 0), some (.int x1), some (.int x2), some (.int x3), some (.int x4)] [.ref 0] σ := by
  unfold f_M_readRule_163 at h
  obtain ⟨n, hn⟩ := s_M_readRule_164 hd h hQ
  exact ⟨n + 1, hn⟩
set_option maxRecDepth 20000 in
theorem s_M_readRule_142 {N d : Nat} {Q : jw_Q} (hd : 200 ≤ d) {x1 : Int32} {x2 : Int32} {x3 : Int32} {x4 : Int32} {σ : jw_M} {z : jw_M} (h : f_M_readRule_142 N x1 x2 x3 x4 σ = some z) (hQ : Q none (jx_ShM, z)) : ∃ n, jx_W jx_ShM d none jc_220 Q n 142 [some (.ref 0), some (.int x1), some (.int x2), some (.int x3), some (.int x4)] [] σ := by
  unfold f_M_readRule_142 at h
  by_cases c19 : (σ.1 0 13) = 0
  · rw [if_pos c19] at h
    suffices hh : ∃ n, jx_W jx_ShM d none jc_220 Q n 163 [some (.ref 0), some (.int x1), some (.int x2), some (.int x3), some (.int x4)] [.ref 0] σ by
      obtain ⟨n, hn⟩ := hh
      exact ⟨n + 4, And.intro (fun _ => hn) (fun zz => absurd c19 zz)⟩
    obtain ⟨n, hn⟩ := s_M_readRule_163 hd h hQ
    exact ⟨n + 0, hn⟩
  · rw [if_neg c19] at h
    suffices hh : ∃ n, jx_W jx_ShM d none jc_220 Q n 150 [some (.ref 0), some (.int x1), some (.int x2), some (.int x3), some (.int x4)] [.ref 0] σ by
      obtain ⟨n, hn⟩ := hh
      exact ⟨n + 4, And.intro (fun zz => absurd zz c19) (fun _ => hn)⟩
    obtain ⟨z28, h29, h⟩ := Option.bind_eq_some_iff.mp h
    by_cases c30 : z28.1 = 0
    · rw [if_pos c30] at h
      suffices hh : ∃ n, jx_W jx_ShM d none jc_220 Q n 163 [some (.ref 0), some (.int x1), some (.int x2), some (.int x3), some (.int x4)] [.ref 0] z28.2 by
        obtain ⟨n, hn⟩ := hh
        exact ⟨n + 4, s_M_isMark (by omega) h29 (And.intro (fun _ => hn) (fun zz => absurd c30 zz))⟩
      obtain ⟨n, hn⟩ := s_M_readRule_163 hd h hQ
      exact ⟨n + 0, hn⟩
    · rw [if_neg c30] at h
      suffices hh : ∃ n, jx_W jx_ShM d none jc_220 Q n 159 [some (.ref 0), some (.int x1), some (.int x2), some (.int x3), some (.int x4)] [.ref 0] z28.2 by
        obtain ⟨n, hn⟩ := hh
        exact ⟨n + 4, s_M_isMark (by omega) h29 (And.intro (fun zz => absurd zz c30) (fun _ => hn))⟩
      obtain ⟨n, hn⟩ := s_M_readRule_164 hd h hQ
      exact ⟨n + 2, hn⟩
set_option maxRecDepth 20000 in
theorem s_M_readRule_128 {N d : Nat} {Q : jw_Q} (hd : 200 ≤ d) {x1 : Int32} {x2 : Int32} {x3 : Int32} {x4 : Int32} {y1 : Int32} {σ : jw_M} {z : jw_M} (h : f_M_readRule_128 N x1 x2 x3 x4 y1 σ = some z) (hQ : Q none (jx_ShM, z)) : ∃ n, jx_W jx_ShM d none jc_220 Q n 128 [some (.ref 0), some (.int x1), some (.int x2), some (.int x3), some (.int x4)] [.int y1, .ref 0] σ := by
  unfold f_M_readRule_128 at h
  by_cases c17 : y1 = 0 ∨ y1 = 1
  · rw [if_pos c17] at h
    by_cases c18 : ((jx_w σ 0 13 y1).1 0 13) = 0
    · rw [if_pos c18] at h
      suffices hh : ∃ n, jx_W jx_ShM d none jc_220 Q n 142 [some (.ref 0), some (.int x1), some (.int x2), some (.int x3), some (.int x4)] [] (jx_w σ 0 13 y1) by
        obtain ⟨n, hn⟩ := hh
        exact ⟨n + 4, And.intro c17 (And.intro (fun _ => hn) (fun zz => absurd c18 zz))⟩
      obtain ⟨n, hn⟩ := s_M_readRule_142 hd h hQ
      exact ⟨n + 0, hn⟩
    · rw [if_neg c18] at h
      suffices hh : ∃ n, jx_W jx_ShM d none jc_220 Q n 138 [some (.ref 0), some (.int x1), some (.int x2), some (.int x3), some (.int x4)] [] (jx_w σ 0 13 y1) by
        obtain ⟨n, hn⟩ := hh
        exact ⟨n + 4, And.intro c17 (And.intro (fun zz => absurd zz c18) (fun _ => hn))⟩
      obtain ⟨z31, h32, h⟩ := Option.bind_eq_some_iff.mp h
      obtain ⟨n, hn⟩ := s_M_readRule_142 hd h hQ
      exact ⟨n + 2, s_M_advance (by omega) h32 (hn)⟩
  · rw [if_neg c17] at h
    cases h
set_option maxRecDepth 20000 in
theorem s_M_readRule_127 {N d : Nat} {Q : jw_Q} (hd : 200 ≤ d) {x1 : Int32} {x2 : Int32} {x3 : Int32} {x4 : Int32} {σ : jw_M} {z : jw_M} (h : f_M_readRule_127 N x1 x2 x3 x4 σ = some z) (hQ : Q none (jx_ShM, z)) : ∃ n, jx_W jx_ShM d none jc_220 Q n 127 [some (.ref 0), some (.int x1), some (.int x2), some (.int x3), some (.int x4)] [.ref 0] σ := by
  unfold f_M_readRule_127 at h
  obtain ⟨n, hn⟩ := s_M_readRule_128 hd h hQ
  exact ⟨n + 1, hn⟩
set_option maxRecDepth 20000 in
theorem s_M_readRule_108 {N d : Nat} {Q : jw_Q} (hd : 200 ≤ d) {x1 : Int32} {x2 : Int32} {x3 : Int32} {y0 : Int32} {u4 : Option Value} {σ : jw_M} {z : jw_M} (h : f_M_readRule_108 N x1 x2 x3 y0 σ = some z) (hQ : Q none (jx_ShM, z)) : ∃ n, jx_W jx_ShM d none jc_220 Q n 108 [some (.ref 0), some (.int x1), some (.int x2), some (.int x3), u4] [.int y0] σ := by
  unfold f_M_readRule_108 at h
  by_cases c16 : (σ.1 0 13) = 0
  · rw [if_pos c16] at h
    suffices hh : ∃ n, jx_W jx_ShM d none jc_220 Q n 127 [some (.ref 0), some (.int x1), some (.int x2), some (.int x3), some (.int y0)] [.ref 0] σ by
      obtain ⟨n, hn⟩ := hh
      exact ⟨n + 5, And.intro (fun _ => hn) (fun zz => absurd c16 zz)⟩
    obtain ⟨n, hn⟩ := s_M_readRule_127 hd h hQ
    exact ⟨n + 0, hn⟩
  · rw [if_neg c16] at h
    suffices hh : ∃ n, jx_W jx_ShM d none jc_220 Q n 118 [some (.ref 0), some (.int x1), some (.int x2), some (.int x3), some (.int y0)] [.ref 0] σ by
      obtain ⟨n, hn⟩ := hh
      exact ⟨n + 5, And.intro (fun zz => absurd zz c16) (fun _ => hn)⟩
    by_cases c33 : y0 < 0
    · rw [if_pos c33] at h
      suffices hh : ∃ n, jx_W jx_ShM d none jc_220 Q n 127 [some (.ref 0), some (.int x1), some (.int x2), some (.int x3), some (.int y0)] [.ref 0] σ by
        obtain ⟨n, hn⟩ := hh
        exact ⟨n + 2, And.intro (fun _ => hn) (fun zz => absurd c33 zz)⟩
      obtain ⟨n, hn⟩ := s_M_readRule_127 hd h hQ
      exact ⟨n + 0, hn⟩
    · rw [if_neg c33] at h
      suffices hh : ∃ n, jx_W jx_ShM d none jc_220 Q n 123 [some (.ref 0), some (.int x1), some (.int x2), some (.int x3), some (.int y0)] [.ref 0] σ by
        obtain ⟨n, hn⟩ := hh
        exact ⟨n + 2, And.intro (fun zz => absurd zz c33) (fun _ => hn)⟩
      obtain ⟨n, hn⟩ := s_M_readRule_128 hd h hQ
      exact ⟨n + 2, hn⟩
set_option maxRecDepth 20000 in
theorem s_M_readRule_65 {N d : Nat} {Q : jw_Q} (hd : 200 ≤ d) {x1 : Int32} {x2 : Int32} {x3 : Int32} {u4 : Option Value} {σ : jw_M} {z : jw_M} (h : f_M_readRule_65 N x1 x2 x3 σ = some z) (hQ : Q none (jx_ShM, z)) : ∃ n, jx_W jx_ShM d none jc_220 Q n 65 [some (.ref 0), some (.int x1), some (.int x2), some (.int x3), u4] [] σ := by
  unfold f_M_readRule_65 at h
  obtain ⟨z7, h8, h⟩ := Option.bind_eq_some_iff.mp h
  by_cases c9 : z7.1 = 0
  · rw [if_pos c9] at h
    suffices hh : ∃ n, jx_W jx_ShM d none jc_220 Q n 79 [some (.ref 0), some (.int x1), some (.int x2), some (.int x3), u4] [] z7.2 by
      obtain ⟨n, hn⟩ := hh
      exact ⟨n + 4, s_M_isWord (by omega) h8 (And.intro (fun _ => hn) (fun zz => absurd c9 zz))⟩
    obtain ⟨z10, h11, h⟩ := Option.bind_eq_some_iff.mp h
    by_cases c12 : z10.1 = 0
    · rw [if_pos c12] at h
      suffices hh : ∃ n, jx_W jx_ShM d none jc_220 Q n 93 [some (.ref 0), some (.int x1), some (.int x2), some (.int x3), u4] [] z10.2 by
        obtain ⟨n, hn⟩ := hh
        exact ⟨n + 4, s_M_isWord (by omega) h11 (And.intro (fun _ => hn) (fun zz => absurd c12 zz))⟩
      obtain ⟨z13, h14, h⟩ := Option.bind_eq_some_iff.mp h
      by_cases c15 : z13.1 = 0
      · rw [if_pos c15] at h
        suffices hh : ∃ n, jx_W jx_ShM d none jc_220 Q n 107 [some (.ref 0), some (.int x1), some (.int x2), some (.int x3), u4] [] z13.2 by
          obtain ⟨n, hn⟩ := hh
          exact ⟨n + 4, s_M_isWord (by omega) h14 (And.intro (fun _ => hn) (fun zz => absurd c15 zz))⟩
        obtain ⟨n, hn⟩ := s_M_readRule_108 hd (u4 := u4) h hQ
        exact ⟨n + 1, hn⟩
      · rw [if_neg c15] at h
        suffices hh : ∃ n, jx_W jx_ShM d none jc_220 Q n 103 [some (.ref 0), some (.int x1), some (.int x2), some (.int x3), u4] [] z13.2 by
          obtain ⟨n, hn⟩ := hh
          exact ⟨n + 4, s_M_isWord (by omega) h14 (And.intro (fun zz => absurd zz c15) (fun _ => hn))⟩
        obtain ⟨n, hn⟩ := s_M_readRule_108 hd (u4 := u4) h hQ
        exact ⟨n + 2, hn⟩
    · rw [if_neg c12] at h
      suffices hh : ∃ n, jx_W jx_ShM d none jc_220 Q n 89 [some (.ref 0), some (.int x1), some (.int x2), some (.int x3), u4] [] z10.2 by
        obtain ⟨n, hn⟩ := hh
        exact ⟨n + 4, s_M_isWord (by omega) h11 (And.intro (fun zz => absurd zz c12) (fun _ => hn))⟩
      obtain ⟨n, hn⟩ := s_M_readRule_108 hd (u4 := u4) h hQ
      exact ⟨n + 2, hn⟩
  · rw [if_neg c9] at h
    suffices hh : ∃ n, jx_W jx_ShM d none jc_220 Q n 75 [some (.ref 0), some (.int x1), some (.int x2), some (.int x3), u4] [] z7.2 by
      obtain ⟨n, hn⟩ := hh
      exact ⟨n + 4, s_M_isWord (by omega) h8 (And.intro (fun zz => absurd zz c9) (fun _ => hn))⟩
    obtain ⟨n, hn⟩ := s_M_readRule_108 hd (u4 := u4) h hQ
    exact ⟨n + 2, hn⟩
set_option maxRecDepth 20000 in
theorem s_M_readRule_40 {N d : Nat} {Q : jw_Q} (hd : 200 ≤ d) {x1 : Int32} {x2 : Int32} {x3 : Int32} {u4 : Option Value} {σ : jw_M} {z : jw_M} (h : f_M_readRule_40 N x1 x2 x3 σ = some z) (hQ : Q none (jx_ShM, z)) : ∃ n, jx_W jx_ShM d none jc_220 Q n 40 [some (.ref 0), some (.int x1), some (.int x2), some (.int x3), u4] [] σ := by
  unfold f_M_readRule_40 at h
  by_cases c6 : (σ.1 0 13) = 0
  · rw [if_pos c6] at h
    suffices hh : ∃ n, jx_W jx_ShM d none jc_220 Q n 65 [some (.ref 0), some (.int x1), some (.int x2), some (.int x3), u4] [] σ by
      obtain ⟨n, hn⟩ := hh
      exact ⟨n + 3, And.intro (fun _ => hn) (fun zz => absurd c6 zz)⟩
    obtain ⟨n, hn⟩ := s_M_readRule_65 hd (u4 := u4) h hQ
    exact ⟨n + 0, hn⟩
  · rw [if_neg c6] at h
    suffices hh : ∃ n, jx_W jx_ShM d none jc_220 Q n 47 [some (.ref 0), some (.int x1), some (.int x2), some (.int x3), u4] [] σ by
      obtain ⟨n, hn⟩ := hh
      exact ⟨n + 3, And.intro (fun zz => absurd zz c6) (fun _ => hn)⟩
    obtain ⟨z34, h35, h⟩ := Option.bind_eq_some_iff.mp h
    by_cases c36 : z34.1 = 0
    · rw [if_pos c36] at h
      suffices hh : ∃ n, jx_W jx_ShM d none jc_220 Q n 65 [some (.ref 0), some (.int x1), some (.int x2), some (.int x3), u4] [] z34.2 by
        obtain ⟨n, hn⟩ := hh
        exact ⟨n + 4, s_M_isWord (by omega) h35 (And.intro (fun _ => hn) (fun zz => absurd c36 zz))⟩
      obtain ⟨n, hn⟩ := s_M_readRule_65 hd (u4 := u4) h hQ
      exact ⟨n + 0, hn⟩
    · rw [if_neg c36] at h
      suffices hh : ∃ n, jx_W jx_ShM d none jc_220 Q n 57 [some (.ref 0), some (.int x1), some (.int x2), some (.int x3), u4] [] z34.2 by
        obtain ⟨n, hn⟩ := hh
        exact ⟨n + 4, s_M_isWord (by omega) h35 (And.intro (fun zz => absurd zz c36) (fun _ => hn))⟩
      obtain ⟨z37, h38, h⟩ := Option.bind_eq_some_iff.mp h
      obtain ⟨z39, h40, h⟩ := Option.bind_eq_some_iff.mp h
      obtain ⟨n, hn⟩ := s_M_readRule_65 hd (u4 := u4) h hQ
      exact ⟨n + 4, s_M_advance (by omega) h38 (s_M_readCondition 64 (by omega) h40 (hn))⟩
set_option maxRecDepth 20000 in
theorem s_M_readRule_21 {N d : Nat} {Q : jw_Q} (hd : 200 ≤ d) {x1 : Int32} {x2 : Int32} {y1 : Int32} {u3 : Option Value} {u4 : Option Value} {σ : jw_M} {z : jw_M} (h : f_M_readRule_21 N x1 x2 y1 σ = some z) (hQ : Q none (jx_ShM, z)) : ∃ n, jx_W jx_ShM d none jc_220 Q n 21 [some (.ref 0), some (.int x1), some (.int x2), u3, u4] [.int y1, .ref 0] σ := by
  unfold f_M_readRule_21 at h
  by_cases c4 : y1 = 0 ∨ y1 = 1
  · rw [if_pos c4] at h
    by_cases c5 : ((jx_w σ 0 13 y1).1 0 13) = 0
    · rw [if_pos c5] at h
      suffices hh : ∃ n, jx_W jx_ShM d none jc_220 Q n 40 [some (.ref 0), some (.int x1), some (.int x2), some (.int ((jx_w σ 0 13 y1).1 0 16)), u4] [] (jx_w σ 0 13 y1) by
        obtain ⟨n, hn⟩ := hh
        exact ⟨n + 7, And.intro c4 (And.intro (fun _ => hn) (fun zz => absurd c5 zz))⟩
      obtain ⟨n, hn⟩ := s_M_readRule_40 hd (u4 := u4) h hQ
      exact ⟨n + 0, hn⟩
    · rw [if_neg c5] at h
      suffices hh : ∃ n, jx_W jx_ShM d none jc_220 Q n 36 [some (.ref 0), some (.int x1), some (.int x2), some (.int ((jx_w σ 0 13 y1).1 0 16)), u4] [] (jx_w σ 0 13 y1) by
        obtain ⟨n, hn⟩ := hh
        exact ⟨n + 7, And.intro c4 (And.intro (fun zz => absurd zz c5) (fun _ => hn))⟩
      obtain ⟨z41, h42, h⟩ := Option.bind_eq_some_iff.mp h
      obtain ⟨n, hn⟩ := s_M_readRule_40 hd (u4 := u4) h hQ
      exact ⟨n + 2, s_M_advance (by omega) h42 (hn)⟩
  · rw [if_neg c4] at h
    cases h
set_option maxRecDepth 20000 in
theorem s_M_readRule_20 {N d : Nat} {Q : jw_Q} (hd : 200 ≤ d) {x1 : Int32} {x2 : Int32} {u3 : Option Value} {u4 : Option Value} {σ : jw_M} {z : jw_M} (h : f_M_readRule_20 N x1 x2 σ = some z) (hQ : Q none (jx_ShM, z)) : ∃ n, jx_W jx_ShM d none jc_220 Q n 20 [some (.ref 0), some (.int x1), some (.int x2), u3, u4] [.ref 0] σ := by
  unfold f_M_readRule_20 at h
  obtain ⟨n, hn⟩ := s_M_readRule_21 hd (u3 := u3) (u4 := u4) h hQ
  exact ⟨n + 1, hn⟩
set_option maxRecDepth 20000 in
theorem s_M_readRule {N d : Nat} {x1 : Int32} (hd : 201 ≤ d) {σ : jw_M} {z : jw_M} {Q : jw_Q} (h : f_M_readRule N x1 σ = some z) (hQ : Q none (jx_ShM, z)) : jw_C jp_kd jp_ys d 220 [.ref 0, .int x1] (jx_ShM, σ) Q := by
  obtain ⟨d, rfl⟩ : ∃ e, d = e + 1 := ⟨d - 1, by omega⟩
  replace hd : 200 ≤ d := by omega
  refine jx_C rfl rfl ?_
  unfold f_M_readRule at h
  obtain ⟨z1, h2, h⟩ := Option.bind_eq_some_iff.mp h
  by_cases c3 : z1.1 < 0
  · rw [if_pos c3] at h
    suffices hh : ∃ n, jx_W jx_ShM d none jc_220 Q n 20 [some (.ref 0), some (.int x1), some (.int z1.1), none, none] [.ref 0] z1.2 by
      obtain ⟨n, hn⟩ := hh
      exact ⟨n + 6, s_M_kindSeen (by omega) h2 (And.intro (fun _ => hn) (fun zz => absurd c3 zz))⟩
    obtain ⟨n, hn⟩ := s_M_readRule_20 hd (u3 := none) (u4 := none) h hQ
    exact ⟨n + 0, hn⟩
  · rw [if_neg c3] at h
    suffices hh : ∃ n, jx_W jx_ShM d none jc_220 Q n 10 [some (.ref 0), some (.int x1), some (.int z1.1), none, none] [.ref 0] z1.2 by
      obtain ⟨n, hn⟩ := hh
      exact ⟨n + 6, s_M_kindSeen (by omega) h2 (And.intro (fun zz => absurd zz c3) (fun _ => hn))⟩
    by_cases c43 : 8 ≤ x1
    · rw [if_pos c43] at h
      suffices hh : ∃ n, jx_W jx_ShM d none jc_220 Q n 20 [some (.ref 0), some (.int x1), some (.int z1.1), none, none] [.ref 0] z1.2 by
        obtain ⟨n, hn⟩ := hh
        exact ⟨n + 3, And.intro (fun _ => hn) (fun zz => absurd c43 zz)⟩
      obtain ⟨n, hn⟩ := s_M_readRule_20 hd (u3 := none) (u4 := none) h hQ
      exact ⟨n + 0, hn⟩
    · rw [if_neg c43] at h
      suffices hh : ∃ n, jx_W jx_ShM d none jc_220 Q n 16 [some (.ref 0), some (.int x1), some (.int z1.1), none, none] [.ref 0] z1.2 by
        obtain ⟨n, hn⟩ := hh
        exact ⟨n + 3, And.intro (fun zz => absurd zz c43) (fun _ => hn)⟩
      obtain ⟨n, hn⟩ := s_M_readRule_21 hd (u3 := none) (u4 := none) h hQ
      exact ⟨n + 2, hn⟩
set_option maxRecDepth 20000 in
theorem s_M_rules_110 {N d : Nat} {Q : jw_Q} (hd : 201 ≤ d) : ∀ (k : Nat) {x1 : Int32} {x2 : Int32} {σ : jw_M} {z : (Int32 × jw_M)}, f_M_rules_110 N k x1 x2 σ = some z → Q (some (.int z.1)) (jx_ShM, z.2) → ∃ n, jx_W jx_ShM d (some .int) jc_221 Q n 110 [some (.ref 0), some (.int x1), some (.int x2)] [] σ
  | 0, _, _, _, _, h, _ => by cases h
  | k + 1, x1, x2, σ, z, h, hQ => by
    rw [f_M_rules_110] at h
    by_cases c6 : (2 * (σ.1 0 16)) ≤ x2
    · rw [if_pos c6] at h
      suffices hh : ∃ n, jx_W jx_ShM d (some .int) jc_221 Q n 141 [some (.ref 0), some (.int x1), some (.int x2)] [] σ by
        obtain ⟨n, hn⟩ := hh
        exact ⟨n + 6, And.intro (fun _ => hn) (fun zz => absurd c6 zz)⟩
      cases h
      exact ⟨2, And.intro hQ (And.intro rfl rfl)⟩
    · rw [if_neg c6] at h
      suffices hh : ∃ n, jx_W jx_ShM d (some .int) jc_221 Q n 120 [some (.ref 0), some (.int x1), some (.int x2)] [] σ by
        obtain ⟨n, hn⟩ := hh
        exact ⟨n + 6, And.intro (fun zz => absurd zz c6) (fun _ => hn)⟩
      cases c7 : jx_in x2 400 with
      | false => rw [c7, cond_false] at h; cases h
      | true =>
        rw [c7, cond_true] at h
        cases c8 : jx_in (126 + x2) 526 with
        | false => rw [c8, cond_false] at h; cases h
        | true =>
          rw [c8, cond_true] at h
          obtain ⟨n, hn⟩ := s_M_rules_110 hd k h hQ
          exact ⟨n + 12, And.intro (jx_in_ok c7) (And.intro (jx_in_ok c8) (hn))⟩
set_option maxRecDepth 20000 in
theorem s_M_rules_80 {N d : Nat} {Q : jw_Q} (hd : 201 ≤ d) : ∀ (k : Nat) {x1 : Int32} {x2 : Int32} {σ : jw_M} {z : (Int32 × jw_M)}, f_M_rules_80 N k x1 x2 σ = some z → Q (some (.int z.1)) (jx_ShM, z.2) → ∃ n, jx_W jx_ShM d (some .int) jc_221 Q n 80 [some (.ref 0), some (.int x1), some (.int x2)] [] σ
  | 0, _, _, _, _, h, _ => by cases h
  | k + 1, x1, x2, σ, z, h, hQ => by
    rw [f_M_rules_80] at h
    by_cases c5 : (4 * x1) ≤ x2
    · rw [if_pos c5] at h
      suffices hh : ∃ n, jx_W jx_ShM d (some .int) jc_221 Q n 108 [some (.ref 0), some (.int x1), some (.int x2)] [] σ by
        obtain ⟨n, hn⟩ := hh
        exact ⟨n + 5, And.intro (fun _ => hn) (fun zz => absurd c5 zz)⟩
      obtain ⟨n, hn⟩ := s_M_rules_110 hd N h hQ
      exact ⟨n + 2, hn⟩
    · rw [if_neg c5] at h
      suffices hh : ∃ n, jx_W jx_ShM d (some .int) jc_221 Q n 87 [some (.ref 0), some (.int x1), some (.int x2)] [] σ by
        obtain ⟨n, hn⟩ := hh
        exact ⟨n + 5, And.intro (fun zz => absurd zz c5) (fun _ => hn)⟩
      cases c9 : jx_in x2 32 with
      | false => rw [c9, cond_false] at h; cases h
      | true =>
        rw [c9, cond_true] at h
        cases c10 : jx_in (94 + x2) 526 with
        | false => rw [c10, cond_false] at h; cases h
        | true =>
          rw [c10, cond_true] at h
          obtain ⟨n, hn⟩ := s_M_rules_80 hd k h hQ
          exact ⟨n + 12, And.intro (jx_in_ok c9) (And.intro (jx_in_ok c10) (hn))⟩
set_option maxRecDepth 20000 in
theorem s_M_rules_51 {N d : Nat} {Q : jw_Q} (hd : 201 ≤ d) {x1 : Int32} {u2 : Option Value} {σ : jw_M} {z : (Int32 × jw_M)} (h : f_M_rules_51 N x1 σ = some z) (hQ : Q (some (.int z.1)) (jx_ShM, z.2)) : ∃ n, jx_W jx_ShM d (some .int) jc_221 Q n 51 [some (.ref 0), some (.int x1), u2] [] σ := by
  unfold f_M_rules_51 at h
  by_cases c4 : ((jx_w σ 0 7 (0 : Int32)).1 0 13) = 0
  · rw [if_pos c4] at h
    suffices hh : ∃ n, jx_W jx_ShM d (some .int) jc_221 Q n 63 [some (.ref 0), some (.int x1), u2] [] (jx_w σ 0 7 (0 : Int32)) by
      obtain ⟨n, hn⟩ := hh
      exact ⟨n + 6, And.intro (fun zz => absurd c4 zz) (fun _ => hn)⟩
    have hz := Option.some.inj h; clear h; subst hz
    exact ⟨5, And.intro hQ (And.intro rfl rfl)⟩
  · rw [if_neg c4] at h
    suffices hh : ∃ n, jx_W jx_ShM d (some .int) jc_221 Q n 71 [some (.ref 0), some (.int x1), u2] [] (jx_w σ 0 7 (0 : Int32)) by
      obtain ⟨n, hn⟩ := hh
      exact ⟨n + 6, And.intro (fun _ => hn) (fun zz => absurd zz c4)⟩
    obtain ⟨n, hn⟩ := s_M_rules_80 hd N h hQ
    exact ⟨n + 7, And.intro (jx_in_ok rfl) (hn)⟩
set_option maxRecDepth 20000 in
theorem s_M_rules_26 {N d : Nat} {Q : jw_Q} (hd : 201 ≤ d) : ∀ (k : Nat) {x1 : Int32} {u2 : Option Value} {σ : jw_M} {z : (Int32 × jw_M)}, f_M_rules_26 N k x1 σ = some z → Q (some (.int z.1)) (jx_ShM, z.2) → ∃ n, jx_W jx_ShM d (some .int) jc_221 Q n 26 [some (.ref 0), some (.int x1), u2] [] σ
  | 0, _, _, _, _, h, _ => by cases h
  | k + 1, x1, u2, σ, z, h, hQ => by
    rw [f_M_rules_26] at h
    by_cases c3 : (σ.1 0 13) = 0
    · rw [if_pos c3] at h
      suffices hh : ∃ n, jx_W jx_ShM d (some .int) jc_221 Q n 51 [some (.ref 0), some (.int x1), u2] [] σ by
        obtain ⟨n, hn⟩ := hh
        exact ⟨n + 3, And.intro (fun _ => hn) (fun zz => absurd c3 zz)⟩
      obtain ⟨n, hn⟩ := s_M_rules_51 hd (u2 := u2) h hQ
      exact ⟨n + 0, hn⟩
    · rw [if_neg c3] at h
      suffices hh : ∃ n, jx_W jx_ShM d (some .int) jc_221 Q n 33 [some (.ref 0), some (.int x1), u2] [] σ by
        obtain ⟨n, hn⟩ := hh
        exact ⟨n + 3, And.intro (fun zz => absurd zz c3) (fun _ => hn)⟩
      by_cases c11 : (σ.1 0 8) = 0
      · rw [if_pos c11] at h
        suffices hh : ∃ n, jx_W jx_ShM d (some .int) jc_221 Q n 51 [some (.ref 0), some (.int x1), u2] [] σ by
          obtain ⟨n, hn⟩ := hh
          exact ⟨n + 3, And.intro (fun _ => hn) (fun zz => absurd c11 zz)⟩
        obtain ⟨n, hn⟩ := s_M_rules_51 hd (u2 := u2) h hQ
        exact ⟨n + 0, hn⟩
      · rw [if_neg c11] at h
        suffices hh : ∃ n, jx_W jx_ShM d (some .int) jc_221 Q n 40 [some (.ref 0), some (.int x1), u2] [] σ by
          obtain ⟨n, hn⟩ := hh
          exact ⟨n + 3, And.intro (fun zz => absurd zz c11) (fun _ => hn)⟩
        obtain ⟨z12, h13, h⟩ := Option.bind_eq_some_iff.mp h
        obtain ⟨n, hn⟩ := s_M_rules_26 hd k (u2 := u2) h hQ
        exact ⟨n + 5, s_M_readRule (by omega) h13 (hn)⟩
set_option maxRecDepth 20000 in
theorem s_M_rules {N d : Nat} (hd : 202 ≤ d) {σ : jw_M} {z : (Int32 × jw_M)} {Q : jw_Q} (h : f_M_rules N  σ = some z) (hQ : Q (some (.int z.1)) (jx_ShM, z.2)) : jw_C jp_kd jp_ys d 221 [.ref 0] (jx_ShM, σ) Q := by
  obtain ⟨d, rfl⟩ : ∃ e, d = e + 1 := ⟨d - 1, by omega⟩
  replace hd : 201 ≤ d := by omega
  refine jx_C rfl rfl ?_
  unfold f_M_rules at h
  obtain ⟨z1, h2, h⟩ := Option.bind_eq_some_iff.mp h
  obtain ⟨n, hn⟩ := s_M_rules_26 hd N (u2 := none) h hQ
  exact ⟨n + 16, And.intro (Or.inr rfl) (s_M_advance (by omega) h2 (hn))⟩
set_option maxRecDepth 20000 in
theorem s_M_sits {N d : Nat} {x1 : Int32} {x2 : Int32} (hd : 2 ≤ d) {σ : jw_M} {z : (Int32 × jw_M)} {Q : jw_Q} (h : f_M_sits N x1 x2 σ = some z) (hQ : Q (some (.int z.1)) (jx_ShM, z.2)) : jw_C jp_kd jp_ys d 231 [.ref 0, .int x1, .int x2] (jx_ShM, σ) Q := by
  obtain ⟨d, rfl⟩ : ∃ e, d = e + 1 := ⟨d - 1, by omega⟩
  replace hd : 1 ≤ d := by omega
  refine jx_C rfl rfl ?_
  unfold f_M_sits at h
  cases c1 : jx_in x2 8 with
  | false => rw [c1, cond_false] at h; cases h
  | true =>
    rw [c1, cond_true] at h
    cases c2 : jx_in ((8 + (8 * x1)) + x2) 56 with
    | false => rw [c2, cond_false] at h; cases h
    | true =>
      rw [c2, cond_true] at h
      obtain ⟨z3, h4, h⟩ := Option.bind_eq_some_iff.mp h
      obtain ⟨z5, h6, h⟩ := Option.bind_eq_some_iff.mp h
      obtain ⟨z7, h8, h⟩ := Option.bind_eq_some_iff.mp h
      obtain ⟨z9, h10, h⟩ := Option.bind_eq_some_iff.mp h
      by_cases c11 : z9.1 ≤ ((jx_w z7.2 1 (((8 + (8 * x1)) + x2)).toNatClampNeg (((jx_w σ 10 (x2).toNatClampNeg ((σ.1 10 (x2).toNatClampNeg) + 1)).1 1 (((8 + (8 * x1)) + x2)).toNatClampNeg) + z7.1)).1 1 (((8 + (8 * x1)) + x2)).toNatClampNeg)
      · rw [if_pos c11] at h
        suffices hh : ∃ n, jx_W jx_ShM d (some .int) jc_231 Q n 67 [some (.ref 0), some (.int x1), some (.int x2), some (.int ((8 + (8 * x1)) + x2))] [] z9.2 by
          obtain ⟨n, hn⟩ := hh
          exact ⟨n + 45, And.intro (jx_in_ok c1) (And.intro (jx_in_ok c1) (And.intro (jx_in_ok c2) (s_M_of (by omega) h4 (s_M_of (by omega) h6 (And.intro (jx_in_ok rfl) (s_M_paceBy (by omega) h8 (And.intro (jx_in_ok c2) (And.intro (jx_in_ok c2) (s_M_lessonNumber (by omega) h10 (And.intro (fun _ => hn) (fun zz => absurd c11 zz)))))))))))⟩
        cases c12 : jx_in (2 + x1) 56 with
        | false => rw [c12, cond_false] at h; cases h
        | true =>
          rw [c12, cond_true] at h
          obtain ⟨z13, h14, h⟩ := Option.bind_eq_some_iff.mp h
          cases h
          exact ⟨17, And.intro (jx_in_ok c12) (And.intro (jx_in_ok c12) (s_M_lessonNumber (by omega) h14 (And.intro hQ (And.intro rfl rfl))))⟩
      · rw [if_neg c11] at h
        suffices hh : ∃ n, jx_W jx_ShM d (some .int) jc_231 Q n 65 [some (.ref 0), some (.int x1), some (.int x2), some (.int ((8 + (8 * x1)) + x2))] [] z9.2 by
          obtain ⟨n, hn⟩ := hh
          exact ⟨n + 45, And.intro (jx_in_ok c1) (And.intro (jx_in_ok c1) (And.intro (jx_in_ok c2) (s_M_of (by omega) h4 (s_M_of (by omega) h6 (And.intro (jx_in_ok rfl) (s_M_paceBy (by omega) h8 (And.intro (jx_in_ok c2) (And.intro (jx_in_ok c2) (s_M_lessonNumber (by omega) h10 (And.intro (fun zz => absurd zz c11) (fun _ => hn)))))))))))⟩
        cases h
        exact ⟨2, And.intro hQ (And.intro rfl rfl)⟩
set_option maxRecDepth 20000 in
theorem s_M_goes_56 {N d : Nat} {Q : jw_Q} {K8 : Int32 → Int32 → Int32 → jw_M → Option (Int32 × jw_M)} (hd : 5 ≤ d) (hK8 : ∀ {x1 : Int32} {x2 : Int32} {x3 : Int32} {σ : jw_M} {z : (Int32 × jw_M)} {u4 : Option Value}, K8 x1 x2 x3 σ = some z → Q (some (.int z.1)) (jx_ShM, z.2) → ∃ n, jx_W jx_ShM d (some .int) jc_232 Q n 8 [some (.ref 0), some (.int x1), some (.int x2), some (.int x3), u4] [] σ) {x1 : Int32} {x3 : Int32} {y0 : Int32} {y1 : Int32} {u2 : Option Value} {u4 : Option Value} {σ : jw_M} {z : (Int32 × jw_M)} (h : f_M_goes_56 N K8 x1 x3 y0 y1 σ = some z) (hQ : Q (some (.int z.1)) (jx_ShM, z.2)) : ∃ n, jx_W jx_ShM d (some .int) jc_232 Q n 56 [some (.ref 0), some (.int x1), u2, some (.int x3), u4] [.int y1, .int y0] σ := by
  unfold f_M_goes_56 at h
  obtain ⟨n, hn⟩ := hK8 (u4 := u4) h hQ
  exact ⟨n + 4, hn⟩
set_option maxRecDepth 20000 in
theorem s_M_goes_35 {N d : Nat} {Q : jw_Q} {K8 : Int32 → Int32 → Int32 → jw_M → Option (Int32 × jw_M)} (hd : 5 ≤ d) (hK8 : ∀ {x1 : Int32} {x2 : Int32} {x3 : Int32} {σ : jw_M} {z : (Int32 × jw_M)} {u4 : Option Value}, K8 x1 x2 x3 σ = some z → Q (some (.int z.1)) (jx_ShM, z.2) → ∃ n, jx_W jx_ShM d (some .int) jc_232 Q n 8 [some (.ref 0), some (.int x1), some (.int x2), some (.int x3), u4] [] σ) {x1 : Int32} {x2 : Int32} {x3 : Int32} {y0 : Int32} {u4 : Option Value} {σ : jw_M} {z : (Int32 × jw_M)} (h : f_M_goes_35 N K8 x1 x2 x3 y0 σ = some z) (hQ : Q (some (.int z.1)) (jx_ShM, z.2)) : ∃ n, jx_W jx_ShM d (some .int) jc_232 Q n 35 [some (.ref 0), some (.int x1), some (.int x2), some (.int x3), u4] [.int y0] σ := by
  unfold f_M_goes_35 at h
  by_cases c5 : y0 = 8
  · rw [if_pos c5] at h
    suffices hh : ∃ n, jx_W jx_ShM d (some .int) jc_232 Q n 45 [some (.ref 0), some (.int x1), some (.int x2), some (.int x3), some (.int y0)] [.int x2] σ by
      obtain ⟨n, hn⟩ := hh
      exact ⟨n + 5, And.intro (fun zz => absurd c5 zz) (fun _ => hn)⟩
    obtain ⟨n, hn⟩ := s_M_goes_56 hd hK8 (u2 := some (.int x2)) (u4 := some (.int y0)) h hQ
    exact ⟨n + 2, hn⟩
  · rw [if_neg c5] at h
    suffices hh : ∃ n, jx_W jx_ShM d (some .int) jc_232 Q n 49 [some (.ref 0), some (.int x1), some (.int x2), some (.int x3), some (.int y0)] [.int x2] σ by
      obtain ⟨n, hn⟩ := hh
      exact ⟨n + 5, And.intro (fun _ => hn) (fun zz => absurd zz c5)⟩
    obtain ⟨z6, h7, h⟩ := Option.bind_eq_some_iff.mp h
    obtain ⟨n, hn⟩ := s_M_goes_56 hd hK8 (u2 := some (.int x2)) (u4 := some (.int y0)) h hQ
    exact ⟨n + 4, s_M_sits (by omega) h7 (hn)⟩
set_option maxRecDepth 20000 in
theorem s_M_goes_8 {N d : Nat} {Q : jw_Q} (hd : 5 ≤ d) : ∀ (k : Nat) {x1 : Int32} {x2 : Int32} {x3 : Int32} {u4 : Option Value} {σ : jw_M} {z : (Int32 × jw_M)}, f_M_goes_8 N k x1 x2 x3 σ = some z → Q (some (.int z.1)) (jx_ShM, z.2) → ∃ n, jx_W jx_ShM d (some .int) jc_232 Q n 8 [some (.ref 0), some (.int x1), some (.int x2), some (.int x3), u4] [] σ
  | 0, _, _, _, _, _, _, h, _ => by cases h
  | k + 1, x1, x2, x3, u4, σ, z, h, hQ => by
    rw [f_M_goes_8] at h
    by_cases c3 : (σ.1 3 2) ≤ x3
    · rw [if_pos c3] at h
      suffices hh : ∃ n, jx_W jx_ShM d (some .int) jc_232 Q n 64 [some (.ref 0), some (.int x1), some (.int x2), some (.int x3), u4] [] σ by
        obtain ⟨n, hn⟩ := hh
        exact ⟨n + 6, And.intro (jx_in_ok rfl) (And.intro (fun _ => hn) (fun zz => absurd c3 zz))⟩
      cases h
      exact ⟨18, And.intro (jx_in_ok rfl) (And.intro (jx_in_ok rfl) (And.intro (jx_in_ok rfl) (And.intro (jx_in_ok rfl) (And.intro hQ (And.intro rfl rfl)))))⟩
    · rw [if_neg c3] at h
      suffices hh : ∃ n, jx_W jx_ShM d (some .int) jc_232 Q n 18 [some (.ref 0), some (.int x1), some (.int x2), some (.int x3), u4] [] σ by
        obtain ⟨n, hn⟩ := hh
        exact ⟨n + 6, And.intro (jx_in_ok rfl) (And.intro (fun zz => absurd zz c3) (fun _ => hn))⟩
      by_cases c4 : (x3 + 1) = x1
      · rw [if_pos c4] at h
        suffices hh : ∃ n, jx_W jx_ShM d (some .int) jc_232 Q n 25 [some (.ref 0), some (.int x1), some (.int x2), some (.int x3), u4] [] σ by
          obtain ⟨n, hn⟩ := hh
          exact ⟨n + 5, And.intro (fun zz => absurd c4 zz) (fun _ => hn)⟩
        obtain ⟨n, hn⟩ := s_M_goes_35 hd (s_M_goes_8 hd k) (u4 := u4) h hQ
        exact ⟨n + 2, hn⟩
      · rw [if_neg c4] at h
        suffices hh : ∃ n, jx_W jx_ShM d (some .int) jc_232 Q n 30 [some (.ref 0), some (.int x1), some (.int x2), some (.int x3), u4] [] σ by
          obtain ⟨n, hn⟩ := hh
          exact ⟨n + 5, And.intro (fun _ => hn) (fun zz => absurd zz c4)⟩
        obtain ⟨z8, h9, h⟩ := Option.bind_eq_some_iff.mp h
        obtain ⟨n, hn⟩ := s_M_goes_35 hd (s_M_goes_8 hd k) (u4 := u4) h hQ
        exact ⟨n + 3, s_M_choiceOf (by omega) h9 (hn)⟩
set_option maxRecDepth 20000 in
theorem s_M_goes {N d : Nat} {x1 : Int32} (hd : 6 ≤ d) {σ : jw_M} {z : (Int32 × jw_M)} {Q : jw_Q} (h : f_M_goes N x1 σ = some z) (hQ : Q (some (.int z.1)) (jx_ShM, z.2)) : jw_C jp_kd jp_ys d 232 [.ref 0, .int x1] (jx_ShM, σ) Q := by
  obtain ⟨d, rfl⟩ : ∃ e, d = e + 1 := ⟨d - 1, by omega⟩
  replace hd : 5 ≤ d := by omega
  refine jx_C rfl rfl ?_
  unfold f_M_goes at h
  obtain ⟨z1, h2, h⟩ := Option.bind_eq_some_iff.mp h
  obtain ⟨n, hn⟩ := s_M_goes_8 hd N (u4 := none) h hQ
  exact ⟨n + 6, s_M_emptySeats (by omega) h2 (hn)⟩
set_option maxRecDepth 20000 in
theorem s_M_hour {N d : Nat} (hd : 7 ≤ d) {σ : jw_M} {z : (Int32 × jw_M)} {Q : jw_Q} (h : f_M_hour N  σ = some z) (hQ : Q (some (.int z.1)) (jx_ShM, z.2)) : jw_C jp_kd jp_ys d 233 [.ref 0] (jx_ShM, σ) Q := by
  obtain ⟨d, rfl⟩ : ∃ e, d = e + 1 := ⟨d - 1, by omega⟩
  replace hd : 6 ≤ d := by omega
  refine jx_C rfl rfl ?_
  unfold f_M_hour at h
  obtain ⟨z1, h2, h⟩ := Option.bind_eq_some_iff.mp h
  by_cases c3 : z1.1 = 0
  · rw [if_pos c3] at h
    suffices hh : ∃ n, jx_W jx_ShM d (some .int) jc_233 Q n 12 [some (.ref 0)] [] z1.2 by
      obtain ⟨n, hn⟩ := hh
      exact ⟨n + 3, s_M_isOver (by omega) h2 (And.intro (fun _ => hn) (fun zz => absurd c3 zz))⟩
    obtain ⟨z4, h5, h⟩ := Option.bind_eq_some_iff.mp h
    cases h
    exact ⟨4, s_M_goes (by omega) h5 (And.intro hQ (And.intro rfl rfl))⟩
  · rw [if_neg c3] at h
    suffices hh : ∃ n, jx_W jx_ShM d (some .int) jc_233 Q n 7 [some (.ref 0)] [] z1.2 by
      obtain ⟨n, hn⟩ := hh
      exact ⟨n + 3, s_M_isOver (by omega) h2 (And.intro (fun zz => absurd zz c3) (fun _ => hn))⟩
    cases h
    exact ⟨3, And.intro hQ (And.intro rfl rfl)⟩
set_option maxRecDepth 20000 in
theorem s_M_learnt {N d : Nat} {x1 : Int32} (hd : 3 ≤ d) {σ : jw_M} {z : (Int32 × jw_M)} {Q : jw_Q} (h : f_M_learnt N x1 σ = some z) (hQ : Q (some (.int z.1)) (jx_ShM, z.2)) : jw_C jp_kd jp_ys d 234 [.ref 0, .int x1] (jx_ShM, σ) Q := by
  obtain ⟨d, rfl⟩ : ∃ e, d = e + 1 := ⟨d - 1, by omega⟩
  replace hd : 2 ≤ d := by omega
  refine jx_C rfl rfl ?_
  unfold f_M_learnt at h
  obtain ⟨z1, h2, h⟩ := Option.bind_eq_some_iff.mp h
  by_cases c3 : z1.1 = 0
  · rw [if_pos c3] at h
    suffices hh : ∃ n, jx_W jx_ShM d (some .int) jc_234 Q n 19 [some (.ref 0), some (.int x1)] [] z1.2 by
      obtain ⟨n, hn⟩ := hh
      exact ⟨n + 4, s_M_isShadow (by omega) h2 (And.intro (fun _ => hn) (fun zz => absurd c3 zz))⟩
    cases h
    exact ⟨2, And.intro hQ (And.intro rfl rfl)⟩
  · rw [if_neg c3] at h
    suffices hh : ∃ n, jx_W jx_ShM d (some .int) jc_234 Q n 8 [some (.ref 0), some (.int x1)] [] z1.2 by
      obtain ⟨n, hn⟩ := hh
      exact ⟨n + 4, s_M_isShadow (by omega) h2 (And.intro (fun zz => absurd zz c3) (fun _ => hn))⟩
    cases c4 : jx_in (2 + x1) 56 with
    | false => rw [c4, cond_false] at h; cases h
    | true =>
      rw [c4, cond_true] at h
      cases h
      exact ⟨8, And.intro (jx_in_ok c4) (And.intro hQ (And.intro rfl rfl))⟩
set_option maxRecDepth 20000 in
theorem s_M_rest_4 {N d : Nat} {Q : jw_Q} (hd : 6 ≤ d) : ∀ (k : Nat) {x1 : Int32} {x2 : Int32} {x3 : Int32} {σ : jw_M} {z : (Int32 × jw_M)}, f_M_rest_4 N k x1 x2 x3 σ = some z → Q (some (.int z.1)) (jx_ShM, z.2) → ∃ n, jx_W jx_ShM d (some .int) jc_235 Q n 4 [some (.ref 0), some (.int x1), some (.int x2), some (.int x3)] [] σ
  | 0, _, _, _, _, _, h, _ => by cases h
  | k + 1, x1, x2, x3, σ, z, h, hQ => by
    rw [f_M_rest_4] at h
    by_cases c1 : x1 ≤ x3
    · rw [if_pos c1] at h
      suffices hh : ∃ n, jx_W jx_ShM d (some .int) jc_235 Q n 30 [some (.ref 0), some (.int x1), some (.int x2), some (.int x3)] [] σ by
        obtain ⟨n, hn⟩ := hh
        exact ⟨n + 3, And.intro (fun _ => hn) (fun zz => absurd c1 zz)⟩
      cases h
      exact ⟨2, And.intro hQ (And.intro rfl rfl)⟩
    · rw [if_neg c1] at h
      suffices hh : ∃ n, jx_W jx_ShM d (some .int) jc_235 Q n 9 [some (.ref 0), some (.int x1), some (.int x2), some (.int x3)] [] σ by
        obtain ⟨n, hn⟩ := hh
        exact ⟨n + 3, And.intro (fun zz => absurd zz c1) (fun _ => hn)⟩
      obtain ⟨z2, h3, h⟩ := Option.bind_eq_some_iff.mp h
      by_cases c4 : z2.1 = 0
      · rw [if_pos c4] at h
        suffices hh : ∃ n, jx_W jx_ShM d (some .int) jc_235 Q n 16 [some (.ref 0), some (.int x1), some (.int x2), some (.int x3)] [] z2.2 by
          obtain ⟨n, hn⟩ := hh
          exact ⟨n + 3, s_M_isOver (by omega) h3 (And.intro (fun zz => absurd c4 zz) (fun _ => hn))⟩
        obtain ⟨z5, h6, h⟩ := Option.bind_eq_some_iff.mp h
        obtain ⟨n, hn⟩ := s_M_rest_4 hd k h hQ
        exact ⟨n + 8, s_M_goes (by omega) h6 (hn)⟩
      · rw [if_neg c4] at h
        suffices hh : ∃ n, jx_W jx_ShM d (some .int) jc_235 Q n 30 [some (.ref 0), some (.int x1), some (.int x2), some (.int x3)] [] z2.2 by
          obtain ⟨n, hn⟩ := hh
          exact ⟨n + 3, s_M_isOver (by omega) h3 (And.intro (fun _ => hn) (fun zz => absurd zz c4))⟩
        cases h
        exact ⟨2, And.intro hQ (And.intro rfl rfl)⟩
set_option maxRecDepth 20000 in
theorem s_M_rest {N d : Nat} {x1 : Int32} (hd : 7 ≤ d) {σ : jw_M} {z : (Int32 × jw_M)} {Q : jw_Q} (h : f_M_rest N x1 σ = some z) (hQ : Q (some (.int z.1)) (jx_ShM, z.2)) : jw_C jp_kd jp_ys d 235 [.ref 0, .int x1] (jx_ShM, σ) Q := by
  obtain ⟨d, rfl⟩ : ∃ e, d = e + 1 := ⟨d - 1, by omega⟩
  replace hd : 6 ≤ d := by omega
  refine jx_C rfl rfl ?_
  unfold f_M_rest at h
  obtain ⟨n, hn⟩ := s_M_rest_4 hd N h hQ
  exact ⟨n + 4, hn⟩
set_option maxRecDepth 20000 in
theorem s_M_restWorth {N d : Nat} {x1 : Int32} (hd : 8 ≤ d) {σ : jw_M} {z : (Int32 × jw_M)} {Q : jw_Q} (h : f_M_restWorth N x1 σ = some z) (hQ : Q (some (.int z.1)) (jx_ShM, z.2)) : jw_C jp_kd jp_ys d 236 [.ref 0, .int x1] (jx_ShM, σ) Q := by
  obtain ⟨d, rfl⟩ : ∃ e, d = e + 1 := ⟨d - 1, by omega⟩
  replace hd : 7 ≤ d := by omega
  refine jx_C rfl rfl ?_
  unfold f_M_restWorth at h
  obtain ⟨z1, h2, h⟩ := Option.bind_eq_some_iff.mp h
  obtain ⟨z3, h4, h⟩ := Option.bind_eq_some_iff.mp h
  obtain ⟨z5, h6, h⟩ := Option.bind_eq_some_iff.mp h
  cases h
  exact ⟨12, s_M_save (by omega) h2 (s_M_rest (by omega) h4 (s_M_load (by omega) h6 (And.intro hQ (And.intro rfl rfl))))⟩
set_option maxRecDepth 20000 in
theorem s_M_on {N d : Nat} {x1 : Int32} (hd : 9 ≤ d) {σ : jw_M} {z : (Int32 × jw_M)} {Q : jw_Q} (h : f_M_on N x1 σ = some z) (hQ : Q (some (.int z.1)) (jx_ShM, z.2)) : jw_C jp_kd jp_ys d 237 [.ref 0, .int x1] (jx_ShM, σ) Q := by
  obtain ⟨d, rfl⟩ : ∃ e, d = e + 1 := ⟨d - 1, by omega⟩
  replace hd : 8 ≤ d := by omega
  refine jx_C rfl rfl ?_
  unfold f_M_on at h
  obtain ⟨z1, h2, h⟩ := Option.bind_eq_some_iff.mp h
  by_cases c3 : z1.1 = 0
  · rw [if_pos c3] at h
    suffices hh : ∃ n, jx_W jx_ShM d (some .int) jc_237 Q n 18 [some (.ref 0), some (.int x1)] [] z1.2 by
      obtain ⟨n, hn⟩ := hh
      exact ⟨n + 5, s_M_in (by omega) h2 (And.intro (fun _ => hn) (fun zz => absurd c3 zz))⟩
    cases h
    exact ⟨2, And.intro hQ (And.intro rfl rfl)⟩
  · rw [if_neg c3] at h
    suffices hh : ∃ n, jx_W jx_ShM d (some .int) jc_237 Q n 10 [some (.ref 0), some (.int x1)] [] z1.2 by
      obtain ⟨n, hn⟩ := hh
      exact ⟨n + 5, s_M_in (by omega) h2 (And.intro (fun zz => absurd zz c3) (fun _ => hn))⟩
    obtain ⟨z4, h5, h⟩ := Option.bind_eq_some_iff.mp h
    cases h
    exact ⟨5, s_M_restWorth (by omega) h5 (And.intro hQ (And.intro rfl rfl))⟩
set_option maxRecDepth 20000 in
theorem s_M_when_82 {N d : Nat} {Q : jw_Q} (hd : 6 ≤ d) {y0 : Int32} {u1 : Option Value} {u2 : Option Value} {u3 : Option Value} {σ : jw_M} {z : (Int32 × jw_M)} (h : f_M_when_82 N y0 σ = some z) (hQ : Q (some (.int z.1)) (jx_ShM, z.2)) : ∃ n, jx_W jx_ShM d (some .int) jc_238 Q n 82 [some (.ref 0), u1, u2, u3] [.int y0] σ := by
  unfold f_M_when_82 at h
  obtain ⟨z23, h24, h⟩ := Option.bind_eq_some_iff.mp h
  cases h
  exact ⟨6, s_M_load (by omega) h24 (And.intro hQ (And.intro rfl rfl))⟩
set_option maxRecDepth 20000 in
theorem s_M_when_60 {N d : Nat} {Q : jw_Q} (hd : 6 ≤ d) {x1 : Int32} {x2 : Int32} {u3 : Option Value} {σ : jw_M} {z : (Int32 × jw_M)} (h : f_M_when_60 N x1 x2 σ = some z) (hQ : Q (some (.int z.1)) (jx_ShM, z.2)) : ∃ n, jx_W jx_ShM d (some .int) jc_238 Q n 60 [some (.ref 0), some (.int x1), some (.int x2), u3] [] σ := by
  unfold f_M_when_60 at h
  obtain ⟨z20, h21, h⟩ := Option.bind_eq_some_iff.mp h
  by_cases c22 : z20.1 = 0
  · rw [if_pos c22] at h
    suffices hh : ∃ n, jx_W jx_ShM d (some .int) jc_238 Q n 80 [some (.ref 0), some (.int x1), some (.int x2), u3] [] z20.2 by
      obtain ⟨n, hn⟩ := hh
      exact ⟨n + 5, s_M_hasLearnt (by omega) h21 (And.intro (fun _ => hn) (fun zz => absurd c22 zz))⟩
    obtain ⟨n, hn⟩ := s_M_when_82 hd (u1 := some (.int x1)) (u2 := some (.int x2)) (u3 := u3) h hQ
    exact ⟨n + 1, hn⟩
  · rw [if_neg c22] at h
    suffices hh : ∃ n, jx_W jx_ShM d (some .int) jc_238 Q n 69 [some (.ref 0), some (.int x1), some (.int x2), u3] [] z20.2 by
      obtain ⟨n, hn⟩ := hh
      exact ⟨n + 5, s_M_hasLearnt (by omega) h21 (And.intro (fun zz => absurd zz c22) (fun _ => hn))⟩
    obtain ⟨n, hn⟩ := s_M_when_82 hd (u1 := some (.int x1)) (u2 := some (.int x2)) (u3 := u3) h hQ
    exact ⟨n + 7, And.intro (jx_in_ok rfl) (hn)⟩
set_option maxRecDepth 20000 in
theorem s_M_when_35 {N d : Nat} {Q : jw_Q} (hd : 6 ≤ d) : ∀ (k : Nat) {x1 : Int32} {x2 : Int32} {u3 : Option Value} {σ : jw_M} {z : (Int32 × jw_M)}, f_M_when_35 N k x1 x2 σ = some z → Q (some (.int z.1)) (jx_ShM, z.2) → ∃ n, jx_W jx_ShM d (some .int) jc_238 Q n 35 [some (.ref 0), some (.int x1), some (.int x2), u3] [] σ
  | 0, _, _, _, _, _, h, _ => by cases h
  | k + 1, x1, x2, u3, σ, z, h, hQ => by
    rw [f_M_when_35] at h
    obtain ⟨z12, h13, h⟩ := Option.bind_eq_some_iff.mp h
    by_cases c14 : z12.1 = 0
    · rw [if_pos c14] at h
      suffices hh : ∃ n, jx_W jx_ShM d (some .int) jc_238 Q n 42 [some (.ref 0), some (.int x1), some (.int x2), u3] [] z12.2 by
        obtain ⟨n, hn⟩ := hh
        exact ⟨n + 3, s_M_isOver (by omega) h13 (And.intro (fun zz => absurd c14 zz) (fun _ => hn))⟩
      obtain ⟨z15, h16, h⟩ := Option.bind_eq_some_iff.mp h
      by_cases c17 : z15.1 = 0
      · rw [if_pos c17] at h
        suffices hh : ∃ n, jx_W jx_ShM d (some .int) jc_238 Q n 51 [some (.ref 0), some (.int x1), some (.int x2), u3] [] z15.2 by
          obtain ⟨n, hn⟩ := hh
          exact ⟨n + 5, s_M_hasLearnt (by omega) h16 (And.intro (fun zz => absurd c17 zz) (fun _ => hn))⟩
        obtain ⟨z18, h19, h⟩ := Option.bind_eq_some_iff.mp h
        obtain ⟨n, hn⟩ := s_M_when_35 hd k (u3 := some (.int z18.1)) h hQ
        exact ⟨n + 5, s_M_goes (by omega) h19 (hn)⟩
      · rw [if_neg c17] at h
        suffices hh : ∃ n, jx_W jx_ShM d (some .int) jc_238 Q n 60 [some (.ref 0), some (.int x1), some (.int x2), u3] [] z15.2 by
          obtain ⟨n, hn⟩ := hh
          exact ⟨n + 5, s_M_hasLearnt (by omega) h16 (And.intro (fun _ => hn) (fun zz => absurd zz c17))⟩
        obtain ⟨n, hn⟩ := s_M_when_60 hd (u3 := u3) h hQ
        exact ⟨n + 0, hn⟩
    · rw [if_neg c14] at h
      suffices hh : ∃ n, jx_W jx_ShM d (some .int) jc_238 Q n 60 [some (.ref 0), some (.int x1), some (.int x2), u3] [] z12.2 by
        obtain ⟨n, hn⟩ := hh
        exact ⟨n + 3, s_M_isOver (by omega) h13 (And.intro (fun _ => hn) (fun zz => absurd zz c14))⟩
      obtain ⟨n, hn⟩ := s_M_when_60 hd (u3 := u3) h hQ
      exact ⟨n + 0, hn⟩
set_option maxRecDepth 20000 in
theorem s_M_when {N d : Nat} {x1 : Int32} {x2 : Int32} (hd : 7 ≤ d) {σ : jw_M} {z : (Int32 × jw_M)} {Q : jw_Q} (h : f_M_when N x1 x2 σ = some z) (hQ : Q (some (.int z.1)) (jx_ShM, z.2)) : jw_C jp_kd jp_ys d 238 [.ref 0, .int x1, .int x2] (jx_ShM, σ) Q := by
  obtain ⟨d, rfl⟩ : ∃ e, d = e + 1 := ⟨d - 1, by omega⟩
  replace hd : 6 ≤ d := by omega
  refine jx_C rfl rfl ?_
  unfold f_M_when at h
  obtain ⟨z1, h2, h⟩ := Option.bind_eq_some_iff.mp h
  by_cases c3 : z1.1 = 0
  · rw [if_pos c3] at h
    suffices hh : ∃ n, jx_W jx_ShM d (some .int) jc_238 Q n 16 [some (.ref 0), some (.int x1), some (.int x2), none] [] z1.2 by
      obtain ⟨n, hn⟩ := hh
      exact ⟨n + 4, s_M_isShadow (by omega) h2 (And.intro (fun _ => hn) (fun zz => absurd c3 zz))⟩
    cases h
    exact ⟨2, And.intro hQ (And.intro rfl rfl)⟩
  · rw [if_neg c3] at h
    suffices hh : ∃ n, jx_W jx_ShM d (some .int) jc_238 Q n 8 [some (.ref 0), some (.int x1), some (.int x2), none] [] z1.2 by
      obtain ⟨n, hn⟩ := hh
      exact ⟨n + 4, s_M_isShadow (by omega) h2 (And.intro (fun zz => absurd zz c3) (fun _ => hn))⟩
    obtain ⟨z4, h5, h⟩ := Option.bind_eq_some_iff.mp h
    by_cases c6 : z4.1 = 0
    · rw [if_pos c6] at h
      suffices hh : ∃ n, jx_W jx_ShM d (some .int) jc_238 Q n 16 [some (.ref 0), some (.int x1), some (.int x2), none] [] z4.2 by
        obtain ⟨n, hn⟩ := hh
        exact ⟨n + 4, s_M_isLesson (by omega) h5 (And.intro (fun zz => absurd c6 zz) (fun _ => hn))⟩
      cases h
      exact ⟨2, And.intro hQ (And.intro rfl rfl)⟩
    · rw [if_neg c6] at h
      suffices hh : ∃ n, jx_W jx_ShM d (some .int) jc_238 Q n 18 [some (.ref 0), some (.int x1), some (.int x2), none] [] z4.2 by
        obtain ⟨n, hn⟩ := hh
        exact ⟨n + 4, s_M_isLesson (by omega) h5 (And.intro (fun _ => hn) (fun zz => absurd zz c6))⟩
      obtain ⟨z7, h8, h⟩ := Option.bind_eq_some_iff.mp h
      by_cases c9 : z7.1 = 0
      · rw [if_pos c9] at h
        suffices hh : ∃ n, jx_W jx_ShM d (some .int) jc_238 Q n 30 [some (.ref 0), some (.int x1), some (.int x2), none] [] z7.2 by
          obtain ⟨n, hn⟩ := hh
          exact ⟨n + 5, s_M_hasLearnt (by omega) h8 (And.intro (fun _ => hn) (fun zz => absurd c9 zz))⟩
        obtain ⟨z10, h11, h⟩ := Option.bind_eq_some_iff.mp h
        obtain ⟨n, hn⟩ := s_M_when_35 hd N (u3 := none) h hQ
        exact ⟨n + 3, s_M_save (by omega) h11 (hn)⟩
      · rw [if_neg c9] at h
        suffices hh : ∃ n, jx_W jx_ShM d (some .int) jc_238 Q n 27 [some (.ref 0), some (.int x1), some (.int x2), none] [] z7.2 by
          obtain ⟨n, hn⟩ := hh
          exact ⟨n + 5, s_M_hasLearnt (by omega) h8 (And.intro (fun zz => absurd zz c9) (fun _ => hn))⟩
        cases h
        exact ⟨2, And.intro hQ (And.intro rfl rfl)⟩
set_option maxRecDepth 20000 in
theorem s_M_allLessons {N d : Nat} (hd : 1 ≤ d) {σ : jw_M} {z : (Int32 × jw_M)} {Q : jw_Q} (h : f_M_allLessons N  σ = some z) (hQ : Q (some (.int z.1)) (jx_ShM, z.2)) : jw_C jp_kd jp_ys d 239 [.ref 0] (jx_ShM, σ) Q := by
  obtain ⟨d, rfl⟩ : ∃ e, d = e + 1 := ⟨d - 1, by omega⟩
  replace hd : 0 ≤ d := by omega
  refine jx_C rfl rfl ?_
  unfold f_M_allLessons at h
  cases h
  exact ⟨9, And.intro (jx_in_ok rfl) (And.intro hQ (And.intro rfl rfl))⟩
set_option maxRecDepth 20000 in
theorem s_M_letGo_49 {N d : Nat} {Q : jw_Q} {K16 : Int32 → Int32 → jw_M → Option (Int32 × jw_M)} (hd : 7 ≤ d) (hK16 : ∀ {x2 : Int32} {x3 : Int32} {σ : jw_M} {z : (Int32 × jw_M)} {u1 : Option Value}, K16 x2 x3 σ = some z → Q (some (.int z.1)) (jx_ShM, z.2) → ∃ n, jx_W jx_ShM d (some .int) jc_240 Q n 16 [some (.ref 0), u1, some (.int x2), some (.int x3)] [] σ) {x3 : Int32} {y0 : Int32} {y1 : Int32} {u1 : Option Value} {u2 : Option Value} {σ : jw_M} {z : (Int32 × jw_M)} (h : f_M_letGo_49 N K16 x3 y0 y1 σ = some z) (hQ : Q (some (.int z.1)) (jx_ShM, z.2)) : ∃ n, jx_W jx_ShM d (some .int) jc_240 Q n 49 [some (.ref 0), u1, u2, some (.int x3)] [.int y1, .int y0] σ := by
  unfold f_M_letGo_49 at h
  obtain ⟨n, hn⟩ := hK16 (u1 := (jw_clr u1)) h hQ
  exact ⟨n + 4, hn⟩
set_option maxRecDepth 20000 in
theorem s_M_letGo_16 {N d : Nat} {Q : jw_Q} (hd : 7 ≤ d) : ∀ (k : Nat) {x2 : Int32} {x3 : Int32} {u1 : Option Value} {σ : jw_M} {z : (Int32 × jw_M)}, f_M_letGo_16 N k x2 x3 σ = some z → Q (some (.int z.1)) (jx_ShM, z.2) → ∃ n, jx_W jx_ShM d (some .int) jc_240 Q n 16 [some (.ref 0), u1, some (.int x2), some (.int x3)] [] σ
  | 0, _, _, _, _, _, h, _ => by cases h
  | k + 1, x2, x3, u1, σ, z, h, hQ => by
    rw [f_M_letGo_16] at h
    by_cases c5 : (σ.1 3 2) ≤ x3
    · rw [if_pos c5] at h
      suffices hh : ∃ n, jx_W jx_ShM d (some .int) jc_240 Q n 57 [some (.ref 0), u1, some (.int x2), some (.int x3)] [] σ by
        obtain ⟨n, hn⟩ := hh
        exact ⟨n + 6, And.intro (jx_in_ok rfl) (And.intro (fun _ => hn) (fun zz => absurd c5 zz))⟩
      obtain ⟨z6, h7, h⟩ := Option.bind_eq_some_iff.mp h
      cases h
      exact ⟨5, s_M_load (by omega) h7 (And.intro hQ (And.intro rfl rfl))⟩
    · rw [if_neg c5] at h
      suffices hh : ∃ n, jx_W jx_ShM d (some .int) jc_240 Q n 26 [some (.ref 0), u1, some (.int x2), some (.int x3)] [] σ by
        obtain ⟨n, hn⟩ := hh
        exact ⟨n + 6, And.intro (jx_in_ok rfl) (And.intro (fun zz => absurd zz c5) (fun _ => hn))⟩
      cases c8 : jx_in (2 + x3) 56 with
      | false => rw [c8, cond_false] at h; cases h
      | true =>
        rw [c8, cond_true] at h
        obtain ⟨z9, h10, h⟩ := Option.bind_eq_some_iff.mp h
        by_cases c11 : (σ.1 1 ((2 + x3)).toNatClampNeg) = z9.1
        · rw [if_pos c11] at h
          suffices hh : ∃ n, jx_W jx_ShM d (some .int) jc_240 Q n 42 [some (.ref 0), u1, some (.int x2), some (.int x3)] [.int x2] z9.2 by
            obtain ⟨n, hn⟩ := hh
            exact ⟨n + 10, And.intro (jx_in_ok c8) (s_M_allLessons (by omega) h10 (And.intro (fun zz => absurd c11 zz) (fun _ => hn)))⟩
          obtain ⟨n, hn⟩ := s_M_letGo_49 hd (s_M_letGo_16 hd k) (u1 := u1) (u2 := some (.int x2)) h hQ
          exact ⟨n + 4, hn⟩
        · rw [if_neg c11] at h
          suffices hh : ∃ n, jx_W jx_ShM d (some .int) jc_240 Q n 48 [some (.ref 0), u1, some (.int x2), some (.int x3)] [.int x2] z9.2 by
            obtain ⟨n, hn⟩ := hh
            exact ⟨n + 10, And.intro (jx_in_ok c8) (s_M_allLessons (by omega) h10 (And.intro (fun _ => hn) (fun zz => absurd zz c11)))⟩
          obtain ⟨n, hn⟩ := s_M_letGo_49 hd (s_M_letGo_16 hd k) (u1 := u1) (u2 := some (.int x2)) h hQ
          exact ⟨n + 1, hn⟩
set_option maxRecDepth 20000 in
theorem s_M_letGo {N d : Nat} (hd : 8 ≤ d) {σ : jw_M} {z : (Int32 × jw_M)} {Q : jw_Q} (h : f_M_letGo N  σ = some z) (hQ : Q (some (.int z.1)) (jx_ShM, z.2)) : jw_C jp_kd jp_ys d 240 [.ref 0] (jx_ShM, σ) Q := by
  obtain ⟨d, rfl⟩ : ∃ e, d = e + 1 := ⟨d - 1, by omega⟩
  replace hd : 7 ≤ d := by omega
  refine jx_C rfl rfl ?_
  unfold f_M_letGo at h
  obtain ⟨z1, h2, h⟩ := Option.bind_eq_some_iff.mp h
  obtain ⟨z3, h4, h⟩ := Option.bind_eq_some_iff.mp h
  obtain ⟨n, hn⟩ := s_M_letGo_16 hd N (u1 := some (.int z3.1)) h hQ
  exact ⟨n + 11, s_M_save (by omega) h2 (s_M_rest (by omega) h4 (hn))⟩
set_option maxRecDepth 20000 in
theorem s_M_crowd_88 {N d : Nat} {Q : jw_Q} {K29 : Int32 → Int32 → Int32 → jw_M → Option (Int32 × jw_M)} (hd : 6 ≤ d) (hK29 : ∀ {x1 : Int32} {x2 : Int32} {x3 : Int32} {σ : jw_M} {z : (Int32 × jw_M)} {u4 : Option Value} {u5 : Option Value}, K29 x1 x2 x3 σ = some z → Q (some (.int z.1)) (jx_ShM, z.2) → ∃ n, jx_W jx_ShM d (some .int) jc_241 Q n 29 [some (.ref 0), some (.int x1), some (.int x2), some (.int x3), u4, u5] [] σ) {x1 : Int32} {x2 : Int32} {y0 : Int32} {u3 : Option Value} {u4 : Option Value} {u5 : Option Value} {σ : jw_M} {z : (Int32 × jw_M)} (h : f_M_crowd_88 N K29 x1 x2 y0 σ = some z) (hQ : Q (some (.int z.1)) (jx_ShM, z.2)) : ∃ n, jx_W jx_ShM d (some .int) jc_241 Q n 88 [some (.ref 0), some (.int x1), some (.int x2), u3, u4, u5] [.int y0] σ := by
  unfold f_M_crowd_88 at h
  obtain ⟨n, hn⟩ := hK29 (u4 := u4) (u5 := u5) h hQ
  exact ⟨n + 2, hn⟩
set_option maxRecDepth 20000 in
theorem s_M_crowd_67 {N d : Nat} {Q : jw_Q} {K29 : Int32 → Int32 → Int32 → jw_M → Option (Int32 × jw_M)} (hd : 6 ≤ d) (hK29 : ∀ {x1 : Int32} {x2 : Int32} {x3 : Int32} {σ : jw_M} {z : (Int32 × jw_M)} {u4 : Option Value} {u5 : Option Value}, K29 x1 x2 x3 σ = some z → Q (some (.int z.1)) (jx_ShM, z.2) → ∃ n, jx_W jx_ShM d (some .int) jc_241 Q n 29 [some (.ref 0), some (.int x1), some (.int x2), some (.int x3), u4, u5] [] σ) {x1 : Int32} {x3 : Int32} {y0 : Int32} {u2 : Option Value} {u4 : Option Value} {u5 : Option Value} {σ : jw_M} {z : (Int32 × jw_M)} (h : f_M_crowd_67 N K29 x1 x3 y0 σ = some z) (hQ : Q (some (.int z.1)) (jx_ShM, z.2)) : ∃ n, jx_W jx_ShM d (some .int) jc_241 Q n 67 [some (.ref 0), some (.int x1), u2, some (.int x3), u4, u5] [.int y0] σ := by
  unfold f_M_crowd_67 at h
  cases c16 : jx_in x1 8 with
  | false => rw [c16, cond_false] at h; cases h
  | true =>
    rw [c16, cond_true] at h
    by_cases c17 : (σ.1 10 (x1).toNatClampNeg) ≤ x3
    · rw [if_pos c17] at h
      suffices hh : ∃ n, jx_W jx_ShM d (some .int) jc_241 Q n 87 [some (.ref 0), some (.int x1), some (.int y0), some (.int x3), u4, u5] [] σ by
        obtain ⟨n, hn⟩ := hh
        exact ⟨n + 7, And.intro (jx_in_ok c16) (And.intro (fun _ => hn) (fun zz => absurd c17 zz))⟩
      obtain ⟨n, hn⟩ := s_M_crowd_88 hd hK29 (u3 := some (.int x3)) (u4 := u4) (u5 := u5) h hQ
      exact ⟨n + 1, hn⟩
    · rw [if_neg c17] at h
      suffices hh : ∃ n, jx_W jx_ShM d (some .int) jc_241 Q n 78 [some (.ref 0), some (.int x1), some (.int y0), some (.int x3), u4, u5] [] σ by
        obtain ⟨n, hn⟩ := hh
        exact ⟨n + 7, And.intro (jx_in_ok c16) (And.intro (fun zz => absurd zz c17) (fun _ => hn))⟩
      obtain ⟨n, hn⟩ := s_M_crowd_88 hd hK29 (u3 := some (.int x3)) (u4 := u4) (u5 := u5) h hQ
      exact ⟨n + 5, And.intro (jx_in_ok c16) (hn)⟩
set_option maxRecDepth 20000 in
theorem s_M_crowd_29 {N d : Nat} {Q : jw_Q} (hd : 6 ≤ d) : ∀ (k : Nat) {x1 : Int32} {x2 : Int32} {x3 : Int32} {u4 : Option Value} {u5 : Option Value} {σ : jw_M} {z : (Int32 × jw_M)}, f_M_crowd_29 N k x1 x2 x3 σ = some z → Q (some (.int z.1)) (jx_ShM, z.2) → ∃ n, jx_W jx_ShM d (some .int) jc_241 Q n 29 [some (.ref 0), some (.int x1), some (.int x2), some (.int x3), u4, u5] [] σ
  | 0, _, _, _, _, _, _, _, h, _ => by cases h
  | k + 1, x1, x2, x3, u4, u5, σ, z, h, hQ => by
    rw [f_M_crowd_29] at h
    obtain ⟨z9, h10, h⟩ := Option.bind_eq_some_iff.mp h
    by_cases c11 : z9.1 = 0
    · rw [if_pos c11] at h
      suffices hh : ∃ n, jx_W jx_ShM d (some .int) jc_241 Q n 36 [some (.ref 0), some (.int x1), some (.int x2), some (.int x3), u4, u5] [] z9.2 by
        obtain ⟨n, hn⟩ := hh
        exact ⟨n + 3, s_M_isOver (by omega) h10 (And.intro (fun zz => absurd c11 zz) (fun _ => hn))⟩
      obtain ⟨z12, h13, h⟩ := Option.bind_eq_some_iff.mp h
      cases c14 : jx_in x1 8 with
      | false => rw [c14, cond_false] at h; cases h
      | true =>
        rw [c14, cond_true] at h
        by_cases c15 : (z12.2.1 10 (x1).toNatClampNeg) ≤ x3
        · rw [if_pos c15] at h
          suffices hh : ∃ n, jx_W jx_ShM d (some .int) jc_241 Q n 66 [some (.ref 0), some (.int x1), some (.int x2), some (.int x3), some (.int (z9.2.1 1 0)), some (.int z12.1)] [] z12.2 by
            obtain ⟨n, hn⟩ := hh
            exact ⟨n + 15, And.intro (jx_in_ok rfl) (s_M_goes (by omega) h13 (And.intro (jx_in_ok c14) (And.intro (fun _ => hn) (fun zz => absurd c15 zz))))⟩
          obtain ⟨n, hn⟩ := s_M_crowd_67 hd (s_M_crowd_29 hd k) (u2 := some (.int x2)) (u4 := some (.int (z9.2.1 1 0))) (u5 := some (.int z12.1)) h hQ
          exact ⟨n + 1, hn⟩
        · rw [if_neg c15] at h
          suffices hh : ∃ n, jx_W jx_ShM d (some .int) jc_241 Q n 61 [some (.ref 0), some (.int x1), some (.int x2), some (.int x3), some (.int (z9.2.1 1 0)), some (.int z12.1)] [] z12.2 by
            obtain ⟨n, hn⟩ := hh
            exact ⟨n + 15, And.intro (jx_in_ok rfl) (s_M_goes (by omega) h13 (And.intro (jx_in_ok c14) (And.intro (fun zz => absurd zz c15) (fun _ => hn))))⟩
          obtain ⟨n, hn⟩ := s_M_crowd_67 hd (s_M_crowd_29 hd k) (u2 := some (.int x2)) (u4 := some (.int (z9.2.1 1 0))) (u5 := some (.int z12.1)) h hQ
          exact ⟨n + 2, hn⟩
    · rw [if_neg c11] at h
      suffices hh : ∃ n, jx_W jx_ShM d (some .int) jc_241 Q n 92 [some (.ref 0), some (.int x1), some (.int x2), some (.int x3), u4, u5] [] z9.2 by
        obtain ⟨n, hn⟩ := hh
        exact ⟨n + 3, s_M_isOver (by omega) h10 (And.intro (fun _ => hn) (fun zz => absurd zz c11))⟩
      obtain ⟨z18, h19, h⟩ := Option.bind_eq_some_iff.mp h
      cases h
      exact ⟨5, s_M_load (by omega) h19 (And.intro hQ (And.intro rfl rfl))⟩
set_option maxRecDepth 20000 in
theorem s_M_crowd {N d : Nat} {x1 : Int32} (hd : 7 ≤ d) {σ : jw_M} {z : (Int32 × jw_M)} {Q : jw_Q} (h : f_M_crowd N x1 σ = some z) (hQ : Q (some (.int z.1)) (jx_ShM, z.2)) : jw_C jp_kd jp_ys d 241 [.ref 0, .int x1] (jx_ShM, σ) Q := by
  obtain ⟨d, rfl⟩ : ∃ e, d = e + 1 := ⟨d - 1, by omega⟩
  replace hd : 6 ≤ d := by omega
  refine jx_C rfl rfl ?_
  unfold f_M_crowd at h
  obtain ⟨z1, h2, h⟩ := Option.bind_eq_some_iff.mp h
  by_cases c3 : z1.1 = 0
  · rw [if_pos c3] at h
    suffices hh : ∃ n, jx_W jx_ShM d (some .int) jc_241 Q n 8 [some (.ref 0), some (.int x1), none, none, none, none] [] z1.2 by
      obtain ⟨n, hn⟩ := hh
      exact ⟨n + 4, s_M_isLesson (by omega) h2 (And.intro (fun zz => absurd c3 zz) (fun _ => hn))⟩
    cases h
    exact ⟨2, And.intro hQ (And.intro rfl rfl)⟩
  · rw [if_neg c3] at h
    suffices hh : ∃ n, jx_W jx_ShM d (some .int) jc_241 Q n 10 [some (.ref 0), some (.int x1), none, none, none, none] [] z1.2 by
      obtain ⟨n, hn⟩ := hh
      exact ⟨n + 4, s_M_isLesson (by omega) h2 (And.intro (fun _ => hn) (fun zz => absurd zz c3))⟩
    obtain ⟨z4, h5, h⟩ := Option.bind_eq_some_iff.mp h
    by_cases c6 : z4.1 = 0
    · rw [if_pos c6] at h
      suffices hh : ∃ n, jx_W jx_ShM d (some .int) jc_241 Q n 20 [some (.ref 0), some (.int x1), none, none, none, none] [] z4.2 by
        obtain ⟨n, hn⟩ := hh
        exact ⟨n + 3, s_M_isOver (by omega) h5 (And.intro (fun _ => hn) (fun zz => absurd c6 zz))⟩
      obtain ⟨z7, h8, h⟩ := Option.bind_eq_some_iff.mp h
      obtain ⟨n, hn⟩ := s_M_crowd_29 hd N (u4 := none) (u5 := none) h hQ
      exact ⟨n + 7, s_M_save (by omega) h8 (hn)⟩
    · rw [if_neg c6] at h
      suffices hh : ∃ n, jx_W jx_ShM d (some .int) jc_241 Q n 17 [some (.ref 0), some (.int x1), none, none, none, none] [] z4.2 by
        obtain ⟨n, hn⟩ := hh
        exact ⟨n + 3, s_M_isOver (by omega) h5 (And.intro (fun zz => absurd zz c6) (fun _ => hn))⟩
      cases h
      exact ⟨2, And.intro hQ (And.intro rfl rfl)⟩
