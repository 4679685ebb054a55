def f_F_on (N : Nat) (x1 : Int32) (σ : jw_M) : Option (Int32 × jw_M) := (f_F_isWithin N x1 0 16 σ).bind fun z1 => if z1.1 = 0 then some ((-1), z1.2) else (f_F_worthOfRest N x1 z1.2).bind fun z4 => some (z4.1, z4.2)
set_option maxRecDepth 20000 in
theorem s_F_on {N d : Nat} {x1 : Int32} (hd : 8 ≤ d) {σ : jw_M} {z : (Int32 × jw_M)} {Q : jw_Q} (h : f_F_on N x1 σ = some z) (hQ : Q (some (.int z.1)) (jx_ShC, z.2)) : jw_C jp_kd jp_ys d 126 [.ref 0, .int x1] (jx_ShC, σ) Q := by
  obtain ⟨d, rfl⟩ : ∃ e, d = e + 1 := ⟨d - 1, by omega⟩
  replace hd : 7 ≤ d := by omega
  refine jx_C rfl rfl ?_
  unfold f_F_on at h
  obtain ⟨z1, h2, h⟩ := Option.bind_eq_some_iff.mp h
  by_cases c3 : z1.1 = 0
  · rw [if_pos c3] at h
    suffices hh : ∃ n, jx_W jx_ShC d (some .int) jc_126 Q n 18 [some (.ref 0), some (.int x1)] [] z1.2 by
      obtain ⟨n, hn⟩ := hh
      exact ⟨n + 5, s_F_isWithin (by omega) h2 (And.intro (fun _ => hn) (fun zz => absurd c3 zz))⟩
    cases h
    exact ⟨2, And.intro hQ (And.intro rfl rfl)⟩
  · rw [if_neg c3] at h
    suffices hh : ∃ n, jx_W jx_ShC d (some .int) jc_126 Q n 10 [some (.ref 0), some (.int x1)] [] z1.2 by
      obtain ⟨n, hn⟩ := hh
      exact ⟨n + 5, s_F_isWithin (by omega) h2 (And.intro (fun zz => absurd zz c3) (fun _ => hn))⟩
    obtain ⟨z4, h5, h⟩ := Option.bind_eq_some_iff.mp h
    cases h
    exact ⟨5, s_F_worthOfRest (by omega) h5 (And.intro hQ (And.intro rfl rfl))⟩
def f_F_when_61 (N : Nat) : Nat → Int32 → Int32 → Int32 → jw_M → Option (Int32 × jw_M)
  | 0, _, _, _, _ => none
  | k + 1, x1, x2, x3, σ => if (σ.1 1 14) ≤ x3 then some ((-3), σ) else (f_S_goBy N 75 0 σ).bind fun z13 => (f_P_hasLearnt N x1 x2 z13.2).bind fun z15 => if z15.1 = 0 then f_F_when_61 N k x1 x2 (x3 + 1) z15.2 else some (x3, z15.2)
set_option maxRecDepth 20000 in
theorem s_F_when_61 {N d : Nat} {Q : jw_Q} (hd : 6 ≤ d) : ∀ (k : Nat) {x1 : Int32} {x2 : Int32} {x3 : Int32} {σ : jw_M} {z : (Int32 × jw_M)}, f_F_when_61 N k x1 x2 x3 σ = some z → Q (some (.int z.1)) (jx_ShC, z.2) → ∃ n, jx_W jx_ShC d (some .int) jc_127 Q n 61 [some (.ref 0), some (.int x1), some (.int x2), some (.int x3)] [] σ
  | 0, _, _, _, _, _, h, _ => by cases h
  | k + 1, x1, x2, x3, σ, z, h, hQ => by
    rw [f_F_when_61] at h
    by_cases c12 : (σ.1 1 14) ≤ x3
    · rw [if_pos c12] at h
      suffices hh : ∃ n, jx_W jx_ShC d (some .int) jc_127 Q n 105 [some (.ref 0), some (.int x1), some (.int x2), some (.int x3)] [] σ by
        obtain ⟨n, hn⟩ := hh
        exact ⟨n + 5, And.intro (fun _ => hn) (fun zz => absurd c12 zz)⟩
      cases h
      exact ⟨2, And.intro hQ (And.intro rfl rfl)⟩
    · rw [if_neg c12] at h
      suffices hh : ∃ n, jx_W jx_ShC d (some .int) jc_127 Q n 72 [some (.ref 0), some (.int x1), some (.int x2), some (.int x3)] [] σ by
        obtain ⟨n, hn⟩ := hh
        exact ⟨n + 5, And.intro (fun zz => absurd zz c12) (fun _ => hn)⟩
      obtain ⟨z13, h14, h⟩ := Option.bind_eq_some_iff.mp h
      obtain ⟨z15, h16, h⟩ := Option.bind_eq_some_iff.mp h
      by_cases c17 : z15.1 = 0
      · rw [if_pos c17] at h
        suffices hh : ∃ n, jx_W jx_ShC d (some .int) jc_127 Q n 99 [some (.ref 0), some (.int x1), some (.int x2), some (.int x3)] [] z15.2 by
          obtain ⟨n, hn⟩ := hh
          exact ⟨n + 13, s_S_goBy (by omega) (by decide) h14 (s_P_hasLearnt (by omega) h16 (And.intro (fun _ => hn) (fun zz => absurd c17 zz)))⟩
        obtain ⟨n, hn⟩ := s_F_when_61 hd k h hQ
        exact ⟨n + 2, hn⟩
      · rw [if_neg c17] at h
        suffices hh : ∃ n, jx_W jx_ShC d (some .int) jc_127 Q n 97 [some (.ref 0), some (.int x1), some (.int x2), some (.int x3)] [] z15.2 by
          obtain ⟨n, hn⟩ := hh
          exact ⟨n + 13, s_S_goBy (by omega) (by decide) h14 (s_P_hasLearnt (by omega) h16 (And.intro (fun zz => absurd zz c17) (fun _ => hn)))⟩
        cases h
        exact ⟨2, And.intro hQ (And.intro rfl rfl)⟩
def f_F_when (N : Nat) (x1 : Int32) (x2 : Int32) (σ : jw_M) : Option (Int32 × jw_M) := (f_S_isShadow N x1 σ).bind fun z1 => if z1.1 = 0 then some ((-1), z1.2) else (f_S_isLesson N x2 z1.2).bind fun z4 => if z4.1 = 0 then some ((-1), z4.2) else (f_P_copyFrom N 75 27 z4.2).bind fun z7 => (f_P_hasLearnt N x1 x2 z7).bind fun z9 => if z9.1 = 0 then f_F_when_61 N N x1 x2 (z9.2.1 75 0) z9.2 else some ((-3), z9.2)
set_option maxRecDepth 20000 in
theorem s_F_when {N d : Nat} {x1 : Int32} {x2 : Int32} (hd : 7 ≤ d) {σ : jw_M} {z : (Int32 × jw_M)} {Q : jw_Q} (h : f_F_when N x1 x2 σ = some z) (hQ : Q (some (.int z.1)) (jx_ShC, z.2)) : jw_C jp_kd jp_ys d 127 [.ref 0, .int x1, .int x2] (jx_ShC, σ) Q := by
  obtain ⟨d, rfl⟩ : ∃ e, d = e + 1 := ⟨d - 1, by omega⟩
  replace hd : 6 ≤ d := by omega
  refine jx_C rfl rfl ?_
  unfold f_F_when at h
  obtain ⟨z1, h2, h⟩ := Option.bind_eq_some_iff.mp h
  by_cases c3 : z1.1 = 0
  · rw [if_pos c3] at h
    suffices hh : ∃ n, jx_W jx_ShC d (some .int) jc_127 Q n 22 [some (.ref 0), some (.int x1), some (.int x2), none] [] z1.2 by
      obtain ⟨n, hn⟩ := hh
      exact ⟨n + 5, s_S_isShadow (by omega) h2 (And.intro (fun _ => hn) (fun zz => absurd c3 zz))⟩
    cases h
    exact ⟨2, And.intro hQ (And.intro rfl rfl)⟩
  · rw [if_neg c3] at h
    suffices hh : ∃ n, jx_W jx_ShC d (some .int) jc_127 Q n 11 [some (.ref 0), some (.int x1), some (.int x2), none] [] z1.2 by
      obtain ⟨n, hn⟩ := hh
      exact ⟨n + 5, s_S_isShadow (by omega) h2 (And.intro (fun zz => absurd zz c3) (fun _ => hn))⟩
    obtain ⟨z4, h5, h⟩ := Option.bind_eq_some_iff.mp h
    by_cases c6 : z4.1 = 0
    · rw [if_pos c6] at h
      suffices hh : ∃ n, jx_W jx_ShC d (some .int) jc_127 Q n 22 [some (.ref 0), some (.int x1), some (.int x2), none] [] z4.2 by
        obtain ⟨n, hn⟩ := hh
        exact ⟨n + 5, s_S_isLesson (by omega) h5 (And.intro (fun zz => absurd c6 zz) (fun _ => hn))⟩
      cases h
      exact ⟨2, And.intro hQ (And.intro rfl rfl)⟩
    · rw [if_neg c6] at h
      suffices hh : ∃ n, jx_W jx_ShC d (some .int) jc_127 Q n 24 [some (.ref 0), some (.int x1), some (.int x2), none] [] z4.2 by
        obtain ⟨n, hn⟩ := hh
        exact ⟨n + 5, s_S_isLesson (by omega) h5 (And.intro (fun _ => hn) (fun zz => absurd zz c6))⟩
      obtain ⟨z7, h8, h⟩ := Option.bind_eq_some_iff.mp h
      obtain ⟨z9, h10, h⟩ := Option.bind_eq_some_iff.mp h
      by_cases c11 : z9.1 = 0
      · rw [if_pos c11] at h
        suffices hh : ∃ n, jx_W jx_ShC d (some .int) jc_127 Q n 53 [some (.ref 0), some (.int x1), some (.int x2), none] [] z9.2 by
          obtain ⟨n, hn⟩ := hh
          exact ⟨n + 12, s_P_copyFrom (by omega) (by decide) h8 (s_P_hasLearnt (by omega) h10 (And.intro (fun _ => hn) (fun zz => absurd c11 zz)))⟩
        obtain ⟨n, hn⟩ := s_F_when_61 hd N h hQ
        exact ⟨n + 4, hn⟩
      · rw [if_neg c11] at h
        suffices hh : ∃ n, jx_W jx_ShC d (some .int) jc_127 Q n 50 [some (.ref 0), some (.int x1), some (.int x2), none] [] z9.2 by
          obtain ⟨n, hn⟩ := hh
          exact ⟨n + 12, s_P_copyFrom (by omega) (by decide) h8 (s_P_hasLearnt (by omega) h10 (And.intro (fun zz => absurd zz c11) (fun _ => hn)))⟩
        cases h
        exact ⟨2, And.intro hQ (And.intro rfl rfl)⟩
def f_F_letGo_47 (N : Nat) (K11 : Int32 → Int32 → jw_M → Option (Int32 × jw_M)) (x1 : Int32) (x2 : Int32) (σ : jw_M) : Option (Int32 × jw_M) := K11 x1 (x2 + 1) σ
set_option maxRecDepth 20000 in
theorem s_F_letGo_47 {N d : Nat} {Q : jw_Q} {K11 : Int32 → Int32 → jw_M → Option (Int32 × jw_M)} (hd : 7 ≤ d) (hK11 : ∀ {x1 : Int32} {x2 : Int32} {σ : jw_M} {z : (Int32 × jw_M)}, K11 x1 x2 σ = some z → Q (some (.int z.1)) (jx_ShC, z.2) → ∃ n, jx_W jx_ShC d (some .int) jc_128 Q n 11 [some (.ref 0), some (.int x1), some (.int x2)] [] σ) {x1 : Int32} {x2 : Int32} {σ : jw_M} {z : (Int32 × jw_M)} (h : f_F_letGo_47 N K11 x1 x2 σ = some z) (hQ : Q (some (.int z.1)) (jx_ShC, z.2)) : ∃ n, jx_W jx_ShC d (some .int) jc_128 Q n 47 [some (.ref 0), some (.int x1), some (.int x2)] [] σ := by
  unfold f_F_letGo_47 at h
  obtain ⟨n, hn⟩ := hK11 h hQ
  exact ⟨n + 2, hn⟩
def f_F_letGo_11 (N : Nat) : Nat → Int32 → Int32 → jw_M → Option (Int32 × jw_M)
  | 0, _, _, _ => none
  | k + 1, x1, x2, σ => if (σ.1 1 0) ≤ x2 then some (x1, σ) else bif jx_in x2 6 then (f_S_allLessons N  σ).bind fun z5 => if (σ.1 77 (x2).toNatClampNeg) = z5.1 then f_F_letGo_47 N (f_F_letGo_11 N k) (x1 ||| ((1 : Int32) <<< (x2 &&& 31))) x2 z5.2 else f_F_letGo_47 N (f_F_letGo_11 N k) x1 x2 z5.2 else none
set_option maxRecDepth 20000 in
theorem s_F_letGo_11 {N d : Nat} {Q : jw_Q} (hd : 7 ≤ d) : ∀ (k : Nat) {x1 : Int32} {x2 : Int32} {σ : jw_M} {z : (Int32 × jw_M)}, f_F_letGo_11 N k x1 x2 σ = some z → Q (some (.int z.1)) (jx_ShC, z.2) → ∃ n, jx_W jx_ShC d (some .int) jc_128 Q n 11 [some (.ref 0), some (.int x1), some (.int x2)] [] σ
  | 0, _, _, _, _, h, _ => by cases h
  | k + 1, x1, x2, σ, z, h, hQ => by
    rw [f_F_letGo_11] at h
    by_cases c3 : (σ.1 1 0) ≤ x2
    · rw [if_pos c3] at h
      suffices hh : ∃ n, jx_W jx_ShC d (some .int) jc_128 Q n 53 [some (.ref 0), some (.int x1), some (.int x2)] [] σ by
        obtain ⟨n, hn⟩ := hh
        exact ⟨n + 5, And.intro (fun _ => hn) (fun zz => absurd c3 zz)⟩
      cases h
      exact ⟨2, And.intro hQ (And.intro rfl rfl)⟩
    · rw [if_neg c3] at h
      suffices hh : ∃ n, jx_W jx_ShC d (some .int) jc_128 Q n 22 [some (.ref 0), some (.int x1), some (.int x2)] [] σ by
        obtain ⟨n, hn⟩ := hh
        exact ⟨n + 5, And.intro (fun zz => absurd zz c3) (fun _ => hn)⟩
      cases c4 : jx_in x2 6 with
      | false => rw [c4, cond_false] at h; cases h
      | true =>
        rw [c4, cond_true] at h
        obtain ⟨z5, h6, h⟩ := Option.bind_eq_some_iff.mp h
        by_cases c7 : (σ.1 77 (x2).toNatClampNeg) = z5.1
        · rw [if_pos c7] at h
          suffices hh : ∃ n, jx_W jx_ShC d (some .int) jc_128 Q n 41 [some (.ref 0), some (.int x1), some (.int x2)] [] z5.2 by
            obtain ⟨n, hn⟩ := hh
            exact ⟨n + 9, And.intro (jx_in_ok c4) (s_S_allLessons (by omega) h6 (And.intro (fun zz => absurd c7 zz) (fun _ => hn)))⟩
          obtain ⟨n, hn⟩ := s_F_letGo_47 hd (s_F_letGo_11 hd k) h hQ
          exact ⟨n + 6, hn⟩
        · rw [if_neg c7] at h
          suffices hh : ∃ n, jx_W jx_ShC d (some .int) jc_128 Q n 47 [some (.ref 0), some (.int x1), some (.int x2)] [] z5.2 by
            obtain ⟨n, hn⟩ := hh
            exact ⟨n + 9, And.intro (jx_in_ok c4) (s_S_allLessons (by omega) h6 (And.intro (fun _ => hn) (fun zz => absurd zz c7)))⟩
          obtain ⟨n, hn⟩ := s_F_letGo_47 hd (s_F_letGo_11 hd k) h hQ
          exact ⟨n + 0, hn⟩
def f_F_letGo (N : Nat) (σ : jw_M) : Option (Int32 × jw_M) := (f_F_worthOfRest N 16 σ).bind fun z1 => f_F_letGo_11 N N 0 0 z1.2
set_option maxRecDepth 20000 in
theorem s_F_letGo {N d : Nat} (hd : 8 ≤ d) {σ : jw_M} {z : (Int32 × jw_M)} {Q : jw_Q} (h : f_F_letGo N  σ = some z) (hQ : Q (some (.int z.1)) (jx_ShC, z.2)) : jw_C jp_kd jp_ys d 128 [.ref 0] (jx_ShC, σ) Q := by
  obtain ⟨d, rfl⟩ : ∃ e, d = e + 1 := ⟨d - 1, by omega⟩
  replace hd : 7 ≤ d := by omega
  refine jx_C rfl rfl ?_
  unfold f_F_letGo at h
  obtain ⟨z1, h2, h⟩ := Option.bind_eq_some_iff.mp h
  obtain ⟨n, hn⟩ := s_F_letGo_11 hd N h hQ
  exact ⟨n + 8, s_F_worthOfRest (by omega) h2 (hn)⟩
def f_F_crowd_92 (N : Nat) (K41 : Int32 → Int32 → Int32 → Int32 → jw_M → Option (Int32 × jw_M)) (x1 : Int32) (x2 : Int32) (x3 : Int32) (x4 : Int32) (σ : jw_M) : Option (Int32 × jw_M) := K41 x1 x2 x3 (x4 + 1) σ
set_option maxRecDepth 20000 in
theorem s_F_crowd_92 {N d : Nat} {Q : jw_Q} {K41 : Int32 → Int32 → Int32 → Int32 → jw_M → Option (Int32 × jw_M)} (hd : 6 ≤ d) (hK41 : ∀ {x1 : Int32} {x2 : Int32} {x3 : Int32} {x4 : Int32} {σ : jw_M} {z : (Int32 × jw_M)}, K41 x1 x2 x3 x4 σ = some z → Q (some (.int z.1)) (jx_ShC, z.2) → ∃ n, jx_W jx_ShC d (some .int) jc_129 Q n 41 [some (.ref 0), some (.int x1), some (.int x2), some (.int x3), some (.int x4)] [] σ) {x1 : Int32} {x2 : Int32} {x3 : Int32} {x4 : Int32} {σ : jw_M} {z : (Int32 × jw_M)} (h : f_F_crowd_92 N K41 x1 x2 x3 x4 σ = some z) (hQ : Q (some (.int z.1)) (jx_ShC, z.2)) : ∃ n, jx_W jx_ShC d (some .int) jc_129 Q n 92 [some (.ref 0), some (.int x1), some (.int x2), some (.int x3), some (.int x4)] [] σ := by
  unfold f_F_crowd_92 at h
  obtain ⟨n, hn⟩ := hK41 h hQ
  exact ⟨n + 2, hn⟩
def f_F_crowd_41 (N : Nat) : Nat → Int32 → Int32 → Int32 → Int32 → jw_M → Option (Int32 × jw_M)
  | 0, _, _, _, _, _ => none
  | k + 1, x1, x2, x3, x4, σ => if (σ.1 1 14) ≤ x4 then some (x3, σ) else (f_S_goBy N 75 0 σ).bind fun z7 => bif jx_in x1 8 then if (z7.2.1 78 (x1).toNatClampNeg) ≤ x2 then f_F_crowd_92 N (f_F_crowd_41 N k) x1 x2 x3 x4 z7.2 else f_F_crowd_92 N (f_F_crowd_41 N k) x1 (z7.2.1 78 (x1).toNatClampNeg) x4 x4 z7.2 else none
set_option maxRecDepth 20000 in
theorem s_F_crowd_41 {N d : Nat} {Q : jw_Q} (hd : 6 ≤ d) : ∀ (k : Nat) {x1 : Int32} {x2 : Int32} {x3 : Int32} {x4 : Int32} {σ : jw_M} {z : (Int32 × jw_M)}, f_F_crowd_41 N k x1 x2 x3 x4 σ = some z → Q (some (.int z.1)) (jx_ShC, z.2) → ∃ n, jx_W jx_ShC d (some .int) jc_129 Q n 41 [some (.ref 0), some (.int x1), some (.int x2), some (.int x3), some (.int x4)] [] σ
  | 0, _, _, _, _, _, _, h, _ => by cases h
  | k + 1, x1, x2, x3, x4, σ, z, h, hQ => by
    rw [f_F_crowd_41] at h
    by_cases c6 : (σ.1 1 14) ≤ x4
    · rw [if_pos c6] at h
      suffices hh : ∃ n, jx_W jx_ShC d (some .int) jc_129 Q n 98 [some (.ref 0), some (.int x1), some (.int x2), some (.int x3), some (.int x4)] [] σ by
        obtain ⟨n, hn⟩ := hh
        exact ⟨n + 5, And.intro (fun _ => hn) (fun zz => absurd c6 zz)⟩
      cases h
      exact ⟨2, And.intro hQ (And.intro rfl rfl)⟩
    · rw [if_neg c6] at h
      suffices hh : ∃ n, jx_W jx_ShC d (some .int) jc_129 Q n 53 [some (.ref 0), some (.int x1), some (.int x2), some (.int x3), some (.int x4)] [] σ by
        obtain ⟨n, hn⟩ := hh
        exact ⟨n + 5, And.intro (fun zz => absurd zz c6) (fun _ => hn)⟩
      obtain ⟨z7, h8, h⟩ := Option.bind_eq_some_iff.mp h
      cases c9 : jx_in x1 8 with
      | false => rw [c9, cond_false] at h; cases h
      | true =>
        rw [c9, cond_true] at h
        by_cases c10 : (z7.2.1 78 (x1).toNatClampNeg) ≤ x2
        · rw [if_pos c10] at h
          suffices hh : ∃ n, jx_W jx_ShC d (some .int) jc_129 Q n 92 [some (.ref 0), some (.int x1), some (.int x2), some (.int x3), some (.int x4)] [] z7.2 by
            obtain ⟨n, hn⟩ := hh
            exact ⟨n + 14, s_S_goBy (by omega) (by decide) h8 (And.intro (jx_in_ok c9) (And.intro (fun _ => hn) (fun zz => absurd c10 zz)))⟩
          obtain ⟨n, hn⟩ := s_F_crowd_92 hd (s_F_crowd_41 hd k) h hQ
          exact ⟨n + 0, hn⟩
        · rw [if_neg c10] at h
          suffices hh : ∃ n, jx_W jx_ShC d (some .int) jc_129 Q n 79 [some (.ref 0), some (.int x1), some (.int x2), some (.int x3), some (.int x4)] [] z7.2 by
            obtain ⟨n, hn⟩ := hh
            exact ⟨n + 14, s_S_goBy (by omega) (by decide) h8 (And.intro (jx_in_ok c9) (And.intro (fun zz => absurd zz c10) (fun _ => hn)))⟩
          obtain ⟨n, hn⟩ := s_F_crowd_92 hd (s_F_crowd_41 hd k) h hQ
          exact ⟨n + 8, And.intro (jx_in_ok c9) (hn)⟩
def f_F_crowd (N : Nat) (x1 : Int32) (σ : jw_M) : Option (Int32 × jw_M) := (f_S_isLesson N x1 σ).bind fun z1 => if z1.1 = 0 then some ((-1), z1.2) else (f_P_copyFrom N 75 27 z1.2).bind fun z4 => f_F_crowd_41 N N x1 (-1) (-3) (z4.1 75 0) z4
set_option maxRecDepth 20000 in
theorem s_F_crowd {N d : Nat} {x1 : Int32} (hd : 7 ≤ d) {σ : jw_M} {z : (Int32 × jw_M)} {Q : jw_Q} (h : f_F_crowd N x1 σ = some z) (hQ : Q (some (.int z.1)) (jx_ShC, z.2)) : jw_C jp_kd jp_ys d 129 [.ref 0, .int x1] (jx_ShC, σ) Q := by
  obtain ⟨d, rfl⟩ : ∃ e, d = e + 1 := ⟨d - 1, by omega⟩
  replace hd : 6 ≤ d := by omega
  refine jx_C rfl rfl ?_
  unfold f_F_crowd at h
  obtain ⟨z1, h2, h⟩ := Option.bind_eq_some_iff.mp h
  by_cases c3 : z1.1 = 0
  · rw [if_pos c3] at h
    suffices hh : ∃ n, jx_W jx_ShC d (some .int) jc_129 Q n 11 [some (.ref 0), some (.int x1), none, none, none] [] z1.2 by
      obtain ⟨n, hn⟩ := hh
      exact ⟨n + 5, s_S_isLesson (by omega) h2 (And.intro (fun zz => absurd c3 zz) (fun _ => hn))⟩
    cases h
    exact ⟨2, And.intro hQ (And.intro rfl rfl)⟩
  · rw [if_neg c3] at h
    suffices hh : ∃ n, jx_W jx_ShC d (some .int) jc_129 Q n 13 [some (.ref 0), some (.int x1), none, none, none] [] z1.2 by
      obtain ⟨n, hn⟩ := hh
      exact ⟨n + 5, s_S_isLesson (by omega) h2 (And.intro (fun _ => hn) (fun zz => absurd zz c3))⟩
    obtain ⟨z4, h5, h⟩ := Option.bind_eq_some_iff.mp h
    obtain ⟨n, hn⟩ := s_F_crowd_41 hd N h hQ
    exact ⟨n + 14, s_P_copyFrom (by omega) (by decide) h5 (hn)⟩
def f_F_worthiest_0_10_48 (N : Nat) (K14 : Int32 → Int32 → Int32 → Int32 → Int32 → Int32 → jw_M → Option (Int32 × jw_M)) (x2 : Int32) (x3 : Int32) (x4 : Int32) (x5 : Int32) (x6 : Int32) (x7 : Int32) (σ : jw_M) : Option (Int32 × jw_M) := K14 x2 x3 x4 x5 x6 (x7 + 1) σ
set_option maxRecDepth 20000 in
theorem s_F_worthiest_0_10_48 {N d : Nat} {Q : jw_Q} {K14 : Int32 → Int32 → Int32 → Int32 → Int32 → Int32 → jw_M → Option (Int32 × jw_M)} (hd : 7 ≤ d) (hK14 : ∀ {x2 : Int32} {x3 : Int32} {x4 : Int32} {x5 : Int32} {x6 : Int32} {x7 : Int32} {σ : jw_M} {z : (Int32 × jw_M)} {u8 : Option Value}, K14 x2 x3 x4 x5 x6 x7 σ = some z → Q (some (.int z.1)) (jx_ShC, z.2) → ∃ n, jx_W jx_ShC d (some .int) jc_134 Q n 14 [some (.ref 0), some (.ref 10), some (.int x2), some (.int x3), some (.int x4), some (.int x5), some (.int x6), some (.int x7), u8] [] σ) {x2 : Int32} {x3 : Int32} {x4 : Int32} {x5 : Int32} {x6 : Int32} {x7 : Int32} {u8 : Option Value} {σ : jw_M} {z : (Int32 × jw_M)} (h : f_F_worthiest_0_10_48 N K14 x2 x3 x4 x5 x6 x7 σ = some z) (hQ : Q (some (.int z.1)) (jx_ShC, z.2)) : ∃ n, jx_W jx_ShC d (some .int) jc_134 Q n 48 [some (.ref 0), some (.ref 10), some (.int x2), some (.int x3), some (.int x4), some (.int x5), some (.int x6), some (.int x7), u8] [] σ := by
  unfold f_F_worthiest_0_10_48 at h
  obtain ⟨n, hn⟩ := hK14 (u8 := u8) h hQ
  exact ⟨n + 2, hn⟩
def f_F_worthiest_0_10_14 (N : Nat) : Nat → Int32 → Int32 → Int32 → Int32 → Int32 → Int32 → jw_M → Option (Int32 × jw_M)
  | 0, _, _, _, _, _, _, _ => none
  | k + 1, x2, x3, x4, x5, x6, x7, σ => if x3 < x7 then bif jx_in x2 8 then some (x6, (jw_up σ.1 10 (x2).toNatClampNeg x4, σ.2)) else none else bif jx_in x2 8 then (f_F_worthOfRest N 16 (jw_up σ.1 10 (x2).toNatClampNeg x7, σ.2)).bind fun z5 => if z5.1 ≤ x5 then f_F_worthiest_0_10_48 N (f_F_worthiest_0_10_14 N k) x2 x3 x4 x5 x6 x7 z5.2 else f_F_worthiest_0_10_48 N (f_F_worthiest_0_10_14 N k) x2 x3 x4 (z5.1) x7 x7 z5.2 else none
set_option maxRecDepth 20000 in
theorem s_F_worthiest_0_10_14 {N d : Nat} {Q : jw_Q} (hd : 7 ≤ d) : ∀ (k : Nat) {x2 : Int32} {x3 : Int32} {x4 : Int32} {x5 : Int32} {x6 : Int32} {x7 : Int32} {u8 : Option Value} {σ : jw_M} {z : (Int32 × jw_M)}, f_F_worthiest_0_10_14 N k x2 x3 x4 x5 x6 x7 σ = some z → Q (some (.int z.1)) (jx_ShC, z.2) → ∃ n, jx_W jx_ShC d (some .int) jc_134 Q n 14 [some (.ref 0), some (.ref 10), some (.int x2), some (.int x3), some (.int x4), some (.int x5), some (.int x6), some (.int x7), u8] [] σ
  | 0, _, _, _, _, _, _, _, _, _, h, _ => by cases h
  | k + 1, x2, x3, x4, x5, x6, x7, u8, σ, z, h, hQ => by
    rw [f_F_worthiest_0_10_14] at h
    by_cases c2 : x3 < x7
    · rw [if_pos c2] at h
      suffices hh : ∃ n, jx_W jx_ShC d (some .int) jc_134 Q n 54 [some (.ref 0), some (.ref 10), some (.int x2), some (.int x3), some (.int x4), some (.int x5), some (.int x6), some (.int x7), u8] [] σ by
        obtain ⟨n, hn⟩ := hh
        exact ⟨n + 3, And.intro (fun _ => hn) (fun zz => absurd c2 zz)⟩
      cases c3 : jx_in x2 8 with
      | false => rw [c3, cond_false] at h; cases h
      | true =>
        rw [c3, cond_true] at h
        cases h
        exact ⟨6, And.intro (jx_in_ok c3) (And.intro hQ (And.intro rfl rfl))⟩
    · rw [if_neg c2] at h
      suffices hh : ∃ n, jx_W jx_ShC d (some .int) jc_134 Q n 20 [some (.ref 0), some (.ref 10), some (.int x2), some (.int x3), some (.int x4), some (.int x5), some (.int x6), some (.int x7), u8] [] σ by
        obtain ⟨n, hn⟩ := hh
        exact ⟨n + 3, And.intro (fun zz => absurd zz c2) (fun _ => hn)⟩
      cases c4 : jx_in x2 8 with
      | false => rw [c4, cond_false] at h; cases h
      | true =>
        rw [c4, cond_true] at h
        obtain ⟨z5, h6, h⟩ := Option.bind_eq_some_iff.mp h
        by_cases c7 : z5.1 ≤ x5
        · rw [if_pos c7] at h
          suffices hh : ∃ n, jx_W jx_ShC d (some .int) jc_134 Q n 48 [some (.ref 0), some (.ref 10), some (.int x2), some (.int x3), some (.int x4), some (.int x5), some (.int x6), some (.int x7), some (.int z5.1)] [] z5.2 by
            obtain ⟨n, hn⟩ := hh
            exact ⟨n + 11, And.intro (jx_in_ok c4) (s_F_worthOfRest (by omega) h6 (And.intro (fun _ => hn) (fun zz => absurd c7 zz)))⟩
          obtain ⟨n, hn⟩ := s_F_worthiest_0_10_48 hd (s_F_worthiest_0_10_14 hd k) (u8 := some (.int z5.1)) h hQ
          exact ⟨n + 0, hn⟩
        · rw [if_neg c7] at h
          suffices hh : ∃ n, jx_W jx_ShC d (some .int) jc_134 Q n 40 [some (.ref 0), some (.ref 10), some (.int x2), some (.int x3), some (.int x4), some (.int x5), some (.int x6), some (.int x7), some (.int z5.1)] [] z5.2 by
            obtain ⟨n, hn⟩ := hh
            exact ⟨n + 11, And.intro (jx_in_ok c4) (s_F_worthOfRest (by omega) h6 (And.intro (fun zz => absurd zz c7) (fun _ => hn)))⟩
          obtain ⟨n, hn⟩ := s_F_worthiest_0_10_48 hd (s_F_worthiest_0_10_14 hd k) (u8 := some (.int z5.1)) h hQ
          exact ⟨n + 4, hn⟩
def f_F_worthiest_0_10 (N : Nat) (x2 : Int32) (x3 : Int32) (σ : jw_M) : Option (Int32 × jw_M) := bif jx_in x2 8 then f_F_worthiest_0_10_14 N N x2 x3 (σ.1 10 (x2).toNatClampNeg) (-1) 1 1 σ else none
set_option maxRecDepth 20000 in
theorem s_F_worthiest_0_10 {N d : Nat} {x2 : Int32} {x3 : Int32} (hd : 8 ≤ d) {σ : jw_M} {z : (Int32 × jw_M)} {Q : jw_Q} (h : f_F_worthiest_0_10 N x2 x3 σ = some z) (hQ : Q (some (.int z.1)) (jx_ShC, z.2)) : jw_C jp_kd jp_ys d 134 [.ref 0, .ref 10, .int x2, .int x3] (jx_ShC, σ) Q := by
  obtain ⟨d, rfl⟩ : ∃ e, d = e + 1 := ⟨d - 1, by omega⟩
  replace hd : 7 ≤ d := by omega
  refine jx_C rfl rfl ?_
  unfold f_F_worthiest_0_10 at h
  cases c1 : jx_in x2 8 with
  | false => rw [c1, cond_false] at h; cases h
  | true =>
    rw [c1, cond_true] at h
    obtain ⟨n, hn⟩ := s_F_worthiest_0_10_14 hd N (u8 := none) h hQ
    exact ⟨n + 10, And.intro (jx_in_ok c1) (hn)⟩
def f_F_worthiest_0_3_48 (N : Nat) (K14 : Int32 → Int32 → Int32 → Int32 → Int32 → Int32 → jw_M → Option (Int32 × jw_M)) (x2 : Int32) (x3 : Int32) (x4 : Int32) (x5 : Int32) (x6 : Int32) (x7 : Int32) (σ : jw_M) : Option (Int32 × jw_M) := K14 x2 x3 x4 x5 x6 (x7 + 1) σ
set_option maxRecDepth 20000 in
theorem s_F_worthiest_0_3_48 {N d : Nat} {Q : jw_Q} {K14 : Int32 → Int32 → Int32 → Int32 → Int32 → Int32 → jw_M → Option (Int32 × jw_M)} (hd : 7 ≤ d) (hK14 : ∀ {x2 : Int32} {x3 : Int32} {x4 : Int32} {x5 : Int32} {x6 : Int32} {x7 : Int32} {σ : jw_M} {z : (Int32 × jw_M)} {u8 : Option Value}, K14 x2 x3 x4 x5 x6 x7 σ = some z → Q (some (.int z.1)) (jx_ShC, z.2) → ∃ n, jx_W jx_ShC d (some .int) jc_134 Q n 14 [some (.ref 0), some (.ref 3), some (.int x2), some (.int x3), some (.int x4), some (.int x5), some (.int x6), some (.int x7), u8] [] σ) {x2 : Int32} {x3 : Int32} {x4 : Int32} {x5 : Int32} {x6 : Int32} {x7 : Int32} {u8 : Option Value} {σ : jw_M} {z : (Int32 × jw_M)} (h : f_F_worthiest_0_3_48 N K14 x2 x3 x4 x5 x6 x7 σ = some z) (hQ : Q (some (.int z.1)) (jx_ShC, z.2)) : ∃ n, jx_W jx_ShC d (some .int) jc_134 Q n 48 [some (.ref 0), some (.ref 3), some (.int x2), some (.int x3), some (.int x4), some (.int x5), some (.int x6), some (.int x7), u8] [] σ := by
  unfold f_F_worthiest_0_3_48 at h
  obtain ⟨n, hn⟩ := hK14 (u8 := u8) h hQ
  exact ⟨n + 2, hn⟩
def f_F_worthiest_0_3_14 (N : Nat) : Nat → Int32 → Int32 → Int32 → Int32 → Int32 → Int32 → jw_M → Option (Int32 × jw_M)
  | 0, _, _, _, _, _, _, _ => none
  | k + 1, x2, x3, x4, x5, x6, x7, σ => if x3 < x7 then bif jx_in x2 6 then some (x6, (jw_up σ.1 3 (x2).toNatClampNeg x4, σ.2)) else none else bif jx_in x2 6 then (f_F_worthOfRest N 16 (jw_up σ.1 3 (x2).toNatClampNeg x7, σ.2)).bind fun z5 => if z5.1 ≤ x5 then f_F_worthiest_0_3_48 N (f_F_worthiest_0_3_14 N k) x2 x3 x4 x5 x6 x7 z5.2 else f_F_worthiest_0_3_48 N (f_F_worthiest_0_3_14 N k) x2 x3 x4 (z5.1) x7 x7 z5.2 else none
set_option maxRecDepth 20000 in
theorem s_F_worthiest_0_3_14 {N d : Nat} {Q : jw_Q} (hd : 7 ≤ d) : ∀ (k : Nat) {x2 : Int32} {x3 : Int32} {x4 : Int32} {x5 : Int32} {x6 : Int32} {x7 : Int32} {u8 : Option Value} {σ : jw_M} {z : (Int32 × jw_M)}, f_F_worthiest_0_3_14 N k x2 x3 x4 x5 x6 x7 σ = some z → Q (some (.int z.1)) (jx_ShC, z.2) → ∃ n, jx_W jx_ShC d (some .int) jc_134 Q n 14 [some (.ref 0), some (.ref 3), some (.int x2), some (.int x3), some (.int x4), some (.int x5), some (.int x6), some (.int x7), u8] [] σ
  | 0, _, _, _, _, _, _, _, _, _, h, _ => by cases h
  | k + 1, x2, x3, x4, x5, x6, x7, u8, σ, z, h, hQ => by
    rw [f_F_worthiest_0_3_14] at h
    by_cases c2 : x3 < x7
    · rw [if_pos c2] at h
      suffices hh : ∃ n, jx_W jx_ShC d (some .int) jc_134 Q n 54 [some (.ref 0), some (.ref 3), some (.int x2), some (.int x3), some (.int x4), some (.int x5), some (.int x6), some (.int x7), u8] [] σ by
        obtain ⟨n, hn⟩ := hh
        exact ⟨n + 3, And.intro (fun _ => hn) (fun zz => absurd c2 zz)⟩
      cases c3 : jx_in x2 6 with
      | false => rw [c3, cond_false] at h; cases h
      | true =>
        rw [c3, cond_true] at h
        cases h
        exact ⟨6, And.intro (jx_in_ok c3) (And.intro hQ (And.intro rfl rfl))⟩
    · rw [if_neg c2] at h
      suffices hh : ∃ n, jx_W jx_ShC d (some .int) jc_134 Q n 20 [some (.ref 0), some (.ref 3), some (.int x2), some (.int x3), some (.int x4), some (.int x5), some (.int x6), some (.int x7), u8] [] σ by
        obtain ⟨n, hn⟩ := hh
        exact ⟨n + 3, And.intro (fun zz => absurd zz c2) (fun _ => hn)⟩
      cases c4 : jx_in x2 6 with
      | false => rw [c4, cond_false] at h; cases h
      | true =>
        rw [c4, cond_true] at h
        obtain ⟨z5, h6, h⟩ := Option.bind_eq_some_iff.mp h
        by_cases c7 : z5.1 ≤ x5
        · rw [if_pos c7] at h
          suffices hh : ∃ n, jx_W jx_ShC d (some .int) jc_134 Q n 48 [some (.ref 0), some (.ref 3), some (.int x2), some (.int x3), some (.int x4), some (.int x5), some (.int x6), some (.int x7), some (.int z5.1)] [] z5.2 by
            obtain ⟨n, hn⟩ := hh
            exact ⟨n + 11, And.intro (jx_in_ok c4) (s_F_worthOfRest (by omega) h6 (And.intro (fun _ => hn) (fun zz => absurd c7 zz)))⟩
          obtain ⟨n, hn⟩ := s_F_worthiest_0_3_48 hd (s_F_worthiest_0_3_14 hd k) (u8 := some (.int z5.1)) h hQ
          exact ⟨n + 0, hn⟩
        · rw [if_neg c7] at h
          suffices hh : ∃ n, jx_W jx_ShC d (some .int) jc_134 Q n 40 [some (.ref 0), some (.ref 3), some (.int x2), some (.int x3), some (.int x4), some (.int x5), some (.int x6), some (.int x7), some (.int z5.1)] [] z5.2 by
            obtain ⟨n, hn⟩ := hh
            exact ⟨n + 11, And.intro (jx_in_ok c4) (s_F_worthOfRest (by omega) h6 (And.intro (fun zz => absurd zz c7) (fun _ => hn)))⟩
          obtain ⟨n, hn⟩ := s_F_worthiest_0_3_48 hd (s_F_worthiest_0_3_14 hd k) (u8 := some (.int z5.1)) h hQ
          exact ⟨n + 4, hn⟩
def f_F_worthiest_0_3 (N : Nat) (x2 : Int32) (x3 : Int32) (σ : jw_M) : Option (Int32 × jw_M) := bif jx_in x2 6 then f_F_worthiest_0_3_14 N N x2 x3 (σ.1 3 (x2).toNatClampNeg) (-1) 1 1 σ else none
set_option maxRecDepth 20000 in
theorem s_F_worthiest_0_3 {N d : Nat} {x2 : Int32} {x3 : Int32} (hd : 8 ≤ d) {σ : jw_M} {z : (Int32 × jw_M)} {Q : jw_Q} (h : f_F_worthiest_0_3 N x2 x3 σ = some z) (hQ : Q (some (.int z.1)) (jx_ShC, z.2)) : jw_C jp_kd jp_ys d 134 [.ref 0, .ref 3, .int x2, .int x3] (jx_ShC, σ) Q := by
  obtain ⟨d, rfl⟩ : ∃ e, d = e + 1 := ⟨d - 1, by omega⟩
  replace hd : 7 ≤ d := by omega
  refine jx_C rfl rfl ?_
  unfold f_F_worthiest_0_3 at h
  cases c1 : jx_in x2 6 with
  | false => rw [c1, cond_false] at h; cases h
  | true =>
    rw [c1, cond_true] at h
    obtain ⟨n, hn⟩ := s_F_worthiest_0_3_14 hd N (u8 := none) h hQ
    exact ⟨n + 10, And.intro (jx_in_ok c1) (hn)⟩
def f_F_quickFor (N : Nat) (x1 : Int32) (σ : jw_M) : Option (Int32 × jw_M) := (f_S_isShadow N x1 σ).bind fun z1 => if z1.1 = 0 then some ((-1), z1.2) else (f_F_worthiest_0_3 N x1 9 z1.2).bind fun z4 => some (z4.1, z4.2)
set_option maxRecDepth 20000 in
theorem s_F_quickFor {N d : Nat} {x1 : Int32} (hd : 9 ≤ d) {σ : jw_M} {z : (Int32 × jw_M)} {Q : jw_Q} (h : f_F_quickFor N x1 σ = some z) (hQ : Q (some (.int z.1)) (jx_ShC, z.2)) : jw_C jp_kd jp_ys d 130 [.ref 0, .int x1] (jx_ShC, σ) Q := by
  obtain ⟨d, rfl⟩ : ∃ e, d = e + 1 := ⟨d - 1, by omega⟩
  replace hd : 8 ≤ d := by omega
  refine jx_C rfl rfl ?_
  unfold f_F_quickFor at h
  obtain ⟨z1, h2, h⟩ := Option.bind_eq_some_iff.mp h
  by_cases c3 : z1.1 = 0
  · rw [if_pos c3] at h
    suffices hh : ∃ n, jx_W jx_ShC d (some .int) jc_130 Q n 28 [some (.ref 0), some (.int x1)] [] z1.2 by
      obtain ⟨n, hn⟩ := hh
      exact ⟨n + 5, s_S_isShadow (by omega) h2 (And.intro (fun _ => hn) (fun zz => absurd c3 zz))⟩
    cases h
    exact ⟨2, And.intro hQ (And.intro rfl rfl)⟩
  · rw [if_neg c3] at h
    suffices hh : ∃ n, jx_W jx_ShC d (some .int) jc_130 Q n 11 [some (.ref 0), some (.int x1)] [] z1.2 by
      obtain ⟨n, hn⟩ := hh
      exact ⟨n + 5, s_S_isShadow (by omega) h2 (And.intro (fun zz => absurd zz c3) (fun _ => hn))⟩
    obtain ⟨z4, h5, h⟩ := Option.bind_eq_some_iff.mp h
    cases h
    exact ⟨9, s_F_worthiest_0_3 (by omega) h5 (And.intro hQ (And.intro rfl rfl))⟩
def f_F_letGoBy_88 (N : Nat) (x1 : Int32) (x2 : Int32) (x3 : Int32) (σ : jw_M) : Option (Int32 × jw_M) := bif jx_in x1 6 then some (x3, (jw_up σ.1 3 (x1).toNatClampNeg x2, σ.2)) else none
set_option maxRecDepth 20000 in
theorem s_F_letGoBy_88 {N d : Nat} {Q : jw_Q} (hd : 7 ≤ d) {x1 : Int32} {x2 : Int32} {x3 : Int32} {u4 : Option Value} {σ : jw_M} {z : (Int32 × jw_M)} (h : f_F_letGoBy_88 N x1 x2 x3 σ = some z) (hQ : Q (some (.int z.1)) (jx_ShC, z.2)) : ∃ n, jx_W jx_ShC d (some .int) jc_131 Q n 88 [some (.ref 0), some (.int x1), some (.int x2), some (.int x3), u4] [] σ := by
  unfold f_F_letGoBy_88 at h
  cases c6 : jx_in x1 6 with
  | false => rw [c6, cond_false] at h; cases h
  | true =>
    rw [c6, cond_true] at h
    cases h
    exact ⟨8, And.intro (jx_in_ok c6) (And.intro hQ (And.intro rfl rfl))⟩
def f_F_letGoBy_82 (N : Nat) (K29 : Int32 → Int32 → Int32 → Int32 → jw_M → Option (Int32 × jw_M)) (x1 : Int32) (x2 : Int32) (x3 : Int32) (x4 : Int32) (σ : jw_M) : Option (Int32 × jw_M) := K29 x1 x2 x3 (x4 + 1) σ
set_option maxRecDepth 20000 in
theorem s_F_letGoBy_82 {N d : Nat} {Q : jw_Q} {K29 : Int32 → Int32 → Int32 → Int32 → jw_M → Option (Int32 × jw_M)} (hd : 7 ≤ d) (hK29 : ∀ {x1 : Int32} {x2 : Int32} {x3 : Int32} {x4 : Int32} {σ : jw_M} {z : (Int32 × jw_M)}, K29 x1 x2 x3 x4 σ = some z → Q (some (.int z.1)) (jx_ShC, z.2) → ∃ n, jx_W jx_ShC d (some .int) jc_131 Q n 29 [some (.ref 0), some (.int x1), some (.int x2), some (.int x3), some (.int x4)] [] σ) {x1 : Int32} {x2 : Int32} {x3 : Int32} {x4 : Int32} {σ : jw_M} {z : (Int32 × jw_M)} (h : f_F_letGoBy_82 N K29 x1 x2 x3 x4 σ = some z) (hQ : Q (some (.int z.1)) (jx_ShC, z.2)) : ∃ n, jx_W jx_ShC d (some .int) jc_131 Q n 82 [some (.ref 0), some (.int x1), some (.int x2), some (.int x3), some (.int x4)] [] σ := by
  unfold f_F_letGoBy_82 at h
  obtain ⟨n, hn⟩ := hK29 h hQ
  exact ⟨n + 2, hn⟩
def f_F_letGoBy_29 (N : Nat) : Nat → Int32 → Int32 → Int32 → Int32 → jw_M → Option (Int32 × jw_M)
  | 0, _, _, _, _, _ => none
  | k + 1, x1, x2, x3, x4, σ => if 9 < x4 then f_F_letGoBy_88 N x1 x2 x3 σ else if x3 = (-3) then bif jx_in x1 6 then (f_F_worthOfRest N 16 (jw_up σ.1 3 (x1).toNatClampNeg x4, σ.2)).bind fun z9 => (f_S_allLessons N  z9.2).bind fun z11 => if (z9.2.1 77 (x1).toNatClampNeg) = z11.1 then f_F_letGoBy_82 N (f_F_letGoBy_29 N k) x1 x2 x4 x4 z11.2 else f_F_letGoBy_82 N (f_F_letGoBy_29 N k) x1 x2 x3 x4 z11.2 else none else f_F_letGoBy_88 N x1 x2 x3 σ
set_option maxRecDepth 20000 in
theorem s_F_letGoBy_29 {N d : Nat} {Q : jw_Q} (hd : 7 ≤ d) : ∀ (k : Nat) {x1 : Int32} {x2 : Int32} {x3 : Int32} {x4 : Int32} {σ : jw_M} {z : (Int32 × jw_M)}, f_F_letGoBy_29 N k x1 x2 x3 x4 σ = some z → Q (some (.int z.1)) (jx_ShC, z.2) → ∃ n, jx_W jx_ShC d (some .int) jc_131 Q n 29 [some (.ref 0), some (.int x1), some (.int x2), some (.int x3), some (.int x4)] [] σ
  | 0, _, _, _, _, _, _, h, _ => by cases h
  | k + 1, x1, x2, x3, x4, σ, z, h, hQ => by
    rw [f_F_letGoBy_29] at h
    by_cases c5 : 9 < x4
    · rw [if_pos c5] at h
      suffices hh : ∃ n, jx_W jx_ShC d (some .int) jc_131 Q n 88 [some (.ref 0), some (.int x1), some (.int x2), some (.int x3), some (.int x4)] [] σ by
        obtain ⟨n, hn⟩ := hh
        exact ⟨n + 3, And.intro (fun _ => hn) (fun zz => absurd c5 zz)⟩
      obtain ⟨n, hn⟩ := s_F_letGoBy_88 hd (u4 := some (.int x4)) h hQ
      exact ⟨n + 0, hn⟩
    · rw [if_neg c5] at h
      suffices hh : ∃ n, jx_W jx_ShC d (some .int) jc_131 Q n 36 [some (.ref 0), some (.int x1), some (.int x2), some (.int x3), some (.int x4)] [] σ by
        obtain ⟨n, hn⟩ := hh
        exact ⟨n + 3, And.intro (fun zz => absurd zz c5) (fun _ => hn)⟩
      by_cases c7 : x3 = (-3)
      · rw [if_pos c7] at h
        suffices hh : ∃ n, jx_W jx_ShC d (some .int) jc_131 Q n 42 [some (.ref 0), some (.int x1), some (.int x2), some (.int x3), some (.int x4)] [] σ by
          obtain ⟨n, hn⟩ := hh
          exact ⟨n + 3, And.intro (fun zz => absurd c7 zz) (fun _ => hn)⟩
        cases c8 : jx_in x1 6 with
        | false => rw [c8, cond_false] at h; cases h
        | true =>
          rw [c8, cond_true] at h
          obtain ⟨z9, h10, h⟩ := Option.bind_eq_some_iff.mp h
          obtain ⟨z11, h12, h⟩ := Option.bind_eq_some_iff.mp h
          by_cases c13 : (z9.2.1 77 (x1).toNatClampNeg) = z11.1
          · rw [if_pos c13] at h
            suffices hh : ∃ n, jx_W jx_ShC d (some .int) jc_131 Q n 79 [some (.ref 0), some (.int x1), some (.int x2), some (.int x3), some (.int x4)] [] z11.2 by
              obtain ⟨n, hn⟩ := hh
              exact ⟨n + 19, And.intro (jx_in_ok c8) (s_F_worthOfRest (by omega) h10 (And.intro (jx_in_ok c8) (s_S_allLessons (by omega) h12 (And.intro (fun zz => absurd c13 zz) (fun _ => hn)))))⟩
            obtain ⟨n, hn⟩ := s_F_letGoBy_82 hd (s_F_letGoBy_29 hd k) h hQ
            exact ⟨n + 2, hn⟩
          · rw [if_neg c13] at h
            suffices hh : ∃ n, jx_W jx_ShC d (some .int) jc_131 Q n 82 [some (.ref 0), some (.int x1), some (.int x2), some (.int x3), some (.int x4)] [] z11.2 by
              obtain ⟨n, hn⟩ := hh
              exact ⟨n + 19, And.intro (jx_in_ok c8) (s_F_worthOfRest (by omega) h10 (And.intro (jx_in_ok c8) (s_S_allLessons (by omega) h12 (And.intro (fun _ => hn) (fun zz => absurd zz c13)))))⟩
            obtain ⟨n, hn⟩ := s_F_letGoBy_82 hd (s_F_letGoBy_29 hd k) h hQ
            exact ⟨n + 0, hn⟩
      · rw [if_neg c7] at h
        suffices hh : ∃ n, jx_W jx_ShC d (some .int) jc_131 Q n 88 [some (.ref 0), some (.int x1), some (.int x2), some (.int x3), some (.int x4)] [] σ by
          obtain ⟨n, hn⟩ := hh
          exact ⟨n + 3, And.intro (fun _ => hn) (fun zz => absurd zz c7)⟩
        obtain ⟨n, hn⟩ := s_F_letGoBy_88 hd (u4 := some (.int x4)) h hQ
        exact ⟨n + 0, hn⟩
def f_F_letGoBy (N : Nat) (x1 : Int32) (σ : jw_M) : Option (Int32 × jw_M) := (f_S_isShadow N x1 σ).bind fun z1 => if z1.1 = 0 then some ((-1), z1.2) else bif jx_in x1 6 then f_F_letGoBy_29 N N x1 (z1.2.1 3 (x1).toNatClampNeg) (-3) 1 z1.2 else none
set_option maxRecDepth 20000 in
theorem s_F_letGoBy {N d : Nat} {x1 : Int32} (hd : 8 ≤ d) {σ : jw_M} {z : (Int32 × jw_M)} {Q : jw_Q} (h : f_F_letGoBy N x1 σ = some z) (hQ : Q (some (.int z.1)) (jx_ShC, z.2)) : jw_C jp_kd jp_ys d 131 [.ref 0, .int x1] (jx_ShC, σ) Q := by
  obtain ⟨d, rfl⟩ : ∃ e, d = e + 1 := ⟨d - 1, by omega⟩
  replace hd : 7 ≤ d := by omega
  refine jx_C rfl rfl ?_
  unfold f_F_letGoBy at h
  obtain ⟨z1, h2, h⟩ := Option.bind_eq_some_iff.mp h
  by_cases c3 : z1.1 = 0
  · rw [if_pos c3] at h
    suffices hh : ∃ n, jx_W jx_ShC d (some .int) jc_131 Q n 11 [some (.ref 0), some (.int x1), none, none, none] [] z1.2 by
      obtain ⟨n, hn⟩ := hh
      exact ⟨n + 5, s_S_isShadow (by omega) h2 (And.intro (fun zz => absurd c3 zz) (fun _ => hn))⟩
    cases h
    exact ⟨2, And.intro hQ (And.intro rfl rfl)⟩
  · rw [if_neg c3] at h
    suffices hh : ∃ n, jx_W jx_ShC d (some .int) jc_131 Q n 13 [some (.ref 0), some (.int x1), none, none, none] [] z1.2 by
      obtain ⟨n, hn⟩ := hh
      exact ⟨n + 5, s_S_isShadow (by omega) h2 (And.intro (fun _ => hn) (fun zz => absurd zz c3))⟩
    cases c4 : jx_in x1 6 with
    | false => rw [c4, cond_false] at h; cases h
    | true =>
      rw [c4, cond_true] at h
      obtain ⟨n, hn⟩ := s_F_letGoBy_29 hd N h hQ
      exact ⟨n + 10, And.intro (jx_in_ok c4) (hn)⟩
def f_F_roomFor (N : Nat) (x1 : Int32) (σ : jw_M) : Option (Int32 × jw_M) := (f_S_isLesson N x1 σ).bind fun z1 => if z1.1 = 0 then some ((-1), z1.2) else (f_F_worthiest_0_10 N x1 6 z1.2).bind fun z4 => some (z4.1, z4.2)
set_option maxRecDepth 20000 in
theorem s_F_roomFor {N d : Nat} {x1 : Int32} (hd : 9 ≤ d) {σ : jw_M} {z : (Int32 × jw_M)} {Q : jw_Q} (h : f_F_roomFor N x1 σ = some z) (hQ : Q (some (.int z.1)) (jx_ShC, z.2)) : jw_C jp_kd jp_ys d 132 [.ref 0, .int x1] (jx_ShC, σ) Q := by
  obtain ⟨d, rfl⟩ : ∃ e, d = e + 1 := ⟨d - 1, by omega⟩
  replace hd : 8 ≤ d := by omega
  refine jx_C rfl rfl ?_
  unfold f_F_roomFor at h
  obtain ⟨z1, h2, h⟩ := Option.bind_eq_some_iff.mp h
  by_cases c3 : z1.1 = 0
  · rw [if_pos c3] at h
    suffices hh : ∃ n, jx_W jx_ShC d (some .int) jc_132 Q n 28 [some (.ref 0), some (.int x1)] [] z1.2 by
      obtain ⟨n, hn⟩ := hh
      exact ⟨n + 5, s_S_isLesson (by omega) h2 (And.intro (fun _ => hn) (fun zz => absurd c3 zz))⟩
    cases h
    exact ⟨2, And.intro hQ (And.intro rfl rfl)⟩
  · rw [if_neg c3] at h
    suffices hh : ∃ n, jx_W jx_ShC d (some .int) jc_132 Q n 11 [some (.ref 0), some (.int x1)] [] z1.2 by
      obtain ⟨n, hn⟩ := hh
      exact ⟨n + 5, s_S_isLesson (by omega) h2 (And.intro (fun zz => absurd zz c3) (fun _ => hn))⟩
    obtain ⟨z4, h5, h⟩ := Option.bind_eq_some_iff.mp h
    cases h
    exact ⟨9, s_F_worthiest_0_10 (by omega) h5 (And.intro hQ (And.intro rfl rfl))⟩
def f_F_quarrel (N : Nat) (x1 : Int32) (x2 : Int32) (x3 : Int32) (σ : jw_M) : Option (Int32 × jw_M) := (f_S_isShadow N x1 σ).bind fun z1 => if z1.1 = 0 then some ((-1), z1.2) else (f_S_isShadow N x2 z1.2).bind fun z4 => if z4.1 = 0 then some ((-1), z4.2) else if x1 = x2 then some ((-1), z4.2) else (f_F_isWithin N x3 0 1 z4.2).bind fun z8 => if z8.1 = 0 then some ((-1), z8.2) else bif jx_in x1 6 then (f_S_setQuarrel N x1 x2 x3 z8.2).bind fun z12 => some ((((z8.2.1 5 (x1).toNatClampNeg) >>> (x2 &&& 31)) &&& 1), z12) else none
set_option maxRecDepth 20000 in
theorem s_F_quarrel {N d : Nat} {x1 : Int32} {x2 : Int32} {x3 : Int32} (hd : 2 ≤ d) {σ : jw_M} {z : (Int32 × jw_M)} {Q : jw_Q} (h : f_F_quarrel N x1 x2 x3 σ = some z) (hQ : Q (some (.int z.1)) (jx_ShC, z.2)) : jw_C jp_kd jp_ys d 135 [.ref 0, .int x1, .int x2, .int x3] (jx_ShC, σ) Q := by
  obtain ⟨d, rfl⟩ : ∃ e, d = e + 1 := ⟨d - 1, by omega⟩
  replace hd : 1 ≤ d := by omega
  refine jx_C rfl rfl ?_
  unfold f_F_quarrel at h
  obtain ⟨z1, h2, h⟩ := Option.bind_eq_some_iff.mp h
  by_cases c3 : z1.1 = 0
  · rw [if_pos c3] at h
    suffices hh : ∃ n, jx_W jx_ShC d (some .int) jc_135 Q n 36 [some (.ref 0), some (.int x1), some (.int x2), some (.int x3), none] [] z1.2 by
      obtain ⟨n, hn⟩ := hh
      exact ⟨n + 5, s_S_isShadow (by omega) h2 (And.intro (fun _ => hn) (fun zz => absurd c3 zz))⟩
    cases h
    exact ⟨2, And.intro hQ (And.intro rfl rfl)⟩
  · rw [if_neg c3] at h
    suffices hh : ∃ n, jx_W jx_ShC d (some .int) jc_135 Q n 11 [some (.ref 0), some (.int x1), some (.int x2), some (.int x3), none] [] z1.2 by
      obtain ⟨n, hn⟩ := hh
      exact ⟨n + 5, s_S_isShadow (by omega) h2 (And.intro (fun zz => absurd zz c3) (fun _ => hn))⟩
    obtain ⟨z4, h5, h⟩ := Option.bind_eq_some_iff.mp h
    by_cases c6 : z4.1 = 0
    · rw [if_pos c6] at h
      suffices hh : ∃ n, jx_W jx_ShC d (some .int) jc_135 Q n 36 [some (.ref 0), some (.int x1), some (.int x2), some (.int x3), none] [] z4.2 by
        obtain ⟨n, hn⟩ := hh
        exact ⟨n + 5, s_S_isShadow (by omega) h5 (And.intro (fun _ => hn) (fun zz => absurd c6 zz))⟩
      cases h
      exact ⟨2, And.intro hQ (And.intro rfl rfl)⟩
    · rw [if_neg c6] at h
      suffices hh : ∃ n, jx_W jx_ShC d (some .int) jc_135 Q n 22 [some (.ref 0), some (.int x1), some (.int x2), some (.int x3), none] [] z4.2 by
        obtain ⟨n, hn⟩ := hh
        exact ⟨n + 5, s_S_isShadow (by omega) h5 (And.intro (fun zz => absurd zz c6) (fun _ => hn))⟩
      by_cases c7 : x1 = x2
      · rw [if_pos c7] at h
        suffices hh : ∃ n, jx_W jx_ShC d (some .int) jc_135 Q n 36 [some (.ref 0), some (.int x1), some (.int x2), some (.int x3), none] [] z4.2 by
          obtain ⟨n, hn⟩ := hh
          exact ⟨n + 3, And.intro (fun _ => hn) (fun zz => absurd c7 zz)⟩
        cases h
        exact ⟨2, And.intro hQ (And.intro rfl rfl)⟩
      · rw [if_neg c7] at h
        suffices hh : ∃ n, jx_W jx_ShC d (some .int) jc_135 Q n 27 [some (.ref 0), some (.int x1), some (.int x2), some (.int x3), none] [] z4.2 by
          obtain ⟨n, hn⟩ := hh
          exact ⟨n + 3, And.intro (fun zz => absurd zz c7) (fun _ => hn)⟩
        obtain ⟨z8, h9, h⟩ := Option.bind_eq_some_iff.mp h
        by_cases c10 : z8.1 = 0
        · rw [if_pos c10] at h
          suffices hh : ∃ n, jx_W jx_ShC d (some .int) jc_135 Q n 36 [some (.ref 0), some (.int x1), some (.int x2), some (.int x3), none] [] z8.2 by
            obtain ⟨n, hn⟩ := hh
            exact ⟨n + 5, s_F_isWithin (by omega) h9 (And.intro (fun zz => absurd c10 zz) (fun _ => hn))⟩
          cases h
          exact ⟨2, And.intro hQ (And.intro rfl rfl)⟩
        · rw [if_neg c10] at h
          suffices hh : ∃ n, jx_W jx_ShC d (some .int) jc_135 Q n 38 [some (.ref 0), some (.int x1), some (.int x2), some (.int x3), none] [] z8.2 by
            obtain ⟨n, hn⟩ := hh
            exact ⟨n + 5, s_F_isWithin (by omega) h9 (And.intro (fun _ => hn) (fun zz => absurd zz c10))⟩
          cases c11 : jx_in x1 6 with
          | false => rw [c11, cond_false] at h; cases h
          | true =>
            rw [c11, cond_true] at h
            obtain ⟨z12, h13, h⟩ := Option.bind_eq_some_iff.mp h
            cases h
            exact ⟨18, And.intro (jx_in_ok c11) (s_S_setQuarrel (by omega) h13 (And.intro hQ (And.intro rfl rfl)))⟩
def f_F_quarrels (N : Nat) (x1 : Int32) (σ : jw_M) : Option (Int32 × jw_M) := (f_S_isShadow N x1 σ).bind fun z1 => if z1.1 = 0 then some ((-1), z1.2) else bif jx_in x1 6 then some ((z1.2.1 5 (x1).toNatClampNeg), z1.2) else none
set_option maxRecDepth 20000 in
theorem s_F_quarrels {N d : Nat} {x1 : Int32} (hd : 2 ≤ d) {σ : jw_M} {z : (Int32 × jw_M)} {Q : jw_Q} (h : f_F_quarrels N x1 σ = some z) (hQ : Q (some (.int z.1)) (jx_ShC, z.2)) : jw_C jp_kd jp_ys d 136 [.ref 0, .int x1] (jx_ShC, σ) Q := by
  obtain ⟨d, rfl⟩ : ∃ e, d = e + 1 := ⟨d - 1, by omega⟩
  replace hd : 1 ≤ d := by omega
  refine jx_C rfl rfl ?_
  unfold f_F_quarrels at h
  obtain ⟨z1, h2, h⟩ := Option.bind_eq_some_iff.mp h
  by_cases c3 : z1.1 = 0
  · rw [if_pos c3] at h
    suffices hh : ∃ n, jx_W jx_ShC d (some .int) jc_136 Q n 23 [some (.ref 0), some (.int x1)] [] z1.2 by
      obtain ⟨n, hn⟩ := hh
      exact ⟨n + 5, s_S_isShadow (by omega) h2 (And.intro (fun _ => hn) (fun zz => absurd c3 zz))⟩
    cases h
    exact ⟨2, And.intro hQ (And.intro rfl rfl)⟩
  · rw [if_neg c3] at h
    suffices hh : ∃ n, jx_W jx_ShC d (some .int) jc_136 Q n 11 [some (.ref 0), some (.int x1)] [] z1.2 by
      obtain ⟨n, hn⟩ := hh
      exact ⟨n + 5, s_S_isShadow (by omega) h2 (And.intro (fun zz => absurd zz c3) (fun _ => hn))⟩
    cases c4 : jx_in x1 6 with
    | false => rw [c4, cond_false] at h; cases h
    | true =>
      rw [c4, cond_true] at h
      cases h
      exact ⟨7, And.intro (jx_in_ok c4) (And.intro hQ (And.intro rfl rfl))⟩
def f_F_mayTake_36 (N : Nat) (K2 : Int32 → Int32 → Int32 → jw_M → Option (Int32 × jw_M)) (x1 : Int32) (x2 : Int32) (x3 : Int32) (σ : jw_M) : Option (Int32 × jw_M) := K2 x1 x2 (x3 + 1) σ
set_option maxRecDepth 20000 in
theorem s_F_mayTake_36 {N d : Nat} {Q : jw_Q} {K2 : Int32 → Int32 → Int32 → jw_M → Option (Int32 × jw_M)} (hd : 0 ≤ d) (hK2 : ∀ {x1 : Int32} {x2 : Int32} {x3 : Int32} {σ : jw_M} {z : (Int32 × jw_M)}, K2 x1 x2 x3 σ = some z → Q (some (.int z.1)) (jx_ShC, z.2) → ∃ n, jx_W jx_ShC d (some .boolean) jc_144 Q n 2 [some (.ref 0), some (.int x1), some (.int x2), some (.int x3)] [] σ) {x1 : Int32} {x2 : Int32} {x3 : Int32} {σ : jw_M} {z : (Int32 × jw_M)} (h : f_F_mayTake_36 N K2 x1 x2 x3 σ = some z) (hQ : Q (some (.int z.1)) (jx_ShC, z.2)) : ∃ n, jx_W jx_ShC d (some .boolean) jc_144 Q n 36 [some (.ref 0), some (.int x1), some (.int x2), some (.int x3)] [] σ := by
  unfold f_F_mayTake_36 at h
  obtain ⟨n, hn⟩ := hK2 h hQ
  exact ⟨n + 2, hn⟩
def f_F_mayTake_2 (N : Nat) : Nat → Int32 → Int32 → Int32 → jw_M → Option (Int32 × jw_M)
  | 0, _, _, _, _ => none
  | k + 1, x1, x2, x3, σ => if x1 ≤ x3 then some (1, σ) else bif jx_in x3 6 then if (σ.1 79 (x3).toNatClampNeg) = x2 then bif jx_in x1 6 then if (((σ.1 5 (x1).toNatClampNeg) >>> (x3 &&& 31)) &&& 1) = 1 then some (0, σ) else f_F_mayTake_36 N (f_F_mayTake_2 N k) x1 x2 x3 σ else none else f_F_mayTake_36 N (f_F_mayTake_2 N k) x1 x2 x3 σ else none
set_option maxRecDepth 20000 in
theorem s_F_mayTake_2 {N d : Nat} {Q : jw_Q} (hd : 0 ≤ d) : ∀ (k : Nat) {x1 : Int32} {x2 : Int32} {x3 : Int32} {σ : jw_M} {z : (Int32 × jw_M)}, f_F_mayTake_2 N k x1 x2 x3 σ = some z → Q (some (.int z.1)) (jx_ShC, z.2) → ∃ n, jx_W jx_ShC d (some .boolean) jc_144 Q n 2 [some (.ref 0), some (.int x1), some (.int x2), some (.int x3)] [] σ
  | 0, _, _, _, _, _, h, _ => by cases h
  | k + 1, x1, x2, x3, σ, z, h, hQ => by
    rw [f_F_mayTake_2] at h
    by_cases c1 : x1 ≤ x3
    · rw [if_pos c1] at h
      suffices hh : ∃ n, jx_W jx_ShC d (some .boolean) jc_144 Q n 42 [some (.ref 0), some (.int x1), some (.int x2), some (.int x3)] [] σ by
        obtain ⟨n, hn⟩ := hh
        exact ⟨n + 3, And.intro (fun _ => hn) (fun zz => absurd c1 zz)⟩
      cases h
      exact ⟨2, And.intro (Or.inr rfl) (And.intro hQ (And.intro rfl rfl))⟩
    · rw [if_neg c1] at h
      suffices hh : ∃ n, jx_W jx_ShC d (some .boolean) jc_144 Q n 7 [some (.ref 0), some (.int x1), some (.int x2), some (.int x3)] [] σ by
        obtain ⟨n, hn⟩ := hh
        exact ⟨n + 3, And.intro (fun zz => absurd zz c1) (fun _ => hn)⟩
      cases c2 : jx_in x3 6 with
      | false => rw [c2, cond_false] at h; cases h
      | true =>
        rw [c2, cond_true] at h
        by_cases c3 : (σ.1 79 (x3).toNatClampNeg) = x2
        · rw [if_pos c3] at h
          suffices hh : ∃ n, jx_W jx_ShC d (some .boolean) jc_144 Q n 17 [some (.ref 0), some (.int x1), some (.int x2), some (.int x3)] [] σ by
            obtain ⟨n, hn⟩ := hh
            exact ⟨n + 6, And.intro (jx_in_ok c2) (And.intro (fun zz => absurd c3 zz) (fun _ => hn))⟩
          cases c4 : jx_in x1 6 with
          | false => rw [c4, cond_false] at h; cases h
          | true =>
            rw [c4, cond_true] at h
            by_cases c5 : (((σ.1 5 (x1).toNatClampNeg) >>> (x3 &&& 31)) &&& 1) = 1
            · rw [if_pos c5] at h
              suffices hh : ∃ n, jx_W jx_ShC d (some .boolean) jc_144 Q n 34 [some (.ref 0), some (.int x1), some (.int x2), some (.int x3)] [] σ by
                obtain ⟨n, hn⟩ := hh
                exact ⟨n + 11, And.intro (jx_in_ok c4) (And.intro (fun zz => absurd c5 zz) (fun _ => hn))⟩
              cases h
              exact ⟨2, And.intro (Or.inl rfl) (And.intro hQ (And.intro rfl rfl))⟩
            · rw [if_neg c5] at h
              suffices hh : ∃ n, jx_W jx_ShC d (some .boolean) jc_144 Q n 36 [some (.ref 0), some (.int x1), some (.int x2), some (.int x3)] [] σ by
                obtain ⟨n, hn⟩ := hh
                exact ⟨n + 11, And.intro (jx_in_ok c4) (And.intro (fun _ => hn) (fun zz => absurd zz c5))⟩
              obtain ⟨n, hn⟩ := s_F_mayTake_36 hd (s_F_mayTake_2 hd k) h hQ
              exact ⟨n + 0, hn⟩
        · rw [if_neg c3] at h
          suffices hh : ∃ n, jx_W jx_ShC d (some .boolean) jc_144 Q n 36 [some (.ref 0), some (.int x1), some (.int x2), some (.int x3)] [] σ by
            obtain ⟨n, hn⟩ := hh
            exact ⟨n + 6, And.intro (jx_in_ok c2) (And.intro (fun _ => hn) (fun zz => absurd zz c3))⟩
          obtain ⟨n, hn⟩ := s_F_mayTake_36 hd (s_F_mayTake_2 hd k) h hQ
          exact ⟨n + 0, hn⟩
def f_F_mayTake (N : Nat) (x1 : Int32) (x2 : Int32) (σ : jw_M) : Option (Int32 × jw_M) := f_F_mayTake_2 N N x1 x2 0 σ
set_option maxRecDepth 20000 in
theorem s_F_mayTake {N d : Nat} {x1 : Int32} {x2 : Int32} (hd : 1 ≤ d) {σ : jw_M} {z : (Int32 × jw_M)} {Q : jw_Q} (h : f_F_mayTake N x1 x2 σ = some z) (hQ : Q (some (.int z.1)) (jx_ShC, z.2)) : jw_C jp_kd jp_ys d 144 [.ref 0, .int x1, .int x2] (jx_ShC, σ) Q := by
  obtain ⟨d, rfl⟩ : ∃ e, d = e + 1 := ⟨d - 1, by omega⟩
  replace hd : 0 ≤ d := by omega
  refine jx_C rfl rfl ?_
  unfold f_F_mayTake at h
  obtain ⟨n, hn⟩ := s_F_mayTake_2 hd N h hQ
  exact ⟨n + 2, hn⟩
def f_F_findSeats_49 (N : Nat) (Rec : Int32 → Int32 → jw_M → Option (Int32 × jw_M)) (K15 : Int32 → Int32 → Int32 → jw_M → Option (Int32 × jw_M)) (x1 : Int32) (x2 : Int32) (x3 : Int32) (σ : jw_M) : Option (Int32 × jw_M) := K15 x1 x2 (x3 + 1) σ
set_option maxRecDepth 20000 in
theorem s_F_findSeats_49 {N d : Nat} {Dr : Nat} {Rec : Int32 → Int32 → jw_M → Option (Int32 × jw_M)} {Q : jw_Q} {K15 : Int32 → Int32 → Int32 → jw_M → Option (Int32 × jw_M)} (hRec : ∀ {d : Nat} {a1 : Int32} {a2 : Int32} {σ : jw_M} {z : (Int32 × jw_M)} {Q : jw_Q}, Dr ≤ d → Rec a1 a2 σ = some z → Q (some (.int z.1)) (jx_ShC, z.2) → jw_C jp_kd jp_ys d 142 [.ref 0, .int a1, .int a2] (jx_ShC, σ) Q) (hd0 : 0 + Dr ≤ d) (hd : 1 ≤ d) (hK15 : ∀ {x1 : Int32} {x2 : Int32} {x3 : Int32} {σ : jw_M} {z : (Int32 × jw_M)}, K15 x1 x2 x3 σ = some z → Q (some (.int z.1)) (jx_ShC, z.2) → ∃ n, jx_W jx_ShC d (some .boolean) jc_142 Q n 15 [some (.ref 0), some (.int x1), some (.int x2), some (.int x3)] [] σ) {x1 : Int32} {x2 : Int32} {x3 : Int32} {σ : jw_M} {z : (Int32 × jw_M)} (h : f_F_findSeats_49 N Rec K15 x1 x2 x3 σ = some z) (hQ : Q (some (.int z.1)) (jx_ShC, z.2)) : ∃ n, jx_W jx_ShC d (some .boolean) jc_142 Q n 49 [some (.ref 0), some (.int x1), some (.int x2), some (.int x3)] [] σ := by
  unfold f_F_findSeats_49 at h
  obtain ⟨n, hn⟩ := hK15 h hQ
  exact ⟨n + 2, hn⟩
def f_F_findSeats_15 (N : Nat) (Rec : Int32 → Int32 → jw_M → Option (Int32 × jw_M)) : Nat → Int32 → Int32 → Int32 → jw_M → Option (Int32 × jw_M)
  | 0, _, _, _, _ => none
  | k + 1, x1, x2, x3, σ => if x2 ≤ x3 then some (0, σ) else (f_F_mayTake N x1 x3 σ).bind fun z3 => if z3.1 = 0 then f_F_findSeats_49 N Rec (f_F_findSeats_15 N Rec k) x1 x2 x3 z3.2 else bif jx_in x1 6 then (Rec (x1 + 1) x2 (jw_up z3.2.1 79 (x1).toNatClampNeg x3, z3.2.2)).bind fun z7 => if z7.1 = 0 then f_F_findSeats_49 N Rec (f_F_findSeats_15 N Rec k) x1 x2 x3 z7.2 else some (1, z7.2) else none
set_option maxRecDepth 20000 in
theorem s_F_findSeats_15 {N d : Nat} {Dr : Nat} {Rec : Int32 → Int32 → jw_M → Option (Int32 × jw_M)} {Q : jw_Q} (hRec : ∀ {d : Nat} {a1 : Int32} {a2 : Int32} {σ : jw_M} {z : (Int32 × jw_M)} {Q : jw_Q}, Dr ≤ d → Rec a1 a2 σ = some z → Q (some (.int z.1)) (jx_ShC, z.2) → jw_C jp_kd jp_ys d 142 [.ref 0, .int a1, .int a2] (jx_ShC, σ) Q) (hd0 : 0 + Dr ≤ d) (hd : 1 ≤ d) : ∀ (k : Nat) {x1 : Int32} {x2 : Int32} {x3 : Int32} {σ : jw_M} {z : (Int32 × jw_M)}, f_F_findSeats_15 N Rec k x1 x2 x3 σ = some z → Q (some (.int z.1)) (jx_ShC, z.2) → ∃ n, jx_W jx_ShC d (some .boolean) jc_142 Q n 15 [some (.ref 0), some (.int x1), some (.int x2), some (.int x3)] [] σ
  | 0, _, _, _, _, _, h, _ => by cases h
  | k + 1, x1, x2, x3, σ, z, h, hQ => by
    rw [f_F_findSeats_15] at h
    by_cases c2 : x2 ≤ x3
    · rw [if_pos c2] at h
      suffices hh : ∃ n, jx_W jx_ShC d (some .boolean) jc_142 Q n 55 [some (.ref 0), some (.int x1), some (.int x2), some (.int x3)] [] σ by
        obtain ⟨n, hn⟩ := hh
        exact ⟨n + 3, And.intro (fun _ => hn) (fun zz => absurd c2 zz)⟩
      cases h
      exact ⟨2, And.intro (Or.inl rfl) (And.intro hQ (And.intro rfl rfl))⟩
    · rw [if_neg c2] at h
      suffices hh : ∃ n, jx_W jx_ShC d (some .boolean) jc_142 Q n 20 [some (.ref 0), some (.int x1), some (.int x2), some (.int x3)] [] σ by
        obtain ⟨n, hn⟩ := hh
        exact ⟨n + 3, And.intro (fun zz => absurd zz c2) (fun _ => hn)⟩
      obtain ⟨z3, h4, h⟩ := Option.bind_eq_some_iff.mp h
      by_cases c5 : z3.1 = 0
      · rw [if_pos c5] at h
        suffices hh : ∃ n, jx_W jx_ShC d (some .boolean) jc_142 Q n 49 [some (.ref 0), some (.int x1), some (.int x2), some (.int x3)] [] z3.2 by
          obtain ⟨n, hn⟩ := hh
          exact ⟨n + 5, s_F_mayTake (by omega) h4 (And.intro (fun _ => hn) (fun zz => absurd c5 zz))⟩
        obtain ⟨n, hn⟩ := s_F_findSeats_49 hRec hd0 hd (s_F_findSeats_15 hRec hd0 hd k) h hQ
        exact ⟨n + 0, hn⟩
      · rw [if_neg c5] at h
        suffices hh : ∃ n, jx_W jx_ShC d (some .boolean) jc_142 Q n 29 [some (.ref 0), some (.int x1), some (.int x2), some (.int x3)] [] z3.2 by
          obtain ⟨n, hn⟩ := hh
          exact ⟨n + 5, s_F_mayTake (by omega) h4 (And.intro (fun zz => absurd zz c5) (fun _ => hn))⟩
        cases c6 : jx_in x1 6 with
        | false => rw [c6, cond_false] at h; cases h
        | true =>
          rw [c6, cond_true] at h
          obtain ⟨z7, h8, h⟩ := Option.bind_eq_some_iff.mp h
          by_cases c9 : z7.1 = 0
          · rw [if_pos c9] at h
            suffices hh : ∃ n, jx_W jx_ShC d (some .boolean) jc_142 Q n 49 [some (.ref 0), some (.int x1), some (.int x2), some (.int x3)] [] z7.2 by
              obtain ⟨n, hn⟩ := hh
              exact ⟨n + 12, And.intro (jx_in_ok c6) (hRec (by omega) h8 (And.intro (fun _ => hn) (fun zz => absurd c9 zz)))⟩
            obtain ⟨n, hn⟩ := s_F_findSeats_49 hRec hd0 hd (s_F_findSeats_15 hRec hd0 hd k) h hQ
            exact ⟨n + 0, hn⟩
          · rw [if_neg c9] at h
            suffices hh : ∃ n, jx_W jx_ShC d (some .boolean) jc_142 Q n 47 [some (.ref 0), some (.int x1), some (.int x2), some (.int x3)] [] z7.2 by
              obtain ⟨n, hn⟩ := hh
              exact ⟨n + 12, And.intro (jx_in_ok c6) (hRec (by omega) h8 (And.intro (fun zz => absurd zz c9) (fun _ => hn)))⟩
            cases h
            exact ⟨2, And.intro (Or.inr rfl) (And.intro hQ (And.intro rfl rfl))⟩
def f_F_findSeats (N : Nat) : Nat → Int32 → Int32 → jw_M → Option (Int32 × jw_M)
  | 0, _, _, _ => none
  | r + 1, x1, x2, σ => if x1 < (σ.1 1 0) then f_F_findSeats_15 N (f_F_findSeats N r) N x1 x2 0 σ else some (1, σ)
set_option maxRecDepth 20000 in
theorem s_F_findSeats {N : Nat} : ∀ (r : Nat) {d : Nat} {x1 : Int32} {x2 : Int32} {σ : jw_M} {z : (Int32 × jw_M)} {Q : jw_Q}, 2 + 1 * r ≤ d → f_F_findSeats N r x1 x2 σ = some z → Q (some (.int z.1)) (jx_ShC, z.2) → jw_C jp_kd jp_ys d 142 [.ref 0, .int x1, .int x2] (jx_ShC, σ) Q
  | 0, _, _, _, _, _, _, _, h, _ => by cases h
  | r + 1, d, x1, x2, σ, z, Q, hd, h, hQ => by
    obtain ⟨d, rfl⟩ : ∃ e, d = e + 1 := ⟨d - 1, by omega⟩
    have hd0 : 0 + (2 + 1 * r) ≤ d := by omega
    replace hd : 1 ≤ d := by omega
    have hRec := @s_F_findSeats N r
    refine jx_C rfl rfl ?_
    rw [f_F_findSeats] at h
    by_cases c1 : x1 < (σ.1 1 0)
    · rw [if_pos c1] at h
      suffices hh : ∃ n, jx_W jx_ShC d (some .boolean) jc_142 Q n 13 [some (.ref 0), some (.int x1), some (.int x2), none] [] σ by
        obtain ⟨n, hn⟩ := hh
        exact ⟨n + 5, And.intro (fun _ => hn) (fun zz => absurd c1 zz)⟩
      obtain ⟨n, hn⟩ := s_F_findSeats_15 hRec hd0 hd N h hQ
      exact ⟨n + 2, hn⟩
    · rw [if_neg c1] at h
      suffices hh : ∃ n, jx_W jx_ShC d (some .boolean) jc_142 Q n 11 [some (.ref 0), some (.int x1), some (.int x2), none] [] σ by
        obtain ⟨n, hn⟩ := hh
        exact ⟨n + 5, And.intro (fun zz => absurd zz c1) (fun _ => hn)⟩
      cases h
      exact ⟨2, And.intro (Or.inr rfl) (And.intro hQ (And.intro rfl rfl))⟩
def f_F_fewestRooms_2 (N : Nat) : Nat → Int32 → jw_M → Option (Int32 × jw_M)
  | 0, _, _ => none
  | k + 1, x1, σ => if 6 < x1 then some (6, σ) else (f_F_findSeats N 64 0 x1 σ).bind fun z2 => if z2.1 = 0 then f_F_fewestRooms_2 N k (x1 + 1) z2.2 else some (x1, z2.2)
set_option maxRecDepth 20000 in
theorem s_F_fewestRooms_2 {N d : Nat} {Q : jw_Q} (hd : 66 ≤ d) : ∀ (k : Nat) {x1 : Int32} {σ : jw_M} {z : (Int32 × jw_M)}, f_F_fewestRooms_2 N k x1 σ = some z → Q (some (.int z.1)) (jx_ShC, z.2) → ∃ n, jx_W jx_ShC d (some .int) jc_141 Q n 2 [some (.ref 0), some (.int x1)] [] σ
  | 0, _, _, _, h, _ => by cases h
  | k + 1, x1, σ, z, h, hQ => by
    rw [f_F_fewestRooms_2] at h
    by_cases c1 : 6 < x1
    · rw [if_pos c1] at h
      suffices hh : ∃ n, jx_W jx_ShC d (some .int) jc_141 Q n 25 [some (.ref 0), some (.int x1)] [] σ by
        obtain ⟨n, hn⟩ := hh
        exact ⟨n + 3, And.intro (fun _ => hn) (fun zz => absurd c1 zz)⟩
      cases h
      exact ⟨2, And.intro hQ (And.intro rfl rfl)⟩
    · rw [if_neg c1] at h
      suffices hh : ∃ n, jx_W jx_ShC d (some .int) jc_141 Q n 8 [some (.ref 0), some (.int x1)] [] σ by
        obtain ⟨n, hn⟩ := hh
        exact ⟨n + 3, And.intro (fun zz => absurd zz c1) (fun _ => hn)⟩
      obtain ⟨z2, h3, h⟩ := Option.bind_eq_some_iff.mp h
      by_cases c4 : z2.1 = 0
      · rw [if_pos c4] at h
        suffices hh : ∃ n, jx_W jx_ShC d (some .int) jc_141 Q n 19 [some (.ref 0), some (.int x1)] [] z2.2 by
          obtain ⟨n, hn⟩ := hh
          exact ⟨n + 5, s_F_findSeats 64 (by omega) h3 (And.intro (fun _ => hn) (fun zz => absurd c4 zz))⟩
        obtain ⟨n, hn⟩ := s_F_fewestRooms_2 hd k h hQ
        exact ⟨n + 2, hn⟩
      · rw [if_neg c4] at h
        suffices hh : ∃ n, jx_W jx_ShC d (some .int) jc_141 Q n 17 [some (.ref 0), some (.int x1)] [] z2.2 by
          obtain ⟨n, hn⟩ := hh
          exact ⟨n + 5, s_F_findSeats 64 (by omega) h3 (And.intro (fun zz => absurd zz c4) (fun _ => hn))⟩
        cases h
        exact ⟨2, And.intro hQ (And.intro rfl rfl)⟩
def f_F_fewestRooms (N : Nat) (σ : jw_M) : Option (Int32 × jw_M) := f_F_fewestRooms_2 N N 0 σ
set_option maxRecDepth 20000 in
theorem s_F_fewestRooms {N d : Nat} (hd : 67 ≤ d) {σ : jw_M} {z : (Int32 × jw_M)} {Q : jw_Q} (h : f_F_fewestRooms N  σ = some z) (hQ : Q (some (.int z.1)) (jx_ShC, z.2)) : jw_C jp_kd jp_ys d 141 [.ref 0] (jx_ShC, σ) Q := by
  obtain ⟨d, rfl⟩ : ∃ e, d = e + 1 := ⟨d - 1, by omega⟩
  replace hd : 66 ≤ d := by omega
  refine jx_C rfl rfl ?_
  unfold f_F_fewestRooms at h
  obtain ⟨n, hn⟩ := s_F_fewestRooms_2 hd N h hQ
  exact ⟨n + 2, hn⟩
def f_F_rooms (N : Nat) (σ : jw_M) : Option (Int32 × jw_M) := (f_F_fewestRooms N  σ).bind fun z1 => some (z1.1, z1.2)
set_option maxRecDepth 20000 in
theorem s_F_rooms {N d : Nat} (hd : 68 ≤ d) {σ : jw_M} {z : (Int32 × jw_M)} {Q : jw_Q} (h : f_F_rooms N  σ = some z) (hQ : Q (some (.int z.1)) (jx_ShC, z.2)) : jw_C jp_kd jp_ys d 137 [.ref 0] (jx_ShC, σ) Q := by
  obtain ⟨d, rfl⟩ : ∃ e, d = e + 1 := ⟨d - 1, by omega⟩
  replace hd : 67 ≤ d := by omega
  refine jx_C rfl rfl ?_
  unfold f_F_rooms at h
  obtain ⟨z1, h2, h⟩ := Option.bind_eq_some_iff.mp h
  cases h
  exact ⟨3, s_F_fewestRooms (by omega) h2 (And.intro hQ (And.intro rfl rfl))⟩
def f_F_seat (N : Nat) (x1 : Int32) (σ : jw_M) : Option (Int32 × jw_M) := (f_S_isShadow N x1 σ).bind fun z1 => if z1.1 = 0 then some ((-1), z1.2) else (f_F_fewestRooms N  z1.2).bind fun z4 => bif jx_in x1 6 then some ((z4.2.1 79 (x1).toNatClampNeg), z4.2) else none
set_option maxRecDepth 20000 in
theorem s_F_seat {N d : Nat} {x1 : Int32} (hd : 68 ≤ d) {σ : jw_M} {z : (Int32 × jw_M)} {Q : jw_Q} (h : f_F_seat N x1 σ = some z) (hQ : Q (some (.int z.1)) (jx_ShC, z.2)) : jw_C jp_kd jp_ys d 138 [.ref 0, .int x1] (jx_ShC, σ) Q := by
  obtain ⟨d, rfl⟩ : ∃ e, d = e + 1 := ⟨d - 1, by omega⟩
  replace hd : 67 ≤ d := by omega
  refine jx_C rfl rfl ?_
  unfold f_F_seat at h
  obtain ⟨z1, h2, h⟩ := Option.bind_eq_some_iff.mp h
  by_cases c3 : z1.1 = 0
  · rw [if_pos c3] at h
    suffices hh : ∃ n, jx_W jx_ShC d (some .int) jc_138 Q n 11 [some (.ref 0), some (.int x1)] [] z1.2 by
      obtain ⟨n, hn⟩ := hh
      exact ⟨n + 5, s_S_isShadow (by omega) h2 (And.intro (fun zz => absurd c3 zz) (fun _ => hn))⟩
    cases h
    exact ⟨2, And.intro hQ (And.intro rfl rfl)⟩
  · rw [if_neg c3] at h
    suffices hh : ∃ n, jx_W jx_ShC d (some .int) jc_138 Q n 13 [some (.ref 0), some (.int x1)] [] z1.2 by
      obtain ⟨n, hn⟩ := hh
      exact ⟨n + 5, s_S_isShadow (by omega) h2 (And.intro (fun _ => hn) (fun zz => absurd zz c3))⟩
    obtain ⟨z4, h5, h⟩ := Option.bind_eq_some_iff.mp h
    cases c6 : jx_in x1 6 with
    | false => rw [c6, cond_false] at h; cases h
    | true =>
      rw [c6, cond_true] at h
      cases h
      exact ⟨8, s_F_fewestRooms (by omega) h5 (And.intro (jx_in_ok c6) (And.intro hQ (And.intro rfl rfl)))⟩
