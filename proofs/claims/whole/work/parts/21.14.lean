def f_F_row_20 (N : Nat) (x2 : Int32) (y1 : Int32) (σ : jw_M) : Option (Int32 × jw_M) := bif jx_in y1 4 then bif jx_in x2 3 then some ((σ.1 (117 + (y1).toNatClampNeg) (x2).toNatClampNeg), σ) else none else none
set_option maxRecDepth 20000 in
theorem s_F_row_20 {N d : Nat} {Q : jw_Q} (hd : 1 ≤ d) {x2 : Int32} {y1 : Int32} {u0 : Option Value} {u1 : Option Value} {σ : jw_M} {z : (Int32 × jw_M)} (h : f_F_row_20 N x2 y1 σ = some z) (hQ : Q (some (.int z.1)) (jx_ShC, z.2)) : ∃ n, jx_W jx_ShC d (some .int) jc_161 Q n 20 [u0, u1, some (.int x2)] [.int y1, .ref 116] σ := by
  unfold f_F_row_20 at h
  cases c4 : jx_in y1 4 with
  | false => rw [c4, cond_false] at h; cases h
  | true =>
    rw [c4, cond_true] at h
    rcases jx_ix4 (jx_in_ok c4) with rfl | rfl | rfl | rfl
    · try rw [show (117 + (0 : Int32).toNatClampNeg) = 117 from by decide] at h
      cases c5 : jx_in x2 3 with
      | false => rw [c5, cond_false] at h; cases h
      | true =>
        rw [c5, cond_true] at h
        cases h
        exact ⟨5, And.intro (jx_in_ok c4) (And.intro (jx_in_ok c5) (And.intro hQ (And.intro rfl rfl)))⟩
    · try rw [show (117 + (1 : Int32).toNatClampNeg) = 118 from by decide] at h
      cases c5 : jx_in x2 3 with
      | false => rw [c5, cond_false] at h; cases h
      | true =>
        rw [c5, cond_true] at h
        cases h
        exact ⟨5, And.intro (jx_in_ok c4) (And.intro (jx_in_ok c5) (And.intro hQ (And.intro rfl rfl)))⟩
    · try rw [show (117 + (2 : Int32).toNatClampNeg) = 119 from by decide] at h
      cases c5 : jx_in x2 3 with
      | false => rw [c5, cond_false] at h; cases h
      | true =>
        rw [c5, cond_true] at h
        cases h
        exact ⟨5, And.intro (jx_in_ok c4) (And.intro (jx_in_ok c5) (And.intro hQ (And.intro rfl rfl)))⟩
    · try rw [show (117 + (3 : Int32).toNatClampNeg) = 120 from by decide] at h
      cases c5 : jx_in x2 3 with
      | false => rw [c5, cond_false] at h; cases h
      | true =>
        rw [c5, cond_true] at h
        cases h
        exact ⟨5, And.intro (jx_in_ok c4) (And.intro (jx_in_ok c5) (And.intro hQ (And.intro rfl rfl)))⟩
def f_F_row (N : Nat) (x1 : Int32) (x2 : Int32) (σ : jw_M) : Option (Int32 × jw_M) := (f_L_hasRowPart N x1 x2 σ).bind fun z1 => if z1.1 = 0 then some ((-9), z1.2) else f_F_row_20 N x2 x1 z1.2
set_option maxRecDepth 20000 in
theorem s_F_row {N d : Nat} {x1 : Int32} {x2 : Int32} (hd : 2 ≤ d) {σ : jw_M} {z : (Int32 × jw_M)} {Q : jw_Q} (h : f_F_row N x1 x2 σ = some z) (hQ : Q (some (.int z.1)) (jx_ShC, z.2)) : jw_C jp_kd jp_ys d 161 [.ref 0, .int x1, .int x2] (jx_ShC, σ) Q := by
  obtain ⟨d, rfl⟩ : ∃ e, d = e + 1 := ⟨d - 1, by omega⟩
  replace hd : 1 ≤ d := by omega
  refine jx_C rfl rfl ?_
  unfold f_F_row at h
  obtain ⟨z1, h2, h⟩ := Option.bind_eq_some_iff.mp h
  by_cases c3 : z1.1 = 0
  · rw [if_pos c3] at h
    suffices hh : ∃ n, jx_W jx_ShC d (some .int) jc_161 Q n 26 [some (.ref 0), some (.int x1), some (.int x2)] [] z1.2 by
      obtain ⟨n, hn⟩ := hh
      exact ⟨n + 6, s_L_hasRowPart (by omega) h2 (And.intro (fun _ => hn) (fun zz => absurd c3 zz))⟩
    cases h
    exact ⟨2, And.intro hQ (And.intro rfl rfl)⟩
  · rw [if_neg c3] at h
    suffices hh : ∃ n, jx_W jx_ShC d (some .int) jc_161 Q n 12 [some (.ref 0), some (.int x1), some (.int x2)] [] z1.2 by
      obtain ⟨n, hn⟩ := hh
      exact ⟨n + 6, s_L_hasRowPart (by omega) h2 (And.intro (fun zz => absurd zz c3) (fun _ => hn))⟩
    obtain ⟨n, hn⟩ := s_F_row_20 hd (u0 := some (.ref 0)) (u1 := some (.int x1)) h hQ
    exact ⟨n + 4, hn⟩
def f_F_alterRow_36 (N : Nat) (x2 : Int32) (x3 : Int32) (x4 : Int32) (y1 : Int32) (σ : jw_M) : Option (Int32 × jw_M) := bif jx_in y1 4 then bif jx_in x2 3 then some (x4, (jw_up σ.1 (117 + (y1).toNatClampNeg) (x2).toNatClampNeg x3, σ.2)) else none else none
set_option maxRecDepth 20000 in
theorem s_F_alterRow_36 {N d : Nat} {Q : jw_Q} (hd : 1 ≤ d) {x2 : Int32} {x3 : Int32} {x4 : Int32} {y1 : Int32} {u0 : Option Value} {u1 : Option Value} {σ : jw_M} {z : (Int32 × jw_M)} (h : f_F_alterRow_36 N x2 x3 x4 y1 σ = some z) (hQ : Q (some (.int z.1)) (jx_ShC, z.2)) : ∃ n, jx_W jx_ShC d (some .int) jc_162 Q n 36 [u0, u1, some (.int x2), some (.int x3), some (.int x4)] [.int y1, .ref 116] σ := by
  unfold f_F_alterRow_36 at h
  cases c6 : jx_in y1 4 with
  | false => rw [c6, cond_false] at h; cases h
  | true =>
    rw [c6, cond_true] at h
    rcases jx_ix4 (jx_in_ok c6) with rfl | rfl | rfl | rfl
    · try rw [show (117 + (0 : Int32).toNatClampNeg) = 117 from by decide] at h
      cases c7 : jx_in x2 3 with
      | false => rw [c7, cond_false] at h; cases h
      | true =>
        rw [c7, cond_true] at h
        cases h
        exact ⟨6, And.intro (jx_in_ok c6) (And.intro (jx_in_ok c7) (And.intro hQ (And.intro rfl rfl)))⟩
    · try rw [show (117 + (1 : Int32).toNatClampNeg) = 118 from by decide] at h
      cases c7 : jx_in x2 3 with
      | false => rw [c7, cond_false] at h; cases h
      | true =>
        rw [c7, cond_true] at h
        cases h
        exact ⟨6, And.intro (jx_in_ok c6) (And.intro (jx_in_ok c7) (And.intro hQ (And.intro rfl rfl)))⟩
    · try rw [show (117 + (2 : Int32).toNatClampNeg) = 119 from by decide] at h
      cases c7 : jx_in x2 3 with
      | false => rw [c7, cond_false] at h; cases h
      | true =>
        rw [c7, cond_true] at h
        cases h
        exact ⟨6, And.intro (jx_in_ok c6) (And.intro (jx_in_ok c7) (And.intro hQ (And.intro rfl rfl)))⟩
    · try rw [show (117 + (3 : Int32).toNatClampNeg) = 120 from by decide] at h
      cases c7 : jx_in x2 3 with
      | false => rw [c7, cond_false] at h; cases h
      | true =>
        rw [c7, cond_true] at h
        cases h
        exact ⟨6, And.intro (jx_in_ok c6) (And.intro (jx_in_ok c7) (And.intro hQ (And.intro rfl rfl)))⟩
def f_F_alterRow_23 (N : Nat) (x1 : Int32) (x2 : Int32) (x3 : Int32) (y1 : Int32) (σ : jw_M) : Option (Int32 × jw_M) := bif jx_in y1 4 then bif jx_in x2 3 then f_F_alterRow_36 N x2 x3 (σ.1 (117 + (y1).toNatClampNeg) (x2).toNatClampNeg) x1 σ else none else none
set_option maxRecDepth 20000 in
theorem s_F_alterRow_23 {N d : Nat} {Q : jw_Q} (hd : 1 ≤ d) {x1 : Int32} {x2 : Int32} {x3 : Int32} {y1 : Int32} {u4 : Option Value} {σ : jw_M} {z : (Int32 × jw_M)} (h : f_F_alterRow_23 N x1 x2 x3 y1 σ = some z) (hQ : Q (some (.int z.1)) (jx_ShC, z.2)) : ∃ n, jx_W jx_ShC d (some .int) jc_162 Q n 23 [some (.ref 0), some (.int x1), some (.int x2), some (.int x3), u4] [.int y1, .ref 116] σ := by
  unfold f_F_alterRow_23 at h
  cases c4 : jx_in y1 4 with
  | false => rw [c4, cond_false] at h; cases h
  | true =>
    rw [c4, cond_true] at h
    rcases jx_ix4 (jx_in_ok c4) with rfl | rfl | rfl | rfl
    · try rw [show (117 + (0 : Int32).toNatClampNeg) = 117 from by decide] at h
      cases c5 : jx_in x2 3 with
      | false => rw [c5, cond_false] at h; cases h
      | true =>
        rw [c5, cond_true] at h
        obtain ⟨n, hn⟩ := s_F_alterRow_36 hd (u0 := some (.ref 0)) (u1 := some (.int x1)) h hQ
        exact ⟨n + 8, And.intro (jx_in_ok c4) (And.intro (jx_in_ok c5) (hn))⟩
    · try rw [show (117 + (1 : Int32).toNatClampNeg) = 118 from by decide] at h
      cases c5 : jx_in x2 3 with
      | false => rw [c5, cond_false] at h; cases h
      | true =>
        rw [c5, cond_true] at h
        obtain ⟨n, hn⟩ := s_F_alterRow_36 hd (u0 := some (.ref 0)) (u1 := some (.int x1)) h hQ
        exact ⟨n + 8, And.intro (jx_in_ok c4) (And.intro (jx_in_ok c5) (hn))⟩
    · try rw [show (117 + (2 : Int32).toNatClampNeg) = 119 from by decide] at h
      cases c5 : jx_in x2 3 with
      | false => rw [c5, cond_false] at h; cases h
      | true =>
        rw [c5, cond_true] at h
        obtain ⟨n, hn⟩ := s_F_alterRow_36 hd (u0 := some (.ref 0)) (u1 := some (.int x1)) h hQ
        exact ⟨n + 8, And.intro (jx_in_ok c4) (And.intro (jx_in_ok c5) (hn))⟩
    · try rw [show (117 + (3 : Int32).toNatClampNeg) = 120 from by decide] at h
      cases c5 : jx_in x2 3 with
      | false => rw [c5, cond_false] at h; cases h
      | true =>
        rw [c5, cond_true] at h
        obtain ⟨n, hn⟩ := s_F_alterRow_36 hd (u0 := some (.ref 0)) (u1 := some (.int x1)) h hQ
        exact ⟨n + 8, And.intro (jx_in_ok c4) (And.intro (jx_in_ok c5) (hn))⟩
def f_F_alterRow (N : Nat) (x1 : Int32) (x2 : Int32) (x3 : Int32) (σ : jw_M) : Option (Int32 × jw_M) := (f_L_hasRowPart N x1 x2 σ).bind fun z1 => if z1.1 = 0 then some ((-9), z1.2) else f_F_alterRow_23 N x1 x2 x3 x1 z1.2
set_option maxRecDepth 20000 in
theorem s_F_alterRow {N d : Nat} {x1 : Int32} {x2 : Int32} {x3 : Int32} (hd : 2 ≤ d) {σ : jw_M} {z : (Int32 × jw_M)} {Q : jw_Q} (h : f_F_alterRow N x1 x2 x3 σ = some z) (hQ : Q (some (.int z.1)) (jx_ShC, z.2)) : jw_C jp_kd jp_ys d 162 [.ref 0, .int x1, .int x2, .int x3] (jx_ShC, σ) Q := by
  obtain ⟨d, rfl⟩ : ∃ e, d = e + 1 := ⟨d - 1, by omega⟩
  replace hd : 1 ≤ d := by omega
  refine jx_C rfl rfl ?_
  unfold f_F_alterRow at h
  obtain ⟨z1, h2, h⟩ := Option.bind_eq_some_iff.mp h
  by_cases c3 : z1.1 = 0
  · rw [if_pos c3] at h
    suffices hh : ∃ n, jx_W jx_ShC d (some .int) jc_162 Q n 12 [some (.ref 0), some (.int x1), some (.int x2), some (.int x3), none] [] z1.2 by
      obtain ⟨n, hn⟩ := hh
      exact ⟨n + 6, s_L_hasRowPart (by omega) h2 (And.intro (fun zz => absurd c3 zz) (fun _ => hn))⟩
    cases h
    exact ⟨2, And.intro hQ (And.intro rfl rfl)⟩
  · rw [if_neg c3] at h
    suffices hh : ∃ n, jx_W jx_ShC d (some .int) jc_162 Q n 15 [some (.ref 0), some (.int x1), some (.int x2), some (.int x3), none] [] z1.2 by
      obtain ⟨n, hn⟩ := hh
      exact ⟨n + 6, s_L_hasRowPart (by omega) h2 (And.intro (fun _ => hn) (fun zz => absurd zz c3))⟩
    obtain ⟨n, hn⟩ := s_F_alterRow_23 hd (u4 := none) h hQ
    exact ⟨n + 4, hn⟩
def f_F_judge (N : Nat) (σ : jw_M) : Option (Int32 × jw_M) := (f_L_firstWrongRow N  σ).bind fun z1 => some (z1.1, z1.2)
set_option maxRecDepth 20000 in
theorem s_F_judge {N d : Nat} (hd : 8 ≤ d) {σ : jw_M} {z : (Int32 × jw_M)} {Q : jw_Q} (h : f_F_judge N  σ = some z) (hQ : Q (some (.int z.1)) (jx_ShC, z.2)) : jw_C jp_kd jp_ys d 163 [.ref 0] (jx_ShC, σ) Q := by
  obtain ⟨d, rfl⟩ : ∃ e, d = e + 1 := ⟨d - 1, by omega⟩
  replace hd : 7 ≤ d := by omega
  refine jx_C rfl rfl ?_
  unfold f_F_judge at h
  obtain ⟨z1, h2, h⟩ := Option.bind_eq_some_iff.mp h
  cases h
  exact ⟨6, s_L_firstWrongRow (by omega) h2 (And.intro hQ (And.intro rfl rfl))⟩
def f_F_sheet_47 (N : Nat) (x1 : Int32) (x2 : Int32) (x3 : Int32) (σ : jw_M) : Option (Int32 × jw_M) := (f_H_makeRow N x1 x2 x3 σ).bind fun z9 => some (1, z9)
set_option maxRecDepth 20000 in
theorem s_F_sheet_47 {N d : Nat} {Q : jw_Q} (hd : 3 ≤ d) {x1 : Int32} {x2 : Int32} {x3 : Int32} {σ : jw_M} {z : (Int32 × jw_M)} (h : f_F_sheet_47 N x1 x2 x3 σ = some z) (hQ : Q (some (.int z.1)) (jx_ShC, z.2)) : ∃ n, jx_W jx_ShC d (some .int) jc_164 Q n 47 [some (.ref 0), some (.int x1), some (.int x2), some (.int x3)] [] σ := by
  unfold f_F_sheet_47 at h
  obtain ⟨z9, h10, h⟩ := Option.bind_eq_some_iff.mp h
  cases h
  exact ⟨8, s_H_makeRow (by omega) h10 (And.intro hQ (And.intro rfl rfl))⟩
def f_F_sheet_35 (N : Nat) (x1 : Int32) (x2 : Int32) (x3 : Int32) (σ : jw_M) : Option (Int32 × jw_M) := if x2 = (-1) then f_F_sheet_47 N x1 x2 x3 σ else if 0 ≤ x3 then f_F_sheet_47 N x1 x2 x3 σ else some ((-14), σ)
set_option maxRecDepth 20000 in
theorem s_F_sheet_35 {N d : Nat} {Q : jw_Q} (hd : 3 ≤ d) {x1 : Int32} {x2 : Int32} {x3 : Int32} {σ : jw_M} {z : (Int32 × jw_M)} (h : f_F_sheet_35 N x1 x2 x3 σ = some z) (hQ : Q (some (.int z.1)) (jx_ShC, z.2)) : ∃ n, jx_W jx_ShC d (some .int) jc_164 Q n 35 [some (.ref 0), some (.int x1), some (.int x2), some (.int x3)] [] σ := by
  unfold f_F_sheet_35 at h
  by_cases c8 : x2 = (-1)
  · rw [if_pos c8] at h
    suffices hh : ∃ n, jx_W jx_ShC d (some .int) jc_164 Q n 47 [some (.ref 0), some (.int x1), some (.int x2), some (.int x3)] [] σ by
      obtain ⟨n, hn⟩ := hh
      exact ⟨n + 3, And.intro (fun _ => hn) (fun zz => absurd c8 zz)⟩
    obtain ⟨n, hn⟩ := s_F_sheet_47 hd h hQ
    exact ⟨n + 0, hn⟩
  · rw [if_neg c8] at h
    suffices hh : ∃ n, jx_W jx_ShC d (some .int) jc_164 Q n 40 [some (.ref 0), some (.int x1), some (.int x2), some (.int x3)] [] σ by
      obtain ⟨n, hn⟩ := hh
      exact ⟨n + 3, And.intro (fun zz => absurd zz c8) (fun _ => hn)⟩
    by_cases c11 : 0 ≤ x3
    · rw [if_pos c11] at h
      suffices hh : ∃ n, jx_W jx_ShC d (some .int) jc_164 Q n 47 [some (.ref 0), some (.int x1), some (.int x2), some (.int x3)] [] σ by
        obtain ⟨n, hn⟩ := hh
        exact ⟨n + 2, And.intro (fun _ => hn) (fun zz => absurd c11 zz)⟩
      obtain ⟨n, hn⟩ := s_F_sheet_47 hd h hQ
      exact ⟨n + 0, hn⟩
    · rw [if_neg c11] at h
      suffices hh : ∃ n, jx_W jx_ShC d (some .int) jc_164 Q n 44 [some (.ref 0), some (.int x1), some (.int x2), some (.int x3)] [] σ by
        obtain ⟨n, hn⟩ := hh
        exact ⟨n + 2, And.intro (fun zz => absurd zz c11) (fun _ => hn)⟩
      cases h
      exact ⟨2, And.intro hQ (And.intro rfl rfl)⟩
def f_F_sheet (N : Nat) (x1 : Int32) (x2 : Int32) (x3 : Int32) (σ : jw_M) : Option (Int32 × jw_M) := (f_H_isSheet N x1 σ).bind fun z1 => if z1.1 = 0 then some ((-1), z1.2) else (f_F_isWithin N x2 (-1) 4 z1.2).bind fun z4 => if z4.1 = 0 then some ((-1), z4.2) else if x2 = (-1) then f_F_sheet_35 N x1 x2 x3 z4.2 else if x3 ≤ 40 then f_F_sheet_35 N x1 x2 x3 z4.2 else some ((-1), z4.2)
set_option maxRecDepth 20000 in
theorem s_F_sheet {N d : Nat} {x1 : Int32} {x2 : Int32} {x3 : Int32} (hd : 4 ≤ d) {σ : jw_M} {z : (Int32 × jw_M)} {Q : jw_Q} (h : f_F_sheet N x1 x2 x3 σ = some z) (hQ : Q (some (.int z.1)) (jx_ShC, z.2)) : jw_C jp_kd jp_ys d 164 [.ref 0, .int x1, .int x2, .int x3] (jx_ShC, σ) Q := by
  obtain ⟨d, rfl⟩ : ∃ e, d = e + 1 := ⟨d - 1, by omega⟩
  replace hd : 3 ≤ d := by omega
  refine jx_C rfl rfl ?_
  unfold f_F_sheet at h
  obtain ⟨z1, h2, h⟩ := Option.bind_eq_some_iff.mp h
  by_cases c3 : z1.1 = 0
  · rw [if_pos c3] at h
    suffices hh : ∃ n, jx_W jx_ShC d (some .int) jc_164 Q n 20 [some (.ref 0), some (.int x1), some (.int x2), some (.int x3)] [] z1.2 by
      obtain ⟨n, hn⟩ := hh
      exact ⟨n + 5, s_H_isSheet (by omega) h2 (And.intro (fun _ => hn) (fun zz => absurd c3 zz))⟩
    cases h
    exact ⟨2, And.intro hQ (And.intro rfl rfl)⟩
  · rw [if_neg c3] at h
    suffices hh : ∃ n, jx_W jx_ShC d (some .int) jc_164 Q n 11 [some (.ref 0), some (.int x1), some (.int x2), some (.int x3)] [] z1.2 by
      obtain ⟨n, hn⟩ := hh
      exact ⟨n + 5, s_H_isSheet (by omega) h2 (And.intro (fun zz => absurd zz c3) (fun _ => hn))⟩
    obtain ⟨z4, h5, h⟩ := Option.bind_eq_some_iff.mp h
    by_cases c6 : z4.1 = 0
    · rw [if_pos c6] at h
      suffices hh : ∃ n, jx_W jx_ShC d (some .int) jc_164 Q n 20 [some (.ref 0), some (.int x1), some (.int x2), some (.int x3)] [] z4.2 by
        obtain ⟨n, hn⟩ := hh
        exact ⟨n + 5, s_F_isWithin (by omega) h5 (And.intro (fun zz => absurd c6 zz) (fun _ => hn))⟩
      cases h
      exact ⟨2, And.intro hQ (And.intro rfl rfl)⟩
    · rw [if_neg c6] at h
      suffices hh : ∃ n, jx_W jx_ShC d (some .int) jc_164 Q n 22 [some (.ref 0), some (.int x1), some (.int x2), some (.int x3)] [] z4.2 by
        obtain ⟨n, hn⟩ := hh
        exact ⟨n + 5, s_F_isWithin (by omega) h5 (And.intro (fun _ => hn) (fun zz => absurd zz c6))⟩
      by_cases c7 : x2 = (-1)
      · rw [if_pos c7] at h
        suffices hh : ∃ n, jx_W jx_ShC d (some .int) jc_164 Q n 35 [some (.ref 0), some (.int x1), some (.int x2), some (.int x3)] [] z4.2 by
          obtain ⟨n, hn⟩ := hh
          exact ⟨n + 3, And.intro (fun _ => hn) (fun zz => absurd c7 zz)⟩
        obtain ⟨n, hn⟩ := s_F_sheet_35 hd h hQ
        exact ⟨n + 0, hn⟩
      · rw [if_neg c7] at h
        suffices hh : ∃ n, jx_W jx_ShC d (some .int) jc_164 Q n 27 [some (.ref 0), some (.int x1), some (.int x2), some (.int x3)] [] z4.2 by
          obtain ⟨n, hn⟩ := hh
          exact ⟨n + 3, And.intro (fun zz => absurd zz c7) (fun _ => hn)⟩
        by_cases c12 : x3 ≤ 40
        · rw [if_pos c12] at h
          suffices hh : ∃ n, jx_W jx_ShC d (some .int) jc_164 Q n 35 [some (.ref 0), some (.int x1), some (.int x2), some (.int x3)] [] z4.2 by
            obtain ⟨n, hn⟩ := hh
            exact ⟨n + 3, And.intro (fun _ => hn) (fun zz => absurd c12 zz)⟩
          obtain ⟨n, hn⟩ := s_F_sheet_35 hd h hQ
          exact ⟨n + 0, hn⟩
        · rw [if_neg c12] at h
          suffices hh : ∃ n, jx_W jx_ShC d (some .int) jc_164 Q n 33 [some (.ref 0), some (.int x1), some (.int x2), some (.int x3)] [] z4.2 by
            obtain ⟨n, hn⟩ := hh
            exact ⟨n + 3, And.intro (fun zz => absurd zz c12) (fun _ => hn)⟩
          cases h
          exact ⟨2, And.intro hQ (And.intro rfl rfl)⟩
def f_F_write (N : Nat) (x1 : Int32) (x2 : Int32) (x3 : Int32) (σ : jw_M) : Option (Int32 × jw_M) := (f_H_isSheet N x1 σ).bind fun z1 => if z1.1 = 0 then some ((-1), z1.2) else bif jx_in x1 4 then if (z1.2.1 122 (x1).toNatClampNeg) = (-1) then some ((-11), z1.2) else (f_H_hasItem N x1 x2 z1.2).bind fun z6 => if z6.1 = 0 then some ((-12), z6.2) else (f_H_putItem N x1 x2 x3 z6.2).bind fun z9 => some (1, z9) else none
set_option maxRecDepth 20000 in
theorem s_F_write {N d : Nat} {x1 : Int32} {x2 : Int32} {x3 : Int32} (hd : 2 ≤ d) {σ : jw_M} {z : (Int32 × jw_M)} {Q : jw_Q} (h : f_F_write N x1 x2 x3 σ = some z) (hQ : Q (some (.int z.1)) (jx_ShC, z.2)) : jw_C jp_kd jp_ys d 165 [.ref 0, .int x1, .int x2, .int x3] (jx_ShC, σ) Q := by
  obtain ⟨d, rfl⟩ : ∃ e, d = e + 1 := ⟨d - 1, by omega⟩
  replace hd : 1 ≤ d := by omega
  refine jx_C rfl rfl ?_
  unfold f_F_write at h
  obtain ⟨z1, h2, h⟩ := Option.bind_eq_some_iff.mp h
  by_cases c3 : z1.1 = 0
  · rw [if_pos c3] at h
    suffices hh : ∃ n, jx_W jx_ShC d (some .int) jc_165 Q n 11 [some (.ref 0), some (.int x1), some (.int x2), some (.int x3)] [] z1.2 by
      obtain ⟨n, hn⟩ := hh
      exact ⟨n + 5, s_H_isSheet (by omega) h2 (And.intro (fun zz => absurd c3 zz) (fun _ => hn))⟩
    cases h
    exact ⟨2, And.intro hQ (And.intro rfl rfl)⟩
  · rw [if_neg c3] at h
    suffices hh : ∃ n, jx_W jx_ShC d (some .int) jc_165 Q n 13 [some (.ref 0), some (.int x1), some (.int x2), some (.int x3)] [] z1.2 by
      obtain ⟨n, hn⟩ := hh
      exact ⟨n + 5, s_H_isSheet (by omega) h2 (And.intro (fun _ => hn) (fun zz => absurd zz c3))⟩
    cases c4 : jx_in x1 4 with
    | false => rw [c4, cond_false] at h; cases h
    | true =>
      rw [c4, cond_true] at h
      by_cases c5 : (z1.2.1 122 (x1).toNatClampNeg) = (-1)
      · rw [if_pos c5] at h
        suffices hh : ∃ n, jx_W jx_ShC d (some .int) jc_165 Q n 26 [some (.ref 0), some (.int x1), some (.int x2), some (.int x3)] [] z1.2 by
          obtain ⟨n, hn⟩ := hh
          exact ⟨n + 7, And.intro (jx_in_ok c4) (And.intro (fun zz => absurd c5 zz) (fun _ => hn))⟩
        cases h
        exact ⟨2, And.intro hQ (And.intro rfl rfl)⟩
      · rw [if_neg c5] at h
        suffices hh : ∃ n, jx_W jx_ShC d (some .int) jc_165 Q n 29 [some (.ref 0), some (.int x1), some (.int x2), some (.int x3)] [] z1.2 by
          obtain ⟨n, hn⟩ := hh
          exact ⟨n + 7, And.intro (jx_in_ok c4) (And.intro (fun _ => hn) (fun zz => absurd zz c5))⟩
        obtain ⟨z6, h7, h⟩ := Option.bind_eq_some_iff.mp h
        by_cases c8 : z6.1 = 0
        · rw [if_pos c8] at h
          suffices hh : ∃ n, jx_W jx_ShC d (some .int) jc_165 Q n 41 [some (.ref 0), some (.int x1), some (.int x2), some (.int x3)] [] z6.2 by
            obtain ⟨n, hn⟩ := hh
            exact ⟨n + 6, s_H_hasItem (by omega) h7 (And.intro (fun zz => absurd c8 zz) (fun _ => hn))⟩
          cases h
          exact ⟨2, And.intro hQ (And.intro rfl rfl)⟩
        · rw [if_neg c8] at h
          suffices hh : ∃ n, jx_W jx_ShC d (some .int) jc_165 Q n 44 [some (.ref 0), some (.int x1), some (.int x2), some (.int x3)] [] z6.2 by
            obtain ⟨n, hn⟩ := hh
            exact ⟨n + 6, s_H_hasItem (by omega) h7 (And.intro (fun _ => hn) (fun zz => absurd zz c8))⟩
          obtain ⟨z9, h10, h⟩ := Option.bind_eq_some_iff.mp h
          cases h
          exact ⟨8, s_H_putItem (by omega) h10 (And.intro hQ (And.intro rfl rfl))⟩
def f_F_item (N : Nat) (x1 : Int32) (x2 : Int32) (x3 : Int32) (σ : jw_M) : Option (Int32 × jw_M) := (f_H_isSheet N x1 σ).bind fun z1 => if z1.1 = 0 then some ((-1), z1.2) else (f_F_isWithin N x2 0 4 z1.2).bind fun z4 => if z4.1 = 0 then some ((-1), z4.2) else (f_H_refusalAs N x1 x2 z4.2).bind fun z7 => if z7.1 = 0 then (f_H_hasItem N x1 x3 z7.2).bind fun z10 => if z10.1 = 0 then some ((-12), z10.2) else (f_H_itemAt N x1 x3 z10.2).bind fun z13 => some (z13.1, z13.2) else some (z7.1, z7.2)
set_option maxRecDepth 20000 in
theorem s_F_item {N d : Nat} {x1 : Int32} {x2 : Int32} {x3 : Int32} (hd : 2 ≤ d) {σ : jw_M} {z : (Int32 × jw_M)} {Q : jw_Q} (h : f_F_item N x1 x2 x3 σ = some z) (hQ : Q (some (.int z.1)) (jx_ShC, z.2)) : jw_C jp_kd jp_ys d 166 [.ref 0, .int x1, .int x2, .int x3] (jx_ShC, σ) Q := by
  obtain ⟨d, rfl⟩ : ∃ e, d = e + 1 := ⟨d - 1, by omega⟩
  replace hd : 1 ≤ d := by omega
  refine jx_C rfl rfl ?_
  unfold f_F_item at h
  obtain ⟨z1, h2, h⟩ := Option.bind_eq_some_iff.mp h
  by_cases c3 : z1.1 = 0
  · rw [if_pos c3] at h
    suffices hh : ∃ n, jx_W jx_ShC d (some .int) jc_166 Q n 20 [some (.ref 0), some (.int x1), some (.int x2), some (.int x3), none] [] z1.2 by
      obtain ⟨n, hn⟩ := hh
      exact ⟨n + 5, s_H_isSheet (by omega) h2 (And.intro (fun _ => hn) (fun zz => absurd c3 zz))⟩
    cases h
    exact ⟨2, And.intro hQ (And.intro rfl rfl)⟩
  · rw [if_neg c3] at h
    suffices hh : ∃ n, jx_W jx_ShC d (some .int) jc_166 Q n 11 [some (.ref 0), some (.int x1), some (.int x2), some (.int x3), none] [] z1.2 by
      obtain ⟨n, hn⟩ := hh
      exact ⟨n + 5, s_H_isSheet (by omega) h2 (And.intro (fun zz => absurd zz c3) (fun _ => hn))⟩
    obtain ⟨z4, h5, h⟩ := Option.bind_eq_some_iff.mp h
    by_cases c6 : z4.1 = 0
    · rw [if_pos c6] at h
      suffices hh : ∃ n, jx_W jx_ShC d (some .int) jc_166 Q n 20 [some (.ref 0), some (.int x1), some (.int x2), some (.int x3), none] [] z4.2 by
        obtain ⟨n, hn⟩ := hh
        exact ⟨n + 5, s_F_isWithin (by omega) h5 (And.intro (fun zz => absurd c6 zz) (fun _ => hn))⟩
      cases h
      exact ⟨2, And.intro hQ (And.intro rfl rfl)⟩
    · rw [if_neg c6] at h
      suffices hh : ∃ n, jx_W jx_ShC d (some .int) jc_166 Q n 22 [some (.ref 0), some (.int x1), some (.int x2), some (.int x3), none] [] z4.2 by
        obtain ⟨n, hn⟩ := hh
        exact ⟨n + 5, s_F_isWithin (by omega) h5 (And.intro (fun _ => hn) (fun zz => absurd zz c6))⟩
      obtain ⟨z7, h8, h⟩ := Option.bind_eq_some_iff.mp h
      by_cases c9 : z7.1 = 0
      · rw [if_pos c9] at h
        suffices hh : ∃ n, jx_W jx_ShC d (some .int) jc_166 Q n 41 [some (.ref 0), some (.int x1), some (.int x2), some (.int x3), some (.int z7.1)] [] z7.2 by
          obtain ⟨n, hn⟩ := hh
          exact ⟨n + 8, s_H_refusalAs (by omega) h8 (And.intro (fun _ => hn) (fun zz => absurd c9 zz))⟩
        obtain ⟨z10, h11, h⟩ := Option.bind_eq_some_iff.mp h
        by_cases c12 : z10.1 = 0
        · rw [if_pos c12] at h
          suffices hh : ∃ n, jx_W jx_ShC d (some .int) jc_166 Q n 65 [some (.ref 0), some (.int x1), some (.int x2), some (.int x3), some (.int z7.1)] [] z10.2 by
            obtain ⟨n, hn⟩ := hh
            exact ⟨n + 6, s_H_hasItem (by omega) h11 (And.intro (fun _ => hn) (fun zz => absurd c12 zz))⟩
          cases h
          exact ⟨2, And.intro hQ (And.intro rfl rfl)⟩
        · rw [if_neg c12] at h
          suffices hh : ∃ n, jx_W jx_ShC d (some .int) jc_166 Q n 53 [some (.ref 0), some (.int x1), some (.int x2), some (.int x3), some (.int z7.1)] [] z10.2 by
            obtain ⟨n, hn⟩ := hh
            exact ⟨n + 6, s_H_hasItem (by omega) h11 (And.intro (fun zz => absurd zz c12) (fun _ => hn))⟩
          obtain ⟨z13, h14, h⟩ := Option.bind_eq_some_iff.mp h
          cases h
          exact ⟨7, s_H_itemAt (by omega) h14 (And.intro hQ (And.intro rfl rfl))⟩
      · rw [if_neg c9] at h
        suffices hh : ∃ n, jx_W jx_ShC d (some .int) jc_166 Q n 38 [some (.ref 0), some (.int x1), some (.int x2), some (.int x3), some (.int z7.1)] [] z7.2 by
          obtain ⟨n, hn⟩ := hh
          exact ⟨n + 8, s_H_refusalAs (by omega) h8 (And.intro (fun zz => absurd zz c9) (fun _ => hn))⟩
        cases h
        exact ⟨2, And.intro hQ (And.intro rfl rfl)⟩
def f_F_goAll_136 (N : Nat) (K48 : Int32 → Int32 → Int32 → Int32 → Int32 → jw_M → Option (Int32 × jw_M)) (x1 : Int32) (x2 : Int32) (x3 : Int32) (x5 : Int32) (x6 : Int32) (σ : jw_M) : Option (Int32 × jw_M) := K48 x1 x2 x3 x5 (x6 + 1) σ
set_option maxRecDepth 20000 in
theorem s_F_goAll_136 {N d : Nat} {Q : jw_Q} {K48 : Int32 → Int32 → Int32 → Int32 → Int32 → jw_M → Option (Int32 × jw_M)} (hd : 6 ≤ d) (hK48 : ∀ {x1 : Int32} {x2 : Int32} {x3 : Int32} {x5 : Int32} {x6 : Int32} {σ : jw_M} {z : (Int32 × jw_M)} {u4 : Option Value} {u7 : Option Value}, K48 x1 x2 x3 x5 x6 σ = some z → Q (some (.int z.1)) (jx_ShC, z.2) → ∃ n, jx_W jx_ShC d (some .int) jc_167 Q n 48 [some (.ref 0), some (.int x1), some (.int x2), some (.int x3), u4, some (.int x5), some (.int x6), u7] [] σ) {x1 : Int32} {x2 : Int32} {x3 : Int32} {x5 : Int32} {x6 : Int32} {u4 : Option Value} {u7 : Option Value} {σ : jw_M} {z : (Int32 × jw_M)} (h : f_F_goAll_136 N K48 x1 x2 x3 x5 x6 σ = some z) (hQ : Q (some (.int z.1)) (jx_ShC, z.2)) : ∃ n, jx_W jx_ShC d (some .int) jc_167 Q n 136 [some (.ref 0), some (.int x1), some (.int x2), some (.int x3), u4, some (.int x5), some (.int x6), u7] [] σ := by
  unfold f_F_goAll_136 at h
  obtain ⟨n, hn⟩ := hK48 (u4 := u4) (u7 := u7) h hQ
  exact ⟨n + 2, hn⟩
def f_F_goAll_48 (N : Nat) : Nat → Int32 → Int32 → Int32 → Int32 → Int32 → jw_M → Option (Int32 × jw_M)
  | 0, _, _, _, _, _, _ => none
  | k + 1, x1, x2, x3, x5, x6, σ => if x3 ≤ x6 then some (x5, σ) else (f_H_hasItem N x1 (x2 + x6) σ).bind fun z11 => if z11.1 = 0 then some ((-12), z11.2) else (f_H_itemAt N x1 (x2 + x6) z11.2).bind fun z14 => (f_S_isAct N (z14.1) z14.2).bind fun z16 => if z16.1 = 0 then f_F_goAll_136 N (f_F_goAll_48 N k) x1 x2 x3 x5 x6 z16.2 else (f_S_isOver N 27 z16.2).bind fun z19 => if z19.1 = 0 then (f_S_goBy N 27 (z14.1) z19.2).bind fun z22 => f_F_goAll_136 N (f_F_goAll_48 N k) x1 x2 x3 (x5 + z22.1) x6 z22.2 else f_F_goAll_136 N (f_F_goAll_48 N k) x1 x2 x3 x5 x6 z19.2
set_option maxRecDepth 20000 in
theorem s_F_goAll_48 {N d : Nat} {Q : jw_Q} (hd : 6 ≤ d) : ∀ (k : Nat) {x1 : Int32} {x2 : Int32} {x3 : Int32} {x5 : Int32} {x6 : Int32} {u4 : Option Value} {u7 : Option Value} {σ : jw_M} {z : (Int32 × jw_M)}, f_F_goAll_48 N k x1 x2 x3 x5 x6 σ = some z → Q (some (.int z.1)) (jx_ShC, z.2) → ∃ n, jx_W jx_ShC d (some .int) jc_167 Q n 48 [some (.ref 0), some (.int x1), some (.int x2), some (.int x3), u4, some (.int x5), some (.int x6), u7] [] σ
  | 0, _, _, _, _, _, _, _, _, _, h, _ => by cases h
  | k + 1, x1, x2, x3, x5, x6, u4, u7, σ, z, h, hQ => by
    rw [f_F_goAll_48] at h
    by_cases c10 : x3 ≤ x6
    · rw [if_pos c10] at h
      suffices hh : ∃ n, jx_W jx_ShC d (some .int) jc_167 Q n 142 [some (.ref 0), some (.int x1), some (.int x2), some (.int x3), u4, some (.int x5), some (.int x6), u7] [] σ by
        obtain ⟨n, hn⟩ := hh
        exact ⟨n + 3, And.intro (fun _ => hn) (fun zz => absurd c10 zz)⟩
      cases h
      exact ⟨2, And.intro hQ (And.intro rfl rfl)⟩
    · rw [if_neg c10] at h
      suffices hh : ∃ n, jx_W jx_ShC d (some .int) jc_167 Q n 54 [some (.ref 0), some (.int x1), some (.int x2), some (.int x3), u4, some (.int x5), some (.int x6), u7] [] σ by
        obtain ⟨n, hn⟩ := hh
        exact ⟨n + 3, And.intro (fun zz => absurd zz c10) (fun _ => hn)⟩
      obtain ⟨z11, h12, h⟩ := Option.bind_eq_some_iff.mp h
      by_cases c13 : z11.1 = 0
      · rw [if_pos c13] at h
        suffices hh : ∃ n, jx_W jx_ShC d (some .int) jc_167 Q n 69 [some (.ref 0), some (.int x1), some (.int x2), some (.int x3), u4, some (.int x5), some (.int x6), u7] [] z11.2 by
          obtain ⟨n, hn⟩ := hh
          exact ⟨n + 8, s_H_hasItem (by omega) h12 (And.intro (fun zz => absurd c13 zz) (fun _ => hn))⟩
        cases h
        exact ⟨2, And.intro hQ (And.intro rfl rfl)⟩
      · rw [if_neg c13] at h
        suffices hh : ∃ n, jx_W jx_ShC d (some .int) jc_167 Q n 72 [some (.ref 0), some (.int x1), some (.int x2), some (.int x3), u4, some (.int x5), some (.int x6), u7] [] z11.2 by
          obtain ⟨n, hn⟩ := hh
          exact ⟨n + 8, s_H_hasItem (by omega) h12 (And.intro (fun _ => hn) (fun zz => absurd zz c13))⟩
        obtain ⟨z14, h15, h⟩ := Option.bind_eq_some_iff.mp h
        obtain ⟨z16, h17, h⟩ := Option.bind_eq_some_iff.mp h
        by_cases c18 : z16.1 = 0
        · rw [if_pos c18] at h
          suffices hh : ∃ n, jx_W jx_ShC d (some .int) jc_167 Q n 136 [some (.ref 0), some (.int x1), some (.int x2), some (.int x3), u4, some (.int x5), some (.int x6), some (.int z14.1)] [] z16.2 by
            obtain ⟨n, hn⟩ := hh
            exact ⟨n + 13, s_H_itemAt (by omega) h15 (s_S_isAct (by omega) h17 (And.intro (fun _ => hn) (fun zz => absurd c18 zz)))⟩
          obtain ⟨n, hn⟩ := s_F_goAll_136 hd (s_F_goAll_48 hd k) (u4 := u4) (u7 := some (.int z14.1)) h hQ
          exact ⟨n + 0, hn⟩
        · rw [if_neg c18] at h
          suffices hh : ∃ n, jx_W jx_ShC d (some .int) jc_167 Q n 98 [some (.ref 0), some (.int x1), some (.int x2), some (.int x3), u4, some (.int x5), some (.int x6), some (.int z14.1)] [] z16.2 by
            obtain ⟨n, hn⟩ := hh
            exact ⟨n + 13, s_H_itemAt (by omega) h15 (s_S_isAct (by omega) h17 (And.intro (fun zz => absurd zz c18) (fun _ => hn)))⟩
          obtain ⟨z19, h20, h⟩ := Option.bind_eq_some_iff.mp h
          by_cases c21 : z19.1 = 0
          · rw [if_pos c21] at h
            suffices hh : ∃ n, jx_W jx_ShC d (some .int) jc_167 Q n 115 [some (.ref 0), some (.int x1), some (.int x2), some (.int x3), u4, some (.int x5), some (.int x6), some (.int z14.1)] [] z19.2 by
              obtain ⟨n, hn⟩ := hh
              exact ⟨n + 7, s_S_isOver (by omega) (by decide) h20 (And.intro (fun zz => absurd c21 zz) (fun _ => hn))⟩
            obtain ⟨z22, h23, h⟩ := Option.bind_eq_some_iff.mp h
            obtain ⟨n, hn⟩ := s_F_goAll_136 hd (s_F_goAll_48 hd k) (u4 := (jw_clr u4)) (u7 := some (.int z14.1)) h hQ
            exact ⟨n + 10, s_S_goBy (by omega) (by decide) h23 (hn)⟩
          · rw [if_neg c21] at h
            suffices hh : ∃ n, jx_W jx_ShC d (some .int) jc_167 Q n 136 [some (.ref 0), some (.int x1), some (.int x2), some (.int x3), u4, some (.int x5), some (.int x6), some (.int z14.1)] [] z19.2 by
              obtain ⟨n, hn⟩ := hh
              exact ⟨n + 7, s_S_isOver (by omega) (by decide) h20 (And.intro (fun _ => hn) (fun zz => absurd zz c21))⟩
            obtain ⟨n, hn⟩ := s_F_goAll_136 hd (s_F_goAll_48 hd k) (u4 := u4) (u7 := some (.int z14.1)) h hQ
            exact ⟨n + 0, hn⟩
def f_F_goAll (N : Nat) (x1 : Int32) (x2 : Int32) (x3 : Int32) (σ : jw_M) : Option (Int32 × jw_M) := (f_H_isSheet N x1 σ).bind fun z1 => if z1.1 = 0 then some ((-1), z1.2) else (f_F_isWithin N x3 0 20 z1.2).bind fun z4 => if z4.1 = 0 then some ((-1), z4.2) else (f_H_refusalAs N x1 0 z4.2).bind fun z7 => if z7.1 = 0 then f_F_goAll_48 N N x1 x2 x3 0 0 z7.2 else some (z7.1, z7.2)
set_option maxRecDepth 20000 in
theorem s_F_goAll {N d : Nat} {x1 : Int32} {x2 : Int32} {x3 : Int32} (hd : 7 ≤ d) {σ : jw_M} {z : (Int32 × jw_M)} {Q : jw_Q} (h : f_F_goAll N x1 x2 x3 σ = some z) (hQ : Q (some (.int z.1)) (jx_ShC, z.2)) : jw_C jp_kd jp_ys d 167 [.ref 0, .int x1, .int x2, .int x3] (jx_ShC, σ) Q := by
  obtain ⟨d, rfl⟩ : ∃ e, d = e + 1 := ⟨d - 1, by omega⟩
  replace hd : 6 ≤ d := by omega
  refine jx_C rfl rfl ?_
  unfold f_F_goAll at h
  obtain ⟨z1, h2, h⟩ := Option.bind_eq_some_iff.mp h
  by_cases c3 : z1.1 = 0
  · rw [if_pos c3] at h
    suffices hh : ∃ n, jx_W jx_ShC d (some .int) jc_167 Q n 21 [some (.ref 0), some (.int x1), some (.int x2), some (.int x3), none, none, none, none] [] z1.2 by
      obtain ⟨n, hn⟩ := hh
      exact ⟨n + 5, s_H_isSheet (by omega) h2 (And.intro (fun _ => hn) (fun zz => absurd c3 zz))⟩
    cases h
    exact ⟨2, And.intro hQ (And.intro rfl rfl)⟩
  · rw [if_neg c3] at h
    suffices hh : ∃ n, jx_W jx_ShC d (some .int) jc_167 Q n 11 [some (.ref 0), some (.int x1), some (.int x2), some (.int x3), none, none, none, none] [] z1.2 by
      obtain ⟨n, hn⟩ := hh
      exact ⟨n + 5, s_H_isSheet (by omega) h2 (And.intro (fun zz => absurd zz c3) (fun _ => hn))⟩
    obtain ⟨z4, h5, h⟩ := Option.bind_eq_some_iff.mp h
    by_cases c6 : z4.1 = 0
    · rw [if_pos c6] at h
      suffices hh : ∃ n, jx_W jx_ShC d (some .int) jc_167 Q n 21 [some (.ref 0), some (.int x1), some (.int x2), some (.int x3), none, none, none, none] [] z4.2 by
        obtain ⟨n, hn⟩ := hh
        exact ⟨n + 5, s_F_isWithin (by omega) h5 (And.intro (fun zz => absurd c6 zz) (fun _ => hn))⟩
      cases h
      exact ⟨2, And.intro hQ (And.intro rfl rfl)⟩
    · rw [if_neg c6] at h
      suffices hh : ∃ n, jx_W jx_ShC d (some .int) jc_167 Q n 23 [some (.ref 0), some (.int x1), some (.int x2), some (.int x3), none, none, none, none] [] z4.2 by
        obtain ⟨n, hn⟩ := hh
        exact ⟨n + 5, s_F_isWithin (by omega) h5 (And.intro (fun _ => hn) (fun zz => absurd zz c6))⟩
      obtain ⟨z7, h8, h⟩ := Option.bind_eq_some_iff.mp h
      by_cases c9 : z7.1 = 0
      · rw [if_pos c9] at h
        suffices hh : ∃ n, jx_W jx_ShC d (some .int) jc_167 Q n 42 [some (.ref 0), some (.int x1), some (.int x2), some (.int x3), some (.int z7.1), none, none, none] [] z7.2 by
          obtain ⟨n, hn⟩ := hh
          exact ⟨n + 8, s_H_refusalAs (by omega) h8 (And.intro (fun _ => hn) (fun zz => absurd c9 zz))⟩
        obtain ⟨n, hn⟩ := s_F_goAll_48 hd N (u4 := some (.int z7.1)) (u7 := none) h hQ
        exact ⟨n + 4, hn⟩
      · rw [if_neg c9] at h
        suffices hh : ∃ n, jx_W jx_ShC d (some .int) jc_167 Q n 39 [some (.ref 0), some (.int x1), some (.int x2), some (.int x3), some (.int z7.1), none, none, none] [] z7.2 by
          obtain ⟨n, hn⟩ := hh
          exact ⟨n + 8, s_H_refusalAs (by omega) h8 (And.intro (fun zz => absurd zz c9) (fun _ => hn))⟩
        cases h
        exact ⟨2, And.intro hQ (And.intro rfl rfl)⟩
def f_F_wouldBe_62 (N : Nat) : Nat → Int32 → Int32 → Int32 → Int32 → Int32 → jw_M → Option (Int32 × jw_M)
  | 0, _, _, _, _, _, _ => none
  | k + 1, x1, x2, x3, x5, x6, σ => if x3 ≤ x6 then some (x5, σ) else (f_H_hasItem N x1 (x2 + x6) σ).bind fun z13 => if z13.1 = 0 then some ((-12), z13.2) else (f_H_itemAt N x1 (x2 + x6) z13.2).bind fun z16 => (f_S_isAct N (z16.1) z16.2).bind fun z18 => if z18.1 = 0 then some ((-4), z18.2) else (f_S_isOver N 75 z18.2).bind fun z21 => if z21.1 = 0 then (f_S_goBy N 75 (z16.1) z21.2).bind fun z24 => f_F_wouldBe_62 N k x1 x2 x3 (x5 + z24.1) (x6 + 1) z24.2 else some ((-4), z21.2)
set_option maxRecDepth 20000 in
theorem s_F_wouldBe_62 {N d : Nat} {Q : jw_Q} (hd : 6 ≤ d) : ∀ (k : Nat) {x1 : Int32} {x2 : Int32} {x3 : Int32} {x5 : Int32} {x6 : Int32} {u4 : Option Value} {u7 : Option Value} {σ : jw_M} {z : (Int32 × jw_M)}, f_F_wouldBe_62 N k x1 x2 x3 x5 x6 σ = some z → Q (some (.int z.1)) (jx_ShC, z.2) → ∃ n, jx_W jx_ShC d (some .int) jc_168 Q n 62 [some (.ref 0), some (.int x1), some (.int x2), some (.int x3), u4, some (.int x5), some (.int x6), u7] [] σ
  | 0, _, _, _, _, _, _, _, _, _, h, _ => by cases h
  | k + 1, x1, x2, x3, x5, x6, u4, u7, σ, z, h, hQ => by
    rw [f_F_wouldBe_62] at h
    by_cases c12 : x3 ≤ x6
    · rw [if_pos c12] at h
      suffices hh : ∃ n, jx_W jx_ShC d (some .int) jc_168 Q n 153 [some (.ref 0), some (.int x1), some (.int x2), some (.int x3), u4, some (.int x5), some (.int x6), u7] [] σ by
        obtain ⟨n, hn⟩ := hh
        exact ⟨n + 3, And.intro (fun _ => hn) (fun zz => absurd c12 zz)⟩
      cases h
      exact ⟨2, And.intro hQ (And.intro rfl rfl)⟩
    · rw [if_neg c12] at h
      suffices hh : ∃ n, jx_W jx_ShC d (some .int) jc_168 Q n 68 [some (.ref 0), some (.int x1), some (.int x2), some (.int x3), u4, some (.int x5), some (.int x6), u7] [] σ by
        obtain ⟨n, hn⟩ := hh
        exact ⟨n + 3, And.intro (fun zz => absurd zz c12) (fun _ => hn)⟩
      obtain ⟨z13, h14, h⟩ := Option.bind_eq_some_iff.mp h
      by_cases c15 : z13.1 = 0
      · rw [if_pos c15] at h
        suffices hh : ∃ n, jx_W jx_ShC d (some .int) jc_168 Q n 83 [some (.ref 0), some (.int x1), some (.int x2), some (.int x3), u4, some (.int x5), some (.int x6), u7] [] z13.2 by
          obtain ⟨n, hn⟩ := hh
          exact ⟨n + 8, s_H_hasItem (by omega) h14 (And.intro (fun zz => absurd c15 zz) (fun _ => hn))⟩
        cases h
        exact ⟨2, And.intro hQ (And.intro rfl rfl)⟩
      · rw [if_neg c15] at h
        suffices hh : ∃ n, jx_W jx_ShC d (some .int) jc_168 Q n 86 [some (.ref 0), some (.int x1), some (.int x2), some (.int x3), u4, some (.int x5), some (.int x6), u7] [] z13.2 by
          obtain ⟨n, hn⟩ := hh
          exact ⟨n + 8, s_H_hasItem (by omega) h14 (And.intro (fun _ => hn) (fun zz => absurd zz c15))⟩
        obtain ⟨z16, h17, h⟩ := Option.bind_eq_some_iff.mp h
        obtain ⟨z18, h19, h⟩ := Option.bind_eq_some_iff.mp h
        by_cases c20 : z18.1 = 0
        · rw [if_pos c20] at h
          suffices hh : ∃ n, jx_W jx_ShC d (some .int) jc_168 Q n 126 [some (.ref 0), some (.int x1), some (.int x2), some (.int x3), u4, some (.int x5), some (.int x6), some (.int z16.1)] [] z18.2 by
            obtain ⟨n, hn⟩ := hh
            exact ⟨n + 13, s_H_itemAt (by omega) h17 (s_S_isAct (by omega) h19 (And.intro (fun _ => hn) (fun zz => absurd c20 zz)))⟩
          cases h
          exact ⟨2, And.intro hQ (And.intro rfl rfl)⟩
        · rw [if_neg c20] at h
          suffices hh : ∃ n, jx_W jx_ShC d (some .int) jc_168 Q n 112 [some (.ref 0), some (.int x1), some (.int x2), some (.int x3), u4, some (.int x5), some (.int x6), some (.int z16.1)] [] z18.2 by
            obtain ⟨n, hn⟩ := hh
            exact ⟨n + 13, s_H_itemAt (by omega) h17 (s_S_isAct (by omega) h19 (And.intro (fun zz => absurd zz c20) (fun _ => hn)))⟩
          obtain ⟨z21, h22, h⟩ := Option.bind_eq_some_iff.mp h
          by_cases c23 : z21.1 = 0
          · rw [if_pos c23] at h
            suffices hh : ∃ n, jx_W jx_ShC d (some .int) jc_168 Q n 129 [some (.ref 0), some (.int x1), some (.int x2), some (.int x3), u4, some (.int x5), some (.int x6), some (.int z16.1)] [] z21.2 by
              obtain ⟨n, hn⟩ := hh
              exact ⟨n + 6, s_S_isOver (by omega) (by decide) h22 (And.intro (fun _ => hn) (fun zz => absurd c23 zz))⟩
            obtain ⟨z24, h25, h⟩ := Option.bind_eq_some_iff.mp h
            obtain ⟨n, hn⟩ := s_F_wouldBe_62 hd k (u4 := (jw_clr u4)) (u7 := some (.int z16.1)) h hQ
            exact ⟨n + 11, s_S_goBy (by omega) (by decide) h25 (hn)⟩
          · rw [if_neg c23] at h
            suffices hh : ∃ n, jx_W jx_ShC d (some .int) jc_168 Q n 126 [some (.ref 0), some (.int x1), some (.int x2), some (.int x3), u4, some (.int x5), some (.int x6), some (.int z16.1)] [] z21.2 by
              obtain ⟨n, hn⟩ := hh
              exact ⟨n + 6, s_S_isOver (by omega) (by decide) h22 (And.intro (fun zz => absurd zz c23) (fun _ => hn))⟩
            cases h
            exact ⟨2, And.intro hQ (And.intro rfl rfl)⟩
def f_F_wouldBe (N : Nat) (x1 : Int32) (x2 : Int32) (x3 : Int32) (σ : jw_M) : Option (Int32 × jw_M) := (f_H_isSheet N x1 σ).bind fun z1 => if z1.1 = 0 then some ((-1), z1.2) else (f_F_isWithin N x3 0 20 z1.2).bind fun z4 => if z4.1 = 0 then some ((-1), z4.2) else (f_H_refusalAs N x1 0 z4.2).bind fun z7 => if z7.1 = 0 then (f_P_copyFrom N 75 27 z7.2).bind fun z10 => f_F_wouldBe_62 N N x1 x2 x3 0 0 z10 else some (z7.1, z7.2)
set_option maxRecDepth 20000 in
theorem s_F_wouldBe {N d : Nat} {x1 : Int32} {x2 : Int32} {x3 : Int32} (hd : 7 ≤ d) {σ : jw_M} {z : (Int32 × jw_M)} {Q : jw_Q} (h : f_F_wouldBe N x1 x2 x3 σ = some z) (hQ : Q (some (.int z.1)) (jx_ShC, z.2)) : jw_C jp_kd jp_ys d 168 [.ref 0, .int x1, .int x2, .int x3] (jx_ShC, σ) Q := by
  obtain ⟨d, rfl⟩ : ∃ e, d = e + 1 := ⟨d - 1, by omega⟩
  replace hd : 6 ≤ d := by omega
  refine jx_C rfl rfl ?_
  unfold f_F_wouldBe at h
  obtain ⟨z1, h2, h⟩ := Option.bind_eq_some_iff.mp h
  by_cases c3 : z1.1 = 0
  · rw [if_pos c3] at h
    suffices hh : ∃ n, jx_W jx_ShC d (some .int) jc_168 Q n 21 [some (.ref 0), some (.int x1), some (.int x2), some (.int x3), none, none, none, none] [] z1.2 by
      obtain ⟨n, hn⟩ := hh
      exact ⟨n + 5, s_H_isSheet (by omega) h2 (And.intro (fun _ => hn) (fun zz => absurd c3 zz))⟩
    cases h
    exact ⟨2, And.intro hQ (And.intro rfl rfl)⟩
  · rw [if_neg c3] at h
    suffices hh : ∃ n, jx_W jx_ShC d (some .int) jc_168 Q n 11 [some (.ref 0), some (.int x1), some (.int x2), some (.int x3), none, none, none, none] [] z1.2 by
      obtain ⟨n, hn⟩ := hh
      exact ⟨n + 5, s_H_isSheet (by omega) h2 (And.intro (fun zz => absurd zz c3) (fun _ => hn))⟩
    obtain ⟨z4, h5, h⟩ := Option.bind_eq_some_iff.mp h
    by_cases c6 : z4.1 = 0
    · rw [if_pos c6] at h
      suffices hh : ∃ n, jx_W jx_ShC d (some .int) jc_168 Q n 21 [some (.ref 0), some (.int x1), some (.int x2), some (.int x3), none, none, none, none] [] z4.2 by
        obtain ⟨n, hn⟩ := hh
        exact ⟨n + 5, s_F_isWithin (by omega) h5 (And.intro (fun zz => absurd c6 zz) (fun _ => hn))⟩
      cases h
      exact ⟨2, And.intro hQ (And.intro rfl rfl)⟩
    · rw [if_neg c6] at h
      suffices hh : ∃ n, jx_W jx_ShC d (some .int) jc_168 Q n 23 [some (.ref 0), some (.int x1), some (.int x2), some (.int x3), none, none, none, none] [] z4.2 by
        obtain ⟨n, hn⟩ := hh
        exact ⟨n + 5, s_F_isWithin (by omega) h5 (And.intro (fun _ => hn) (fun zz => absurd zz c6))⟩
      obtain ⟨z7, h8, h⟩ := Option.bind_eq_some_iff.mp h
      by_cases c9 : z7.1 = 0
      · rw [if_pos c9] at h
        suffices hh : ∃ n, jx_W jx_ShC d (some .int) jc_168 Q n 42 [some (.ref 0), some (.int x1), some (.int x2), some (.int x3), some (.int z7.1), none, none, none] [] z7.2 by
          obtain ⟨n, hn⟩ := hh
          exact ⟨n + 8, s_H_refusalAs (by omega) h8 (And.intro (fun _ => hn) (fun zz => absurd c9 zz))⟩
        obtain ⟨z10, h11, h⟩ := Option.bind_eq_some_iff.mp h
        obtain ⟨n, hn⟩ := s_F_wouldBe_62 hd N (u4 := some (.int z7.1)) (u7 := none) h hQ
        exact ⟨n + 10, s_P_copyFrom (by omega) (by decide) h11 (hn)⟩
      · rw [if_neg c9] at h
        suffices hh : ∃ n, jx_W jx_ShC d (some .int) jc_168 Q n 39 [some (.ref 0), some (.int x1), some (.int x2), some (.int x3), some (.int z7.1), none, none, none] [] z7.2 by
          obtain ⟨n, hn⟩ := hh
          exact ⟨n + 8, s_H_refusalAs (by omega) h8 (And.intro (fun zz => absurd zz c9) (fun _ => hn))⟩
        cases h
        exact ⟨2, And.intro hQ (And.intro rfl rfl)⟩
def f_F_shelf_54 (N : Nat) (x1 : Int32) (x2 : Int32) (x3 : Int32) (y0 : Int32) (σ : jw_M) : Option (Int32 × jw_M) := if y0 = 0 then some ((-1), σ) else (f_H_put N x1 x2 x3 σ).bind fun z14 => some (1, z14)
set_option maxRecDepth 20000 in
theorem s_F_shelf_54 {N d : Nat} {Q : jw_Q} (hd : 1 ≤ d) {x1 : Int32} {x2 : Int32} {x3 : Int32} {y0 : Int32} {u4 : Option Value} {σ : jw_M} {z : (Int32 × jw_M)} (h : f_F_shelf_54 N x1 x2 x3 y0 σ = some z) (hQ : Q (some (.int z.1)) (jx_ShC, z.2)) : ∃ n, jx_W jx_ShC d (some .int) jc_169 Q n 54 [some (.ref 0), some (.int x1), some (.int x2), some (.int x3), u4] [.int y0] σ := by
  unfold f_F_shelf_54 at h
  by_cases c13 : y0 = 0
  · rw [if_pos c13] at h
    suffices hh : ∃ n, jx_W jx_ShC d (some .int) jc_169 Q n 61 [some (.ref 0), some (.int x1), some (.int x2), some (.int x3), some (.int y0)] [] σ by
      obtain ⟨n, hn⟩ := hh
      exact ⟨n + 3, And.intro (fun zz => absurd c13 zz) (fun _ => hn)⟩
    cases h
    exact ⟨2, And.intro hQ (And.intro rfl rfl)⟩
  · rw [if_neg c13] at h
    suffices hh : ∃ n, jx_W jx_ShC d (some .int) jc_169 Q n 63 [some (.ref 0), some (.int x1), some (.int x2), some (.int x3), some (.int y0)] [] σ by
      obtain ⟨n, hn⟩ := hh
      exact ⟨n + 3, And.intro (fun _ => hn) (fun zz => absurd zz c13)⟩
    obtain ⟨z14, h15, h⟩ := Option.bind_eq_some_iff.mp h
    cases h
    exact ⟨8, s_H_put (by omega) h15 (And.intro hQ (And.intro rfl rfl))⟩
def f_F_shelf_49 (N : Nat) (x1 : Int32) (x2 : Int32) (x3 : Int32) (σ : jw_M) : Option (Int32 × jw_M) := f_F_shelf_54 N x1 x2 x3 1 σ
set_option maxRecDepth 20000 in
theorem s_F_shelf_49 {N d : Nat} {Q : jw_Q} (hd : 1 ≤ d) {x1 : Int32} {x2 : Int32} {x3 : Int32} {u4 : Option Value} {σ : jw_M} {z : (Int32 × jw_M)} (h : f_F_shelf_49 N x1 x2 x3 σ = some z) (hQ : Q (some (.int z.1)) (jx_ShC, z.2)) : ∃ n, jx_W jx_ShC d (some .int) jc_169 Q n 49 [some (.ref 0), some (.int x1), some (.int x2), some (.int x3), u4] [] σ := by
  unfold f_F_shelf_49 at h
  obtain ⟨n, hn⟩ := s_F_shelf_54 hd (u4 := u4) h hQ
  exact ⟨n + 2, hn⟩
def f_F_shelf_44 (N : Nat) (x1 : Int32) (x2 : Int32) (x3 : Int32) (σ : jw_M) : Option (Int32 × jw_M) := if x2 = 2 then f_F_shelf_49 N x1 x2 x3 σ else f_F_shelf_54 N x1 x2 x3 0 σ
set_option maxRecDepth 20000 in
theorem s_F_shelf_44 {N d : Nat} {Q : jw_Q} (hd : 1 ≤ d) {x1 : Int32} {x2 : Int32} {x3 : Int32} {u4 : Option Value} {σ : jw_M} {z : (Int32 × jw_M)} (h : f_F_shelf_44 N x1 x2 x3 σ = some z) (hQ : Q (some (.int z.1)) (jx_ShC, z.2)) : ∃ n, jx_W jx_ShC d (some .int) jc_169 Q n 44 [some (.ref 0), some (.int x1), some (.int x2), some (.int x3), u4] [] σ := by
  unfold f_F_shelf_44 at h
  by_cases c12 : x2 = 2
  · rw [if_pos c12] at h
    suffices hh : ∃ n, jx_W jx_ShC d (some .int) jc_169 Q n 49 [some (.ref 0), some (.int x1), some (.int x2), some (.int x3), u4] [] σ by
      obtain ⟨n, hn⟩ := hh
      exact ⟨n + 3, And.intro (fun zz => absurd c12 zz) (fun _ => hn)⟩
    obtain ⟨n, hn⟩ := s_F_shelf_49 hd (u4 := u4) h hQ
    exact ⟨n + 0, hn⟩
  · rw [if_neg c12] at h
    suffices hh : ∃ n, jx_W jx_ShC d (some .int) jc_169 Q n 53 [some (.ref 0), some (.int x1), some (.int x2), some (.int x3), u4] [] σ by
      obtain ⟨n, hn⟩ := hh
      exact ⟨n + 3, And.intro (fun _ => hn) (fun zz => absurd zz c12)⟩
    obtain ⟨n, hn⟩ := s_F_shelf_54 hd (u4 := u4) h hQ
    exact ⟨n + 1, hn⟩
def f_F_shelf_28 (N : Nat) (x1 : Int32) (x2 : Int32) (x3 : Int32) (σ : jw_M) : Option (Int32 × jw_M) := if x2 = 1 then (f_H_isSheet N x3 σ).bind fun z9 => if z9.1 = 0 then f_F_shelf_44 N x1 x2 x3 z9.2 else f_F_shelf_49 N x1 x2 x3 z9.2 else f_F_shelf_44 N x1 x2 x3 σ
set_option maxRecDepth 20000 in
theorem s_F_shelf_28 {N d : Nat} {Q : jw_Q} (hd : 1 ≤ d) {x1 : Int32} {x2 : Int32} {x3 : Int32} {u4 : Option Value} {σ : jw_M} {z : (Int32 × jw_M)} (h : f_F_shelf_28 N x1 x2 x3 σ = some z) (hQ : Q (some (.int z.1)) (jx_ShC, z.2)) : ∃ n, jx_W jx_ShC d (some .int) jc_169 Q n 28 [some (.ref 0), some (.int x1), some (.int x2), some (.int x3), u4] [] σ := by
  unfold f_F_shelf_28 at h
  by_cases c8 : x2 = 1
  · rw [if_pos c8] at h
    suffices hh : ∃ n, jx_W jx_ShC d (some .int) jc_169 Q n 33 [some (.ref 0), some (.int x1), some (.int x2), some (.int x3), u4] [] σ by
      obtain ⟨n, hn⟩ := hh
      exact ⟨n + 3, And.intro (fun zz => absurd c8 zz) (fun _ => hn)⟩
    obtain ⟨z9, h10, h⟩ := Option.bind_eq_some_iff.mp h
    by_cases c11 : z9.1 = 0
    · rw [if_pos c11] at h
      suffices hh : ∃ n, jx_W jx_ShC d (some .int) jc_169 Q n 44 [some (.ref 0), some (.int x1), some (.int x2), some (.int x3), u4] [] z9.2 by
        obtain ⟨n, hn⟩ := hh
        exact ⟨n + 5, s_H_isSheet (by omega) h10 (And.intro (fun zz => absurd c11 zz) (fun _ => hn))⟩
      obtain ⟨n, hn⟩ := s_F_shelf_44 hd (u4 := u4) h hQ
      exact ⟨n + 0, hn⟩
    · rw [if_neg c11] at h
      suffices hh : ∃ n, jx_W jx_ShC d (some .int) jc_169 Q n 49 [some (.ref 0), some (.int x1), some (.int x2), some (.int x3), u4] [] z9.2 by
        obtain ⟨n, hn⟩ := hh
        exact ⟨n + 5, s_H_isSheet (by omega) h10 (And.intro (fun _ => hn) (fun zz => absurd zz c11))⟩
      obtain ⟨n, hn⟩ := s_F_shelf_49 hd (u4 := u4) h hQ
      exact ⟨n + 0, hn⟩
  · rw [if_neg c8] at h
    suffices hh : ∃ n, jx_W jx_ShC d (some .int) jc_169 Q n 44 [some (.ref 0), some (.int x1), some (.int x2), some (.int x3), u4] [] σ by
      obtain ⟨n, hn⟩ := hh
      exact ⟨n + 3, And.intro (fun _ => hn) (fun zz => absurd zz c8)⟩
    obtain ⟨n, hn⟩ := s_F_shelf_44 hd (u4 := u4) h hQ
    exact ⟨n + 0, hn⟩
def f_F_shelf (N : Nat) (x1 : Int32) (x2 : Int32) (x3 : Int32) (σ : jw_M) : Option (Int32 × jw_M) := (f_H_isShelf N x1 σ).bind fun z1 => if z1.1 = 0 then some ((-1), z1.2) else if x2 = 0 then (f_S_isShadow N x3 z1.2).bind fun z5 => if z5.1 = 0 then f_F_shelf_28 N x1 x2 x3 z5.2 else f_F_shelf_49 N x1 x2 x3 z5.2 else f_F_shelf_28 N x1 x2 x3 z1.2
set_option maxRecDepth 20000 in
theorem s_F_shelf {N d : Nat} {x1 : Int32} {x2 : Int32} {x3 : Int32} (hd : 2 ≤ d) {σ : jw_M} {z : (Int32 × jw_M)} {Q : jw_Q} (h : f_F_shelf N x1 x2 x3 σ = some z) (hQ : Q (some (.int z.1)) (jx_ShC, z.2)) : jw_C jp_kd jp_ys d 169 [.ref 0, .int x1, .int x2, .int x3] (jx_ShC, σ) Q := by
  obtain ⟨d, rfl⟩ : ∃ e, d = e + 1 := ⟨d - 1, by omega⟩
  replace hd : 1 ≤ d := by omega
  refine jx_C rfl rfl ?_
  unfold f_F_shelf at h
  obtain ⟨z1, h2, h⟩ := Option.bind_eq_some_iff.mp h
  by_cases c3 : z1.1 = 0
  · rw [if_pos c3] at h
    suffices hh : ∃ n, jx_W jx_ShC d (some .int) jc_169 Q n 11 [some (.ref 0), some (.int x1), some (.int x2), some (.int x3), none] [] z1.2 by
      obtain ⟨n, hn⟩ := hh
      exact ⟨n + 5, s_H_isShelf (by omega) h2 (And.intro (fun zz => absurd c3 zz) (fun _ => hn))⟩
    cases h
    exact ⟨2, And.intro hQ (And.intro rfl rfl)⟩
  · rw [if_neg c3] at h
    suffices hh : ∃ n, jx_W jx_ShC d (some .int) jc_169 Q n 13 [some (.ref 0), some (.int x1), some (.int x2), some (.int x3), none] [] z1.2 by
      obtain ⟨n, hn⟩ := hh
      exact ⟨n + 5, s_H_isShelf (by omega) h2 (And.intro (fun _ => hn) (fun zz => absurd zz c3))⟩
    by_cases c4 : x2 = 0
    · rw [if_pos c4] at h
      suffices hh : ∃ n, jx_W jx_ShC d (some .int) jc_169 Q n 17 [some (.ref 0), some (.int x1), some (.int x2), some (.int x3), none] [] z1.2 by
        obtain ⟨n, hn⟩ := hh
        exact ⟨n + 2, And.intro (fun zz => absurd c4 zz) (fun _ => hn)⟩
      obtain ⟨z5, h6, h⟩ := Option.bind_eq_some_iff.mp h
      by_cases c7 : z5.1 = 0
      · rw [if_pos c7] at h
        suffices hh : ∃ n, jx_W jx_ShC d (some .int) jc_169 Q n 28 [some (.ref 0), some (.int x1), some (.int x2), some (.int x3), none] [] z5.2 by
          obtain ⟨n, hn⟩ := hh
          exact ⟨n + 5, s_S_isShadow (by omega) h6 (And.intro (fun zz => absurd c7 zz) (fun _ => hn))⟩
        obtain ⟨n, hn⟩ := s_F_shelf_28 hd (u4 := none) h hQ
        exact ⟨n + 0, hn⟩
      · rw [if_neg c7] at h
        suffices hh : ∃ n, jx_W jx_ShC d (some .int) jc_169 Q n 49 [some (.ref 0), some (.int x1), some (.int x2), some (.int x3), none] [] z5.2 by
          obtain ⟨n, hn⟩ := hh
          exact ⟨n + 5, s_S_isShadow (by omega) h6 (And.intro (fun _ => hn) (fun zz => absurd zz c7))⟩
        obtain ⟨n, hn⟩ := s_F_shelf_49 hd (u4 := none) h hQ
        exact ⟨n + 0, hn⟩
    · rw [if_neg c4] at h
      suffices hh : ∃ n, jx_W jx_ShC d (some .int) jc_169 Q n 28 [some (.ref 0), some (.int x1), some (.int x2), some (.int x3), none] [] z1.2 by
        obtain ⟨n, hn⟩ := hh
        exact ⟨n + 2, And.intro (fun _ => hn) (fun zz => absurd zz c4)⟩
      obtain ⟨n, hn⟩ := s_F_shelf_28 hd (u4 := none) h hQ
      exact ⟨n + 0, hn⟩
def f_F_taken_33 (N : Nat) (x1 : Int32) (x2 : Int32) (σ : jw_M) : Option (Int32 × jw_M) := bif jx_in x1 4 then if (σ.1 129 (x1).toNatClampNeg) = 1 then if (σ.1 131 (x1).toNatClampNeg) = (x2 - 10) then some ((σ.1 130 (x1).toNatClampNeg), σ) else some ((-13), σ) else (f_H_shadowOn N x1 σ).bind fun z13 => (f_S_isShadow N (z13.1) z13.2).bind fun z15 => if z15.1 = 0 then some ((-11), z15.2) else if 5 < x2 then some ((-13), z15.2) else bif jx_in (z13.1) 6 then (f_F_isOrIsUnder N (z15.2.1 2 (z13.1).toNatClampNeg) x2 z15.2).bind fun z20 => if z20.1 = 0 then some ((-13), z20.2) else some (z13.1, z20.2) else none else none
set_option maxRecDepth 20000 in
theorem s_F_taken_33 {N d : Nat} {Q : jw_Q} (hd : 1 ≤ d) {x1 : Int32} {x2 : Int32} {u3 : Option Value} {σ : jw_M} {z : (Int32 × jw_M)} (h : f_F_taken_33 N x1 x2 σ = some z) (hQ : Q (some (.int z.1)) (jx_ShC, z.2)) : ∃ n, jx_W jx_ShC d (some .int) jc_170 Q n 33 [some (.ref 0), some (.int x1), some (.int x2), u3] [] σ := by
  unfold f_F_taken_33 at h
  cases c10 : jx_in x1 4 with
  | false => rw [c10, cond_false] at h; cases h
  | true =>
    rw [c10, cond_true] at h
    by_cases c11 : (σ.1 129 (x1).toNatClampNeg) = 1
    · rw [if_pos c11] at h
      suffices hh : ∃ n, jx_W jx_ShC d (some .int) jc_170 Q n 46 [some (.ref 0), some (.int x1), some (.int x2), u3] [] σ by
        obtain ⟨n, hn⟩ := hh
        exact ⟨n + 7, And.intro (jx_in_ok c10) (And.intro (fun zz => absurd c11 zz) (fun _ => hn))⟩
      by_cases c12 : (σ.1 131 (x1).toNatClampNeg) = (x2 - 10)
      · rw [if_pos c12] at h
        suffices hh : ∃ n, jx_W jx_ShC d (some .int) jc_170 Q n 62 [some (.ref 0), some (.int x1), some (.int x2), u3] [] σ by
          obtain ⟨n, hn⟩ := hh
          exact ⟨n + 9, And.intro (jx_in_ok c10) (And.intro (fun zz => absurd c12 zz) (fun _ => hn))⟩
        cases h
        exact ⟨7, And.intro (jx_in_ok c10) (And.intro hQ (And.intro rfl rfl))⟩
      · rw [if_neg c12] at h
        suffices hh : ∃ n, jx_W jx_ShC d (some .int) jc_170 Q n 74 [some (.ref 0), some (.int x1), some (.int x2), u3] [] σ by
          obtain ⟨n, hn⟩ := hh
          exact ⟨n + 9, And.intro (jx_in_ok c10) (And.intro (fun _ => hn) (fun zz => absurd zz c12))⟩
        cases h
        exact ⟨2, And.intro hQ (And.intro rfl rfl)⟩
    · rw [if_neg c11] at h
      suffices hh : ∃ n, jx_W jx_ShC d (some .int) jc_170 Q n 77 [some (.ref 0), some (.int x1), some (.int x2), u3] [] σ by
        obtain ⟨n, hn⟩ := hh
        exact ⟨n + 7, And.intro (jx_in_ok c10) (And.intro (fun _ => hn) (fun zz => absurd zz c11))⟩
      obtain ⟨z13, h14, h⟩ := Option.bind_eq_some_iff.mp h
      obtain ⟨z15, h16, h⟩ := Option.bind_eq_some_iff.mp h
      by_cases c17 : z15.1 = 0
      · rw [if_pos c17] at h
        suffices hh : ∃ n, jx_W jx_ShC d (some .int) jc_170 Q n 97 [some (.ref 0), some (.int x1), some (.int x2), some (.int z13.1)] [] z15.2 by
          obtain ⟨n, hn⟩ := hh
          exact ⟨n + 10, s_H_shadowOn (by omega) h14 (s_S_isShadow (by omega) h16 (And.intro (fun zz => absurd c17 zz) (fun _ => hn)))⟩
        cases h
        exact ⟨2, And.intro hQ (And.intro rfl rfl)⟩
      · rw [if_neg c17] at h
        suffices hh : ∃ n, jx_W jx_ShC d (some .int) jc_170 Q n 100 [some (.ref 0), some (.int x1), some (.int x2), some (.int z13.1)] [] z15.2 by
          obtain ⟨n, hn⟩ := hh
          exact ⟨n + 10, s_H_shadowOn (by omega) h14 (s_S_isShadow (by omega) h16 (And.intro (fun _ => hn) (fun zz => absurd zz c17)))⟩
        by_cases c18 : 5 < x2
        · rw [if_pos c18] at h
          suffices hh : ∃ n, jx_W jx_ShC d (some .int) jc_170 Q n 125 [some (.ref 0), some (.int x1), some (.int x2), some (.int z13.1)] [] z15.2 by
            obtain ⟨n, hn⟩ := hh
            exact ⟨n + 3, And.intro (fun _ => hn) (fun zz => absurd c18 zz)⟩
          cases h
          exact ⟨2, And.intro hQ (And.intro rfl rfl)⟩
        · rw [if_neg c18] at h
          suffices hh : ∃ n, jx_W jx_ShC d (some .int) jc_170 Q n 105 [some (.ref 0), some (.int x1), some (.int x2), some (.int z13.1)] [] z15.2 by
            obtain ⟨n, hn⟩ := hh
            exact ⟨n + 3, And.intro (fun zz => absurd zz c18) (fun _ => hn)⟩
          cases c19 : jx_in (z13.1) 6 with
          | false => rw [c19, cond_false] at h; cases h
          | true =>
            rw [c19, cond_true] at h
            obtain ⟨z20, h21, h⟩ := Option.bind_eq_some_iff.mp h
            by_cases c22 : z20.1 = 0
            · rw [if_pos c22] at h
              suffices hh : ∃ n, jx_W jx_ShC d (some .int) jc_170 Q n 125 [some (.ref 0), some (.int x1), some (.int x2), some (.int z13.1)] [] z20.2 by
                obtain ⟨n, hn⟩ := hh
                exact ⟨n + 8, And.intro (jx_in_ok c19) (s_F_isOrIsUnder (by omega) h21 (And.intro (fun _ => hn) (fun zz => absurd c22 zz)))⟩
              cases h
              exact ⟨2, And.intro hQ (And.intro rfl rfl)⟩
            · rw [if_neg c22] at h
              suffices hh : ∃ n, jx_W jx_ShC d (some .int) jc_170 Q n 121 [some (.ref 0), some (.int x1), some (.int x2), some (.int z13.1)] [] z20.2 by
                obtain ⟨n, hn⟩ := hh
                exact ⟨n + 8, And.intro (jx_in_ok c19) (s_F_isOrIsUnder (by omega) h21 (And.intro (fun zz => absurd zz c22) (fun _ => hn)))⟩
              cases h
              exact ⟨3, And.intro hQ (And.intro rfl rfl)⟩
def f_F_taken (N : Nat) (x1 : Int32) (x2 : Int32) (σ : jw_M) : Option (Int32 × jw_M) := (f_H_isShelf N x1 σ).bind fun z1 => if z1.1 = 0 then some ((-1), z1.2) else (f_F_isWithin N x2 0 5 z1.2).bind fun z4 => if z4.1 = 0 then (f_F_isWithin N x2 10 14 z4.2).bind fun z7 => if z7.1 = 0 then some ((-1), z7.2) else f_F_taken_33 N x1 x2 z7.2 else f_F_taken_33 N x1 x2 z4.2
set_option maxRecDepth 20000 in
theorem s_F_taken {N d : Nat} {x1 : Int32} {x2 : Int32} (hd : 2 ≤ d) {σ : jw_M} {z : (Int32 × jw_M)} {Q : jw_Q} (h : f_F_taken N x1 x2 σ = some z) (hQ : Q (some (.int z.1)) (jx_ShC, z.2)) : jw_C jp_kd jp_ys d 170 [.ref 0, .int x1, .int x2] (jx_ShC, σ) Q := by
  obtain ⟨d, rfl⟩ : ∃ e, d = e + 1 := ⟨d - 1, by omega⟩
  replace hd : 1 ≤ d := by omega
  refine jx_C rfl rfl ?_
  unfold f_F_taken at h
  obtain ⟨z1, h2, h⟩ := Option.bind_eq_some_iff.mp h
  by_cases c3 : z1.1 = 0
  · rw [if_pos c3] at h
    suffices hh : ∃ n, jx_W jx_ShC d (some .int) jc_170 Q n 31 [some (.ref 0), some (.int x1), some (.int x2), none] [] z1.2 by
      obtain ⟨n, hn⟩ := hh
      exact ⟨n + 5, s_H_isShelf (by omega) h2 (And.intro (fun _ => hn) (fun zz => absurd c3 zz))⟩
    cases h
    exact ⟨2, And.intro hQ (And.intro rfl rfl)⟩
  · rw [if_neg c3] at h
    suffices hh : ∃ n, jx_W jx_ShC d (some .int) jc_170 Q n 11 [some (.ref 0), some (.int x1), some (.int x2), none] [] z1.2 by
      obtain ⟨n, hn⟩ := hh
      exact ⟨n + 5, s_H_isShelf (by omega) h2 (And.intro (fun zz => absurd zz c3) (fun _ => hn))⟩
    obtain ⟨z4, h5, h⟩ := Option.bind_eq_some_iff.mp h
    by_cases c6 : z4.1 = 0
    · rw [if_pos c6] at h
      suffices hh : ∃ n, jx_W jx_ShC d (some .int) jc_170 Q n 20 [some (.ref 0), some (.int x1), some (.int x2), none] [] z4.2 by
        obtain ⟨n, hn⟩ := hh
        exact ⟨n + 5, s_F_isWithin (by omega) h5 (And.intro (fun zz => absurd c6 zz) (fun _ => hn))⟩
      obtain ⟨z7, h8, h⟩ := Option.bind_eq_some_iff.mp h
      by_cases c9 : z7.1 = 0
      · rw [if_pos c9] at h
        suffices hh : ∃ n, jx_W jx_ShC d (some .int) jc_170 Q n 31 [some (.ref 0), some (.int x1), some (.int x2), none] [] z7.2 by
          obtain ⟨n, hn⟩ := hh
          exact ⟨n + 5, s_F_isWithin (by omega) h8 (And.intro (fun zz => absurd c9 zz) (fun _ => hn))⟩
        cases h
        exact ⟨2, And.intro hQ (And.intro rfl rfl)⟩
      · rw [if_neg c9] at h
        suffices hh : ∃ n, jx_W jx_ShC d (some .int) jc_170 Q n 33 [some (.ref 0), some (.int x1), some (.int x2), none] [] z7.2 by
          obtain ⟨n, hn⟩ := hh
          exact ⟨n + 5, s_F_isWithin (by omega) h8 (And.intro (fun _ => hn) (fun zz => absurd zz c9))⟩
        obtain ⟨n, hn⟩ := s_F_taken_33 hd (u3 := none) h hQ
        exact ⟨n + 0, hn⟩
    · rw [if_neg c6] at h
      suffices hh : ∃ n, jx_W jx_ShC d (some .int) jc_170 Q n 33 [some (.ref 0), some (.int x1), some (.int x2), none] [] z4.2 by
        obtain ⟨n, hn⟩ := hh
        exact ⟨n + 5, s_F_isWithin (by omega) h5 (And.intro (fun _ => hn) (fun zz => absurd zz c6))⟩
      obtain ⟨n, hn⟩ := s_F_taken_33 hd (u3 := none) h hQ
      exact ⟨n + 0, hn⟩
def f_F_act (N : Nat) (x1 : Int32) (x2 : Int32) (x3 : Int32) (σ : jw_M) : Option (Int32 × jw_M) := (f_H_clearTrace N  σ).bind fun z1 => (f_H_isShelf N x1 z1).bind fun z3 => if z3.1 = 0 then some (0, z3.2) else (f_F_isWithin N x2 0 3 z3.2).bind fun z6 => if z6.1 = 0 then some (0, z6.2) else (f_H_shadowOn N x1 z6.2).bind fun z9 => (f_S_isShadow N (z9.1) z9.2).bind fun z11 => if z11.1 = 0 then some (0, z11.2) else (f_S_thing N (z9.1) z11.2).bind fun z14 => bif jx_in (z9.1) 6 then (f_H_perform N z14.1 (z9.1) (z14.2.1 3 (z9.1).toNatClampNeg) x2 x3 z14.2).bind fun z17 => some (z17.1, z17.2) else none
set_option maxRecDepth 20000 in
theorem s_F_act {N d : Nat} {x1 : Int32} {x2 : Int32} {x3 : Int32} (hd : 10 ≤ d) {σ : jw_M} {z : (Int32 × jw_M)} {Q : jw_Q} (h : f_F_act N x1 x2 x3 σ = some z) (hQ : Q (some (.int z.1)) (jx_ShC, z.2)) : jw_C jp_kd jp_ys d 171 [.ref 0, .int x1, .int x2, .int x3] (jx_ShC, σ) Q := by
  obtain ⟨d, rfl⟩ : ∃ e, d = e + 1 := ⟨d - 1, by omega⟩
  replace hd : 9 ≤ d := by omega
  refine jx_C rfl rfl ?_
  unfold f_F_act at h
  obtain ⟨z1, h2, h⟩ := Option.bind_eq_some_iff.mp h
  obtain ⟨z3, h4, h⟩ := Option.bind_eq_some_iff.mp h
  by_cases c5 : z3.1 = 0
  · rw [if_pos c5] at h
    suffices hh : ∃ n, jx_W jx_ShC d (some .int) jc_171 Q n 27 [some (.ref 0), some (.int x1), some (.int x2), some (.int x3), none] [] z3.2 by
      obtain ⟨n, hn⟩ := hh
      exact ⟨n + 8, s_H_clearTrace (by omega) h2 (s_H_isShelf (by omega) h4 (And.intro (fun _ => hn) (fun zz => absurd c5 zz)))⟩
    cases h
    exact ⟨2, And.intro hQ (And.intro rfl rfl)⟩
  · rw [if_neg c5] at h
    suffices hh : ∃ n, jx_W jx_ShC d (some .int) jc_171 Q n 18 [some (.ref 0), some (.int x1), some (.int x2), some (.int x3), none] [] z3.2 by
      obtain ⟨n, hn⟩ := hh
      exact ⟨n + 8, s_H_clearTrace (by omega) h2 (s_H_isShelf (by omega) h4 (And.intro (fun zz => absurd zz c5) (fun _ => hn)))⟩
    obtain ⟨z6, h7, h⟩ := Option.bind_eq_some_iff.mp h
    by_cases c8 : z6.1 = 0
    · rw [if_pos c8] at h
      suffices hh : ∃ n, jx_W jx_ShC d (some .int) jc_171 Q n 27 [some (.ref 0), some (.int x1), some (.int x2), some (.int x3), none] [] z6.2 by
        obtain ⟨n, hn⟩ := hh
        exact ⟨n + 5, s_F_isWithin (by omega) h7 (And.intro (fun zz => absurd c8 zz) (fun _ => hn))⟩
      cases h
      exact ⟨2, And.intro hQ (And.intro rfl rfl)⟩
    · rw [if_neg c8] at h
      suffices hh : ∃ n, jx_W jx_ShC d (some .int) jc_171 Q n 29 [some (.ref 0), some (.int x1), some (.int x2), some (.int x3), none] [] z6.2 by
        obtain ⟨n, hn⟩ := hh
        exact ⟨n + 5, s_F_isWithin (by omega) h7 (And.intro (fun _ => hn) (fun zz => absurd zz c8))⟩
      obtain ⟨z9, h10, h⟩ := Option.bind_eq_some_iff.mp h
      obtain ⟨z11, h12, h⟩ := Option.bind_eq_some_iff.mp h
      by_cases c13 : z11.1 = 0
      · rw [if_pos c13] at h
        suffices hh : ∃ n, jx_W jx_ShC d (some .int) jc_171 Q n 84 [some (.ref 0), some (.int x1), some (.int x2), some (.int x3), some (.int z9.1)] [] z11.2 by
          obtain ⟨n, hn⟩ := hh
          exact ⟨n + 10, s_H_shadowOn (by omega) h10 (s_S_isShadow (by omega) h12 (And.intro (fun _ => hn) (fun zz => absurd c13 zz)))⟩
        cases h
        exact ⟨2, And.intro hQ (And.intro rfl rfl)⟩
      · rw [if_neg c13] at h
        suffices hh : ∃ n, jx_W jx_ShC d (some .int) jc_171 Q n 51 [some (.ref 0), some (.int x1), some (.int x2), some (.int x3), some (.int z9.1)] [] z11.2 by
          obtain ⟨n, hn⟩ := hh
          exact ⟨n + 10, s_H_shadowOn (by omega) h10 (s_S_isShadow (by omega) h12 (And.intro (fun zz => absurd zz c13) (fun _ => hn)))⟩
        obtain ⟨z14, h15, h⟩ := Option.bind_eq_some_iff.mp h
        cases c16 : jx_in (z9.1) 6 with
        | false => rw [c16, cond_false] at h; cases h
        | true =>
          rw [c16, cond_true] at h
          obtain ⟨z17, h18, h⟩ := Option.bind_eq_some_iff.mp h
          cases h
          exact ⟨17, s_S_thing (by omega) h15 (And.intro (jx_in_ok c16) (s_H_perform (by omega) (by decide) h18 (And.intro hQ (And.intro rfl rfl))))⟩
