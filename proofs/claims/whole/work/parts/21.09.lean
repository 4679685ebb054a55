def f_R_addRule (N : Nat) (x1 : Int32) (x2 : Int32) (σ : jw_M) : Option jw_M := if 8 ≤ (σ.1 84 0) then some σ else bif jx_in (σ.1 84 0) 8 then bif jx_in ((jw_up σ.1 85 ((σ.1 84 0)).toNatClampNeg x1, σ.2).1 84 0) 8 then bif jx_in ((jw_up (jw_up σ.1 85 ((σ.1 84 0)).toNatClampNeg x1, σ.2).1 86 (((jw_up σ.1 85 ((σ.1 84 0)).toNatClampNeg x1, σ.2).1 84 0)).toNatClampNeg x2, (jw_up σ.1 85 ((σ.1 84 0)).toNatClampNeg x1, σ.2).2).1 84 0) 8 then some (jw_up (jw_up (jw_up (jw_up σ.1 85 ((σ.1 84 0)).toNatClampNeg x1, σ.2).1 86 (((jw_up σ.1 85 ((σ.1 84 0)).toNatClampNeg x1, σ.2).1 84 0)).toNatClampNeg x2, (jw_up σ.1 85 ((σ.1 84 0)).toNatClampNeg x1, σ.2).2).1 87 (((jw_up (jw_up σ.1 85 ((σ.1 84 0)).toNatClampNeg x1, σ.2).1 86 (((jw_up σ.1 85 ((σ.1 84 0)).toNatClampNeg x1, σ.2).1 84 0)).toNatClampNeg x2, (jw_up σ.1 85 ((σ.1 84 0)).toNatClampNeg x1, σ.2).2).1 84 0)).toNatClampNeg ((jw_up (jw_up σ.1 85 ((σ.1 84 0)).toNatClampNeg x1, σ.2).1 86 (((jw_up σ.1 85 ((σ.1 84 0)).toNatClampNeg x1, σ.2).1 84 0)).toNatClampNeg x2, (jw_up σ.1 85 ((σ.1 84 0)).toNatClampNeg x1, σ.2).2).1 84 1), (jw_up (jw_up σ.1 85 ((σ.1 84 0)).toNatClampNeg x1, σ.2).1 86 (((jw_up σ.1 85 ((σ.1 84 0)).toNatClampNeg x1, σ.2).1 84 0)).toNatClampNeg x2, (jw_up σ.1 85 ((σ.1 84 0)).toNatClampNeg x1, σ.2).2).2).1 84 0 (((jw_up (jw_up (jw_up σ.1 85 ((σ.1 84 0)).toNatClampNeg x1, σ.2).1 86 (((jw_up σ.1 85 ((σ.1 84 0)).toNatClampNeg x1, σ.2).1 84 0)).toNatClampNeg x2, (jw_up σ.1 85 ((σ.1 84 0)).toNatClampNeg x1, σ.2).2).1 87 (((jw_up (jw_up σ.1 85 ((σ.1 84 0)).toNatClampNeg x1, σ.2).1 86 (((jw_up σ.1 85 ((σ.1 84 0)).toNatClampNeg x1, σ.2).1 84 0)).toNatClampNeg x2, (jw_up σ.1 85 ((σ.1 84 0)).toNatClampNeg x1, σ.2).2).1 84 0)).toNatClampNeg ((jw_up (jw_up σ.1 85 ((σ.1 84 0)).toNatClampNeg x1, σ.2).1 86 (((jw_up σ.1 85 ((σ.1 84 0)).toNatClampNeg x1, σ.2).1 84 0)).toNatClampNeg x2, (jw_up σ.1 85 ((σ.1 84 0)).toNatClampNeg x1, σ.2).2).1 84 1), (jw_up (jw_up σ.1 85 ((σ.1 84 0)).toNatClampNeg x1, σ.2).1 86 (((jw_up σ.1 85 ((σ.1 84 0)).toNatClampNeg x1, σ.2).1 84 0)).toNatClampNeg x2, (jw_up σ.1 85 ((σ.1 84 0)).toNatClampNeg x1, σ.2).2).2).1 84 0) + 1), (jw_up (jw_up (jw_up σ.1 85 ((σ.1 84 0)).toNatClampNeg x1, σ.2).1 86 (((jw_up σ.1 85 ((σ.1 84 0)).toNatClampNeg x1, σ.2).1 84 0)).toNatClampNeg x2, (jw_up σ.1 85 ((σ.1 84 0)).toNatClampNeg x1, σ.2).2).1 87 (((jw_up (jw_up σ.1 85 ((σ.1 84 0)).toNatClampNeg x1, σ.2).1 86 (((jw_up σ.1 85 ((σ.1 84 0)).toNatClampNeg x1, σ.2).1 84 0)).toNatClampNeg x2, (jw_up σ.1 85 ((σ.1 84 0)).toNatClampNeg x1, σ.2).2).1 84 0)).toNatClampNeg ((jw_up (jw_up σ.1 85 ((σ.1 84 0)).toNatClampNeg x1, σ.2).1 86 (((jw_up σ.1 85 ((σ.1 84 0)).toNatClampNeg x1, σ.2).1 84 0)).toNatClampNeg x2, (jw_up σ.1 85 ((σ.1 84 0)).toNatClampNeg x1, σ.2).2).1 84 1), (jw_up (jw_up σ.1 85 ((σ.1 84 0)).toNatClampNeg x1, σ.2).1 86 (((jw_up σ.1 85 ((σ.1 84 0)).toNatClampNeg x1, σ.2).1 84 0)).toNatClampNeg x2, (jw_up σ.1 85 ((σ.1 84 0)).toNatClampNeg x1, σ.2).2).2).2) else none else none else none
set_option maxRecDepth 20000 in
theorem s_R_addRule {N d : Nat} {x1 : Int32} {x2 : Int32} (hd : 1 ≤ d) {σ : jw_M} {z : jw_M} {Q : jw_Q} (h : f_R_addRule N x1 x2 σ = some z) (hQ : Q none (jx_ShC, z)) : jw_C jp_kd jp_ys d 72 [.ref 84, .int x1, .int x2] (jx_ShC, σ) Q := by
  obtain ⟨d, rfl⟩ : ∃ e, d = e + 1 := ⟨d - 1, by omega⟩
  replace hd : 0 ≤ d := by omega
  refine jx_C rfl rfl ?_
  unfold f_R_addRule at h
  by_cases c1 : 8 ≤ (σ.1 84 0)
  · rw [if_pos c1] at h
    suffices hh : ∃ n, jx_W jx_ShC d none jc_72 Q n 52 [some (.ref 84), some (.int x1), some (.int x2)] [] σ by
      obtain ⟨n, hn⟩ := hh
      exact ⟨n + 4, And.intro (fun _ => hn) (fun zz => absurd c1 zz)⟩
    cases h
    exact ⟨1, And.intro hQ (And.intro rfl rfl)⟩
  · rw [if_neg c1] at h
    suffices hh : ∃ n, jx_W jx_ShC d none jc_72 Q n 9 [some (.ref 84), some (.int x1), some (.int x2)] [] σ by
      obtain ⟨n, hn⟩ := hh
      exact ⟨n + 4, And.intro (fun zz => absurd zz c1) (fun _ => hn)⟩
    cases c2 : jx_in (σ.1 84 0) 8 with
    | false => rw [c2, cond_false] at h; cases h
    | true =>
      rw [c2, cond_true] at h
      cases c3 : jx_in ((jw_up σ.1 85 ((σ.1 84 0)).toNatClampNeg x1, σ.2).1 84 0) 8 with
      | false => rw [c3, cond_false] at h; cases h
      | true =>
        rw [c3, cond_true] at h
        cases c4 : jx_in ((jw_up (jw_up σ.1 85 ((σ.1 84 0)).toNatClampNeg x1, σ.2).1 86 (((jw_up σ.1 85 ((σ.1 84 0)).toNatClampNeg x1, σ.2).1 84 0)).toNatClampNeg x2, (jw_up σ.1 85 ((σ.1 84 0)).toNatClampNeg x1, σ.2).2).1 84 0) 8 with
        | false => rw [c4, cond_false] at h; cases h
        | true =>
          rw [c4, cond_true] at h
          cases h
          exact ⟨26, And.intro (jx_in_ok c2) (And.intro (jx_in_ok c3) (And.intro (jx_in_ok c4) (And.intro hQ (And.intro rfl rfl))))⟩
def f_D_readRule_53 (N : Nat) (x1 : Int32) (σ : jw_M) : Option (Int32 × jw_M) := bif jx_in (σ.1 80 4) 201 then (f_F_isWithin N ((σ.1 82 ((σ.1 80 4)).toNatClampNeg) - 6) 0 2 σ).bind fun z15 => if z15.1 = 0 then some (0, z15.2) else (f_D_goOn N  z15.2).bind fun z18 => (f_R_addRule N x1 ((σ.1 82 ((σ.1 80 4)).toNatClampNeg) - 6) z18).bind fun z20 => (f_D_readSign N 59 z20).bind fun z22 => if z22.1 = 0 ∨ z22.1 = 1 then some (z22.1, z22.2) else none else none
set_option maxRecDepth 20000 in
theorem s_D_readRule_53 {N d : Nat} {Q : jw_Q} (hd : 197 ≤ d) {x1 : Int32} {u2 : Option Value} {σ : jw_M} {z : (Int32 × jw_M)} (h : f_D_readRule_53 N x1 σ = some z) (hQ : Q (some (.int z.1)) (jx_ShC, z.2)) : ∃ n, jx_W jx_ShC d (some .boolean) jc_58 Q n 53 [some (.ref 80), some (.int x1), u2] [] σ := by
  unfold f_D_readRule_53 at h
  cases c14 : jx_in (σ.1 80 4) 201 with
  | false => rw [c14, cond_false] at h; cases h
  | true =>
    rw [c14, cond_true] at h
    obtain ⟨z15, h16, h⟩ := Option.bind_eq_some_iff.mp h
    by_cases c17 : z15.1 = 0
    · rw [if_pos c17] at h
      suffices hh : ∃ n, jx_W jx_ShC d (some .boolean) jc_58 Q n 75 [some (.ref 80), some (.int x1), some (.int ((σ.1 82 ((σ.1 80 4)).toNatClampNeg) - 6))] [] z15.2 by
        obtain ⟨n, hn⟩ := hh
        exact ⟨n + 13, And.intro (jx_in_ok c14) (s_F_isWithin (by omega) h16 (And.intro (fun zz => absurd c17 zz) (fun _ => hn)))⟩
      cases h
      exact ⟨2, And.intro (Or.inl rfl) (And.intro hQ (And.intro rfl rfl))⟩
    · rw [if_neg c17] at h
      suffices hh : ∃ n, jx_W jx_ShC d (some .boolean) jc_58 Q n 77 [some (.ref 80), some (.int x1), some (.int ((σ.1 82 ((σ.1 80 4)).toNatClampNeg) - 6))] [] z15.2 by
        obtain ⟨n, hn⟩ := hh
        exact ⟨n + 13, And.intro (jx_in_ok c14) (s_F_isWithin (by omega) h16 (And.intro (fun _ => hn) (fun zz => absurd zz c17)))⟩
      obtain ⟨z18, h19, h⟩ := Option.bind_eq_some_iff.mp h
      obtain ⟨z20, h21, h⟩ := Option.bind_eq_some_iff.mp h
      obtain ⟨z22, h23, h⟩ := Option.bind_eq_some_iff.mp h
      by_cases c24 : z22.1 = 0 ∨ z22.1 = 1
      · rw [if_pos c24] at h
        cases h
        exact ⟨11, s_D_goOn (by omega) h19 (s_R_addRule (by omega) h21 (s_D_readSign (by omega) h23 (And.intro c24 (And.intro hQ (And.intro rfl rfl)))))⟩
      · rw [if_neg c24] at h
        cases h
def f_D_readRule (N : Nat) (σ : jw_M) : Option (Int32 × jw_M) := bif jx_in (σ.1 80 4) 201 then (f_F_isWithin N (σ.1 82 ((σ.1 80 4)).toNatClampNeg) 0 5 σ).bind fun z2 => if z2.1 = 0 then some (0, z2.2) else (f_D_goOn N  z2.2).bind fun z5 => bif jx_in (z5.1 80 4) 201 then if (z5.1 82 ((z5.1 80 4)).toNatClampNeg) = 9 then (f_D_goOn N  z5).bind fun z9 => (f_D_readCondition N 64 0 z9).bind fun z11 => if z11.1 = 0 then some (0, z11.2) else f_D_readRule_53 N (σ.1 82 ((σ.1 80 4)).toNatClampNeg) z11.2 else f_D_readRule_53 N (σ.1 82 ((σ.1 80 4)).toNatClampNeg) z5 else none else none
set_option maxRecDepth 20000 in
theorem s_D_readRule {N d : Nat} (hd : 198 ≤ d) {σ : jw_M} {z : (Int32 × jw_M)} {Q : jw_Q} (h : f_D_readRule N  σ = some z) (hQ : Q (some (.int z.1)) (jx_ShC, z.2)) : jw_C jp_kd jp_ys d 58 [.ref 80] (jx_ShC, σ) Q := by
  obtain ⟨d, rfl⟩ : ∃ e, d = e + 1 := ⟨d - 1, by omega⟩
  replace hd : 197 ≤ d := by omega
  refine jx_C rfl rfl ?_
  unfold f_D_readRule at h
  cases c1 : jx_in (σ.1 80 4) 201 with
  | false => rw [c1, cond_false] at h; cases h
  | true =>
    rw [c1, cond_true] at h
    obtain ⟨z2, h3, h⟩ := Option.bind_eq_some_iff.mp h
    by_cases c4 : z2.1 = 0
    · rw [if_pos c4] at h
      suffices hh : ∃ n, jx_W jx_ShC d (some .boolean) jc_58 Q n 19 [some (.ref 80), some (.int (σ.1 82 ((σ.1 80 4)).toNatClampNeg)), none] [] z2.2 by
        obtain ⟨n, hn⟩ := hh
        exact ⟨n + 11, And.intro (jx_in_ok c1) (s_F_isWithin (by omega) h3 (And.intro (fun zz => absurd c4 zz) (fun _ => hn)))⟩
      cases h
      exact ⟨2, And.intro (Or.inl rfl) (And.intro hQ (And.intro rfl rfl))⟩
    · rw [if_neg c4] at h
      suffices hh : ∃ n, jx_W jx_ShC d (some .boolean) jc_58 Q n 21 [some (.ref 80), some (.int (σ.1 82 ((σ.1 80 4)).toNatClampNeg)), none] [] z2.2 by
        obtain ⟨n, hn⟩ := hh
        exact ⟨n + 11, And.intro (jx_in_ok c1) (s_F_isWithin (by omega) h3 (And.intro (fun _ => hn) (fun zz => absurd zz c4)))⟩
      obtain ⟨z5, h6, h⟩ := Option.bind_eq_some_iff.mp h
      cases c7 : jx_in (z5.1 80 4) 201 with
      | false => rw [c7, cond_false] at h; cases h
      | true =>
        rw [c7, cond_true] at h
        by_cases c8 : (z5.1 82 ((z5.1 80 4)).toNatClampNeg) = 9
        · rw [if_pos c8] at h
          suffices hh : ∃ n, jx_W jx_ShC d (some .boolean) jc_58 Q n 39 [some (.ref 80), some (.int (σ.1 82 ((σ.1 80 4)).toNatClampNeg)), none] [] z5 by
            obtain ⟨n, hn⟩ := hh
            exact ⟨n + 9, s_D_goOn (by omega) h6 (And.intro (jx_in_ok c7) (And.intro (fun zz => absurd c8 zz) (fun _ => hn)))⟩
          obtain ⟨z9, h10, h⟩ := Option.bind_eq_some_iff.mp h
          obtain ⟨z11, h12, h⟩ := Option.bind_eq_some_iff.mp h
          by_cases c13 : z11.1 = 0
          · rw [if_pos c13] at h
            suffices hh : ∃ n, jx_W jx_ShC d (some .boolean) jc_58 Q n 51 [some (.ref 80), some (.int (σ.1 82 ((σ.1 80 4)).toNatClampNeg)), none] [] z11.2 by
              obtain ⟨n, hn⟩ := hh
              exact ⟨n + 6, s_D_goOn (by omega) h10 (s_D_readCondition 64 (by omega) h12 (And.intro (fun zz => absurd c13 zz) (fun _ => hn)))⟩
            cases h
            exact ⟨2, And.intro (Or.inl rfl) (And.intro hQ (And.intro rfl rfl))⟩
          · rw [if_neg c13] at h
            suffices hh : ∃ n, jx_W jx_ShC d (some .boolean) jc_58 Q n 53 [some (.ref 80), some (.int (σ.1 82 ((σ.1 80 4)).toNatClampNeg)), none] [] z11.2 by
              obtain ⟨n, hn⟩ := hh
              exact ⟨n + 6, s_D_goOn (by omega) h10 (s_D_readCondition 64 (by omega) h12 (And.intro (fun _ => hn) (fun zz => absurd zz c13)))⟩
            obtain ⟨n, hn⟩ := s_D_readRule_53 hd (u2 := none) h hQ
            exact ⟨n + 0, hn⟩
        · rw [if_neg c8] at h
          suffices hh : ∃ n, jx_W jx_ShC d (some .boolean) jc_58 Q n 53 [some (.ref 80), some (.int (σ.1 82 ((σ.1 80 4)).toNatClampNeg)), none] [] z5 by
            obtain ⟨n, hn⟩ := hh
            exact ⟨n + 9, s_D_goOn (by omega) h6 (And.intro (jx_in_ok c7) (And.intro (fun _ => hn) (fun zz => absurd zz c8)))⟩
          obtain ⟨n, hn⟩ := s_D_readRule_53 hd (u2 := none) h hQ
          exact ⟨n + 0, hn⟩
def f_R_clear (N : Nat) (σ : jw_M) : Option jw_M := some (jw_up (jw_up (jw_up σ.1 84 0 (0 : Int32), σ.2).1 84 1 (0 : Int32), (jw_up σ.1 84 0 (0 : Int32), σ.2).2).1 84 9 (5 : Int32), (jw_up (jw_up σ.1 84 0 (0 : Int32), σ.2).1 84 1 (0 : Int32), (jw_up σ.1 84 0 (0 : Int32), σ.2).2).2)
set_option maxRecDepth 20000 in
theorem s_R_clear {N d : Nat} (hd : 1 ≤ d) {σ : jw_M} {z : jw_M} {Q : jw_Q} (h : f_R_clear N  σ = some z) (hQ : Q none (jx_ShC, z)) : jw_C jp_kd jp_ys d 69 [.ref 84] (jx_ShC, σ) Q := by
  obtain ⟨d, rfl⟩ : ∃ e, d = e + 1 := ⟨d - 1, by omega⟩
  replace hd : 0 ≤ d := by omega
  refine jx_C rfl rfl ?_
  unfold f_R_clear at h
  cases h
  exact ⟨10, And.intro hQ (And.intro rfl rfl)⟩
def f_D_readAll_69 (N : Nat) (σ : jw_M) : Option (Int32 × jw_M) := bif jx_in (σ.1 80 4) 201 then if (σ.1 82 ((σ.1 80 4)).toNatClampNeg) = (-2) then some ((σ.1 84 0), σ) else some (((-100) - (σ.1 83 ((σ.1 80 4)).toNatClampNeg)), σ) else none
set_option maxRecDepth 20000 in
theorem s_D_readAll_69 {N d : Nat} {Q : jw_Q} (hd : 198 ≤ d) {u1 : Option Value} {σ : jw_M} {z : (Int32 × jw_M)} (h : f_D_readAll_69 N  σ = some z) (hQ : Q (some (.int z.1)) (jx_ShC, z.2)) : ∃ n, jx_W jx_ShC d (some .int) jc_50 Q n 69 [some (.ref 80), u1] [] σ := by
  unfold f_D_readAll_69 at h
  cases c6 : jx_in (σ.1 80 4) 201 with
  | false => rw [c6, cond_false] at h; cases h
  | true =>
    rw [c6, cond_true] at h
    by_cases c7 : (σ.1 82 ((σ.1 80 4)).toNatClampNeg) = (-2)
    · rw [if_pos c7] at h
      suffices hh : ∃ n, jx_W jx_ShC d (some .int) jc_50 Q n 83 [some (.ref 80), u1] [] σ by
        obtain ⟨n, hn⟩ := hh
        exact ⟨n + 7, And.intro (jx_in_ok c6) (And.intro (fun zz => absurd c7 zz) (fun _ => hn))⟩
      cases h
      exact ⟨5, And.intro hQ (And.intro rfl rfl)⟩
    · rw [if_neg c7] at h
      suffices hh : ∃ n, jx_W jx_ShC d (some .int) jc_50 Q n 93 [some (.ref 80), u1] [] σ by
        obtain ⟨n, hn⟩ := hh
        exact ⟨n + 7, And.intro (jx_in_ok c6) (And.intro (fun _ => hn) (fun zz => absurd zz c7))⟩
      cases h
      exact ⟨8, And.intro (jx_in_ok c6) (And.intro hQ (And.intro rfl rfl))⟩
def f_D_readAll_23 (N : Nat) : Nat → Int32 → jw_M → Option (Int32 × jw_M)
  | 0, _, _ => none
  | k + 1, x1, σ => if 8 ≤ x1 then f_D_readAll_69 N  σ else bif jx_in (σ.1 80 4) 201 then if (σ.1 82 ((σ.1 80 4)).toNatClampNeg) = (-2) then f_D_readAll_69 N  σ else (f_D_readRule N  σ).bind fun z10 => if z10.1 = 0 then bif jx_in (z10.2.1 80 4) 201 then some (((-100) - (z10.2.1 83 ((z10.2.1 80 4)).toNatClampNeg)), z10.2) else none else f_D_readAll_23 N k (x1 + 1) z10.2 else none
set_option maxRecDepth 20000 in
theorem s_D_readAll_23 {N d : Nat} {Q : jw_Q} (hd : 198 ≤ d) : ∀ (k : Nat) {x1 : Int32} {σ : jw_M} {z : (Int32 × jw_M)}, f_D_readAll_23 N k x1 σ = some z → Q (some (.int z.1)) (jx_ShC, z.2) → ∃ n, jx_W jx_ShC d (some .int) jc_50 Q n 23 [some (.ref 80), some (.int x1)] [] σ
  | 0, _, _, _, h, _ => by cases h
  | k + 1, x1, σ, z, h, hQ => by
    rw [f_D_readAll_23] at h
    by_cases c5 : 8 ≤ x1
    · rw [if_pos c5] at h
      suffices hh : ∃ n, jx_W jx_ShC d (some .int) jc_50 Q n 69 [some (.ref 80), some (.int x1)] [] σ by
        obtain ⟨n, hn⟩ := hh
        exact ⟨n + 3, And.intro (fun _ => hn) (fun zz => absurd c5 zz)⟩
      obtain ⟨n, hn⟩ := s_D_readAll_69 hd (u1 := some (.int x1)) h hQ
      exact ⟨n + 0, hn⟩
    · rw [if_neg c5] at h
      suffices hh : ∃ n, jx_W jx_ShC d (some .int) jc_50 Q n 29 [some (.ref 80), some (.int x1)] [] σ by
        obtain ⟨n, hn⟩ := hh
        exact ⟨n + 3, And.intro (fun zz => absurd zz c5) (fun _ => hn)⟩
      cases c8 : jx_in (σ.1 80 4) 201 with
      | false => rw [c8, cond_false] at h; cases h
      | true =>
        rw [c8, cond_true] at h
        by_cases c9 : (σ.1 82 ((σ.1 80 4)).toNatClampNeg) = (-2)
        · rw [if_pos c9] at h
          suffices hh : ∃ n, jx_W jx_ShC d (some .int) jc_50 Q n 69 [some (.ref 80), some (.int x1)] [] σ by
            obtain ⟨n, hn⟩ := hh
            exact ⟨n + 7, And.intro (jx_in_ok c8) (And.intro (fun _ => hn) (fun zz => absurd c9 zz))⟩
          obtain ⟨n, hn⟩ := s_D_readAll_69 hd (u1 := some (.int x1)) h hQ
          exact ⟨n + 0, hn⟩
        · rw [if_neg c9] at h
          suffices hh : ∃ n, jx_W jx_ShC d (some .int) jc_50 Q n 43 [some (.ref 80), some (.int x1)] [] σ by
            obtain ⟨n, hn⟩ := hh
            exact ⟨n + 7, And.intro (jx_in_ok c8) (And.intro (fun zz => absurd zz c9) (fun _ => hn))⟩
          obtain ⟨z10, h11, h⟩ := Option.bind_eq_some_iff.mp h
          by_cases c12 : z10.1 = 0
          · rw [if_pos c12] at h
            suffices hh : ∃ n, jx_W jx_ShC d (some .int) jc_50 Q n 50 [some (.ref 80), some (.int x1)] [] z10.2 by
              obtain ⟨n, hn⟩ := hh
              exact ⟨n + 3, s_D_readRule (by omega) h11 (And.intro (fun zz => absurd c12 zz) (fun _ => hn))⟩
            cases c13 : jx_in (z10.2.1 80 4) 201 with
            | false => rw [c13, cond_false] at h; cases h
            | true =>
              rw [c13, cond_true] at h
              cases h
              exact ⟨8, And.intro (jx_in_ok c13) (And.intro hQ (And.intro rfl rfl))⟩
          · rw [if_neg c12] at h
            suffices hh : ∃ n, jx_W jx_ShC d (some .int) jc_50 Q n 63 [some (.ref 80), some (.int x1)] [] z10.2 by
              obtain ⟨n, hn⟩ := hh
              exact ⟨n + 3, s_D_readRule (by omega) h11 (And.intro (fun _ => hn) (fun zz => absurd zz c12))⟩
            obtain ⟨n, hn⟩ := s_D_readAll_23 hd k h hQ
            exact ⟨n + 2, hn⟩
def f_D_readAll (N : Nat) (σ : jw_M) : Option (Int32 × jw_M) := (f_D_cutIntoTokens N  σ).bind fun z1 => (f_R_clear N  (jw_up (jw_up z1.1 80 0 (0 : Int32), z1.2).1 80 4 (0 : Int32), (jw_up z1.1 80 0 (0 : Int32), z1.2).2)).bind fun z3 => f_D_readAll_23 N N 0 z3
set_option maxRecDepth 20000 in
theorem s_D_readAll {N d : Nat} (hd : 199 ≤ d) {σ : jw_M} {z : (Int32 × jw_M)} {Q : jw_Q} (h : f_D_readAll N  σ = some z) (hQ : Q (some (.int z.1)) (jx_ShC, z.2)) : jw_C jp_kd jp_ys d 50 [.ref 80] (jx_ShC, σ) Q := by
  obtain ⟨d, rfl⟩ : ∃ e, d = e + 1 := ⟨d - 1, by omega⟩
  replace hd : 198 ≤ d := by omega
  refine jx_C rfl rfl ?_
  unfold f_D_readAll at h
  obtain ⟨z1, h2, h⟩ := Option.bind_eq_some_iff.mp h
  obtain ⟨z3, h4, h⟩ := Option.bind_eq_some_iff.mp h
  obtain ⟨n, hn⟩ := s_D_readAll_23 hd N h hQ
  exact ⟨n + 13, s_D_cutIntoTokens (by omega) h2 (s_R_clear (by omega) h4 (hn))⟩
def f_R_copyFrom (N : Nat) (p0 : Nat) (p1 : Nat) (σ : jw_M) : Option jw_M := (f_F_copyRow N (p1 + 1) (p0 + 1) 8 8 (jw_up (jw_up σ.1 p0 0 (σ.1 p1 0), σ.2).1 p0 1 ((jw_up σ.1 p0 0 (σ.1 p1 0), σ.2).1 p1 1), (jw_up σ.1 p0 0 (σ.1 p1 0), σ.2).2)).bind fun z1 => (f_F_copyRow N (p1 + 2) (p0 + 2) 8 8 z1).bind fun z3 => (f_F_copyRow N (p1 + 3) (p0 + 3) 8 8 z3).bind fun z5 => (f_F_copyRow N (p1 + 4) (p0 + 4) 100 100 z5).bind fun z7 => (f_F_copyRow N (p1 + 5) (p0 + 5) 100 100 z7).bind fun z9 => (f_F_copyRow N (p1 + 6) (p0 + 6) 100 100 z9).bind fun z11 => (f_F_copyRow N (p1 + 7) (p0 + 7) 105 105 (jw_up z11.1 p0 9 (z11.1 p1 9), z11.2)).bind fun z13 => some z13
set_option maxRecDepth 20000 in
theorem s_R_copyFrom {N d : Nat} {p0 : Nat} {p1 : Nat} (hd : 3 ≤ d) (hp : (p0 = 19 ∧ p1 = 56) ∨ (p0 = 19 ∧ p1 = 84) ∨ (p0 = 56 ∧ p1 = 19)) {σ : jw_M} {z : jw_M} {Q : jw_Q} (h : f_R_copyFrom N p0 p1 σ = some z) (hQ : Q none (jx_ShC, z)) : jw_C jp_kd jp_ys d 68 [.ref p0, .ref p1] (jx_ShC, σ) Q := by
  obtain ⟨d, rfl⟩ : ∃ e, d = e + 1 := ⟨d - 1, by omega⟩
  replace hd : 2 ≤ d := by omega
  refine jx_C rfl rfl ?_
  rcases hp with ⟨rfl, rfl⟩ | ⟨rfl, rfl⟩ | ⟨rfl, rfl⟩
  · unfold f_R_copyFrom at h
    obtain ⟨z1, h2, h⟩ := Option.bind_eq_some_iff.mp h
    obtain ⟨z3, h4, h⟩ := Option.bind_eq_some_iff.mp h
    obtain ⟨z5, h6, h⟩ := Option.bind_eq_some_iff.mp h
    obtain ⟨z7, h8, h⟩ := Option.bind_eq_some_iff.mp h
    obtain ⟨z9, h10, h⟩ := Option.bind_eq_some_iff.mp h
    obtain ⟨z11, h12, h⟩ := Option.bind_eq_some_iff.mp h
    obtain ⟨z13, h14, h⟩ := Option.bind_eq_some_iff.mp h
    cases h
    exact ⟨48, s_F_copyRow (by omega) rfl rfl h2 (s_F_copyRow (by omega) rfl rfl h4 (s_F_copyRow (by omega) rfl rfl h6 (s_F_copyRow (by omega) rfl rfl h8 (s_F_copyRow (by omega) rfl rfl h10 (s_F_copyRow (by omega) rfl rfl h12 (s_F_copyRow (by omega) rfl rfl h14 (And.intro hQ (And.intro rfl rfl))))))))⟩
  · unfold f_R_copyFrom at h
    obtain ⟨z1, h2, h⟩ := Option.bind_eq_some_iff.mp h
    obtain ⟨z3, h4, h⟩ := Option.bind_eq_some_iff.mp h
    obtain ⟨z5, h6, h⟩ := Option.bind_eq_some_iff.mp h
    obtain ⟨z7, h8, h⟩ := Option.bind_eq_some_iff.mp h
    obtain ⟨z9, h10, h⟩ := Option.bind_eq_some_iff.mp h
    obtain ⟨z11, h12, h⟩ := Option.bind_eq_some_iff.mp h
    obtain ⟨z13, h14, h⟩ := Option.bind_eq_some_iff.mp h
    cases h
    exact ⟨48, s_F_copyRow (by omega) rfl rfl h2 (s_F_copyRow (by omega) rfl rfl h4 (s_F_copyRow (by omega) rfl rfl h6 (s_F_copyRow (by omega) rfl rfl h8 (s_F_copyRow (by omega) rfl rfl h10 (s_F_copyRow (by omega) rfl rfl h12 (s_F_copyRow (by omega) rfl rfl h14 (And.intro hQ (And.intro rfl rfl))))))))⟩
  · unfold f_R_copyFrom at h
    obtain ⟨z1, h2, h⟩ := Option.bind_eq_some_iff.mp h
    obtain ⟨z3, h4, h⟩ := Option.bind_eq_some_iff.mp h
    obtain ⟨z5, h6, h⟩ := Option.bind_eq_some_iff.mp h
    obtain ⟨z7, h8, h⟩ := Option.bind_eq_some_iff.mp h
    obtain ⟨z9, h10, h⟩ := Option.bind_eq_some_iff.mp h
    obtain ⟨z11, h12, h⟩ := Option.bind_eq_some_iff.mp h
    obtain ⟨z13, h14, h⟩ := Option.bind_eq_some_iff.mp h
    cases h
    exact ⟨48, s_F_copyRow (by omega) rfl rfl h2 (s_F_copyRow (by omega) rfl rfl h4 (s_F_copyRow (by omega) rfl rfl h6 (s_F_copyRow (by omega) rfl rfl h8 (s_F_copyRow (by omega) rfl rfl h10 (s_F_copyRow (by omega) rfl rfl h12 (s_F_copyRow (by omega) rfl rfl h14 (And.intro hQ (And.intro rfl rfl))))))))⟩
def f_S_copyFrom_38_1_153 (N : Nat) (K136 : Int32 → jw_M → Option jw_M) (x2 : Int32) (r_0 : Nat) (y2 : Int32) (σ : jw_M) : Option jw_M := bif jx_in y2 6 then (f_F_copyRow N r_0 (50 + (y2).toNatClampNeg) 4 4 σ).bind fun z28 => K136 (x2 + 1) z28 else none
set_option maxRecDepth 20000 in
theorem s_S_copyFrom_38_1_153 {N d : Nat} {Q : jw_Q} {K136 : Int32 → jw_M → Option jw_M} (hd : 3 ≤ d) (hK136 : ∀ {x2 : Int32} {σ : jw_M} {z : jw_M}, K136 x2 σ = some z → Q none (jx_ShC, z) → ∃ n, jx_W jx_ShC d none jc_77 Q n 136 [some (.ref 38), some (.ref 1), some (.int x2)] [] σ) {x2 : Int32} {r_0 : Nat} {y2 : Int32} {σ : jw_M} {z : jw_M} (hr_0 : r_0 = 13 ∨ r_0 = 14 ∨ r_0 = 15 ∨ r_0 = 16 ∨ r_0 = 17 ∨ r_0 = 18) (h : f_S_copyFrom_38_1_153 N K136 x2 r_0 y2 σ = some z) (hQ : Q none (jx_ShC, z)) : ∃ n, jx_W jx_ShC d none jc_77 Q n 153 [some (.ref 38), some (.ref 1), some (.int x2)] [.int y2, .ref 49, .ref r_0] σ := by
  rcases hr_0 with rfl | rfl | rfl | rfl | rfl | rfl
  · unfold f_S_copyFrom_38_1_153 at h
    cases c27 : jx_in y2 6 with
    | false => rw [c27, cond_false] at h; cases h
    | true =>
      rw [c27, cond_true] at h
      rcases jx_ix6 (jx_in_ok c27) with rfl | rfl | rfl | rfl | rfl | rfl
      · try rw [show (50 + (0 : Int32).toNatClampNeg) = 50 from by decide] at h
        obtain ⟨z28, h29, h⟩ := Option.bind_eq_some_iff.mp h
        obtain ⟨n, hn⟩ := hK136 h hQ
        exact ⟨n + 4, And.intro (jx_in_ok c27) (s_F_copyRow (by omega) rfl rfl h29 (hn))⟩
      · try rw [show (50 + (1 : Int32).toNatClampNeg) = 51 from by decide] at h
        obtain ⟨z28, h29, h⟩ := Option.bind_eq_some_iff.mp h
        obtain ⟨n, hn⟩ := hK136 h hQ
        exact ⟨n + 4, And.intro (jx_in_ok c27) (s_F_copyRow (by omega) rfl rfl h29 (hn))⟩
      · try rw [show (50 + (2 : Int32).toNatClampNeg) = 52 from by decide] at h
        obtain ⟨z28, h29, h⟩ := Option.bind_eq_some_iff.mp h
        obtain ⟨n, hn⟩ := hK136 h hQ
        exact ⟨n + 4, And.intro (jx_in_ok c27) (s_F_copyRow (by omega) rfl rfl h29 (hn))⟩
      · try rw [show (50 + (3 : Int32).toNatClampNeg) = 53 from by decide] at h
        obtain ⟨z28, h29, h⟩ := Option.bind_eq_some_iff.mp h
        obtain ⟨n, hn⟩ := hK136 h hQ
        exact ⟨n + 4, And.intro (jx_in_ok c27) (s_F_copyRow (by omega) rfl rfl h29 (hn))⟩
      · try rw [show (50 + (4 : Int32).toNatClampNeg) = 54 from by decide] at h
        obtain ⟨z28, h29, h⟩ := Option.bind_eq_some_iff.mp h
        obtain ⟨n, hn⟩ := hK136 h hQ
        exact ⟨n + 4, And.intro (jx_in_ok c27) (s_F_copyRow (by omega) rfl rfl h29 (hn))⟩
      · try rw [show (50 + (5 : Int32).toNatClampNeg) = 55 from by decide] at h
        obtain ⟨z28, h29, h⟩ := Option.bind_eq_some_iff.mp h
        obtain ⟨n, hn⟩ := hK136 h hQ
        exact ⟨n + 4, And.intro (jx_in_ok c27) (s_F_copyRow (by omega) rfl rfl h29 (hn))⟩
  · unfold f_S_copyFrom_38_1_153 at h
    cases c27 : jx_in y2 6 with
    | false => rw [c27, cond_false] at h; cases h
    | true =>
      rw [c27, cond_true] at h
      rcases jx_ix6 (jx_in_ok c27) with rfl | rfl | rfl | rfl | rfl | rfl
      · try rw [show (50 + (0 : Int32).toNatClampNeg) = 50 from by decide] at h
        obtain ⟨z28, h29, h⟩ := Option.bind_eq_some_iff.mp h
        obtain ⟨n, hn⟩ := hK136 h hQ
        exact ⟨n + 4, And.intro (jx_in_ok c27) (s_F_copyRow (by omega) rfl rfl h29 (hn))⟩
      · try rw [show (50 + (1 : Int32).toNatClampNeg) = 51 from by decide] at h
        obtain ⟨z28, h29, h⟩ := Option.bind_eq_some_iff.mp h
        obtain ⟨n, hn⟩ := hK136 h hQ
        exact ⟨n + 4, And.intro (jx_in_ok c27) (s_F_copyRow (by omega) rfl rfl h29 (hn))⟩
      · try rw [show (50 + (2 : Int32).toNatClampNeg) = 52 from by decide] at h
        obtain ⟨z28, h29, h⟩ := Option.bind_eq_some_iff.mp h
        obtain ⟨n, hn⟩ := hK136 h hQ
        exact ⟨n + 4, And.intro (jx_in_ok c27) (s_F_copyRow (by omega) rfl rfl h29 (hn))⟩
      · try rw [show (50 + (3 : Int32).toNatClampNeg) = 53 from by decide] at h
        obtain ⟨z28, h29, h⟩ := Option.bind_eq_some_iff.mp h
        obtain ⟨n, hn⟩ := hK136 h hQ
        exact ⟨n + 4, And.intro (jx_in_ok c27) (s_F_copyRow (by omega) rfl rfl h29 (hn))⟩
      · try rw [show (50 + (4 : Int32).toNatClampNeg) = 54 from by decide] at h
        obtain ⟨z28, h29, h⟩ := Option.bind_eq_some_iff.mp h
        obtain ⟨n, hn⟩ := hK136 h hQ
        exact ⟨n + 4, And.intro (jx_in_ok c27) (s_F_copyRow (by omega) rfl rfl h29 (hn))⟩
      · try rw [show (50 + (5 : Int32).toNatClampNeg) = 55 from by decide] at h
        obtain ⟨z28, h29, h⟩ := Option.bind_eq_some_iff.mp h
        obtain ⟨n, hn⟩ := hK136 h hQ
        exact ⟨n + 4, And.intro (jx_in_ok c27) (s_F_copyRow (by omega) rfl rfl h29 (hn))⟩
  · unfold f_S_copyFrom_38_1_153 at h
    cases c27 : jx_in y2 6 with
    | false => rw [c27, cond_false] at h; cases h
    | true =>
      rw [c27, cond_true] at h
      rcases jx_ix6 (jx_in_ok c27) with rfl | rfl | rfl | rfl | rfl | rfl
      · try rw [show (50 + (0 : Int32).toNatClampNeg) = 50 from by decide] at h
        obtain ⟨z28, h29, h⟩ := Option.bind_eq_some_iff.mp h
        obtain ⟨n, hn⟩ := hK136 h hQ
        exact ⟨n + 4, And.intro (jx_in_ok c27) (s_F_copyRow (by omega) rfl rfl h29 (hn))⟩
      · try rw [show (50 + (1 : Int32).toNatClampNeg) = 51 from by decide] at h
        obtain ⟨z28, h29, h⟩ := Option.bind_eq_some_iff.mp h
        obtain ⟨n, hn⟩ := hK136 h hQ
        exact ⟨n + 4, And.intro (jx_in_ok c27) (s_F_copyRow (by omega) rfl rfl h29 (hn))⟩
      · try rw [show (50 + (2 : Int32).toNatClampNeg) = 52 from by decide] at h
        obtain ⟨z28, h29, h⟩ := Option.bind_eq_some_iff.mp h
        obtain ⟨n, hn⟩ := hK136 h hQ
        exact ⟨n + 4, And.intro (jx_in_ok c27) (s_F_copyRow (by omega) rfl rfl h29 (hn))⟩
      · try rw [show (50 + (3 : Int32).toNatClampNeg) = 53 from by decide] at h
        obtain ⟨z28, h29, h⟩ := Option.bind_eq_some_iff.mp h
        obtain ⟨n, hn⟩ := hK136 h hQ
        exact ⟨n + 4, And.intro (jx_in_ok c27) (s_F_copyRow (by omega) rfl rfl h29 (hn))⟩
      · try rw [show (50 + (4 : Int32).toNatClampNeg) = 54 from by decide] at h
        obtain ⟨z28, h29, h⟩ := Option.bind_eq_some_iff.mp h
        obtain ⟨n, hn⟩ := hK136 h hQ
        exact ⟨n + 4, And.intro (jx_in_ok c27) (s_F_copyRow (by omega) rfl rfl h29 (hn))⟩
      · try rw [show (50 + (5 : Int32).toNatClampNeg) = 55 from by decide] at h
        obtain ⟨z28, h29, h⟩ := Option.bind_eq_some_iff.mp h
        obtain ⟨n, hn⟩ := hK136 h hQ
        exact ⟨n + 4, And.intro (jx_in_ok c27) (s_F_copyRow (by omega) rfl rfl h29 (hn))⟩
  · unfold f_S_copyFrom_38_1_153 at h
    cases c27 : jx_in y2 6 with
    | false => rw [c27, cond_false] at h; cases h
    | true =>
      rw [c27, cond_true] at h
      rcases jx_ix6 (jx_in_ok c27) with rfl | rfl | rfl | rfl | rfl | rfl
      · try rw [show (50 + (0 : Int32).toNatClampNeg) = 50 from by decide] at h
        obtain ⟨z28, h29, h⟩ := Option.bind_eq_some_iff.mp h
        obtain ⟨n, hn⟩ := hK136 h hQ
        exact ⟨n + 4, And.intro (jx_in_ok c27) (s_F_copyRow (by omega) rfl rfl h29 (hn))⟩
      · try rw [show (50 + (1 : Int32).toNatClampNeg) = 51 from by decide] at h
        obtain ⟨z28, h29, h⟩ := Option.bind_eq_some_iff.mp h
        obtain ⟨n, hn⟩ := hK136 h hQ
        exact ⟨n + 4, And.intro (jx_in_ok c27) (s_F_copyRow (by omega) rfl rfl h29 (hn))⟩
      · try rw [show (50 + (2 : Int32).toNatClampNeg) = 52 from by decide] at h
        obtain ⟨z28, h29, h⟩ := Option.bind_eq_some_iff.mp h
        obtain ⟨n, hn⟩ := hK136 h hQ
        exact ⟨n + 4, And.intro (jx_in_ok c27) (s_F_copyRow (by omega) rfl rfl h29 (hn))⟩
      · try rw [show (50 + (3 : Int32).toNatClampNeg) = 53 from by decide] at h
        obtain ⟨z28, h29, h⟩ := Option.bind_eq_some_iff.mp h
        obtain ⟨n, hn⟩ := hK136 h hQ
        exact ⟨n + 4, And.intro (jx_in_ok c27) (s_F_copyRow (by omega) rfl rfl h29 (hn))⟩
      · try rw [show (50 + (4 : Int32).toNatClampNeg) = 54 from by decide] at h
        obtain ⟨z28, h29, h⟩ := Option.bind_eq_some_iff.mp h
        obtain ⟨n, hn⟩ := hK136 h hQ
        exact ⟨n + 4, And.intro (jx_in_ok c27) (s_F_copyRow (by omega) rfl rfl h29 (hn))⟩
      · try rw [show (50 + (5 : Int32).toNatClampNeg) = 55 from by decide] at h
        obtain ⟨z28, h29, h⟩ := Option.bind_eq_some_iff.mp h
        obtain ⟨n, hn⟩ := hK136 h hQ
        exact ⟨n + 4, And.intro (jx_in_ok c27) (s_F_copyRow (by omega) rfl rfl h29 (hn))⟩
  · unfold f_S_copyFrom_38_1_153 at h
    cases c27 : jx_in y2 6 with
    | false => rw [c27, cond_false] at h; cases h
    | true =>
      rw [c27, cond_true] at h
      rcases jx_ix6 (jx_in_ok c27) with rfl | rfl | rfl | rfl | rfl | rfl
      · try rw [show (50 + (0 : Int32).toNatClampNeg) = 50 from by decide] at h
        obtain ⟨z28, h29, h⟩ := Option.bind_eq_some_iff.mp h
        obtain ⟨n, hn⟩ := hK136 h hQ
        exact ⟨n + 4, And.intro (jx_in_ok c27) (s_F_copyRow (by omega) rfl rfl h29 (hn))⟩
      · try rw [show (50 + (1 : Int32).toNatClampNeg) = 51 from by decide] at h
        obtain ⟨z28, h29, h⟩ := Option.bind_eq_some_iff.mp h
        obtain ⟨n, hn⟩ := hK136 h hQ
        exact ⟨n + 4, And.intro (jx_in_ok c27) (s_F_copyRow (by omega) rfl rfl h29 (hn))⟩
      · try rw [show (50 + (2 : Int32).toNatClampNeg) = 52 from by decide] at h
        obtain ⟨z28, h29, h⟩ := Option.bind_eq_some_iff.mp h
        obtain ⟨n, hn⟩ := hK136 h hQ
        exact ⟨n + 4, And.intro (jx_in_ok c27) (s_F_copyRow (by omega) rfl rfl h29 (hn))⟩
      · try rw [show (50 + (3 : Int32).toNatClampNeg) = 53 from by decide] at h
        obtain ⟨z28, h29, h⟩ := Option.bind_eq_some_iff.mp h
        obtain ⟨n, hn⟩ := hK136 h hQ
        exact ⟨n + 4, And.intro (jx_in_ok c27) (s_F_copyRow (by omega) rfl rfl h29 (hn))⟩
      · try rw [show (50 + (4 : Int32).toNatClampNeg) = 54 from by decide] at h
        obtain ⟨z28, h29, h⟩ := Option.bind_eq_some_iff.mp h
        obtain ⟨n, hn⟩ := hK136 h hQ
        exact ⟨n + 4, And.intro (jx_in_ok c27) (s_F_copyRow (by omega) rfl rfl h29 (hn))⟩
      · try rw [show (50 + (5 : Int32).toNatClampNeg) = 55 from by decide] at h
        obtain ⟨z28, h29, h⟩ := Option.bind_eq_some_iff.mp h
        obtain ⟨n, hn⟩ := hK136 h hQ
        exact ⟨n + 4, And.intro (jx_in_ok c27) (s_F_copyRow (by omega) rfl rfl h29 (hn))⟩
  · unfold f_S_copyFrom_38_1_153 at h
    cases c27 : jx_in y2 6 with
    | false => rw [c27, cond_false] at h; cases h
    | true =>
      rw [c27, cond_true] at h
      rcases jx_ix6 (jx_in_ok c27) with rfl | rfl | rfl | rfl | rfl | rfl
      · try rw [show (50 + (0 : Int32).toNatClampNeg) = 50 from by decide] at h
        obtain ⟨z28, h29, h⟩ := Option.bind_eq_some_iff.mp h
        obtain ⟨n, hn⟩ := hK136 h hQ
        exact ⟨n + 4, And.intro (jx_in_ok c27) (s_F_copyRow (by omega) rfl rfl h29 (hn))⟩
      · try rw [show (50 + (1 : Int32).toNatClampNeg) = 51 from by decide] at h
        obtain ⟨z28, h29, h⟩ := Option.bind_eq_some_iff.mp h
        obtain ⟨n, hn⟩ := hK136 h hQ
        exact ⟨n + 4, And.intro (jx_in_ok c27) (s_F_copyRow (by omega) rfl rfl h29 (hn))⟩
      · try rw [show (50 + (2 : Int32).toNatClampNeg) = 52 from by decide] at h
        obtain ⟨z28, h29, h⟩ := Option.bind_eq_some_iff.mp h
        obtain ⟨n, hn⟩ := hK136 h hQ
        exact ⟨n + 4, And.intro (jx_in_ok c27) (s_F_copyRow (by omega) rfl rfl h29 (hn))⟩
      · try rw [show (50 + (3 : Int32).toNatClampNeg) = 53 from by decide] at h
        obtain ⟨z28, h29, h⟩ := Option.bind_eq_some_iff.mp h
        obtain ⟨n, hn⟩ := hK136 h hQ
        exact ⟨n + 4, And.intro (jx_in_ok c27) (s_F_copyRow (by omega) rfl rfl h29 (hn))⟩
      · try rw [show (50 + (4 : Int32).toNatClampNeg) = 54 from by decide] at h
        obtain ⟨z28, h29, h⟩ := Option.bind_eq_some_iff.mp h
        obtain ⟨n, hn⟩ := hK136 h hQ
        exact ⟨n + 4, And.intro (jx_in_ok c27) (s_F_copyRow (by omega) rfl rfl h29 (hn))⟩
      · try rw [show (50 + (5 : Int32).toNatClampNeg) = 55 from by decide] at h
        obtain ⟨z28, h29, h⟩ := Option.bind_eq_some_iff.mp h
        obtain ⟨n, hn⟩ := hK136 h hQ
        exact ⟨n + 4, And.intro (jx_in_ok c27) (s_F_copyRow (by omega) rfl rfl h29 (hn))⟩
def f_S_copyFrom_38_1_147 (N : Nat) (K136 : Int32 → jw_M → Option jw_M) (x2 : Int32) (y1 : Int32) (σ : jw_M) : Option jw_M := bif jx_in y1 6 then f_S_copyFrom_38_1_153 N K136 x2 (13 + (y1).toNatClampNeg) x2 σ else none
set_option maxRecDepth 20000 in
theorem s_S_copyFrom_38_1_147 {N d : Nat} {Q : jw_Q} {K136 : Int32 → jw_M → Option jw_M} (hd : 3 ≤ d) (hK136 : ∀ {x2 : Int32} {σ : jw_M} {z : jw_M}, K136 x2 σ = some z → Q none (jx_ShC, z) → ∃ n, jx_W jx_ShC d none jc_77 Q n 136 [some (.ref 38), some (.ref 1), some (.int x2)] [] σ) {x2 : Int32} {y1 : Int32} {σ : jw_M} {z : jw_M} (h : f_S_copyFrom_38_1_147 N K136 x2 y1 σ = some z) (hQ : Q none (jx_ShC, z)) : ∃ n, jx_W jx_ShC d none jc_77 Q n 147 [some (.ref 38), some (.ref 1), some (.int x2)] [.int y1, .ref 12] σ := by
  unfold f_S_copyFrom_38_1_147 at h
  cases c26 : jx_in y1 6 with
  | false => rw [c26, cond_false] at h; cases h
  | true =>
    rw [c26, cond_true] at h
    rcases jx_ix6 (jx_in_ok c26) with rfl | rfl | rfl | rfl | rfl | rfl
    · try rw [show (13 + (0 : Int32).toNatClampNeg) = 13 from by decide] at h
      obtain ⟨n, hn⟩ := s_S_copyFrom_38_1_153 hd hK136 (by decide) h hQ
      exact ⟨n + 4, And.intro (jx_in_ok c26) (hn)⟩
    · try rw [show (13 + (1 : Int32).toNatClampNeg) = 14 from by decide] at h
      obtain ⟨n, hn⟩ := s_S_copyFrom_38_1_153 hd hK136 (by decide) h hQ
      exact ⟨n + 4, And.intro (jx_in_ok c26) (hn)⟩
    · try rw [show (13 + (2 : Int32).toNatClampNeg) = 15 from by decide] at h
      obtain ⟨n, hn⟩ := s_S_copyFrom_38_1_153 hd hK136 (by decide) h hQ
      exact ⟨n + 4, And.intro (jx_in_ok c26) (hn)⟩
    · try rw [show (13 + (3 : Int32).toNatClampNeg) = 16 from by decide] at h
      obtain ⟨n, hn⟩ := s_S_copyFrom_38_1_153 hd hK136 (by decide) h hQ
      exact ⟨n + 4, And.intro (jx_in_ok c26) (hn)⟩
    · try rw [show (13 + (4 : Int32).toNatClampNeg) = 17 from by decide] at h
      obtain ⟨n, hn⟩ := s_S_copyFrom_38_1_153 hd hK136 (by decide) h hQ
      exact ⟨n + 4, And.intro (jx_in_ok c26) (hn)⟩
    · try rw [show (13 + (5 : Int32).toNatClampNeg) = 18 from by decide] at h
      obtain ⟨n, hn⟩ := s_S_copyFrom_38_1_153 hd hK136 (by decide) h hQ
      exact ⟨n + 4, And.intro (jx_in_ok c26) (hn)⟩
def f_S_copyFrom_38_1_136 (N : Nat) : Nat → Int32 → jw_M → Option jw_M
  | 0, _, _ => none
  | k + 1, x2, σ => if 6 ≤ x2 then (f_R_copyFrom N 56 19 (jw_up (jw_up σ.1 38 14 (σ.1 1 14), σ.2).1 38 15 ((jw_up σ.1 38 14 (σ.1 1 14), σ.2).1 1 15), (jw_up σ.1 38 14 (σ.1 1 14), σ.2).2)).bind fun z22 => (f_P_copyFrom N 64 27 z22).bind fun z24 => some z24 else f_S_copyFrom_38_1_147 N (f_S_copyFrom_38_1_136 N k) x2 x2 σ
set_option maxRecDepth 20000 in
theorem s_S_copyFrom_38_1_136 {N d : Nat} {Q : jw_Q} (hd : 3 ≤ d) : ∀ (k : Nat) {x2 : Int32} {σ : jw_M} {z : jw_M}, f_S_copyFrom_38_1_136 N k x2 σ = some z → Q none (jx_ShC, z) → ∃ n, jx_W jx_ShC d none jc_77 Q n 136 [some (.ref 38), some (.ref 1), some (.int x2)] [] σ
  | 0, _, _, _, h, _ => by cases h
  | k + 1, x2, σ, z, h, hQ => by
    rw [f_S_copyFrom_38_1_136] at h
    by_cases c21 : 6 ≤ x2
    · rw [if_pos c21] at h
      suffices hh : ∃ n, jx_W jx_ShC d none jc_77 Q n 163 [some (.ref 38), some (.ref 1), some (.int x2)] [] σ by
        obtain ⟨n, hn⟩ := hh
        exact ⟨n + 3, And.intro (fun _ => hn) (fun zz => absurd c21 zz)⟩
      obtain ⟨z22, h23, h⟩ := Option.bind_eq_some_iff.mp h
      obtain ⟨z24, h25, h⟩ := Option.bind_eq_some_iff.mp h
      cases h
      exact ⟨19, s_R_copyFrom (by omega) (by decide) h23 (s_P_copyFrom (by omega) (by decide) h25 (And.intro hQ (And.intro rfl rfl)))⟩
    · rw [if_neg c21] at h
      suffices hh : ∃ n, jx_W jx_ShC d none jc_77 Q n 142 [some (.ref 38), some (.ref 1), some (.int x2)] [] σ by
        obtain ⟨n, hn⟩ := hh
        exact ⟨n + 3, And.intro (fun zz => absurd zz c21) (fun _ => hn)⟩
      obtain ⟨n, hn⟩ := s_S_copyFrom_38_1_147 hd (s_S_copyFrom_38_1_136 hd k) h hQ
      exact ⟨n + 3, hn⟩
def f_S_copyFrom_38_1 (N : Nat) (σ : jw_M) : Option jw_M := (f_F_copyRow N 2 39 6 6 (jw_up σ.1 38 0 (σ.1 1 0), σ.2)).bind fun z1 => (f_F_copyRow N 3 40 6 6 z1).bind fun z3 => (f_F_copyRow N 4 41 6 6 z3).bind fun z5 => (f_F_copyRow N 5 42 6 6 z5).bind fun z7 => (f_F_copyRow N 6 43 8 8 (jw_up z7.1 38 5 (z7.1 1 5), z7.2)).bind fun z9 => (f_F_copyRow N 7 44 8 8 z9).bind fun z11 => (f_F_copyRow N 8 45 8 8 z11).bind fun z13 => (f_F_copyRow N 9 46 8 8 z13).bind fun z15 => (f_F_copyRow N 10 47 8 8 z15).bind fun z17 => (f_F_copyRow N 11 48 17 17 z17).bind fun z19 => f_S_copyFrom_38_1_136 N N 0 (jw_up z19.1 38 12 (z19.1 1 12), z19.2)
set_option maxRecDepth 20000 in
theorem s_S_copyFrom_38_1 {N d : Nat} (hd : 4 ≤ d) {σ : jw_M} {z : jw_M} {Q : jw_Q} (h : f_S_copyFrom_38_1 N  σ = some z) (hQ : Q none (jx_ShC, z)) : jw_C jp_kd jp_ys d 77 [.ref 38, .ref 1] (jx_ShC, σ) Q := by
  obtain ⟨d, rfl⟩ : ∃ e, d = e + 1 := ⟨d - 1, by omega⟩
  replace hd : 3 ≤ d := by omega
  refine jx_C rfl rfl ?_
  unfold f_S_copyFrom_38_1 at h
  obtain ⟨z1, h2, h⟩ := Option.bind_eq_some_iff.mp h
  obtain ⟨z3, h4, h⟩ := Option.bind_eq_some_iff.mp h
  obtain ⟨z5, h6, h⟩ := Option.bind_eq_some_iff.mp h
  obtain ⟨z7, h8, h⟩ := Option.bind_eq_some_iff.mp h
  obtain ⟨z9, h10, h⟩ := Option.bind_eq_some_iff.mp h
  obtain ⟨z11, h12, h⟩ := Option.bind_eq_some_iff.mp h
  obtain ⟨z13, h14, h⟩ := Option.bind_eq_some_iff.mp h
  obtain ⟨z15, h16, h⟩ := Option.bind_eq_some_iff.mp h
  obtain ⟨z17, h18, h⟩ := Option.bind_eq_some_iff.mp h
  obtain ⟨z19, h20, h⟩ := Option.bind_eq_some_iff.mp h
  obtain ⟨n, hn⟩ := s_S_copyFrom_38_1_136 hd N h hQ
  exact ⟨n + 64, s_F_copyRow (by omega) rfl rfl h2 (s_F_copyRow (by omega) rfl rfl h4 (s_F_copyRow (by omega) rfl rfl h6 (s_F_copyRow (by omega) rfl rfl h8 (s_F_copyRow (by omega) rfl rfl h10 (s_F_copyRow (by omega) rfl rfl h12 (s_F_copyRow (by omega) rfl rfl h14 (s_F_copyRow (by omega) rfl rfl h16 (s_F_copyRow (by omega) rfl rfl h18 (s_F_copyRow (by omega) rfl rfl h20 (hn))))))))))⟩
def f_S_copyFrom_1_38_153 (N : Nat) (K136 : Int32 → jw_M → Option jw_M) (x2 : Int32) (r_0 : Nat) (y2 : Int32) (σ : jw_M) : Option jw_M := bif jx_in y2 6 then (f_F_copyRow N r_0 (13 + (y2).toNatClampNeg) 4 4 σ).bind fun z28 => K136 (x2 + 1) z28 else none
set_option maxRecDepth 20000 in
theorem s_S_copyFrom_1_38_153 {N d : Nat} {Q : jw_Q} {K136 : Int32 → jw_M → Option jw_M} (hd : 3 ≤ d) (hK136 : ∀ {x2 : Int32} {σ : jw_M} {z : jw_M}, K136 x2 σ = some z → Q none (jx_ShC, z) → ∃ n, jx_W jx_ShC d none jc_77 Q n 136 [some (.ref 1), some (.ref 38), some (.int x2)] [] σ) {x2 : Int32} {r_0 : Nat} {y2 : Int32} {σ : jw_M} {z : jw_M} (hr_0 : r_0 = 50 ∨ r_0 = 51 ∨ r_0 = 52 ∨ r_0 = 53 ∨ r_0 = 54 ∨ r_0 = 55) (h : f_S_copyFrom_1_38_153 N K136 x2 r_0 y2 σ = some z) (hQ : Q none (jx_ShC, z)) : ∃ n, jx_W jx_ShC d none jc_77 Q n 153 [some (.ref 1), some (.ref 38), some (.int x2)] [.int y2, .ref 12, .ref r_0] σ := by
  rcases hr_0 with rfl | rfl | rfl | rfl | rfl | rfl
  · unfold f_S_copyFrom_1_38_153 at h
    cases c27 : jx_in y2 6 with
    | false => rw [c27, cond_false] at h; cases h
    | true =>
      rw [c27, cond_true] at h
      rcases jx_ix6 (jx_in_ok c27) with rfl | rfl | rfl | rfl | rfl | rfl
      · try rw [show (13 + (0 : Int32).toNatClampNeg) = 13 from by decide] at h
        obtain ⟨z28, h29, h⟩ := Option.bind_eq_some_iff.mp h
        obtain ⟨n, hn⟩ := hK136 h hQ
        exact ⟨n + 4, And.intro (jx_in_ok c27) (s_F_copyRow (by omega) rfl rfl h29 (hn))⟩
      · try rw [show (13 + (1 : Int32).toNatClampNeg) = 14 from by decide] at h
        obtain ⟨z28, h29, h⟩ := Option.bind_eq_some_iff.mp h
        obtain ⟨n, hn⟩ := hK136 h hQ
        exact ⟨n + 4, And.intro (jx_in_ok c27) (s_F_copyRow (by omega) rfl rfl h29 (hn))⟩
      · try rw [show (13 + (2 : Int32).toNatClampNeg) = 15 from by decide] at h
        obtain ⟨z28, h29, h⟩ := Option.bind_eq_some_iff.mp h
        obtain ⟨n, hn⟩ := hK136 h hQ
        exact ⟨n + 4, And.intro (jx_in_ok c27) (s_F_copyRow (by omega) rfl rfl h29 (hn))⟩
      · try rw [show (13 + (3 : Int32).toNatClampNeg) = 16 from by decide] at h
        obtain ⟨z28, h29, h⟩ := Option.bind_eq_some_iff.mp h
        obtain ⟨n, hn⟩ := hK136 h hQ
        exact ⟨n + 4, And.intro (jx_in_ok c27) (s_F_copyRow (by omega) rfl rfl h29 (hn))⟩
      · try rw [show (13 + (4 : Int32).toNatClampNeg) = 17 from by decide] at h
        obtain ⟨z28, h29, h⟩ := Option.bind_eq_some_iff.mp h
        obtain ⟨n, hn⟩ := hK136 h hQ
        exact ⟨n + 4, And.intro (jx_in_ok c27) (s_F_copyRow (by omega) rfl rfl h29 (hn))⟩
      · try rw [show (13 + (5 : Int32).toNatClampNeg) = 18 from by decide] at h
        obtain ⟨z28, h29, h⟩ := Option.bind_eq_some_iff.mp h
        obtain ⟨n, hn⟩ := hK136 h hQ
        exact ⟨n + 4, And.intro (jx_in_ok c27) (s_F_copyRow (by omega) rfl rfl h29 (hn))⟩
  · unfold f_S_copyFrom_1_38_153 at h
    cases c27 : jx_in y2 6 with
    | false => rw [c27, cond_false] at h; cases h
    | true =>
      rw [c27, cond_true] at h
      rcases jx_ix6 (jx_in_ok c27) with rfl | rfl | rfl | rfl | rfl | rfl
      · try rw [show (13 + (0 : Int32).toNatClampNeg) = 13 from by decide] at h
        obtain ⟨z28, h29, h⟩ := Option.bind_eq_some_iff.mp h
        obtain ⟨n, hn⟩ := hK136 h hQ
        exact ⟨n + 4, And.intro (jx_in_ok c27) (s_F_copyRow (by omega) rfl rfl h29 (hn))⟩
      · try rw [show (13 + (1 : Int32).toNatClampNeg) = 14 from by decide] at h
        obtain ⟨z28, h29, h⟩ := Option.bind_eq_some_iff.mp h
        obtain ⟨n, hn⟩ := hK136 h hQ
        exact ⟨n + 4, And.intro (jx_in_ok c27) (s_F_copyRow (by omega) rfl rfl h29 (hn))⟩
      · try rw [show (13 + (2 : Int32).toNatClampNeg) = 15 from by decide] at h
        obtain ⟨z28, h29, h⟩ := Option.bind_eq_some_iff.mp h
        obtain ⟨n, hn⟩ := hK136 h hQ
        exact ⟨n + 4, And.intro (jx_in_ok c27) (s_F_copyRow (by omega) rfl rfl h29 (hn))⟩
      · try rw [show (13 + (3 : Int32).toNatClampNeg) = 16 from by decide] at h
        obtain ⟨z28, h29, h⟩ := Option.bind_eq_some_iff.mp h
        obtain ⟨n, hn⟩ := hK136 h hQ
        exact ⟨n + 4, And.intro (jx_in_ok c27) (s_F_copyRow (by omega) rfl rfl h29 (hn))⟩
      · try rw [show (13 + (4 : Int32).toNatClampNeg) = 17 from by decide] at h
        obtain ⟨z28, h29, h⟩ := Option.bind_eq_some_iff.mp h
        obtain ⟨n, hn⟩ := hK136 h hQ
        exact ⟨n + 4, And.intro (jx_in_ok c27) (s_F_copyRow (by omega) rfl rfl h29 (hn))⟩
      · try rw [show (13 + (5 : Int32).toNatClampNeg) = 18 from by decide] at h
        obtain ⟨z28, h29, h⟩ := Option.bind_eq_some_iff.mp h
        obtain ⟨n, hn⟩ := hK136 h hQ
        exact ⟨n + 4, And.intro (jx_in_ok c27) (s_F_copyRow (by omega) rfl rfl h29 (hn))⟩
  · unfold f_S_copyFrom_1_38_153 at h
    cases c27 : jx_in y2 6 with
    | false => rw [c27, cond_false] at h; cases h
    | true =>
      rw [c27, cond_true] at h
      rcases jx_ix6 (jx_in_ok c27) with rfl | rfl | rfl | rfl | rfl | rfl
      · try rw [show (13 + (0 : Int32).toNatClampNeg) = 13 from by decide] at h
        obtain ⟨z28, h29, h⟩ := Option.bind_eq_some_iff.mp h
        obtain ⟨n, hn⟩ := hK136 h hQ
        exact ⟨n + 4, And.intro (jx_in_ok c27) (s_F_copyRow (by omega) rfl rfl h29 (hn))⟩
      · try rw [show (13 + (1 : Int32).toNatClampNeg) = 14 from by decide] at h
        obtain ⟨z28, h29, h⟩ := Option.bind_eq_some_iff.mp h
        obtain ⟨n, hn⟩ := hK136 h hQ
        exact ⟨n + 4, And.intro (jx_in_ok c27) (s_F_copyRow (by omega) rfl rfl h29 (hn))⟩
      · try rw [show (13 + (2 : Int32).toNatClampNeg) = 15 from by decide] at h
        obtain ⟨z28, h29, h⟩ := Option.bind_eq_some_iff.mp h
        obtain ⟨n, hn⟩ := hK136 h hQ
        exact ⟨n + 4, And.intro (jx_in_ok c27) (s_F_copyRow (by omega) rfl rfl h29 (hn))⟩
      · try rw [show (13 + (3 : Int32).toNatClampNeg) = 16 from by decide] at h
        obtain ⟨z28, h29, h⟩ := Option.bind_eq_some_iff.mp h
        obtain ⟨n, hn⟩ := hK136 h hQ
        exact ⟨n + 4, And.intro (jx_in_ok c27) (s_F_copyRow (by omega) rfl rfl h29 (hn))⟩
      · try rw [show (13 + (4 : Int32).toNatClampNeg) = 17 from by decide] at h
        obtain ⟨z28, h29, h⟩ := Option.bind_eq_some_iff.mp h
        obtain ⟨n, hn⟩ := hK136 h hQ
        exact ⟨n + 4, And.intro (jx_in_ok c27) (s_F_copyRow (by omega) rfl rfl h29 (hn))⟩
      · try rw [show (13 + (5 : Int32).toNatClampNeg) = 18 from by decide] at h
        obtain ⟨z28, h29, h⟩ := Option.bind_eq_some_iff.mp h
        obtain ⟨n, hn⟩ := hK136 h hQ
        exact ⟨n + 4, And.intro (jx_in_ok c27) (s_F_copyRow (by omega) rfl rfl h29 (hn))⟩
  · unfold f_S_copyFrom_1_38_153 at h
    cases c27 : jx_in y2 6 with
    | false => rw [c27, cond_false] at h; cases h
    | true =>
      rw [c27, cond_true] at h
      rcases jx_ix6 (jx_in_ok c27) with rfl | rfl | rfl | rfl | rfl | rfl
      · try rw [show (13 + (0 : Int32).toNatClampNeg) = 13 from by decide] at h
        obtain ⟨z28, h29, h⟩ := Option.bind_eq_some_iff.mp h
        obtain ⟨n, hn⟩ := hK136 h hQ
        exact ⟨n + 4, And.intro (jx_in_ok c27) (s_F_copyRow (by omega) rfl rfl h29 (hn))⟩
      · try rw [show (13 + (1 : Int32).toNatClampNeg) = 14 from by decide] at h
        obtain ⟨z28, h29, h⟩ := Option.bind_eq_some_iff.mp h
        obtain ⟨n, hn⟩ := hK136 h hQ
        exact ⟨n + 4, And.intro (jx_in_ok c27) (s_F_copyRow (by omega) rfl rfl h29 (hn))⟩
      · try rw [show (13 + (2 : Int32).toNatClampNeg) = 15 from by decide] at h
        obtain ⟨z28, h29, h⟩ := Option.bind_eq_some_iff.mp h
        obtain ⟨n, hn⟩ := hK136 h hQ
        exact ⟨n + 4, And.intro (jx_in_ok c27) (s_F_copyRow (by omega) rfl rfl h29 (hn))⟩
      · try rw [show (13 + (3 : Int32).toNatClampNeg) = 16 from by decide] at h
        obtain ⟨z28, h29, h⟩ := Option.bind_eq_some_iff.mp h
        obtain ⟨n, hn⟩ := hK136 h hQ
        exact ⟨n + 4, And.intro (jx_in_ok c27) (s_F_copyRow (by omega) rfl rfl h29 (hn))⟩
      · try rw [show (13 + (4 : Int32).toNatClampNeg) = 17 from by decide] at h
        obtain ⟨z28, h29, h⟩ := Option.bind_eq_some_iff.mp h
        obtain ⟨n, hn⟩ := hK136 h hQ
        exact ⟨n + 4, And.intro (jx_in_ok c27) (s_F_copyRow (by omega) rfl rfl h29 (hn))⟩
      · try rw [show (13 + (5 : Int32).toNatClampNeg) = 18 from by decide] at h
        obtain ⟨z28, h29, h⟩ := Option.bind_eq_some_iff.mp h
        obtain ⟨n, hn⟩ := hK136 h hQ
        exact ⟨n + 4, And.intro (jx_in_ok c27) (s_F_copyRow (by omega) rfl rfl h29 (hn))⟩
  · unfold f_S_copyFrom_1_38_153 at h
    cases c27 : jx_in y2 6 with
    | false => rw [c27, cond_false] at h; cases h
    | true =>
      rw [c27, cond_true] at h
      rcases jx_ix6 (jx_in_ok c27) with rfl | rfl | rfl | rfl | rfl | rfl
      · try rw [show (13 + (0 : Int32).toNatClampNeg) = 13 from by decide] at h
        obtain ⟨z28, h29, h⟩ := Option.bind_eq_some_iff.mp h
        obtain ⟨n, hn⟩ := hK136 h hQ
        exact ⟨n + 4, And.intro (jx_in_ok c27) (s_F_copyRow (by omega) rfl rfl h29 (hn))⟩
      · try rw [show (13 + (1 : Int32).toNatClampNeg) = 14 from by decide] at h
        obtain ⟨z28, h29, h⟩ := Option.bind_eq_some_iff.mp h
        obtain ⟨n, hn⟩ := hK136 h hQ
        exact ⟨n + 4, And.intro (jx_in_ok c27) (s_F_copyRow (by omega) rfl rfl h29 (hn))⟩
      · try rw [show (13 + (2 : Int32).toNatClampNeg) = 15 from by decide] at h
        obtain ⟨z28, h29, h⟩ := Option.bind_eq_some_iff.mp h
        obtain ⟨n, hn⟩ := hK136 h hQ
        exact ⟨n + 4, And.intro (jx_in_ok c27) (s_F_copyRow (by omega) rfl rfl h29 (hn))⟩
      · try rw [show (13 + (3 : Int32).toNatClampNeg) = 16 from by decide] at h
        obtain ⟨z28, h29, h⟩ := Option.bind_eq_some_iff.mp h
        obtain ⟨n, hn⟩ := hK136 h hQ
        exact ⟨n + 4, And.intro (jx_in_ok c27) (s_F_copyRow (by omega) rfl rfl h29 (hn))⟩
      · try rw [show (13 + (4 : Int32).toNatClampNeg) = 17 from by decide] at h
        obtain ⟨z28, h29, h⟩ := Option.bind_eq_some_iff.mp h
        obtain ⟨n, hn⟩ := hK136 h hQ
        exact ⟨n + 4, And.intro (jx_in_ok c27) (s_F_copyRow (by omega) rfl rfl h29 (hn))⟩
      · try rw [show (13 + (5 : Int32).toNatClampNeg) = 18 from by decide] at h
        obtain ⟨z28, h29, h⟩ := Option.bind_eq_some_iff.mp h
        obtain ⟨n, hn⟩ := hK136 h hQ
        exact ⟨n + 4, And.intro (jx_in_ok c27) (s_F_copyRow (by omega) rfl rfl h29 (hn))⟩
  · unfold f_S_copyFrom_1_38_153 at h
    cases c27 : jx_in y2 6 with
    | false => rw [c27, cond_false] at h; cases h
    | true =>
      rw [c27, cond_true] at h
      rcases jx_ix6 (jx_in_ok c27) with rfl | rfl | rfl | rfl | rfl | rfl
      · try rw [show (13 + (0 : Int32).toNatClampNeg) = 13 from by decide] at h
        obtain ⟨z28, h29, h⟩ := Option.bind_eq_some_iff.mp h
        obtain ⟨n, hn⟩ := hK136 h hQ
        exact ⟨n + 4, And.intro (jx_in_ok c27) (s_F_copyRow (by omega) rfl rfl h29 (hn))⟩
      · try rw [show (13 + (1 : Int32).toNatClampNeg) = 14 from by decide] at h
        obtain ⟨z28, h29, h⟩ := Option.bind_eq_some_iff.mp h
        obtain ⟨n, hn⟩ := hK136 h hQ
        exact ⟨n + 4, And.intro (jx_in_ok c27) (s_F_copyRow (by omega) rfl rfl h29 (hn))⟩
      · try rw [show (13 + (2 : Int32).toNatClampNeg) = 15 from by decide] at h
        obtain ⟨z28, h29, h⟩ := Option.bind_eq_some_iff.mp h
        obtain ⟨n, hn⟩ := hK136 h hQ
        exact ⟨n + 4, And.intro (jx_in_ok c27) (s_F_copyRow (by omega) rfl rfl h29 (hn))⟩
      · try rw [show (13 + (3 : Int32).toNatClampNeg) = 16 from by decide] at h
        obtain ⟨z28, h29, h⟩ := Option.bind_eq_some_iff.mp h
        obtain ⟨n, hn⟩ := hK136 h hQ
        exact ⟨n + 4, And.intro (jx_in_ok c27) (s_F_copyRow (by omega) rfl rfl h29 (hn))⟩
      · try rw [show (13 + (4 : Int32).toNatClampNeg) = 17 from by decide] at h
        obtain ⟨z28, h29, h⟩ := Option.bind_eq_some_iff.mp h
        obtain ⟨n, hn⟩ := hK136 h hQ
        exact ⟨n + 4, And.intro (jx_in_ok c27) (s_F_copyRow (by omega) rfl rfl h29 (hn))⟩
      · try rw [show (13 + (5 : Int32).toNatClampNeg) = 18 from by decide] at h
        obtain ⟨z28, h29, h⟩ := Option.bind_eq_some_iff.mp h
        obtain ⟨n, hn⟩ := hK136 h hQ
        exact ⟨n + 4, And.intro (jx_in_ok c27) (s_F_copyRow (by omega) rfl rfl h29 (hn))⟩
def f_S_copyFrom_1_38_147 (N : Nat) (K136 : Int32 → jw_M → Option jw_M) (x2 : Int32) (y1 : Int32) (σ : jw_M) : Option jw_M := bif jx_in y1 6 then f_S_copyFrom_1_38_153 N K136 x2 (50 + (y1).toNatClampNeg) x2 σ else none
set_option maxRecDepth 20000 in
theorem s_S_copyFrom_1_38_147 {N d : Nat} {Q : jw_Q} {K136 : Int32 → jw_M → Option jw_M} (hd : 3 ≤ d) (hK136 : ∀ {x2 : Int32} {σ : jw_M} {z : jw_M}, K136 x2 σ = some z → Q none (jx_ShC, z) → ∃ n, jx_W jx_ShC d none jc_77 Q n 136 [some (.ref 1), some (.ref 38), some (.int x2)] [] σ) {x2 : Int32} {y1 : Int32} {σ : jw_M} {z : jw_M} (h : f_S_copyFrom_1_38_147 N K136 x2 y1 σ = some z) (hQ : Q none (jx_ShC, z)) : ∃ n, jx_W jx_ShC d none jc_77 Q n 147 [some (.ref 1), some (.ref 38), some (.int x2)] [.int y1, .ref 49] σ := by
  unfold f_S_copyFrom_1_38_147 at h
  cases c26 : jx_in y1 6 with
  | false => rw [c26, cond_false] at h; cases h
  | true =>
    rw [c26, cond_true] at h
    rcases jx_ix6 (jx_in_ok c26) with rfl | rfl | rfl | rfl | rfl | rfl
    · try rw [show (50 + (0 : Int32).toNatClampNeg) = 50 from by decide] at h
      obtain ⟨n, hn⟩ := s_S_copyFrom_1_38_153 hd hK136 (by decide) h hQ
      exact ⟨n + 4, And.intro (jx_in_ok c26) (hn)⟩
    · try rw [show (50 + (1 : Int32).toNatClampNeg) = 51 from by decide] at h
      obtain ⟨n, hn⟩ := s_S_copyFrom_1_38_153 hd hK136 (by decide) h hQ
      exact ⟨n + 4, And.intro (jx_in_ok c26) (hn)⟩
    · try rw [show (50 + (2 : Int32).toNatClampNeg) = 52 from by decide] at h
      obtain ⟨n, hn⟩ := s_S_copyFrom_1_38_153 hd hK136 (by decide) h hQ
      exact ⟨n + 4, And.intro (jx_in_ok c26) (hn)⟩
    · try rw [show (50 + (3 : Int32).toNatClampNeg) = 53 from by decide] at h
      obtain ⟨n, hn⟩ := s_S_copyFrom_1_38_153 hd hK136 (by decide) h hQ
      exact ⟨n + 4, And.intro (jx_in_ok c26) (hn)⟩
    · try rw [show (50 + (4 : Int32).toNatClampNeg) = 54 from by decide] at h
      obtain ⟨n, hn⟩ := s_S_copyFrom_1_38_153 hd hK136 (by decide) h hQ
      exact ⟨n + 4, And.intro (jx_in_ok c26) (hn)⟩
    · try rw [show (50 + (5 : Int32).toNatClampNeg) = 55 from by decide] at h
      obtain ⟨n, hn⟩ := s_S_copyFrom_1_38_153 hd hK136 (by decide) h hQ
      exact ⟨n + 4, And.intro (jx_in_ok c26) (hn)⟩
def f_S_copyFrom_1_38_136 (N : Nat) : Nat → Int32 → jw_M → Option jw_M
  | 0, _, _ => none
  | k + 1, x2, σ => if 6 ≤ x2 then (f_R_copyFrom N 19 56 (jw_up (jw_up σ.1 1 14 (σ.1 38 14), σ.2).1 1 15 ((jw_up σ.1 1 14 (σ.1 38 14), σ.2).1 38 15), (jw_up σ.1 1 14 (σ.1 38 14), σ.2).2)).bind fun z22 => (f_P_copyFrom N 27 64 z22).bind fun z24 => some z24 else f_S_copyFrom_1_38_147 N (f_S_copyFrom_1_38_136 N k) x2 x2 σ
set_option maxRecDepth 20000 in
theorem s_S_copyFrom_1_38_136 {N d : Nat} {Q : jw_Q} (hd : 3 ≤ d) : ∀ (k : Nat) {x2 : Int32} {σ : jw_M} {z : jw_M}, f_S_copyFrom_1_38_136 N k x2 σ = some z → Q none (jx_ShC, z) → ∃ n, jx_W jx_ShC d none jc_77 Q n 136 [some (.ref 1), some (.ref 38), some (.int x2)] [] σ
  | 0, _, _, _, h, _ => by cases h
  | k + 1, x2, σ, z, h, hQ => by
    rw [f_S_copyFrom_1_38_136] at h
    by_cases c21 : 6 ≤ x2
    · rw [if_pos c21] at h
      suffices hh : ∃ n, jx_W jx_ShC d none jc_77 Q n 163 [some (.ref 1), some (.ref 38), some (.int x2)] [] σ by
        obtain ⟨n, hn⟩ := hh
        exact ⟨n + 3, And.intro (fun _ => hn) (fun zz => absurd c21 zz)⟩
      obtain ⟨z22, h23, h⟩ := Option.bind_eq_some_iff.mp h
      obtain ⟨z24, h25, h⟩ := Option.bind_eq_some_iff.mp h
      cases h
      exact ⟨19, s_R_copyFrom (by omega) (by decide) h23 (s_P_copyFrom (by omega) (by decide) h25 (And.intro hQ (And.intro rfl rfl)))⟩
    · rw [if_neg c21] at h
      suffices hh : ∃ n, jx_W jx_ShC d none jc_77 Q n 142 [some (.ref 1), some (.ref 38), some (.int x2)] [] σ by
        obtain ⟨n, hn⟩ := hh
        exact ⟨n + 3, And.intro (fun zz => absurd zz c21) (fun _ => hn)⟩
      obtain ⟨n, hn⟩ := s_S_copyFrom_1_38_147 hd (s_S_copyFrom_1_38_136 hd k) h hQ
      exact ⟨n + 3, hn⟩
def f_S_copyFrom_1_38 (N : Nat) (σ : jw_M) : Option jw_M := (f_F_copyRow N 39 2 6 6 (jw_up σ.1 1 0 (σ.1 38 0), σ.2)).bind fun z1 => (f_F_copyRow N 40 3 6 6 z1).bind fun z3 => (f_F_copyRow N 41 4 6 6 z3).bind fun z5 => (f_F_copyRow N 42 5 6 6 z5).bind fun z7 => (f_F_copyRow N 43 6 8 8 (jw_up z7.1 1 5 (z7.1 38 5), z7.2)).bind fun z9 => (f_F_copyRow N 44 7 8 8 z9).bind fun z11 => (f_F_copyRow N 45 8 8 8 z11).bind fun z13 => (f_F_copyRow N 46 9 8 8 z13).bind fun z15 => (f_F_copyRow N 47 10 8 8 z15).bind fun z17 => (f_F_copyRow N 48 11 17 17 z17).bind fun z19 => f_S_copyFrom_1_38_136 N N 0 (jw_up z19.1 1 12 (z19.1 38 12), z19.2)
set_option maxRecDepth 20000 in
theorem s_S_copyFrom_1_38 {N d : Nat} (hd : 4 ≤ d) {σ : jw_M} {z : jw_M} {Q : jw_Q} (h : f_S_copyFrom_1_38 N  σ = some z) (hQ : Q none (jx_ShC, z)) : jw_C jp_kd jp_ys d 77 [.ref 1, .ref 38] (jx_ShC, σ) Q := by
  obtain ⟨d, rfl⟩ : ∃ e, d = e + 1 := ⟨d - 1, by omega⟩
  replace hd : 3 ≤ d := by omega
  refine jx_C rfl rfl ?_
  unfold f_S_copyFrom_1_38 at h
  obtain ⟨z1, h2, h⟩ := Option.bind_eq_some_iff.mp h
  obtain ⟨z3, h4, h⟩ := Option.bind_eq_some_iff.mp h
  obtain ⟨z5, h6, h⟩ := Option.bind_eq_some_iff.mp h
  obtain ⟨z7, h8, h⟩ := Option.bind_eq_some_iff.mp h
  obtain ⟨z9, h10, h⟩ := Option.bind_eq_some_iff.mp h
  obtain ⟨z11, h12, h⟩ := Option.bind_eq_some_iff.mp h
  obtain ⟨z13, h14, h⟩ := Option.bind_eq_some_iff.mp h
  obtain ⟨z15, h16, h⟩ := Option.bind_eq_some_iff.mp h
  obtain ⟨z17, h18, h⟩ := Option.bind_eq_some_iff.mp h
  obtain ⟨z19, h20, h⟩ := Option.bind_eq_some_iff.mp h
  obtain ⟨n, hn⟩ := s_S_copyFrom_1_38_136 hd N h hQ
  exact ⟨n + 64, s_F_copyRow (by omega) rfl rfl h2 (s_F_copyRow (by omega) rfl rfl h4 (s_F_copyRow (by omega) rfl rfl h6 (s_F_copyRow (by omega) rfl rfl h8 (s_F_copyRow (by omega) rfl rfl h10 (s_F_copyRow (by omega) rfl rfl h12 (s_F_copyRow (by omega) rfl rfl h14 (s_F_copyRow (by omega) rfl rfl h16 (s_F_copyRow (by omega) rfl rfl h18 (s_F_copyRow (by omega) rfl rfl h20 (hn))))))))))⟩
def f_S_isShadow (N : Nat) (x1 : Int32) (σ : jw_M) : Option (Int32 × jw_M) := if x1 < 0 then some (0, σ) else if (σ.1 1 0) ≤ x1 then some (0, σ) else some (1, σ)
set_option maxRecDepth 20000 in
theorem s_S_isShadow {N d : Nat} {x1 : Int32} (hd : 1 ≤ d) {σ : jw_M} {z : (Int32 × jw_M)} {Q : jw_Q} (h : f_S_isShadow N x1 σ = some z) (hQ : Q (some (.int z.1)) (jx_ShC, z.2)) : jw_C jp_kd jp_ys d 78 [.ref 1, .int x1] (jx_ShC, σ) Q := by
  obtain ⟨d, rfl⟩ : ∃ e, d = e + 1 := ⟨d - 1, by omega⟩
  replace hd : 0 ≤ d := by omega
  refine jx_C rfl rfl ?_
  unfold f_S_isShadow at h
  by_cases c1 : x1 < 0
  · rw [if_pos c1] at h
    suffices hh : ∃ n, jx_W jx_ShC d (some .boolean) jc_78 Q n 16 [some (.ref 1), some (.int x1)] [] σ by
      obtain ⟨n, hn⟩ := hh
      exact ⟨n + 2, And.intro (fun _ => hn) (fun zz => absurd c1 zz)⟩
    cases h
    exact ⟨2, And.intro (Or.inl rfl) (And.intro hQ (And.intro rfl rfl))⟩
  · rw [if_neg c1] at h
    suffices hh : ∃ n, jx_W jx_ShC d (some .boolean) jc_78 Q n 4 [some (.ref 1), some (.int x1)] [] σ by
      obtain ⟨n, hn⟩ := hh
      exact ⟨n + 2, And.intro (fun zz => absurd zz c1) (fun _ => hn)⟩
    by_cases c2 : (σ.1 1 0) ≤ x1
    · rw [if_pos c2] at h
      suffices hh : ∃ n, jx_W jx_ShC d (some .boolean) jc_78 Q n 16 [some (.ref 1), some (.int x1)] [] σ by
        obtain ⟨n, hn⟩ := hh
        exact ⟨n + 4, And.intro (fun _ => hn) (fun zz => absurd c2 zz)⟩
      cases h
      exact ⟨2, And.intro (Or.inl rfl) (And.intro hQ (And.intro rfl rfl))⟩
    · rw [if_neg c2] at h
      suffices hh : ∃ n, jx_W jx_ShC d (some .boolean) jc_78 Q n 12 [some (.ref 1), some (.int x1)] [] σ by
        obtain ⟨n, hn⟩ := hh
        exact ⟨n + 4, And.intro (fun zz => absurd zz c2) (fun _ => hn)⟩
      cases h
      exact ⟨3, And.intro (Or.inr rfl) (And.intro hQ (And.intro rfl rfl))⟩
def f_S_isLesson (N : Nat) (x1 : Int32) (σ : jw_M) : Option (Int32 × jw_M) := if x1 < 0 then some (0, σ) else if (σ.1 1 5) ≤ x1 then some (0, σ) else some (1, σ)
set_option maxRecDepth 20000 in
theorem s_S_isLesson {N d : Nat} {x1 : Int32} (hd : 1 ≤ d) {σ : jw_M} {z : (Int32 × jw_M)} {Q : jw_Q} (h : f_S_isLesson N x1 σ = some z) (hQ : Q (some (.int z.1)) (jx_ShC, z.2)) : jw_C jp_kd jp_ys d 79 [.ref 1, .int x1] (jx_ShC, σ) Q := by
  obtain ⟨d, rfl⟩ : ∃ e, d = e + 1 := ⟨d - 1, by omega⟩
  replace hd : 0 ≤ d := by omega
  refine jx_C rfl rfl ?_
  unfold f_S_isLesson at h
  by_cases c1 : x1 < 0
  · rw [if_pos c1] at h
    suffices hh : ∃ n, jx_W jx_ShC d (some .boolean) jc_79 Q n 16 [some (.ref 1), some (.int x1)] [] σ by
      obtain ⟨n, hn⟩ := hh
      exact ⟨n + 2, And.intro (fun _ => hn) (fun zz => absurd c1 zz)⟩
    cases h
    exact ⟨2, And.intro (Or.inl rfl) (And.intro hQ (And.intro rfl rfl))⟩
  · rw [if_neg c1] at h
    suffices hh : ∃ n, jx_W jx_ShC d (some .boolean) jc_79 Q n 4 [some (.ref 1), some (.int x1)] [] σ by
      obtain ⟨n, hn⟩ := hh
      exact ⟨n + 2, And.intro (fun zz => absurd zz c1) (fun _ => hn)⟩
    by_cases c2 : (σ.1 1 5) ≤ x1
    · rw [if_pos c2] at h
      suffices hh : ∃ n, jx_W jx_ShC d (some .boolean) jc_79 Q n 16 [some (.ref 1), some (.int x1)] [] σ by
        obtain ⟨n, hn⟩ := hh
        exact ⟨n + 4, And.intro (fun _ => hn) (fun zz => absurd c2 zz)⟩
      cases h
      exact ⟨2, And.intro (Or.inl rfl) (And.intro hQ (And.intro rfl rfl))⟩
    · rw [if_neg c2] at h
      suffices hh : ∃ n, jx_W jx_ShC d (some .boolean) jc_79 Q n 12 [some (.ref 1), some (.int x1)] [] σ by
        obtain ⟨n, hn⟩ := hh
        exact ⟨n + 4, And.intro (fun zz => absurd zz c2) (fun _ => hn)⟩
      cases h
      exact ⟨3, And.intro (Or.inr rfl) (And.intro hQ (And.intro rfl rfl))⟩
