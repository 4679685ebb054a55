def jx_ShC : List jw_S := [.inl (12, [.inr (some 1), .inr (some 38), .inl 2, .inr (some 75), .inr (some 79), .inr (some 80), .inr (some 92), .inr (some 121)]), .inl (9, [.inl 0, .inr (some 2), .inr (some 3), .inr (some 4), .inr (some 5), .inl 0, .inr (some 6), .inr (some 7), .inr (some 8), .inr (some 9), .inr (some 10), .inr (some 11), .inl 0, .inr (some 12), .inl 0, .inl 0, .inr (some 19), .inr (some 27), .inr (some 31)]), .inr (0, 6, []), .inr (0, 6, []), .inr (0, 6, []), .inr (0, 6, []), .inr (0, 8, []), .inr (0, 8, []), .inr (0, 8, []), .inr (0, 8, []), .inr (0, 8, []), .inr (0, 17, []), .inr (4, 6, [some 13, some 14, some 15, some 16, some 17, some 18]), .inr (0, 4, []), .inr (0, 4, []), .inr (0, 4, []), .inr (0, 4, []), .inr (0, 4, []), .inr (0, 4, []), .inl (8, [.inl 0, .inl 0, .inr (some 20), .inr (some 21), .inr (some 22), .inr (some 23), .inr (some 24), .inr (some 25), .inr (some 26), .inl 0]), .inr (0, 8, []), .inr (0, 8, []), .inr (0, 8, []), .inr (0, 100, []), .inr (0, 100, []), .inr (0, 100, []), .inr (0, 105, []), .inl (6, [.inl 0, .inl 0, .inr (some 28), .inr (some 29), .inr (some 30)]), .inr (0, 48, []), .inr (0, 6, []), .inr (0, 8, []), .inr (3, 6, [some 32, some 33, some 34, some 35, some 36, some 37]), .inl (10, []), .inl (4, []), .inl (2, []), .inl (1, []), .inl (11, []), .inl (0, []), .inl (9, [.inl 0, .inr (some 39), .inr (some 40), .inr (some 41), .inr (some 42), .inl 0, .inr (some 43), .inr (some 44), .inr (some 45), .inr (some 46), .inr (some 47), .inr (some 48), .inl 0, .inr (some 49), .inl 0, .inl 0, .inr (some 56), .inr (some 64), .inr (some 68)]), .inr (0, 6, []), .inr (0, 6, []), .inr (0, 6, []), .inr (0, 6, []), .inr (0, 8, []), .inr (0, 8, []), .inr (0, 8, []), .inr (0, 8, []), .inr (0, 8, []), .inr (0, 17, []), .inr (4, 6, [some 50, some 51, some 52, some 53, some 54, some 55]), .inr (0, 4, []), .inr (0, 4, []), .inr (0, 4, []), .inr (0, 4, []), .inr (0, 4, []), .inr (0, 4, []), .inl (8, [.inl 0, .inl 0, .inr (some 57), .inr (some 58), .inr (some 59), .inr (some 60), .inr (some 61), .inr (some 62), .inr (some 63), .inl 0]), .inr (0, 8, []), .inr (0, 8, []), .inr (0, 8, []), .inr (0, 100, []), .inr (0, 100, []), .inr (0, 100, []), .inr (0, 105, []), .inl (6, [.inl 0, .inl 0, .inr (some 65), .inr (some 66), .inr (some 67)]), .inr (0, 48, []), .inr (0, 6, []), .inr (0, 8, []), .inr (3, 6, [some 69, some 70, some 71, some 72, some 73, some 74]), .inl (10, []), .inl (4, []), .inl (2, []), .inl (1, []), .inl (11, []), .inl (0, []), .inl (6, [.inl 0, .inl 0, .inr (some 76), .inr (some 77), .inr (some 78)]), .inr (0, 48, []), .inr (0, 6, []), .inr (0, 8, []), .inr (0, 6, []), .inl (7, [.inl 0, .inr (some 81), .inr (some 82), .inr (some 83), .inl 0, .inr (some 84)]), .inr (0, 200, []), .inr (0, 201, []), .inr (0, 201, []), .inl (8, [.inl 0, .inl 0, .inr (some 85), .inr (some 86), .inr (some 87), .inr (some 88), .inr (some 89), .inr (some 90), .inr (some 91), .inl 0]), .inr (0, 8, []), .inr (0, 8, []), .inr (0, 8, []), .inr (0, 100, []), .inr (0, 100, []), .inr (0, 100, []), .inr (0, 105, []), .inl (5, [.inr (some 93), .inr (some 114), .inl 0, .inl 0, .inl 0, .inr (some 115), .inl 0, .inl 0, .inl 0, .inl 0, .inl 0, .inr (some 116)]), .inr (2, 5, [some 94, some 98, some 102, some 106, some 110]), .inl (6, [.inl 0, .inl 0, .inr (some 95), .inr (some 96), .inr (some 97)]), .inr (0, 48, []), .inr (0, 6, []), .inr (0, 8, []), .inl (6, [.inl 0, .inl 0, .inr (some 99), .inr (some 100), .inr (some 101)]), .inr (0, 48, []), .inr (0, 6, []), .inr (0, 8, []), .inl (6, [.inl 0, .inl 0, .inr (some 103), .inr (some 104), .inr (some 105)]), .inr (0, 48, []), .inr (0, 6, []), .inr (0, 8, []), .inl (6, [.inl 0, .inl 0, .inr (some 107), .inr (some 108), .inr (some 109)]), .inr (0, 48, []), .inr (0, 6, []), .inr (0, 8, []), .inl (6, [.inl 0, .inl 0, .inr (some 111), .inr (some 112), .inr (some 113)]), .inr (0, 48, []), .inr (0, 6, []), .inr (0, 8, []), .inr (0, 4, []), .inr (0, 4, []), .inr (4, 4, [some 117, some 118, some 119, some 120]), .inr (0, 3, []), .inr (0, 3, []), .inr (0, 3, []), .inr (0, 3, []), .inl (3, [.inr (some 122), .inr (some 123), .inr (some 124), .inr (some 129), .inr (some 130), .inr (some 131), .inr (some 132), .inl 0, .inl 2, .inl 0, .inl 0]), .inr (0, 4, []), .inr (0, 4, []), .inr (4, 4, [some 125, some 126, some 127, some 128]), .inr (0, 40, []), .inr (0, 40, []), .inr (0, 40, []), .inr (0, 40, []), .inr (0, 4, []), .inr (0, 4, []), .inr (0, 4, []), .inr (0, 30, [])]
def jx_ShM : List jw_S := [.inl (13, [.inr (some 1), .inr (some 2), .inr (some 3), .inr (some 4), .inr (some 5), .inl 2, .inr (some 6), .inl 0, .inl 0, .inl 0, .inl 0, .inl 1, .inl 0, .inl 2, .inr (some 7), .inr (some 8), .inl 0, .inl 0, .inr (some 9), .inr (some 10), .inr (some 11), .inr (some 12), .inl 0, .inl 0, .inl 0, .inl 0, .inl 0, .inl 0, .inr (some 13), .inl 0, .inr (some 14), .inr (some 15), .inr (some 16), .inr (some 17), .inr (some 18), .inr (some 19), .inl 0, .inl 0, .inl 0, .inr (some 20), .inl 0, .inl 2]), .inr (0, 56, []), .inr (0, 392, []), .inr (0, 526, []), .inr (0, 56, []), .inr (0, 526, []), .inr (0, 200, []), .inr (0, 32, []), .inr (0, 400, []), .inr (0, 200, []), .inr (0, 8, []), .inr (0, 6, []), .inr (0, 64, []), .inr (0, 12, []), .inr (0, 4, []), .inr (0, 4, []), .inr (1, 160, []), .inr (0, 4, []), .inr (0, 4, []), .inr (0, 4, []), .inr (0, 30, [])]
/-! ===== the decompiled methods' base ===== -/
def jx_W (Sh : List jw_S) (d : Nat) (ret : Option FieldType) (cs : List jw_I) (Q : jw_Q) (n pc : Nat) (L : jw_L) (st : List Value) (σ : jw_M) : Prop := jw_wp jp_kd (jw_C jp_kd jp_ys d) (jw_bud jp_ys) (Sh.length + 0, jw_sz Sh + 0) ret cs (fun v h' => Q v h' ∧ h'.1.length = Sh.length + 0 ∧ jw_sz h'.1 = jw_sz Sh + 0) n pc L st (Sh, σ)
theorem jx_C {Sh : List jw_S} {d mid : Nat} {as : List Value} {σ : jw_M} {Q : jw_Q} {nm : MethodName} {cc : ByteArray} {nL : Nat} {ret : Option FieldType} {cs : List jw_I} (hy : jp_ys[mid]? = some (nm, cc, nL, ret, (0, 0), cs)) (hc : (Nat.ble (jw_args as).length nL && jw_nod as) = true) (hw : ∃ n, jx_W Sh d ret cs Q n 0 (jw_entry as nL) [] σ) : jw_C jp_kd jp_ys (d + 1) mid as (Sh, σ) Q := by
  rw [jw_C, hy]
  dsimp only
  rw [hc]
  exact hw
/-- a write -/
def jx_w (σ : jw_M) (a i : Nat) (v : Int32) : jw_M := (jw_up σ.1 a i v, σ.2)
def jx_wl (σ : jw_M) (a i : Nat) (v : Int64) : jw_M := (σ.1, jw_up σ.2 a i v)
def jx_in (i : Int32) (n : Nat) : Bool := decide (¬ (i < 0 ∨ n ≤ i.toNatClampNeg))
theorem jx_in_ok {i : Int32} {n : Nat} (h : jx_in i n = true) : vp_in i n := by
  unfold vp_in
  exact of_decide_eq_true h
theorem jx_ix4 {i : Int32} (h : vp_in i 4) : i = 0 ∨ i = 1 ∨ i = 2 ∨ i = 3 := by
  obtain ⟨j, hj, rfl⟩ := vp_in_of h (by decide)
  rcases (show j = 0 ∨ j = 1 ∨ j = 2 ∨ j = 3 by omega) with rfl | rfl | rfl | rfl <;> decide
theorem jx_ix5 {i : Int32} (h : vp_in i 5) : i = 0 ∨ i = 1 ∨ i = 2 ∨ i = 3 ∨ i = 4 := by
  obtain ⟨j, hj, rfl⟩ := vp_in_of h (by decide)
  rcases (show j = 0 ∨ j = 1 ∨ j = 2 ∨ j = 3 ∨ j = 4 by omega) with rfl | rfl | rfl | rfl | rfl <;> decide
theorem jx_ix6 {i : Int32} (h : vp_in i 6) : i = 0 ∨ i = 1 ∨ i = 2 ∨ i = 3 ∨ i = 4 ∨ i = 5 := by
  obtain ⟨j, hj, rfl⟩ := vp_in_of h (by decide)
  rcases (show j = 0 ∨ j = 1 ∨ j = 2 ∨ j = 3 ∨ j = 4 ∨ j = 5 by omega) with rfl | rfl | rfl | rfl | rfl | rfl <;> decide
set_option maxRecDepth 20000 in
theorem jx_ysl : jp_ys.length = 324 := by decide +kernel
theorem jx_none (m : Nat) (h : 324 ≤ m) : jp_ys[m]? = none := List.getElem?_eq_none (by rw [jx_ysl]; exact h)
theorem jx_len {d : Nat} {h : jw_H} {Q : jw_Q} (hd : 5 ≤ d) (hQ : Q (some (.int 103)) h) : jw_C jp_kd jp_ys d 100000 [.ref jw_str] h Q := by
  obtain ⟨d, rfl⟩ : ∃ e, d = e + 1 := ⟨d - 1, by omega⟩
  rw [jw_C, jx_none _ (Nat.le_of_ble_eq_true rfl)]
  dsimp only
  exact Or.inl ⟨rfl, by omega, rfl, hQ⟩
theorem jx_chr {d : Nat} {h : jw_H} {Q : jw_Q} {i : Int32} (hd : 5 ≤ d) (hi : vp_in i 103) (hQ : Q (some (.int (jw_chr i))) h) : jw_C jp_kd jp_ys d 100001 [.ref jw_str, .int i] h Q := by
  obtain ⟨d, rfl⟩ : ∃ e, d = e + 1 := ⟨d - 1, by omega⟩
  rw [jw_C, jx_none _ (Nat.le_of_ble_eq_true rfl)]
  dsimp only
  exact Or.inr ⟨rfl, by omega, i, rfl, hi, hQ⟩
theorem jx_alen {Sh : List jw_S} {σ : jw_M} {a n : Nat} {rs : List (Option Nat)} {f : Int32 → Prop} (ha : Sh[a]? = some (.inr (0, n, rs))) (hf : f (Int32.ofNat n)) : jw_alen (Sh, σ) a f := by
  unfold jw_alen
  dsimp only
  rw [ha]
  exact hf
theorem jx_iast {Sh : List jw_S} {σ : jw_M} {a n : Nat} {rs : List (Option Nat)} {x i : Int32} {r : List Value} {f : List Value → jw_H → Prop} (ha : Sh[a]? = some (.inr (0, n, rs))) (hi : vp_in i n) (hf : f r (Sh, jw_up σ.1 a i.toNatClampNeg x, σ.2)) : jw_iast (Sh, σ) (.int x :: .int i :: .ref a :: r) f := by
  unfold jw_iast
  dsimp only
  rw [ha]
  exact ⟨hi, hf⟩
theorem jx_copy {Sh : List jw_S} {σ : jw_M} {a b n : Nat} {rs rs' : List (Option Nat)} {m : Int32} {f : List Value → jw_H → Prop} (ha : Sh[a]? = some (.inr (0, n, rs))) (hb : Sh[b]? = some (.inr (0, n, rs'))) (hm : ¬ m < 0) (hn : m.toNatClampNeg = n) (hf : f [] (Sh, jw_lay σ.1 b (va_cpy (σ.1 a) (σ.1 b) 0 0 n), σ.2)) : jw_copy (Sh, σ) [.int m, .int (Int32.ofInt 0), .ref b, .int (Int32.ofInt 0), .ref a] f := by
  unfold jw_copy
  dsimp only
  rw [ha, hb]
  have z0 : (Int32.ofInt 0).toNatClampNeg = 0 := by decide
  refine ⟨⟨by decide, by decide, hm, by rw [z0, hn]; omega, by rw [z0, hn]; omega⟩, ?_⟩
  rw [z0, hn]
  exact hf
/-- an array's copy, of arrays of one length -/
def f_F_copyRow (N a b n n2 : Nat) (σ : jw_M) : Option jw_M := bif n == n2 && Nat.ble n 1000 then some (jw_lay σ.1 b (va_cpy (σ.1 a) (σ.1 b) 0 0 n), σ.2) else none
def f_J_min (N : Nat) (x0 x1 : Int32) (σ : jw_M) : Option (Int32 × jw_M) := if x1 < x0 then some (x1, σ) else some (x0, σ)
set_option maxRecDepth 20000 in
theorem s_J_min {N d : Nat} {x0 x1 : Int32} (hd : 1 ≤ d) {σ : jw_M} {z : Int32 × jw_M} {Q : jw_Q} (h : f_J_min N x0 x1 σ = some z) (hQ : Q (some (.int z.1)) (jx_ShC, z.2)) : jw_C jp_kd jp_ys d 322 [.int x0, .int x1] (jx_ShC, σ) Q := by
  obtain ⟨d, rfl⟩ : ∃ e, d = e + 1 := ⟨d - 1, by omega⟩
  refine jx_C rfl rfl ?_
  unfold f_J_min at h
  by_cases c1 : x1 < x0
  · rw [if_pos c1] at h
    cases h
    exact ⟨5, And.intro (fun _ => And.intro hQ (And.intro rfl rfl)) (fun zz => absurd c1 zz)⟩
  · rw [if_neg c1] at h
    cases h
    exact ⟨6, And.intro (fun zz => absurd zz c1) (fun _ => And.intro hQ (And.intro rfl rfl))⟩
set_option maxRecDepth 20000 in
theorem s_F_copyRow {N d a b n n2 : Nat} {rs rs' : List (Option Nat)} (hd : 2 ≤ d) (ha : jx_ShC[a]? = some (.inr (0, n, rs))) (hb : jx_ShC[b]? = some (.inr (0, n2, rs'))) {σ z : jw_M} {Q : jw_Q} (h : f_F_copyRow N a b n n2 σ = some z) (hQ : Q none (jx_ShC, z)) : jw_C jp_kd jp_ys d 176 [.ref a, .ref b] (jx_ShC, σ) Q := by
  obtain ⟨d, rfl⟩ : ∃ e, d = e + 1 := ⟨d - 1, by omega⟩
  refine jx_C rfl rfl ?_
  unfold f_F_copyRow at h
  cases c1 : (n == n2 && Nat.ble n 1000) with
  | false => rw [c1] at h; cases h
  | true =>
    rw [c1] at h
    cases h
    simp only [Bool.and_eq_true, beq_iff_eq, Nat.ble_eq] at c1
    obtain ⟨rfl, hn⟩ := c1
    have hmin : f_J_min N (Int32.ofNat n) (Int32.ofNat n) σ = some (Int32.ofNat n, σ) := by
      unfold f_J_min
      rw [ite_self]
    refine ⟨11, ?_⟩
    show jw_alen (jx_ShC, σ) a (fun x => jx_W jx_ShC d none jc_176 Q 5 6 [some (.ref a), some (.ref b)] [.int x, .int (Int32.ofInt 0), .ref b, .int (Int32.ofInt 0), .ref a] σ)
    refine jx_alen ha ?_
    show jw_alen (jx_ShC, σ) b (fun x => jx_W jx_ShC d none jc_176 Q 3 8 [some (.ref a), some (.ref b)] [.int x, .int (Int32.ofNat n), .int (Int32.ofInt 0), .ref b, .int (Int32.ofInt 0), .ref a] σ)
    refine jx_alen hb ?_
    refine s_J_min (N := N) (by omega) hmin ?_
    show jw_copy (jx_ShC, σ) [.int (Int32.ofNat n), .int (Int32.ofInt 0), .ref b, .int (Int32.ofInt 0), .ref a] (fun r h => jw_wp jp_kd (jw_C jp_kd jp_ys d) (jw_bud jp_ys) (jx_ShC.length + 0, jw_sz jx_ShC + 0) none jc_176 (fun v h' => Q v h' ∧ h'.1.length = jx_ShC.length + 0 ∧ jw_sz h'.1 = jw_sz jx_ShC + 0) 1 14 [some (.ref a), some (.ref b)] r h)
    exact jx_copy ha hb (nI_pos (by omega)) (nI_clamp (by omega)) (And.intro hQ (And.intro rfl rfl))
/-- Arrays.fill -/
def f_J_fill (N a n : Nat) (v : Int32) (σ : jw_M) : Option jw_M := bif Nat.ble n 1000 then some (jw_lay σ.1 a (fun k => if k < n then v else σ.1 a k), σ.2) else none
set_option maxRecDepth 20000 in
theorem s_J_fill_5 {d a n : Nat} {rs : List (Option Nat)} {v : Int32} {Q : jw_Q} (ha : jx_ShC[a]? = some (.inr (0, n, rs))) (hn : n ≤ 1000) : ∀ (m i : Nat) (M : Nat → Nat → Int32) (M2 : Nat → Nat → Int64), i + m = n → Q none (jx_ShC, jw_lay M a (fun k => if i ≤ k ∧ k < n then v else M a k), M2) → ∃ k, jx_W jx_ShC d none jc_323 Q k 5 [some (.ref a), some (.int v), some (.int (Int32.ofNat i)), some (.int (Int32.ofNat n))] [] (M, M2)
  | 0, i, M, M2, hi, hQ => by
    have hi : i = n := by omega
    subst hi
    have e : jw_lay M a (fun k => if i ≤ k ∧ k < i then v else M a k) = M := by
      funext c k
      unfold jw_lay
      by_cases hc : c = a
      · rw [if_pos hc, hc, if_neg (by omega)]
      · rw [if_neg hc]
    rw [e] at hQ
    exact ⟨4, And.intro (fun _ => And.intro hQ (And.intro rfl rfl)) (fun zz => absurd (nI_le (Nat.le_refl i) (by omega)) zz)⟩
  | m + 1, i, M, M2, hi, hQ => by
    have hlt : i < n := by omega
    have e : jw_lay (jw_up M a i v) a (fun k => if i + 1 ≤ k ∧ k < n then v else jw_up M a i v a k) = jw_lay M a (fun k => if i ≤ k ∧ k < n then v else M a k) := by
      funext c k
      unfold jw_lay
      by_cases hc : c = a
      · rw [if_pos hc, if_pos hc, jw_up_eq, va_up]
        by_cases hk : k = i
        · rw [if_neg (by omega), if_pos hk, if_pos (by omega)]
        · by_cases hk2 : i + 1 ≤ k ∧ k < n
          · rw [if_pos hk2, if_pos (by omega)]
          · rw [if_neg hk2, if_neg hk, if_neg (by omega)]
      · rw [if_neg hc, if_neg hc, jw_up_ne hc]
    obtain ⟨k, hk⟩ := s_J_fill_5 (d := d) ha hn m (i + 1) (jw_up M a i v) M2 (by omega) (by rw [e]; exact hQ)
    have e2 : Int32.ofNat (i + 1) = Int32.ofNat i + Int32.ofInt 1 := nI_succ i
    rw [e2] at hk
    have hc : (Int32.ofNat i).toNatClampNeg = i := nI_clamp (by omega)
    refine ⟨k + 9, And.intro (fun zz => absurd zz (nI_ge hlt (by omega))) (fun _ => jx_iast ha (vp_in_nI hlt (by omega)) ?_)⟩
    rw [hc]
    exact hk
set_option maxRecDepth 20000 in
theorem s_J_fill {N d a n : Nat} {rs : List (Option Nat)} {v : Int32} (hd : 2 ≤ d) (ha : jx_ShC[a]? = some (.inr (0, n, rs))) {σ z : jw_M} {Q : jw_Q} (h : f_J_fill N a n v σ = some z) (hQ : Q none (jx_ShC, z)) : jw_C jp_kd jp_ys d 323 [.ref a, .int v] (jx_ShC, σ) Q := by
  obtain ⟨d, rfl⟩ : ∃ e, d = e + 1 := ⟨d - 1, by omega⟩
  refine jx_C rfl rfl ?_
  unfold f_J_fill at h
  cases c1 : Nat.ble n 1000 with
  | false => rw [c1] at h; cases h
  | true =>
    rw [c1] at h
    cases h
    have hn : n ≤ 1000 := by simpa using c1
    have e : (fun k => if k < n then v else σ.1 a k) = (fun k => if 0 ≤ k ∧ k < n then v else σ.1 a k) := by
      funext k
      simp
    rw [e] at hQ
    obtain ⟨k, hk⟩ := s_J_fill_5 (d := d) (Q := Q) (v := v) ha hn n 0 σ.1 σ.2 (by omega) hQ
    refine ⟨k + 5, ?_⟩
    show jw_alen (jx_ShC, σ) a (fun x => jx_W jx_ShC d none jc_323 Q (k + 1) 4 [some (.ref a), some (.int v), some (.int (Int32.ofInt 0)), none] [.int x] σ)
    exact jx_alen ha hk
