/-! ===== pure: a school in good order, how far all have come, an hour ===== -/
abbrev q_f : Type := Nat → Int32
def q_wf (S : q_f) (n m d : Nat) : Prop := n ≤ 6 ∧ m ≤ 8 ∧ 1 ≤ d ∧ d ≤ 16 ∧ S 2 = nI n ∧ S 3 = nI m ∧ S 0 = nI d ∧ (∀ p, p < n → (∃ k, 1 ≤ k ∧ k ≤ 5 ∧ S (6 + 3 * p + 0) = nI k) ∧ (∃ q, 1 ≤ q ∧ q ≤ 9 ∧ S (6 + 3 * p + 1) = nI q) ∧ ∃ t, 1 ≤ t ∧ t ≤ 9 ∧ S (6 + 3 * p + 2) = nI t) ∧ (∀ l, l < m → (∃ hd, 1 ≤ hd ∧ hd ≤ 20 ∧ S (24 + 5 * l + 0) = nI hd) ∧ (S (24 + 5 * l + 1) = -1 ∨ ∃ j, j < l ∧ S (24 + 5 * l + 1) = nI j) ∧ (∃ a b, a ≤ b ∧ b ≤ 15 ∧ S (24 + 5 * l + 2) = nI a ∧ S (24 + 5 * l + 3) = nI b) ∧ ∃ r, 1 ≤ r ∧ r ≤ 6 ∧ S (24 + 5 * l + 4) = nI r)
def q_RM (S : q_f) (L : q_L) : Prop := S 4 = nI L.length ∧ L.length ≤ 8 ∧ q_rM S 0 0 L ∧ ∀ x, x ∈ L → q_xo x
def q_wr (S : q_f) (n m d : Nat) (row : q_f) (h : Nat) : Prop := row 0 = nI h ∧ h ≤ d ∧ (∀ p, p < 6 → (∀ i, m ≤ i → i < 32 → bt (row (2 + p)) i = false) ∧ ∀ l, m ≤ l → l < 8 → row (8 + 8 * p + l) = 0) ∧ (∀ p, n ≤ p → p < 6 → row (2 + p) = 0 ∧ ∀ l, l < 8 → row (8 + 8 * p + l) = 0) ∧ ∀ p l, p < n → l < m → bt (row (2 + p)) l = false → ∃ x hd, x < hd ∧ hd ≤ 20 ∧ row (8 + 8 * p + l) = nI x ∧ S (24 + 5 * l + 0) = nI hd
def q_opF (S row seats : q_f) (p l : Nat) : Bool := !bt (row (2 + p)) l && (decide (S (24 + 5 * l + 1) < 0) || bt (row (2 + p)) (S (24 + 5 * l + 1)).toNatClampNeg) && (!decide (row 0 < S (24 + 5 * l + 2)) && !decide (S (24 + 5 * l + 3) < row 0)) && !decide (S (24 + 5 * l + 4) ≤ seats l)
def q_lkF (S row : q_f) (p l : Nat) : Int32 := S (24 + 5 * l + 0) - row (8 + 8 * p + l)
def q_td (S : q_f) (L : q_L) (row : q_f) (p : Nat) : Nat := q_deed (q_F5 (row 0) (q_bc (row (2 + p))) (S (6 + 3 * p + 1)) (S (6 + 3 * p + 2)) (nI p)) (S (6 + 3 * p + 0)).toNatClampNeg L
def q_cho (S : q_f) (L : q_L) (row seats : q_f) (p : Nat) : Nat := q_pick (q_opF S row seats p) (q_lkF S row p) (q_dM (q_td S L row p)) (S 3).toNatClampNeg
abbrev q_st : Type := Int32 × q_f × q_f
def q_pts (S row : q_f) (p l : Nat) : Int32 := row (8 + 8 * p + l) + q_pc (S (6 + 3 * p + 0)) (S (6 + 3 * p + 1)) (row 0)
def q_sit (S : q_f) (p l : Nat) (z : q_st) : q_st := if S (24 + 5 * l + 0) ≤ q_pts S z.2.1 p l then (z.1 + S (24 + 5 * l + 0), va_up (va_up z.2.1 (8 + 8 * p + l) (q_pts S z.2.1 p l)) (2 + p) (z.2.1 (2 + p) ||| ((1 : Int32) <<< (nI l &&& 31))), va_up z.2.2 l (z.2.2 l + 1)) else (z.1, va_up z.2.1 (8 + 8 * p + l) (q_pts S z.2.1 p l), va_up z.2.2 l (z.2.2 l + 1))
def q_g1 (S : q_f) (L : q_L) (a : Int32) (p : Nat) (z : q_st) : q_st := if nI p + 1 = a then z else if q_cho S L z.2.1 z.2.2 p = 8 then z else q_sit S p (q_cho S L z.2.1 z.2.2 p) z
def q_gL (S : q_f) (L : q_L) (a : Int32) : Nat → Nat → q_st → q_st
  | 0, _, z => z
  | r + 1, p, z => q_gL S L a r (p + 1) (q_g1 S L a p z)
def q_end (z : q_st) : q_st := (z.1, va_up (va_up z.2.1 0 (z.2.1 0 + 1)) 1 (z.2.1 1 + z.1), z.2.2)
def q_go (S : q_f) (L : q_L) (a : Int32) (row : q_f) : q_st := q_end (q_gL S L a (S 2).toNatClampNeg 0 (0, row, fun _ => 0))
theorem q_up (f : q_f) (k : Nat) (v : Int32) (j : Nat) : va_up f k v j = if j = k then v else f j := rfl
theorem q_upS {f : q_f} {k : Nat} {v : Int32} : va_up f k v k = v := if_pos rfl
theorem q_upN {f : q_f} {k j : Nat} {v : Int32} (h : j ≠ k) : va_up f k v j = f j := if_neg h
theorem q_w1 (σ : jw_M) (a i : Nat) (v : Int32) : (jx_w σ a i v).1 a = va_up (σ.1 a) i v := by
  funext j
  rw [q_w, q_up]
  by_cases h : j = i
  · rw [if_pos ⟨rfl, h⟩, if_pos h]
  · rw [if_neg (fun z => h z.2), if_neg h]
theorem q_w0 {σ : jw_M} {a c i : Nat} {v : Int32} (h : c ≠ a) : (jx_w σ a i v).1 c = σ.1 c := funext fun _ => q_wC h
/-! ===== the choice ===== -/
theorem q_ch_cg {op op' : Nat → Bool} {lk lk' : Nat → Int32} {t : Int32} {m : Nat} (h1 : ∀ j, j < m → op j = op' j) (h2 : ∀ j, j < 8 → lk j = lk' j) (hm : m ≤ 8) : ∀ k b l, l + k ≤ m → b ≤ 8 → q_ch op lk t k b l = q_ch op' lk' t k b l
  | 0, _, _, _, _ => rfl
  | k + 1, b, l, hl, hb => by
    rw [q_ch, q_ch, h1 l (by omega), h2 l (by omega)]
    by_cases c : b = 8
    · by_cases g : op' l = true
      · rw [if_pos ⟨g, Or.inl c⟩, if_pos ⟨g, Or.inl c⟩]
        exact q_ch_cg h1 h2 hm k _ _ (by omega) (by omega)
      · rw [if_neg (fun z => g z.1), if_neg (fun z => g z.1)]
        exact q_ch_cg h1 h2 hm k _ _ (by omega) (by omega)
    · rw [h2 b (by omega)]
      refine q_ch_cg h1 h2 hm k _ _ (by omega) ?_
      split <;> omega
theorem q_ch_is {op : Nat → Bool} {lk : Nat → Int32} {t : Int32} : ∀ k b l, (b = 8 ∨ (op b = true ∧ b < l)) → q_ch op lk t k b l = 8 ∨ (op (q_ch op lk t k b l) = true ∧ q_ch op lk t k b l < l + k)
  | 0, b, l, h => h
  | k + 1, b, l, h => by
    rw [q_ch, show l + (k + 1) = (l + 1) + k by omega]
    refine q_ch_is k _ _ ?_
    by_cases c : op l = true ∧ (b = 8 ∨ t = 0 ∨ (t = 1 ∧ lk l < lk b))
    · rw [if_pos c]
      exact Or.inr ⟨c.1, by omega⟩
    · rw [if_neg c]
      rcases h with h | h
      · exact Or.inl h
      · exact Or.inr ⟨h.1, by omega⟩
theorem q_pick_is {op : Nat → Bool} {lk : Nat → Int32} {t : Int32} {m : Nat} : q_pick op lk t m = 8 ∨ (op (q_pick op lk t m) = true ∧ q_pick op lk t m < m) := by
  unfold q_pick
  by_cases c : t = 2
  · rw [if_pos c]
    exact Or.inl rfl
  · rw [if_neg c]
    have z := q_ch_is (op := op) (lk := lk) (t := t) m 8 0 (Or.inl rfl)
    rw [Nat.zero_add] at z
    exact z
theorem q_pick_cg {op op' : Nat → Bool} {lk lk' : Nat → Int32} {t : Int32} {m : Nat} (h1 : ∀ j, j < m → op j = op' j) (h2 : ∀ j, j < 8 → lk j = lk' j) (hm : m ≤ 8) : q_pick op lk t m = q_pick op' lk' t m := by
  unfold q_pick
  rw [q_ch_cg h1 h2 hm m 8 0 (by omega) (by omega)]
theorem q_deed_is (F : Nat → Int32) (k : Nat) : ∀ L : q_L, (∀ x, x ∈ L → q_xo x) → q_deed F k L = 0 ∨ q_deed F k L = 1 ∨ q_deed F k L = 2 ∨ q_deed F k L = 3
  | [], _ => Or.inr (Or.inr (Or.inr rfl))
  | x :: L, h => by
    rw [q_deed]
    have z := (h x (List.mem_cons_self ..)).2.1
    split
    · omega
    · exact q_deed_is F k L (fun y hy => h y (List.mem_cons_of_mem _ hy))
/-- the class's word for a deed and the reference's choose alike -/
theorem q_pick_d {op : Nat → Bool} {lk : Nat → Int32} {m t : Nat} : q_pick op lk (nI t) m = q_pick op lk (q_dM t) m := by
  unfold q_dM
  by_cases c : t = 3
  · rw [if_pos c, c]
    exact q_pick_m
  · rw [if_neg c]
theorem q_cho_is {S : q_f} {L : q_L} {row seats : q_f} {p m : Nat} (hm : m ≤ 8) (h3 : S 3 = nI m) : q_cho S L row seats p = 8 ∨ (q_opF S row seats p (q_cho S L row seats p) = true ∧ q_cho S L row seats p < m) := by
  unfold q_cho
  rw [h3, nI_clamp (by omega)]
  exact q_pick_is
/-! ===== numbers ===== -/
theorem q_pcT : ∀ k, k < 6 → ∀ q, q < 10 → ∀ h, h < 17 → q_pc (nI k) (nI q) (nI h) = nI (q_pc (nI k) (nI q) (nI h)).toNatClampNeg ∧ (q_pc (nI k) (nI q) (nI h)).toNatClampNeg < 30 := by decide +kernel
theorem q_pcB {k q h : Nat} (hk : k < 6) (hq : q < 10) (hh : h < 17) : ∃ c, c < 30 ∧ q_pc (nI k) (nI q) (nI h) = nI c := ⟨_, (q_pcT k hk q hq h hh).2, (q_pcT k hk q hq h hh).1⟩
theorem q_wr_sm {S row : q_f} {n m d h p : Nat} (hm : m ≤ 8) (hp : p < 6) (hr : q_wr S n m d row h) : ∃ b, b < 256 ∧ row (2 + p) = nI b := by
  obtain ⟨b, hb, e, _⟩ := q_sm (row (2 + p)) (fun i h1 h2 => (hr.2.2.1 p hp).1 i (by omega) h2)
  exact ⟨b, hb, e⟩
/-- sitting keeps the good order -/
theorem q_wr_sit {S : q_f} {n m d h p l : Nat} {z : q_st} (hw : q_wf S n m d) (hr : q_wr S n m d z.2.1 h) (hp : p < n) (hl : l < m) (ho : bt (z.2.1 (2 + p)) l = false) : q_wr S n m d (q_sit S p l z).2.1 h := by
  obtain ⟨hn, hm, hd1, hd, _, _, _, hps, hls⟩ := hw
  obtain ⟨r0, rh, r1, r2, r3⟩ := hr
  obtain ⟨⟨k, k1, k5, ek⟩, ⟨q, q1, q9, eq⟩, _⟩ := hps p hp
  obtain ⟨c, hc, ec⟩ := q_pcB (k := k) (q := q) (h := h) (by omega) (by omega) (by omega)
  obtain ⟨x, hd', hx, hh, ex, eh⟩ := r3 p l hp hl ho
  have ep : q_pts S z.2.1 p l = nI (x + c) := by
    unfold q_pts
    rw [ex, ek, eq, r0, ec, nI_add]
  unfold q_sit
  by_cases g : S (24 + 5 * l + 0) ≤ q_pts S z.2.1 p l
  · rw [if_pos g]
    dsimp only
    refine ⟨?_, rh, fun p' hp' => ⟨fun i h1 h2 => ?_, fun l' h1 h2 => ?_⟩, fun p' h1 h2 => ⟨?_, fun l' hl' => ?_⟩, fun p' l' h1 h2 h3 => ?_⟩
    · rw [q_upN (by omega), q_upN (by omega)]
      exact r0
    · by_cases e : p' = p
      · subst e
        rw [q_upS, b_or, q_sh1 (by omega) h2, (r1 p' hp').1 i h1 h2, decide_eq_false (by omega), Bool.or_false]
      · rw [q_upN (by omega), q_upN (by omega)]
        exact (r1 p' hp').1 i h1 h2
    · rw [q_upN (by omega), q_upN (by omega)]
      exact (r1 p' hp').2 l' h1 h2
    · rw [q_upN (by omega), q_upN (by omega)]
      exact (r2 p' h1 h2).1
    · rw [q_upN (by omega), q_upN (by omega)]
      exact (r2 p' h1 h2).2 l' hl'
    · by_cases e : p' = p
      · subst e
        by_cases e2 : l' = l
        · subst e2
          rw [q_upS, b_or, q_sh1 (by omega) (by omega), decide_eq_true rfl, Bool.or_true] at h3
          cases h3
        · rw [q_upS, b_or, q_sh1 (by omega) (by omega), decide_eq_false e2, Bool.or_false] at h3
          rw [q_upN (by omega), q_upN (by omega)]
          exact r3 p' l' h1 h2 h3
      · rw [q_upN (show 2 + p' ≠ 2 + p by omega), q_upN (by omega)] at h3
        rw [q_upN (by omega), q_upN (by omega)]
        exact r3 p' l' h1 h2 h3
  · rw [if_neg g]
    dsimp only
    refine ⟨?_, rh, fun p' hp' => ⟨fun i h1 h2 => ?_, fun l' h1 h2 => ?_⟩, fun p' h1 h2 => ⟨?_, fun l' hl' => ?_⟩, fun p' l' h1 h2 h3 => ?_⟩
    · rw [q_upN (by omega)]
      exact r0
    · rw [q_upN (by omega)]
      exact (r1 p' hp').1 i h1 h2
    · rw [q_upN (by omega)]
      exact (r1 p' hp').2 l' h1 h2
    · rw [q_upN (by omega)]
      exact (r2 p' h1 h2).1
    · rw [q_upN (by omega)]
      exact (r2 p' h1 h2).2 l' hl'
    · rw [q_upN (by omega)] at h3
      by_cases e : p' = p ∧ l' = l
      · obtain ⟨rfl, rfl⟩ := e
        rw [q_upS, ep]
        rw [ep, eh, nI_leI (by omega) (by omega)] at g
        exact ⟨x + c, hd', by omega, hh, rfl, eh⟩
      · rw [q_upN (by omega)]
        exact r3 p' l' h1 h2 h3
theorem q_op_ln {S row seats : q_f} {p l : Nat} (h : q_opF S row seats p l = true) : bt (row (2 + p)) l = false := by
  unfold q_opF at h
  simp only [Bool.and_eq_true, Bool.not_eq_true'] at h
  exact h.1.1.1
theorem q_op_st {S row seats : q_f} {p l : Nat} (h : q_opF S row seats p l = true) : ¬ S (24 + 5 * l + 4) ≤ seats l := by
  unfold q_opF at h
  simp only [Bool.and_eq_true, Bool.not_eq_true', decide_eq_false_iff_not] at h
  exact h.2
theorem q_wr_g1 {S : q_f} {L : q_L} {a : Int32} {n m d h p : Nat} {z : q_st} (hw : q_wf S n m d) (hr : q_wr S n m d z.2.1 h) (hp : p < n) : q_wr S n m d (q_g1 S L a p z).2.1 h := by
  unfold q_g1
  by_cases c : nI p + 1 = a
  · rw [if_pos c]
    exact hr
  · rw [if_neg c]
    by_cases e : q_cho S L z.2.1 z.2.2 p = 8
    · rw [if_pos e]
      exact hr
    · rw [if_neg e]
      rcases q_cho_is (L := L) (row := z.2.1) (seats := z.2.2) (p := p) hw.2.1 hw.2.2.2.2.2.1 with y | y
      · exact absurd y e
      · exact q_wr_sit hw hr hp y.2 (q_op_ln y.1)
theorem q_wr_gL {S : q_f} {L : q_L} {a : Int32} {n m d h : Nat} (hw : q_wf S n m d) : ∀ (r p : Nat) (z : q_st), p + r = n → q_wr S n m d z.2.1 h → q_wr S n m d (q_gL S L a r p z).2.1 h
  | 0, _, _, _, hr => hr
  | r + 1, p, z, hp, hr => q_wr_gL hw r (p + 1) _ (by omega) (q_wr_g1 hw hr (by omega))
theorem q_wr_end {S : q_f} {n m d h : Nat} {z : q_st} (hr : q_wr S n m d z.2.1 h) (hh : h < d) : q_wr S n m d (q_end z).2.1 (h + 1) := by
  obtain ⟨r0, rh, r1, r2, r3⟩ := hr
  unfold q_end
  dsimp only
  refine ⟨?_, by omega, fun p' hp' => ⟨fun i h1 h2 => ?_, fun l' h1 h2 => ?_⟩, fun p' h1 h2 => ⟨?_, fun l' hl' => ?_⟩, fun p' l' h1 h2 h3 => ?_⟩
  · rw [q_upN (by omega), q_upS, r0, nI_1]
  · rw [q_upN (by omega), q_upN (by omega)]
    exact (r1 p' hp').1 i h1 h2
  · rw [q_upN (by omega), q_upN (by omega)]
    exact (r1 p' hp').2 l' h1 h2
  · rw [q_upN (by omega), q_upN (by omega)]
    exact (r2 p' h1 h2).1
  · rw [q_upN (by omega), q_upN (by omega)]
    exact (r2 p' h1 h2).2 l' hl'
  · rw [q_upN (by omega), q_upN (by omega)] at h3 ⊢
    exact r3 p' l' h1 h2 h3
theorem q_wr_go {S : q_f} {L : q_L} {a : Int32} {n m d h : Nat} {row : q_f} (hw : q_wf S n m d) (hr : q_wr S n m d row h) (hh : h < d) : q_wr S n m d (q_go S L a row).2.1 (h + 1) := by
  unfold q_go
  rw [hw.2.2.2.2.1, nI_clamp (Nat.lt_of_le_of_lt hw.1 (by decide))]
  exact q_wr_end (q_wr_gL hw n 0 (0, row, fun _ => 0) (by omega) hr) hh
/-- beyond a row's places nothing changes -/
theorem q_hi_go {S : q_f} {L : q_L} {a : Int32} {n m d : Nat} (hw : q_wf S n m d) {k : Nat} (hk : 56 ≤ k) : ∀ (r p : Nat) (z : q_st), p + r = n → (q_gL S L a r p z).2.1 k = z.2.1 k
  | 0, _, _, _ => rfl
  | r + 1, p, z, hp => by
    rw [q_gL, q_hi_go hw hk r (p + 1) _ (by omega)]
    have hn := hw.1
    have hm := hw.2.1
    unfold q_g1
    by_cases c : nI p + 1 = a
    · rw [if_pos c]
    · rw [if_neg c]
      by_cases e : q_cho S L z.2.1 z.2.2 p = 8
      · rw [if_pos e]
      · rw [if_neg e]
        rcases q_cho_is (L := L) (row := z.2.1) (seats := z.2.2) (p := p) hw.2.1 hw.2.2.2.2.2.1 with y | y
        · exact absurd y e
        · have y2 := y.2
          unfold q_sit
          split
          · dsimp only
            rw [q_upN (by omega), q_upN (by omega)]
          · dsimp only
            rw [q_upN (by omega)]
theorem q_go_hi {S : q_f} {L : q_L} {a : Int32} {n m d : Nat} {row : q_f} (hw : q_wf S n m d) {k : Nat} (hk : 56 ≤ k) : (q_go S L a row).2.1 k = row k := by
  unfold q_go q_end
  dsimp only
  rw [q_upN (by omega), q_upN (by omega), hw.2.2.2.2.1, nI_clamp (Nat.lt_of_le_of_lt hw.1 (by decide))]
  exact q_hi_go hw hk n 0 _ (by omega)
