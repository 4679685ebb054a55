/-! ===== pure: an hour, on the reference's side ===== -/
def q_p1 (c _i : Nat) : Bool := c == 1 || c == 9 || c == 10
theorem e_empty {N : Nat} : ∀ (r l k : Nat) (σ : jw_M), l + r = 8 → r < k → ∃ σ', f_M_emptySeats_2 N k (nI l) σ = some σ' ∧ (∀ i, l ≤ i → i < 8 → σ'.1 10 i = 0) ∧ (∀ i, i < l → σ'.1 10 i = σ.1 10 i) ∧ (∀ c, c ≠ 10 → σ'.1 c = σ.1 c) ∧ σ'.2 = σ.2
  | 0, l, 0, _, _, h => absurd h (by omega)
  | r + 1, l, 0, _, _, h => absurd h (by omega)
  | 0, l, k + 1, σ, hl, _ => by
    refine ⟨σ, ?_, fun i h1 h2 => absurd h1 (by omega), fun _ _ => rfl, fun _ _ => rfl, rfl⟩
    rw [f_M_emptySeats_2, if_pos (show (8 : Int32) ≤ nI l from nI_le (a := 8) (by omega) (by omega))]
  | r + 1, l, k + 1, σ, hl, hk => by
    obtain ⟨σ', e1, e2, e3, e4, e5⟩ := e_empty (N := N) r (l + 1) k (jx_w σ 10 l 0) (by omega) (by omega)
    refine ⟨σ', ?_, fun i h1 h2 => ?_, fun i hi => ?_, fun c hc => ?_, ?_⟩
    · rw [f_M_emptySeats_2, if_neg (show ¬ (8 : Int32) ≤ nI l from nI_ge (b := 8) (by omega) (by omega)), q_in (show l < 8 by omega) (by decide), cond_true, nI_clamp (show l < 2 ^ 31 by omega), nI_1]
      exact e1
    · by_cases c : i = l
      · subst c
        rw [e3 i (by omega), q_wS]
      · exact e2 i (by omega) h2
    · rw [e3 i (by omega), q_wI (by omega)]
    · rw [e4 c hc, q_w0 hc]
    · rw [e5]
      rfl
theorem e_Mcho {N n m d h p : Nat} {S : q_f} {L : q_L} {row seats : q_f} {σ : jw_M} (hN : 300 ≤ N) (hw : q_wf S n m d) (hR : q_RM S L) (hr : q_wr S n m d row h) (hp : p < n) (h3 : σ.1 3 = S) (h1 : σ.1 1 = row) (h10 : ∀ l, l < 8 → σ.1 10 l = seats l) : ∃ σ', f_M_choiceOf N (nI p) σ = some (nI (q_cho S L row seats p), σ') ∧ q_n9 σ σ' := by
  obtain ⟨hn, hm, _, _, _, e3, _, hps, hls⟩ := hw
  obtain ⟨⟨k, k1, k5, ek⟩, _, _⟩ := hps p hp
  obtain ⟨b, hb, eb⟩ := q_wr_sm hm (show p < 6 by omega) hr
  obtain ⟨σ', f1, f2⟩ := e_Mrule (N := N) (p := p) (k := k) (L := L) (σ := σ) hN (by omega) (by omega) (by omega) (by rw [h3]; exact ek) hb (by rw [h1]; exact eb) hR.2.1 (by rw [h3]; exact hR.1) (by rw [h3]; exact hR.2.2.1) hR.2.2.2
  have n3 : σ'.1 3 = S := by
    rw [← h3]
    exact funext fun i => f2.1 3 i (by decide)
  have n1 : σ'.1 1 = row := by
    rw [← h1]
    exact funext fun i => f2.1 1 i (by decide)
  refine ⟨σ', ?_, f2⟩
  rw [e_Mchoice (m := m) (by omega) (by omega) hm f1 (by rw [n3]; exact e3) (by
    intro l hl
    rw [n3]
    obtain ⟨_, z, _, _⟩ := hls l hl
    rcases z with z | ⟨j, hj, z⟩
    · rw [z]
      exact Or.inl (by decide)
    · exact Or.inr ⟨j, by omega, z⟩)]
  unfold q_cho
  rw [e3, nI_clamp (by omega)]
  rw [show q_td S L row p = q_deed (q_F5 (σ.1 1 0) (q_bc (σ.1 1 (2 + p))) (σ.1 3 (6 + 3 * p + 1)) (σ.1 3 (6 + 3 * p + 2)) (nI p)) k L by
    unfold q_td
    rw [h3, h1, ek, nI_clamp (by omega)]]
  rw [q_pick_cg (op' := q_opF S row seats p) (lk' := q_lkF S row p) (fun j hj => ?_) (fun j hj => ?_) hm]
  · unfold q_op q_opF
    rw [n3, n1, f2.1 10 j (by decide), h10 j (by omega)]
  · unfold q_lkM q_lkF
    rw [n3, n1]
theorem e_goes8 {N n m d h : Nat} {S : q_f} {L : q_L} {a : Int32} (hN : 300 ≤ N) (hw : q_wf S n m d) (hR : q_RM S L) : ∀ (r p k : Nat) (z : q_st) (σ : jw_M), p + r = n → r < k → σ.1 3 = S → σ.1 1 = z.2.1 → (∀ l, l < 8 → σ.1 10 l = z.2.2 l) → q_wr S n m d z.2.1 h → ∃ σ', f_M_goes_8 N k a z.1 (nI p) σ = some ((q_end (q_gL S L a r p z)).1, σ') ∧ σ'.1 1 = (q_end (q_gL S L a r p z)).2.1 ∧ (∀ l, l < 8 → σ'.1 10 l = (q_end (q_gL S L a r p z)).2.2 l) ∧ q_fr q_p1 σ σ'
  | 0, p, 0, _, _, _, h, _, _, _, _ => absurd h (by omega)
  | r + 1, p, 0, _, _, _, h, _, _, _, _ => absurd h (by omega)
  | 0, p, k + 1, z, σ, hp, _, h3, h1, h10, hr => by
    have hn := hw.1
    refine ⟨jx_w (jx_w σ 1 0 (σ.1 1 0 + 1)) 1 1 (σ.1 1 1 + z.1), ?_, ?_, ?_, ?_⟩
    · rw [f_M_goes_8, h3, hw.2.2.2.2.1, if_pos (nI_le (by omega) (by omega)), q_wI (show (1 : Nat) ≠ 0 by decide)]
      rfl
    · rw [q_w1, q_w1, h1]
      rfl
    · intro l hl
      rw [q_wC (by decide), q_wC (by decide), h10 l hl]
      rfl
    · exact q_fr_w (q_fr_w (q_fr_r _ _) rfl) rfl
  | r + 1, p, k + 1, z, σ, hp, hk, h3, h1, h10, hr => by
    have hn := hw.1
    have hm := hw.2.1
    rw [f_M_goes_8, h3, hw.2.2.2.2.1, if_neg (nI_ge (by omega) (by omega)), q_gL]
    have hr' := q_wr_g1 (L := L) (a := a) hw hr (show p < n by omega)
    unfold q_g1 at hr' ⊢
    unfold f_M_goes_35 f_M_goes_56
    by_cases c : nI p + 1 = a
    · rw [if_pos c] at hr'
      rw [if_pos c, if_pos c, if_pos rfl, Int32.add_zero, nI_1]
      exact e_goes8 hN hw hR r (p + 1) k z σ (by omega) (by omega) h3 h1 h10 hr
    · rw [if_neg c] at hr'
      rw [if_neg c, if_neg c]
      obtain ⟨τ, f1, f2⟩ := e_Mcho (N := N) (L := L) (seats := z.2.2) hN hw hR hr (show p < n by omega) h3 h1 h10
      have t3 : τ.1 3 = S := by
        rw [← h3]
        exact funext fun i => f2.1 3 i (by decide)
      have t1 : τ.1 1 = z.2.1 := by
        rw [← h1]
        exact funext fun i => f2.1 1 i (by decide)
      have t10 : ∀ l, l < 8 → τ.1 10 l = z.2.2 l := fun l hl => by
        rw [f2.1 10 l (by decide), h10 l hl]
      have fτ : q_fr q_p1 σ τ := q_fr_m (q_n9_fr f2) (fun c i y => by
        simp only [q_p1, Bool.or_eq_false_iff] at y
        exact y.1.2)
      rw [f1, Option.bind_some]
      dsimp only
      by_cases e : q_cho S L z.2.1 z.2.2 p = 8
      · rw [if_pos e] at hr'
        rw [if_pos e, if_pos (show nI (q_cho S L z.2.1 z.2.2 p) = 8 by rw [e]; rfl), Int32.add_zero, nI_1]
        obtain ⟨σ', g1, g2, g3, g4⟩ := e_goes8 hN hw hR r (p + 1) k z τ (by omega) (by omega) t3 t1 t10 hr'
        exact ⟨σ', g1, g2, g3, q_fr_t fτ g4⟩
      · rw [if_neg e] at hr'
        rw [if_neg e]
        rcases q_cho_is (L := L) (row := z.2.1) (seats := z.2.2) (p := p) hw.2.1 hw.2.2.2.2.2.1 with y | y
        · exact absurd y e
        · have y2 := y.2
          generalize q_cho S L z.2.1 z.2.2 p = l at *
          rw [if_neg (show ¬ nI l = 8 from fun w => e ((nI_eq (b := 8) (by omega) (by omega)).mp w)), e_sits (show p < 6 by omega) (show l < 8 by omega), Option.bind_some, t3, t1]
          unfold q_sit at hr' ⊢
          unfold q_pts at hr' ⊢
          by_cases g : S (24 + 5 * l + 0) ≤ z.2.1 (8 + 8 * p + l) + q_pc (S (6 + 3 * p + 0)) (S (6 + 3 * p + 1)) (z.2.1 0)
          · rw [if_pos g] at hr'
            rw [if_pos g, if_pos g, nI_1]
            obtain ⟨σ', g1, g2, g3, g4⟩ := e_goes8 hN hw hR r (p + 1) k (z.1 + S (24 + 5 * l + 0), va_up (va_up z.2.1 (8 + 8 * p + l) (z.2.1 (8 + 8 * p + l) + q_pc (S (6 + 3 * p + 0)) (S (6 + 3 * p + 1)) (z.2.1 0))) (2 + p) (z.2.1 (2 + p) ||| ((1 : Int32) <<< (nI l &&& 31))), va_up z.2.2 l (z.2.2 l + 1)) (jx_w (jx_w (jx_w τ 10 l (τ.1 10 l + 1)) 1 (8 + 8 * p + l) (z.2.1 (8 + 8 * p + l) + q_pc (S (6 + 3 * p + 0)) (S (6 + 3 * p + 1)) (z.2.1 0))) 1 (2 + p) (z.2.1 (2 + p) ||| ((1 : Int32) <<< (nI l &&& 31)))) (by omega) (by omega) (by rw [q_w0 (by decide), q_w0 (by decide), q_w0 (by decide), t3]) (by rw [q_w1, q_w1, q_w0 (by decide), t1]) (by
                intro i hi
                show _ = va_up z.2.2 l (z.2.2 l + 1) i
                rw [q_wC (by decide), q_wC (by decide), q_w, q_up]
                by_cases j : i = l
                · rw [if_pos ⟨rfl, j⟩, if_pos j, t10 l (by omega)]
                · rw [if_neg (fun w => j w.2), if_neg j, t10 i hi]) hr'
            exact ⟨σ', g1, g2, g3, q_fr_t (q_fr_w (q_fr_w (q_fr_w fτ rfl) rfl) rfl) g4⟩
          · rw [if_neg g] at hr'
            rw [if_neg g, if_neg g, nI_1, Int32.add_zero]
            obtain ⟨σ', g1, g2, g3, g4⟩ := e_goes8 hN hw hR r (p + 1) k (z.1, va_up z.2.1 (8 + 8 * p + l) (z.2.1 (8 + 8 * p + l) + q_pc (S (6 + 3 * p + 0)) (S (6 + 3 * p + 1)) (z.2.1 0)), va_up z.2.2 l (z.2.2 l + 1)) (jx_w (jx_w τ 10 l (τ.1 10 l + 1)) 1 (8 + 8 * p + l) (z.2.1 (8 + 8 * p + l) + q_pc (S (6 + 3 * p + 0)) (S (6 + 3 * p + 1)) (z.2.1 0))) (by omega) (by omega) (by rw [q_w0 (by decide), q_w0 (by decide), t3]) (by rw [q_w1, q_w0 (by decide), t1]) (by
                intro i hi
                show _ = va_up z.2.2 l (z.2.2 l + 1) i
                rw [q_wC (by decide), q_w, q_up]
                by_cases j : i = l
                · rw [if_pos ⟨rfl, j⟩, if_pos j, t10 l (by omega)]
                · rw [if_neg (fun w => j w.2), if_neg j, t10 i hi]) hr'
            exact ⟨σ', g1, g2, g3, q_fr_t (q_fr_w (q_fr_w fτ rfl) rfl) g4⟩
theorem e_goes {N n m d h : Nat} {S : q_f} {L : q_L} {a : Int32} {row : q_f} {σ : jw_M} (hN : 300 ≤ N) (hw : q_wf S n m d) (hR : q_RM S L) (hr : q_wr S n m d row h) (h3 : σ.1 3 = S) (h1 : σ.1 1 = row) : ∃ σ', f_M_goes N a σ = some ((q_go S L a row).1, σ') ∧ σ'.1 1 = (q_go S L a row).2.1 ∧ (∀ l, l < 8 → σ'.1 10 l = (q_go S L a row).2.2 l) ∧ q_fr q_p1 σ σ' := by
  unfold f_M_goes f_M_emptySeats
  obtain ⟨τ, e1, e2, e3, e4, e5⟩ := e_empty (N := N) 8 0 N σ (by omega) (by omega)
  rw [show f_M_emptySeats_2 N N 0 σ = some τ from e1, Option.bind_some]
  have hn := hw.1
  obtain ⟨σ', g1, g2, g3, g4⟩ := e_goes8 (a := a) hN hw hR n 0 N (0, row, fun _ => 0) τ (by omega) (by omega) (by rw [e4 3 (by decide), h3]) (by rw [e4 1 (by decide), h1]) (fun l hl => e2 l (by omega) hl) hr
  have q : q_end (q_gL S L a n 0 (0, row, fun _ => 0)) = q_go S L a row := by
    unfold q_go
    rw [hw.2.2.2.2.1, nI_clamp (by omega)]
  rw [q] at g1 g2 g3
  refine ⟨σ', g1, g2, g3, q_fr_t ⟨fun c i y => ?_, e5⟩ g4⟩
  rw [e4 c (fun w => by rw [w] at y; cases y)]
