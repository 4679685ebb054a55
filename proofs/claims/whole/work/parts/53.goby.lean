/-! ===== pure: an hour, on the class's side ===== -/
def q_SC (b : Nat) (σ : jw_M) (S : q_f) (L : q_L) (m : Nat) : Prop := (∀ c i k, q_js c i = some k → σ.1 (b + c) i = S k) ∧ (∀ h, h < 17 → ∀ i, i < 32 → bt (σ.1 (b + 10) h) i = (decide (i < m) && (!decide (nI h < S (24 + 5 * i + 2)) && !decide (S (24 + 5 * i + 3) < nI h)))) ∧ q_r0 (b + 18) σ 0 0 L
def q_PC (b : Nat) (σ : jw_M) (row : q_f) : Prop := ∀ c i k, q_jp c i = some k → σ.1 (b + c) i = row k
theorem q_js_s {c p : Nat} (h1 : 1 ≤ c) (h3 : c ≤ 3) (hp : p < 6) : q_js c p = some (5 + c + 3 * p) := by
  unfold q_js
  rw [if_neg (by omega), if_pos (by omega), if_pos hp]
theorem q_js_q {p : Nat} (hp : p < 6) : q_js 4 p = some (64 + p) := by
  unfold q_js
  rw [if_neg (by decide), if_neg (by decide), if_pos rfl, if_pos hp]
theorem q_js_l {c l : Nat} (h1 : 5 ≤ c) (h3 : c ≤ 9) (hl : l < 8) : q_js c l = some (19 + c + 5 * l) := by
  unfold q_js
  rw [if_neg (by omega), if_neg (by omega), if_neg (by omega), if_pos (by omega), if_pos hl]
theorem q_js_t {c i : Nat} (h1 : 12 ≤ c) (h3 : c ≤ 17) (hi : i < 4) : q_js c i = some (70 + 4 * (c - 12) + i) := by
  unfold q_js
  rw [if_neg (by omega), if_neg (by omega), if_neg (by omega), if_neg (by omega), if_neg (by omega), if_pos (by omega), if_pos hi]
theorem q_jp_p {i : Nat} (hi : i < 48) : q_jp 1 i = some (8 + i) := by
  unfold q_jp
  rw [if_neg (by decide), if_pos rfl, if_pos hi]
theorem q_jp_l {p : Nat} (hp : p < 6) : q_jp 2 p = some (2 + p) := by
  unfold q_jp
  rw [if_neg (by decide), if_neg (by decide), if_pos rfl, if_pos hp]
theorem q_PCl {b : Nat} {σ : jw_M} {row : q_f} (h : q_PC b σ row) {p : Nat} (hp : p < 6) : σ.1 (b + 2) p = row (2 + p) := h 2 p _ (q_jp_l hp)
theorem q_PCp {b : Nat} {σ : jw_M} {row : q_f} (h : q_PC b σ row) {p l : Nat} (hp : p < 6) (hl : l < 8) : σ.1 (b + 1) (p * 8 + l) = row (8 + 8 * p + l) := by
  rw [h 1 _ _ (q_jp_p (show p * 8 + l < 48 by omega)), show 8 + (p * 8 + l) = 8 + 8 * p + l by omega]
theorem q_PC0 {b : Nat} {σ : jw_M} {row : q_f} (h : q_PC b σ row) : σ.1 b 0 = row 0 := h 0 0 0 rfl
theorem q_PC1 {b : Nat} {σ : jw_M} {row : q_f} (h : q_PC b σ row) : σ.1 b 1 = row 1 := h 0 1 1 rfl
theorem q_SCs {b : Nat} {σ : jw_M} {S : q_f} {L : q_L} {m : Nat} (h : q_SC b σ S L m) {p w : Nat} (hw : w < 3) (hp : p < 6) : σ.1 (b + (1 + w)) p = S (6 + 3 * p + w) := by
  rw [h.1 _ _ _ (q_js_s (c := 1 + w) (by omega) (by omega) hp), show 5 + (1 + w) + 3 * p = 6 + 3 * p + w by omega]
theorem q_SCl {b : Nat} {σ : jw_M} {S : q_f} {L : q_L} {m : Nat} (h : q_SC b σ S L m) {l w : Nat} (hw : w < 5) (hl : l < 8) : σ.1 (b + (5 + w)) l = S (24 + 5 * l + w) := by
  rw [h.1 _ _ _ (q_js_l (c := 5 + w) (by omega) (by omega) hl), show 19 + (5 + w) + 5 * l = 24 + 5 * l + w by omega]
theorem q_SC_k {b : Nat} {σ σ' : jw_M} {S : q_f} {L : q_L} {m : Nat} (h : q_SC b σ S L m) (g : ∀ c i, c ≤ 25 → (c ≤ 24 ∨ 5 ≤ i) → σ'.1 (b + c) i = σ.1 (b + c) i) : q_SC b σ' S L m := by
  refine ⟨fun c i k hk => ?_, fun h' hh i hi => ?_, q_r0_k (fun c i h1 h2 h3 => ?_) L 0 0 h.2.2⟩
  · have z := (q_jsr hk).1
    rw [g c i (by omega) (Or.inl (by omega))]
    exact h.1 c i k hk
  · rw [g 10 h' (by omega) (Or.inl (by omega))]
    exact h.2.1 h' hh i hi
  · have z := g (18 + c) i (by omega) (by omega)
    rw [show b + 18 + c = b + (18 + c) by omega]
    exact z
def q_pg (p1 : Nat) (c i : Nat) : Bool := (decide (p1 ≤ c) && decide (c ≤ p1 + 3)) || (c == 26 && decide (i < 5))
theorem q_pg_1 {p1 c i : Nat} (h : p1 ≤ c) (h2 : c ≤ p1 + 3) : q_pg p1 c i = true := by
  unfold q_pg
  rw [decide_eq_true h, decide_eq_true h2]
  rfl
theorem q_SC_g {p1 : Nat} {σ σ' : jw_M} {S : q_f} {L : q_L} {m : Nat} (h : q_SC 1 σ S L m) (hp : 27 ≤ p1) (g : q_fr (q_pg p1) σ σ') : q_SC 1 σ' S L m := by
  refine q_SC_k h (fun c i hc hi => g.1 _ _ ?_)
  unfold q_pg
  rw [decide_eq_false (by omega), Bool.false_and, Bool.false_or]
  by_cases e : c = 25
  · rw [decide_eq_false (by omega), Bool.and_false]
  · rw [show (1 + c == 26) = false by simp; omega, Bool.false_and]
theorem q_PC_w {b c i k : Nat} {σ : jw_M} {row : q_f} {v : Int32} (h : q_PC b σ row) (hk : q_jp c i = some k) : q_PC b (jx_w σ (b + c) i v) (va_up row k v) := by
  intro c' i' k' h'
  rw [q_w, q_up]
  by_cases e : c' = c ∧ i' = i
  · obtain ⟨rfl, rfl⟩ := e
    rw [hk] at h'
    cases h'
    rw [if_pos ⟨rfl, rfl⟩, if_pos rfl]
  · rw [if_neg (fun w => e ⟨by omega, w.2⟩), if_neg (fun w => by
      rw [w] at h'
      exact e (q_jpJ _ _ _ _ _ h' hk))]
    exact h c' i' k' h'
theorem q_PC_k {b : Nat} {σ σ' : jw_M} {row : q_f} (h : q_PC b σ row) (g : ∀ c i, c < 3 → σ'.1 (b + c) i = σ.1 (b + c) i) : q_PC b σ' row := by
  intro c i k hk
  rw [g c i (q_jpr hk).1]
  exact h c i k hk
theorem q_n26 {c i : Nat} (h : c ≠ 26) : (fun c i => c == 26 && decide (i < 5)) c i = false := by
  show (c == 26 && decide (i < 5)) = false
  rw [show (c == 26) = false by simpa using h, Bool.false_and]
theorem e_Ccho {N n m d h p p1 : Nat} {S : q_f} {L : q_L} {row seats : q_f} {σ : jw_M} {full : Int32} (hN : 300 ≤ N) (hp1 : 27 ≤ p1) (hw : q_wf S n m d) (hR : q_RM S L) (hr : q_wr S n m d row h) (hp : p < n) (hS : q_SC 1 σ S L m) (hP : q_PC p1 σ row) (hf : ∀ l, l < m → bt full l = decide (S (24 + 5 * l + 4) ≤ seats l)) : ∃ σ', f_S_choice N p1 (nI p) full σ = some (nI (q_cho S L row seats p), σ') ∧ q_fr (fun c i => c == 26 && decide (i < 5)) σ σ' := by
  obtain ⟨hn, hm, _, hd16, _, e3, _, hps, hls⟩ := hw
  obtain ⟨⟨k, k1, k5, ek⟩, _, _⟩ := hps p hp
  have hp6 : p < 6 := by omega
  obtain ⟨τ, f1, f2⟩ := e_deedOf (N := N) (p1 := p1) (p := p) (k := k) (L := L) (σ := σ) hN hp6 (by omega) (by omega) (by rw [show σ.1 2 p = _ from q_SCs hS (w := 0) (by decide) hp6]; exact ek) hR.2.1 (by rw [show σ.1 19 0 = _ from hS.1 18 0 4 rfl]; exact hR.1) hS.2.2 hR.2.2.2
  have nd : ∀ i, i < 8 → σ.1 7 i = S (24 + 5 * i + 1) := fun i hi => q_SCl hS (w := 1) (by decide) hi
  have h16 : h ≤ 16 := Nat.le_trans hr.2.1 hd16
  have hneed : ∀ l, l < m → σ.1 7 l < 0 ∨ ∃ j, j < 32 ∧ σ.1 7 l = nI j := by
    intro l hl
    rw [nd l (by omega)]
    obtain ⟨_, z, _, _⟩ := hls l hl
    rcases z with z | ⟨j, hj, z⟩
    · rw [z]
      exact Or.inl (by decide)
    · exact Or.inr ⟨j, by omega, z⟩
  have lk : ∀ j, j < 8 → q_lk σ p1 p j = q_lkF S row p j := by
    intro j hj
    unfold q_lk q_lkF
    rw [show σ.1 6 j = _ from q_SCl hS (w := 0) (by decide) hj, q_PCp hP hp6 hj]
  obtain ⟨o, υ, g1, g2, g3⟩ := e_choice (N := N) (p1 := p1) (m := m) (h := h) (p := p) (σ := σ) (σ' := τ) (full := full) (by omega) hp6 h16 hm (by rw [q_PC0 hP]; exact hr.1) (by rw [show σ.1 1 5 = _ from hS.1 0 5 3 rfl]; exact e3) hneed (fun i h1 h2 => by
    rw [show σ.1 11 h = σ.1 (1 + 10) h from rfl, hS.2.1 h (by omega) i h2, decide_eq_false (by omega), Bool.false_and]) f1 (by
    rcases q_deed_is (q_F5 (σ.1 p1 0) (q_bc (σ.1 (p1 + 2) p)) (σ.1 3 p) (σ.1 4 p) (nI p)) k L hR.2.2.2 with y | y | y | y
    · exact Or.inl (by rw [y]; rfl)
    · exact Or.inr (Or.inl (by rw [y]; rfl))
    · exact Or.inr (Or.inr (Or.inl (by rw [y]; rfl)))
    · exact Or.inr (Or.inr (Or.inr (by rw [y]; rfl)))) (fun c i hc => f2.1 c i (q_n26 hc)) (by omega) (fun l hl hb => by
    rw [lk l (by omega)]
    rw [q_PCl hP hp6] at hb
    obtain ⟨x, hd', hx, hh, ex, eh⟩ := hr.2.2.2.2 p l hp hl hb
    unfold q_lkF
    rw [ex, eh, pk_sub (by omega)]
    exact nI_lt (b := 21) (by omega) (by omega))
  refine ⟨υ, ?_, ?_⟩
  · rw [g2]
    unfold q_cho
    rw [e3, nI_clamp (by omega), q_pick_d]
    rw [show q_td S L row p = q_deed (q_F5 (σ.1 p1 0) (q_bc (σ.1 (p1 + 2) p)) (σ.1 3 p) (σ.1 4 p) (nI p)) k L by
      unfold q_td
      rw [ek, nI_clamp (by omega), q_PC0 hP, q_PCl hP hp6, show σ.1 3 p = _ from q_SCs hS (w := 1) (by decide) hp6, show σ.1 4 p = _ from q_SCs hS (w := 2) (by decide) hp6]]
    rw [q_pick_cg (op' := q_opF S row seats p) (lk' := q_lkF S row p) (fun j hj => ?_) lk hm]
    rw [g1 j (by omega), show σ.1 11 h = σ.1 (1 + 10) h from rfl, hS.2.1 h (by omega) j (by omega), decide_eq_true hj, Bool.true_and, q_PCl hP hp6, hf j hj]
    unfold q_need q_opF
    rw [nd j (by omega), hr.1]
    generalize bt (row (2 + p)) j = A
    generalize (decide (S (24 + 5 * j + 1) < 0) || bt (row (2 + p)) (S (24 + 5 * j + 1)).toNatClampNeg) = B
    generalize (!decide (nI h < S (24 + 5 * j + 2)) && !decide (S (24 + 5 * j + 3) < nI h)) = C
    generalize decide (S (24 + 5 * j + 4) ≤ seats j) = D
    cases A <;> cases B <;> cases C <;> cases D <;> rfl
  · rcases g3 with rfl | rfl
    · exact q_fr_r _ _
    · exact f2
/-- a place is taken -/
theorem e_gb90 {N n m d h p l p1 : Nat} {S : q_f} {L : q_L} {z : q_st} {σ : jw_M} {full a : Int32} {K : Int32 → Int32 → Int32 → Int32 → jw_M → Option (Int32 × jw_M)} (hp1 : 27 ≤ p1) (hw : q_wf S n m d) (hr : q_wr S n m d z.2.1 h) (hp : p < n) (hl : l < m) (hS : q_SC 1 σ S L m) (hP : q_PC p1 σ z.2.1) (hq : ∀ i, i < 8 → σ.1 (p1 + 3) i = va_up z.2.2 l (z.2.2 l + 1) i) : ∃ σ', f_S_goBy_90 N p1 K a full z.1 (nI p) (nI l) σ = K a full (q_sit S p l z).1 (nI (p + 1)) σ' ∧ q_PC p1 σ' (q_sit S p l z).2.1 ∧ (∀ i, i < 8 → σ'.1 (p1 + 3) i = (q_sit S p l z).2.2 i) ∧ q_fr (q_pg p1) σ σ' := by
  obtain ⟨hn, hm, _, _, _, e3, _, hps, hls⟩ := hw
  obtain ⟨⟨k, k1, k5, ek⟩, _, _⟩ := hps p hp
  have hp6 : p < 6 := by omega
  have hl8 : l < 8 := by omega
  unfold f_S_goBy_90
  rw [e_thing (k := k) hp6 k5 (by rw [show σ.1 2 p = _ from q_SCs hS (w := 0) (by decide) hp6]; exact ek), Option.bind_some, q_in hp6 (by decide), cond_true]
  dsimp only
  unfold f_S_goBy_112
  rw [show (if 32 + k = 32 then f_Z_Shade_paceIn N (32 + k) (σ.1 p1 0) (σ.1 3 (nI p).toNatClampNeg) σ else if 32 + k = 33 then f_Z_Joined_paceIn N (σ.1 p1 0) (σ.1 3 (nI p).toNatClampNeg) σ else if 32 + k = 34 then f_Z_Gifted_paceIn N (32 + k) (σ.1 p1 0) (σ.1 3 (nI p).toNatClampNeg) σ else if 32 + k = 35 then f_Z_Coloured_paceIn N (σ.1 p1 0) (σ.1 3 (nI p).toNatClampNeg) σ else if 32 + k = 36 then f_Z_Slow_paceIn N (32 + k) (σ.1 p1 0) (σ.1 3 (nI p).toNatClampNeg) σ else if 32 + k = 37 then f_Z_Borrowed_paceIn N (σ.1 p1 0) (σ.1 3 (nI p).toNatClampNeg) σ else none) = _ from e_paceIn k1 k5 _ _ σ, Option.bind_some]
  dsimp only
  unfold f_S_goBy_115 f_S_goBy_140
  rw [q_in hl8 (by decide), cond_true, e_gain hp6 hl8, Option.bind_some, nI_clamp (show p < 2 ^ 31 by omega), nI_clamp (show l < 2 ^ 31 by omega), nI_1]
  have ep : σ.1 (p1 + 1) (p * 8 + l) + q_pc (nI k) (σ.1 3 p) (σ.1 p1 0) = q_pts S z.2.1 p l := by
    unfold q_pts
    rw [q_PCp hP hp6 hl8, ek, show σ.1 3 p = _ from q_SCs hS (w := 1) (by decide) hp6, q_PC0 hP]
  have eh : σ.1 6 l = S (24 + 5 * l + 0) := q_SCl hS (w := 0) (by decide) hl8
  rw [ep, eh]
  have k1' : q_jp 1 (p * 8 + l) = some (8 + 8 * p + l) := by
    rw [q_jp_p (by omega), show 8 + (p * 8 + l) = 8 + 8 * p + l by omega]
  unfold q_sit
  by_cases g : S (24 + 5 * l + 0) ≤ q_pts S z.2.1 p l
  · rw [if_pos g, if_pos g]
    dsimp only
    rw [if_neg (by decide), q_wC (show (6 : Nat) ≠ p1 + 2 by omega), q_wC (show (6 : Nat) ≠ p1 + 1 by omega), eh, q_PCl hP hp6]
    refine ⟨_, rfl, q_PC_w (q_PC_w hP k1') (q_jp_l hp6), fun i hi => ?_, q_fr_w (q_fr_w (q_fr_r _ _) (q_pg_1 (by omega) (by omega))) (q_pg_1 (by omega) (by omega))⟩
    rw [q_wC (by omega), q_wC (by omega)]
    exact hq i hi
  · rw [if_neg g, if_neg g]
    dsimp only
    rw [if_pos rfl]
    refine ⟨_, rfl, q_PC_w hP k1', fun i hi => ?_, q_fr_w (q_fr_r _ _) (q_pg_1 (by omega) (by omega))⟩
    rw [q_wC (by omega)]
    exact hq i hi
theorem e_goBy16 {N n m d h p1 : Nat} {S : q_f} {L : q_L} {a : Int32} (hN : 300 ≤ N) (hp1 : 27 ≤ p1) (hw : q_wf S n m d) (hR : q_RM S L) : ∀ (r p k : Nat) (z : q_st) (full : Int32) (σ : jw_M), p + r = n → r < k → q_SC 1 σ S L m → q_PC p1 σ z.2.1 → (∀ l, l < 8 → σ.1 (p1 + 3) l = z.2.2 l) → (∀ l, l < m → bt full l = decide (S (24 + 5 * l + 4) ≤ z.2.2 l)) → q_wr S n m d z.2.1 h → ∃ σ', f_S_goBy_16 N p1 k a full z.1 (nI p) σ = some ((q_end (q_gL S L a r p z)).1, σ') ∧ q_PC p1 σ' (q_end (q_gL S L a r p z)).2.1 ∧ (∀ l, l < 8 → σ'.1 (p1 + 3) l = (q_end (q_gL S L a r p z)).2.2 l) ∧ q_fr (q_pg p1) σ σ'
  | 0, p, 0, _, _, _, _, h, _, _, _, _, _ => absurd h (by omega)
  | r + 1, p, 0, _, _, _, _, h, _, _, _, _, _ => absurd h (by omega)
  | 0, p, k + 1, z, full, σ, hp, _, hS, hP, hq, hf, hr => by
    have hn := hw.1
    refine ⟨jx_w (jx_w σ p1 0 (σ.1 p1 0 + 1)) p1 1 (σ.1 p1 1 + z.1), ?_, ?_, ?_, ?_⟩
    · rw [f_S_goBy_16, show σ.1 1 0 = _ from hS.1 0 0 2 rfl, hw.2.2.2.2.1, if_pos (nI_le (by omega) (by omega)), q_wI (show (1 : Nat) ≠ 0 by decide)]
      rfl
    · have y := q_PC_w (c := 0) (i := 1) (k := 1) (v := σ.1 p1 1 + z.1) (q_PC_w (c := 0) (i := 0) (k := 0) (v := σ.1 p1 0 + 1) hP rfl) rfl
      rw [q_PC0 hP, q_PC1 hP] at y
      rw [q_PC0 hP, q_PC1 hP]
      exact y
    · intro l hl
      rw [q_wC (by omega), q_wC (by omega), hq l hl]
      rfl
    · exact q_fr_w (q_fr_w (q_fr_r _ _) (q_pg_1 (by omega) (by omega))) (q_pg_1 (by omega) (by omega))
  | r + 1, p, k + 1, z, full, σ, hp, hk, hS, hP, hq, hf, hr => by
    have hn := hw.1
    have hm := hw.2.1
    rw [f_S_goBy_16, show σ.1 1 0 = _ from hS.1 0 0 2 rfl, hw.2.2.2.2.1, if_neg (nI_ge (by omega) (by omega)), q_gL]
    have hr' := q_wr_g1 (L := L) (a := a) hw hr (show p < n by omega)
    unfold q_g1 at hr' ⊢
    by_cases c : nI p + 1 = a
    · rw [if_pos c, if_pos c]
      unfold f_S_goBy_46 f_S_goBy_140
      rw [if_pos rfl, nI_1]
      exact e_goBy16 hN hp1 hw hR r (p + 1) k z full σ (by omega) (by omega) hS hP hq hf hr
    · rw [if_neg c] at hr'
      rw [if_neg c, if_neg c]
      obtain ⟨τ, f1, f2⟩ := e_Ccho (N := N) (seats := z.2.2) hN hp1 hw hR hr (show p < n by omega) hS hP hf
      have fτ : q_fr (q_pg p1) σ τ := q_fr_m f2 (fun c i y => by
        unfold q_pg at y
        rw [Bool.or_eq_false_iff] at y
        exact y.2)
      have tS := q_SC_g hS hp1 fτ
      have tP : q_PC p1 τ z.2.1 := q_PC_k hP (fun c i hc => f2.1 _ _ (q_n26 (by omega)))
      have tq : ∀ l, l < 8 → τ.1 (p1 + 3) l = z.2.2 l := fun l hl => by
        rw [f2.1 _ _ (q_n26 (by omega)), hq l hl]
      rw [f1, Option.bind_some]
      dsimp only
      unfold f_S_goBy_46
      by_cases e : q_cho S L z.2.1 z.2.2 p = 8
      · rw [if_pos e] at hr'
        rw [if_pos e, if_pos (show nI (q_cho S L z.2.1 z.2.2 p) = 8 by rw [e]; rfl)]
        unfold f_S_goBy_140
        rw [nI_1]
        obtain ⟨σ', g1, g2, g3, g4⟩ := e_goBy16 hN hp1 hw hR r (p + 1) k z full τ (by omega) (by omega) tS tP tq hf hr'
        exact ⟨σ', g1, g2, g3, q_fr_t fτ g4⟩
      · rw [if_neg e] at hr'
        rw [if_neg e]
        rcases q_cho_is (L := L) (row := z.2.1) (seats := z.2.2) (p := p) hw.2.1 hw.2.2.2.2.2.1 with y | y
        · exact absurd y e
        · have y2 := y.2
          have yo := q_op_st y.1
          generalize q_cho S L z.2.1 z.2.2 p = l at *
          have hl8 : l < 8 := by omega
          rw [if_neg (show ¬ nI l = 8 from fun w => e ((nI_eq (b := 8) (by omega) (by omega)).mp w)), q_in hl8 (by decide), cond_true, nI_clamp (show l < 2 ^ 31 by omega), q_wS, q_wC (show (10 : Nat) ≠ p1 + 3 by omega), show τ.1 10 l = _ from q_SCl tS (w := 4) (by decide) hl8, tq l hl8]
          have f1' : q_fr (q_pg p1) σ (jx_w τ (p1 + 3) l (z.2.2 l + 1)) := q_fr_w fτ (q_pg_1 (by omega) (by omega))
          have s1 := q_SC_g hS hp1 f1'
          have P1 : q_PC p1 (jx_w τ (p1 + 3) l (z.2.2 l + 1)) z.2.1 := q_PC_k tP (fun c i hc => q_wC (by omega))
          have q1 : ∀ i, i < 8 → (jx_w τ (p1 + 3) l (z.2.2 l + 1)).1 (p1 + 3) i = va_up z.2.2 l (z.2.2 l + 1) i := by
            intro i hi
            rw [q_w, q_up]
            by_cases j : i = l
            · rw [if_pos ⟨rfl, j⟩, if_pos j]
            · rw [if_neg (fun w => j w.2), if_neg j, tq i hi]
          have s2 : (q_sit S p l z).2.2 = va_up z.2.2 l (z.2.2 l + 1) := by
            unfold q_sit
            split <;> rfl
          by_cases g : z.2.2 l + 1 < S (24 + 5 * l + 4)
          · rw [if_pos g]
            obtain ⟨υ, u1, u2, u3, u4⟩ := e_gb90 (N := N) (a := a) (full := full) (K := f_S_goBy_16 N p1 k) hp1 hw hr (show p < n by omega) y2 s1 P1 q1
            rw [u1]
            obtain ⟨σ', g1, g2, g3, g4⟩ := e_goBy16 hN hp1 hw hR r (p + 1) k (q_sit S p l z) full υ (by omega) (by omega) (q_SC_g s1 hp1 u4) u2 u3 (by
              intro i hi
              rw [s2, q_up, hf i hi]
              by_cases j : i = l
              · subst j
                rw [if_pos rfl, decide_eq_false yo, decide_eq_false (Int32.not_le.mpr g)]
              · rw [if_neg j]) hr'
            exact ⟨σ', g1, g2, g3, q_fr_t f1' (q_fr_t u4 g4)⟩
          · rw [if_neg g]
            obtain ⟨υ, u1, u2, u3, u4⟩ := e_gb90 (N := N) (a := a) (full := full ||| ((1 : Int32) <<< (nI l &&& 31))) (K := f_S_goBy_16 N p1 k) hp1 hw hr (show p < n by omega) y2 s1 P1 q1
            rw [u1]
            obtain ⟨σ', g1, g2, g3, g4⟩ := e_goBy16 hN hp1 hw hR r (p + 1) k (q_sit S p l z) (full ||| ((1 : Int32) <<< (nI l &&& 31))) υ (by omega) (by omega) (q_SC_g s1 hp1 u4) u2 u3 (by
              intro i hi
              rw [s2, q_up, b_or, q_sh1 (show l < 32 by omega) (show i < 32 by omega), hf i hi]
              by_cases j : i = l
              · subst j
                rw [if_pos rfl, decide_eq_true rfl, Bool.or_true, decide_eq_true (Int32.not_lt.mp g)]
              · rw [if_neg j, decide_eq_false j, Bool.or_false]) hr'
            exact ⟨σ', g1, g2, g3, q_fr_t f1' (q_fr_t u4 g4)⟩
theorem e_goBy {N n m d h p1 : Nat} {S : q_f} {L : q_L} {a : Int32} {row : q_f} {σ : jw_M} (hN : 300 ≤ N) (hp1 : 27 ≤ p1) (hw : q_wf S n m d) (hR : q_RM S L) (hr : q_wr S n m d row h) (hS : q_SC 1 σ S L m) (hP : q_PC p1 σ row) : ∃ σ', f_S_goBy N p1 a σ = some ((q_go S L a row).1, σ') ∧ q_PC p1 σ' (q_go S L a row).2.1 ∧ (∀ l, l < 8 → σ'.1 (p1 + 3) l = (q_go S L a row).2.2 l) ∧ q_fr (q_pg p1) σ σ' := by
  unfold f_S_goBy f_J_fill
  rw [show Nat.ble 8 1000 = true from rfl, cond_true, Option.bind_some]
  have hn := hw.1
  have hm := hw.2.1
  have f0 : q_fr (q_pg p1) σ (jw_lay σ.1 (p1 + 3) (fun k => if k < 8 then 0 else σ.1 (p1 + 3) k), σ.2) := by
    refine ⟨fun c i y => ?_, rfl⟩
    show jw_lay σ.1 (p1 + 3) _ c i = _
    unfold jw_lay
    rw [if_neg (fun w => by
      rw [w, q_pg_1 (by omega) (by omega)] at y
      cases y)]
  have q : q_end (q_gL S L a n 0 (0, row, fun _ => 0)) = q_go S L a row := by
    unfold q_go
    rw [hw.2.2.2.2.1, nI_clamp (by omega)]
  obtain ⟨σ', g1, g2, g3, g4⟩ := e_goBy16 (a := a) hN hp1 hw hR n 0 N (0, row, fun _ => 0) 0 _ (by omega) (by omega) (q_SC_g hS hp1 f0) (q_PC_k hP (fun c i hc => by
    show jw_lay σ.1 (p1 + 3) _ (p1 + c) i = _
    unfold jw_lay
    rw [if_neg (by omega)])) (fun l hl => by
    show jw_lay σ.1 (p1 + 3) _ (p1 + 3) l = _
    unfold jw_lay
    rw [if_pos rfl, if_pos hl]) (fun l hl => by
    obtain ⟨_, _, _, r, r1, r6, er⟩ := hw.2.2.2.2.2.2.2.2 l hl
    rw [b_0, er]
    exact (decide_eq_false (nI_nle (by omega) (by omega))).symm) hr
  rw [q] at g1 g2 g3
  exact ⟨σ', g1, g2, g3, q_fr_t f0 g4⟩
