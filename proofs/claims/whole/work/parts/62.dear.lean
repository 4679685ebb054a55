/-! ===== pure: quickFor, roomFor, letGoBy ===== -/
theorem q_gL_w {S : q_f} {L : q_L} {a : Int32} {n m d : Nat} (hw : q_wf S n m d) : ∀ (r p : Nat) (z : q_st), p + r = n → (∃ c, c ≤ 20 * p ∧ z.1 = nI c) → ∃ c, c ≤ 20 * n ∧ (q_gL S L a r p z).1 = nI c
  | 0, p, z, hp, h => by
    obtain ⟨c, c1, c2⟩ := h
    exact ⟨c, by omega, c2⟩
  | r + 1, p, z, hp, h => by
    have hn := hw.1
    have hm := hw.2.1
    rw [q_gL]
    refine q_gL_w hw r (p + 1) _ (by omega) ?_
    obtain ⟨c, c1, c2⟩ := h
    unfold q_g1
    by_cases e1 : nI p + 1 = a
    · rw [if_pos e1]
      exact ⟨c, by omega, c2⟩
    · rw [if_neg e1]
      by_cases e2 : q_cho S L z.2.1 z.2.2 p = 8
      · rw [if_pos e2]
        exact ⟨c, by omega, c2⟩
      · rw [if_neg e2]
        have e3 := (q_cho_is (S := S) (L := L) (row := z.2.1) (seats := z.2.2) (p := p) hm hw.2.2.2.2.2.1).resolve_left e2
        obtain ⟨⟨hd, hd1, hd2, ehd⟩, _⟩ := hw.2.2.2.2.2.2.2.2 _ e3.2
        unfold q_sit
        by_cases e4 : S (24 + 5 * q_cho S L z.2.1 z.2.2 p + 0) ≤ q_pts S z.2.1 p (q_cho S L z.2.1 z.2.2 p)
        · rw [if_pos e4]
          exact ⟨c + hd, by omega, by show z.1 + S _ = _; rw [c2, ehd, nI_add]⟩
        · rw [if_neg e4]
          exact ⟨c, by omega, c2⟩
theorem q_go_w {S : q_f} {L : q_L} {a : Int32} {n m d : Nat} {row : q_f} (hw : q_wf S n m d) : ∃ c, c ≤ 120 ∧ (q_go S L a row).1 = nI c := by
  have hn := hw.1
  unfold q_go q_end
  rw [hw.2.2.2.2.1, nI_clamp (by omega)]
  obtain ⟨c, c1, c2⟩ := q_gL_w (L := L) (a := a) hw n 0 (0, row, fun _ => 0) (by omega) ⟨0, by omega, rfl⟩
  exact ⟨c, by omega, c2⟩
theorem q_rs_w {S : q_f} {L : q_L} {n m d : Nat} (hw : q_wf S n m d) : ∀ (k : Nat) (c : Nat) (row : q_f), ∃ c', c' ≤ c + 120 * k ∧ (q_rs S L k (nI c) row).1 = nI c'
  | 0, c, row => ⟨c, by omega, rfl⟩
  | k + 1, c, row => by
    rw [q_rs]
    by_cases e : row 0 < S 0
    · rw [if_pos e]
      obtain ⟨g, g1, g2⟩ := q_go_w (L := L) (a := 0) (row := row) hw
      rw [g2, nI_add]
      obtain ⟨c', h1, h2⟩ := q_rs_w hw k (c + g) (q_go S L 0 row).2.1
      exact ⟨c', by omega, h2⟩
    · rw [if_neg e]
      exact ⟨c, by omega, rfl⟩
/-- one number of the school is put otherwise for a while -/
def q_ok (S : q_f) (L : q_L) (n m d : Nat) (row : q_f) (h cc i K M : Nat) : Prop := q_js cc i = some K ∧ (∀ l, l < m → K ≠ 24 + 5 * l + 2 ∧ K ≠ 24 + 5 * l + 3) ∧ (∀ v, 1 ≤ v → v ≤ M → q_wf (va_up S K (nI v)) n m d ∧ q_RM (va_up S K (nI v)) L ∧ q_wr (va_up S K (nI v)) n m d row h) ∧ cc < 10
theorem q_okq {S : q_f} {L : q_L} {n m d h p : Nat} {row : q_f} (hw : q_wf S n m d) (hR : q_RM S L) (hr : q_wr S n m d row h) (hp : p < n) : q_ok S L n m d row h 2 p (6 + 3 * p + 1) 9 := by
  have hn := hw.1
  refine ⟨?_, fun l hl => by omega, fun v v1 v9 => ⟨q_wf_s hw hp (by decide) ⟨v, v1, by rw [if_neg (by decide)]; exact v9, rfl⟩, q_RM_k hR (q_upN (by omega)) (fun k hk => q_upN (by omega)), q_wr_k hr (fun l hl => q_upN (by omega))⟩, by decide⟩
  rw [q_js_s (c := 2) (by decide) (by decide) (by omega), show 5 + 2 + 3 * p = 6 + 3 * p + 1 by omega]
theorem q_wf_r {S : q_f} {n m d l : Nat} {v : Int32} (h : q_wf S n m d) (hl : l < m) (hv : ∃ k, 1 ≤ k ∧ k ≤ 6 ∧ v = nI k) : q_wf (va_up S (24 + 5 * l + 4) v) n m d := by
  obtain ⟨a1, a2, a3, a4, a5, a6, a7, a8, a9⟩ := h
  refine ⟨a1, a2, a3, a4, by rw [q_upN (by omega)]; exact a5, by rw [q_upN (by omega)]; exact a6, by rw [q_upN (by omega)]; exact a7, fun p hp => ?_, fun l' hl' => ?_⟩
  · rw [q_upN (by omega), q_upN (by omega), q_upN (by omega)]
    exact a8 p hp
  · rw [q_upN (show 24 + 5 * l' + 0 ≠ _ by omega), q_upN (show 24 + 5 * l' + 1 ≠ _ by omega), q_upN (show 24 + 5 * l' + 2 ≠ _ by omega), q_upN (show 24 + 5 * l' + 3 ≠ _ by omega)]
    by_cases e : l' = l
    · subst e
      rw [q_upS]
      obtain ⟨z1, z2, z3, _⟩ := a9 l' hl'
      exact ⟨z1, z2, z3, hv⟩
    · rw [q_upN (by omega)]
      exact a9 l' hl'
theorem q_okr {S : q_f} {L : q_L} {n m d h l : Nat} {row : q_f} (hw : q_wf S n m d) (hR : q_RM S L) (hr : q_wr S n m d row h) (hl : l < m) : q_ok S L n m d row h 9 l (24 + 5 * l + 4) 6 := by
  have hm := hw.2.1
  refine ⟨?_, fun l hl => by omega, fun v v1 v9 => ⟨q_wf_r hw hl ⟨v, v1, v9, rfl⟩, q_RM_k hR (q_upN (by omega)) (fun k hk => q_upN (by omega)), q_wr_k hr (fun l hl => q_upN (by omega))⟩, by decide⟩
  rw [q_js_l (c := 9) (by decide) (by decide) (by omega), show 19 + 9 + 5 * l = 24 + 5 * l + 4 by omega]
theorem q_up_up {f : q_f} {k : Nat} {v w : Int32} : va_up (va_up f k v) k w = va_up f k w := by
  funext j
  rw [q_up, q_up, q_up]
  by_cases e : j = k
  · rw [if_pos e, if_pos e]
  · rw [if_neg e, if_neg e, if_neg e]
theorem q_up_id {f : q_f} {k : Nat} : va_up f k (f k) = f := by
  funext j
  rw [q_up]
  by_cases e : j = k
  · rw [if_pos e, e]
  · rw [if_neg e]
def q_dr (f : Nat → Int32) : Nat → Nat → Int32 → Int32 → Int32
  | 0, _, _, w => w
  | r + 1, v, top, w => if f v ≤ top then q_dr f r (v + 1) top w else q_dr f r (v + 1) (f v) (nI v)
def q_pgx (cc i : Nat) (c j : Nat) : Bool := q_pg 75 c j || (c == 1 + cc && j == i)
def q_p2x (K : Nat) (c j : Nat) : Bool := q_p2 c j || (c == 3 && j == K)
theorem q_pgx_0 {cc i c j : Nat} (h : q_pgx cc i c j = false) : q_pg 75 c j = false := by
  unfold q_pgx at h
  rw [Bool.or_eq_false_iff] at h
  exact h.1
theorem q_pgx_1 {cc i : Nat} : q_pgx cc i (1 + cc) i = true := by
  unfold q_pgx
  simp
theorem q_p2x_0 {K c j : Nat} (h : q_p2x K c j = false) : q_p2 c j = false := by
  unfold q_p2x at h
  rw [Bool.or_eq_false_iff] at h
  exact h.1
theorem q_p2x_1 {K : Nat} : q_p2x K 3 K = true := by
  unfold q_p2x
  simp
/-- put back -/
theorem q_bkC {cc i : Nat} {σ τ : jw_M} (hc : q_pg 75 (1 + cc) i = false) (h : q_fr (q_pgx cc i) σ τ) : q_fr (q_pg 75) σ (jx_w τ (1 + cc) i (σ.1 (1 + cc) i)) := by
  refine ⟨fun c j z => ?_, by rw [q_w2]; exact h.2⟩
  rw [q_w]
  by_cases e : c = 1 + cc ∧ j = i
  · rw [if_pos e, e.1, e.2]
  · rw [if_neg e]
    refine h.1 c j ?_
    unfold q_pgx
    rw [z, Bool.false_or]
    simp
    intro e1
    exact fun e2 => e ⟨e1, e2⟩
theorem q_bkM {K : Nat} {σ τ : jw_M} (h : q_fr (q_p2x K) σ τ) : q_fr q_p2 σ (jx_w τ 3 K (σ.1 3 K)) := by
  refine ⟨fun c j z => ?_, by rw [q_w2]; exact h.2⟩
  rw [q_w]
  by_cases e : c = 3 ∧ j = K
  · rw [if_pos e, e.1, e.2]
  · rw [if_neg e]
    refine h.1 c j ?_
    unfold q_p2x
    rw [z, Bool.false_or]
    simp
    intro e1
    exact fun e2 => e ⟨e1, e2⟩
theorem e_putC {N n m d h cc i K M v : Nat} {S : q_f} {L : q_L} {row : q_f} {u : Int32} {σ : jw_M} (hN : 300 ≤ N) (ok : q_ok S L n m d row h cc i K M) (v1 : 1 ≤ v) (vM : v ≤ M) (hS : q_SC 1 σ (va_up S K u) L m) (hP : q_PC 27 σ row) : ∃ σ', f_F_worthOfRest N 16 (jx_w σ (1 + cc) i (nI v)) = some ((q_rs (va_up S K (nI v)) L 16 0 row).1, σ') ∧ q_PC 75 σ' (q_rs (va_up S K (nI v)) L 16 0 row).2 ∧ q_SC 1 σ' (va_up S K (nI v)) L m ∧ q_PC 27 σ' row ∧ q_fr (q_pgx cc i) σ σ' := by
  obtain ⟨o1, o2, o3, o4⟩ := ok
  obtain ⟨w1, w2, w3⟩ := o3 v v1 vM
  have hS2 := q_SC_w (v := nI v) hS o1 o2
  rw [q_up_up] at hS2
  have hP2 : q_PC 27 (jx_w σ (1 + cc) i (nI v)) row := q_PC_k hP (fun c j hc => q_wC (by omega))
  obtain ⟨σ', g1, g2, g3⟩ := e_Crest hN w1 w2 (show 16 ≤ 16 by decide) w3 hS2 hP2
  refine ⟨σ', g1, g2, q_SC_g hS2 (by decide) g3, q_PC_k hP2 (fun c j hc => g3.1 _ _ ?_), q_fr_t (q_fr_w (q_fr_r _ _) q_pgx_1) (q_fr_m g3 (fun c j z => q_pgx_0 z))⟩
  unfold q_pg
  simp
  omega
theorem e_dearC3 {N n m d h i K M : Nat} {S : q_f} {L : q_L} {row : q_f} (hN : 300 ≤ N) (hi : i < 6) (hM : M ≤ 9) (ok : q_ok S L n m d row h 2 i K M) : ∀ (r v k : Nat) (was top wh u : Int32) (σ : jw_M), v + r = M + 1 → 1 ≤ v → r < k → q_SC 1 σ (va_up S K u) L m → q_PC 27 σ row → ∃ σ', f_F_worthiest_0_3_14 N k (nI i) (nI M) was top wh (nI v) σ = some (q_dr (fun v => (q_rs (va_up S K (nI v)) L 16 0 row).1) r v top wh, jx_w σ' 3 i was) ∧ q_fr (q_pgx 2 i) σ σ' := by
  intro r
  induction r with
  | zero =>
    intro v k was top wh u σ hv v1 hk hS hP
    obtain ⟨k, rfl⟩ : ∃ j, k = j + 1 := ⟨k - 1, by omega⟩
    refine ⟨σ, ?_, q_fr_r _ _⟩
    rw [f_F_worthiest_0_3_14, if_pos (nI_lt (by omega) (by omega)), q_in hi (by decide), cond_true, nI_clamp (by omega)]
    rfl
  | succ r ih =>
    intro v k was top wh u σ hv v1 hk hS hP
    obtain ⟨k, rfl⟩ : ∃ j, k = j + 1 := ⟨k - 1, by omega⟩
    obtain ⟨τ, g1, g2, g3, g4, g5⟩ := e_putC hN ok v1 (by omega) hS hP
    rw [f_F_worthiest_0_3_14, if_neg (nI_nlt (by omega) (by omega)), q_in hi (by decide), cond_true, nI_clamp (by omega), show f_F_worthOfRest N 16 (jx_w σ 3 i (nI v)) = _ from g1, Option.bind_some, q_dr]
    unfold f_F_worthiest_0_3_48
    dsimp only
    rw [nI_1]
    by_cases c : (q_rs (va_up S K (nI v)) L 16 0 row).1 ≤ top
    · rw [if_pos c, if_pos c]
      obtain ⟨σ', f1, f2⟩ := ih (v + 1) k was top wh _ τ (by omega) (by omega) (by omega) g3 g4
      exact ⟨σ', f1, q_fr_t g5 f2⟩
    · rw [if_neg c, if_neg c]
      obtain ⟨σ', f1, f2⟩ := ih (v + 1) k was _ (nI v) _ τ (by omega) (by omega) (by omega) g3 g4
      exact ⟨σ', f1, q_fr_t g5 f2⟩
theorem e_dearC10 {N n m d h i K M : Nat} {S : q_f} {L : q_L} {row : q_f} (hN : 300 ≤ N) (hi : i < 8) (hM : M ≤ 9) (ok : q_ok S L n m d row h 9 i K M) : ∀ (r v k : Nat) (was top wh u : Int32) (σ : jw_M), v + r = M + 1 → 1 ≤ v → r < k → q_SC 1 σ (va_up S K u) L m → q_PC 27 σ row → ∃ σ', f_F_worthiest_0_10_14 N k (nI i) (nI M) was top wh (nI v) σ = some (q_dr (fun v => (q_rs (va_up S K (nI v)) L 16 0 row).1) r v top wh, jx_w σ' 10 i was) ∧ q_fr (q_pgx 9 i) σ σ' := by
  intro r
  induction r with
  | zero =>
    intro v k was top wh u σ hv v1 hk hS hP
    obtain ⟨k, rfl⟩ : ∃ j, k = j + 1 := ⟨k - 1, by omega⟩
    refine ⟨σ, ?_, q_fr_r _ _⟩
    rw [f_F_worthiest_0_10_14, if_pos (nI_lt (by omega) (by omega)), q_in hi (by decide), cond_true, nI_clamp (by omega)]
    rfl
  | succ r ih =>
    intro v k was top wh u σ hv v1 hk hS hP
    obtain ⟨k, rfl⟩ : ∃ j, k = j + 1 := ⟨k - 1, by omega⟩
    obtain ⟨τ, g1, g2, g3, g4, g5⟩ := e_putC hN ok v1 (by omega) hS hP
    rw [f_F_worthiest_0_10_14, if_neg (nI_nlt (by omega) (by omega)), q_in hi (by decide), cond_true, nI_clamp (by omega), show f_F_worthOfRest N 16 (jx_w σ 10 i (nI v)) = _ from g1, Option.bind_some, q_dr]
    unfold f_F_worthiest_0_10_48
    dsimp only
    rw [nI_1]
    by_cases c : (q_rs (va_up S K (nI v)) L 16 0 row).1 ≤ top
    · rw [if_pos c, if_pos c]
      obtain ⟨σ', f1, f2⟩ := ih (v + 1) k was top wh _ τ (by omega) (by omega) (by omega) g3 g4
      exact ⟨σ', f1, q_fr_t g5 f2⟩
    · rw [if_neg c, if_neg c]
      obtain ⟨σ', f1, f2⟩ := ih (v + 1) k was _ (nI v) _ τ (by omega) (by omega) (by omega) g3 g4
      exact ⟨σ', f1, q_fr_t g5 f2⟩
theorem e_dearM {N n m d h cc i K M : Nat} {S : q_f} {L : q_L} {row : q_f} (hN : 300 ≤ N) (hM : M ≤ 9) (hK : K < 94) (ok : q_ok S L n m d row h cc i K M) : ∀ (r v k : Nat) (was top wh u : Int32) (σ : jw_M), v + r = M + 1 → 1 ≤ v → r < k → σ.1 3 = va_up S K u → σ.1 1 = row → ∃ σ', f_M_dearest_16 N k (nI K) (nI M) was wh top (nI v) σ = some (q_dr (fun v => (q_rs (va_up S K (nI v)) L 16 0 row).1) r v top wh, jx_w σ' 3 K was) ∧ q_fr (q_p2x K) σ σ' ∧ σ'.1 1 = row := by
  intro r
  induction r with
  | zero =>
    intro v k was top wh u σ hv v1 hk hS hP
    obtain ⟨k, rfl⟩ : ∃ j, k = j + 1 := ⟨k - 1, by omega⟩
    refine ⟨σ, ?_, q_fr_r _ _, hP⟩
    rw [f_M_dearest_16, if_pos (nI_lt (by omega) (by omega)), q_in (show K < 526 by omega) (by decide), cond_true, nI_clamp (by omega)]
    rfl
  | succ r ih =>
    intro v k was top wh u σ hv v1 hk hS hP
    obtain ⟨k, rfl⟩ : ∃ j, k = j + 1 := ⟨k - 1, by omega⟩
    obtain ⟨w1, w2, w3⟩ := ok.2.2.1 v v1 (by omega)
    have hS2 : (jx_w σ 3 K (nI v)).1 3 = va_up S K (nI v) := by rw [q_w1, hS, q_up_up]
    obtain ⟨τ, g1, g2, g3⟩ := e_restW hN w1 w2 (show 16 ≤ 16 by decide) w3 hS2 (by rw [q_w0 (by decide)]; exact hP)
    have g4 : τ.1 3 = va_up S K (nI v) := by rw [← hS2]; exact funext fun j => g3.1 3 j rfl
    have g5 : τ.1 1 = row := by rw [g2, q_w0 (by decide)]; exact hP
    have g6 : q_fr (q_p2x K) σ τ := q_fr_t (q_fr_w (q_fr_r _ _) q_p2x_1) (q_fr_m g3 (fun c j z => q_p2x_0 z))
    rw [f_M_dearest_16, if_neg (nI_nlt (by omega) (by omega)), q_in (show K < 526 by omega) (by decide), cond_true, nI_clamp (by omega), show f_M_restWorth N 16 (jx_w σ 3 K (nI v)) = _ from g1, Option.bind_some, q_dr]
    unfold f_M_dearest_52 f_M_dearest_68
    dsimp only
    rw [nI_1]
    by_cases c : (q_rs (va_up S K (nI v)) L 16 0 row).1 ≤ top
    · rw [if_pos c, if_pos c, if_pos c]
      obtain ⟨σ', f1, f2, f3⟩ := ih (v + 1) k was top wh _ τ (by omega) (by omega) (by omega) g4 g5
      exact ⟨σ', f1, q_fr_t g6 f2, f3⟩
    · rw [if_neg c, if_neg c, if_neg c]
      obtain ⟨σ', f1, f2, f3⟩ := ih (v + 1) k was _ (nI v) _ τ (by omega) (by omega) (by omega) g4 g5
      exact ⟨σ', f1, q_fr_t g6 f2, f3⟩
theorem q_dr1 {f : Nat → Int32} {r : Nat} {a b : Int32} (h : ∃ c, c < 2 ^ 31 ∧ f 1 = nI c) : q_dr f (r + 1) 1 (-1) a = q_dr f (r + 1) 1 (-1) b := by
  obtain ⟨c, c1, c2⟩ := h
  rw [q_dr, q_dr, c2, if_neg (q_nm1 c1), if_neg (q_nm1 c1)]
theorem u_quickFor {N : Nat} (hN : 300 ≤ N) {x : Int32} : q_U (f_F_quickFor N x) (f_M_quickFor N x) := by
  intro σC σM hR
  obtain ⟨⟨L, n, m, d, h, t, hw, hq, ht, hRM, hr, hS, hP⟩, hO⟩ := id hR
  have hP : q_PC 27 σC (σM.1 1) := hP
  have en : σC.1 1 0 = nI n := by rw [show σC.1 1 0 = _ from hS.1 0 0 2 rfl]; exact hw.2.2.2.2.1
  have hn := hw.1
  unfold f_F_quickFor f_M_quickFor
  rcases q_shD (N := N) (x := x) en hw.2.2.2.2.1 hw.1 with ⟨a, b⟩ | ⟨p, hp, rfl, a, b⟩
  · rw [a, b, q_bz0, q_bz0]
    exact ⟨_, σC, σM, rfl, rfl, hR⟩
  · have ok := q_okq hw hRM hr hp
    have e0 : va_up (σM.1 3) (6 + 3 * p + 1) (σM.1 3 (6 + 3 * p + 1)) = σM.1 3 := q_up_id
    obtain ⟨τ, t1, t2⟩ := e_dearC3 hN (show p < 6 by omega) (by decide) ok 9 1 N (σC.1 3 p) (-1) 1 (σM.1 3 (6 + 3 * p + 1)) σC (by decide) (by decide) (by omega) (by rw [e0]; exact hS) hP
    obtain ⟨υ, v1, v2, v3⟩ := e_dearM hN (by decide) (show 6 + 3 * p + 1 < 94 by omega) ok 9 1 N (σM.1 3 (6 + 3 * p + 1)) (-1) 0 (σM.1 3 (6 + 3 * p + 1)) σM (by decide) (by decide) (by omega) e0.symm rfl
    rw [a, b, q_bz1, q_bz1]
    unfold f_F_worthiest_0_3 f_M_dearest
    dsimp only
    rw [q_in (show p < 6 by omega) (by decide), cond_true, nI_clamp (show p < 2 ^ 31 by omega), show (6 + (3 * nI p)) + 1 = nI (6 + 3 * p + 1) from q_i3 p 1, q_in (show 6 + 3 * p + 1 < 526 by omega) (by decide), cond_true, nI_clamp (show 6 + 3 * p + 1 < 2 ^ 31 by omega), show f_F_worthiest_0_3_14 N N (nI p) 9 (σC.1 3 p) (-1) 1 1 σC = _ from t1, show f_M_dearest_16 N N (nI (6 + 3 * p + 1)) 9 (σM.1 3 (6 + 3 * p + 1)) 0 (-1) 1 σM = _ from v1, Option.bind_some, Option.bind_some]
    refine ⟨_, _, _, rfl, ?_, q_R_t hR (q_bkC (cc := 2) (by unfold q_pg; simp) t2) ?_ (q_bkM v2)⟩
    · rw [q_dr1 (a := 0) (b := 1)]
      obtain ⟨c, c1, c2⟩ := q_rs_w (L := L) (ok.2.2.1 1 (by decide) (by decide)).1 16 0 (σM.1 1)
      exact ⟨c, by omega, c2⟩
    · rw [q_w0 (by decide)]
      exact v3
theorem u_roomFor {N : Nat} (hN : 300 ≤ N) {x : Int32} : q_U (f_F_roomFor N x) (f_M_roomFor N x) := by
  intro σC σM hR
  obtain ⟨⟨L, n, m, d, h, t, hw, hq, ht, hRM, hr, hS, hP⟩, hO⟩ := id hR
  have hP : q_PC 27 σC (σM.1 1) := hP
  have em : σC.1 1 5 = nI m := by rw [show σC.1 1 5 = _ from hS.1 0 5 3 rfl]; exact hw.2.2.2.2.2.1
  have hm := hw.2.1
  unfold f_F_roomFor f_M_roomFor
  rcases q_leD (N := N) (x := x) em hw.2.2.2.2.2.1 hw.2.1 with ⟨a, b⟩ | ⟨p, hp, rfl, a, b⟩
  · rw [a, b, q_bz0, q_bz0]
    exact ⟨_, σC, σM, rfl, rfl, hR⟩
  · have ok := q_okr hw hRM hr hp
    have e0 : va_up (σM.1 3) (24 + 5 * p + 4) (σM.1 3 (24 + 5 * p + 4)) = σM.1 3 := q_up_id
    obtain ⟨τ, t1, t2⟩ := e_dearC10 hN (show p < 8 by omega) (by decide) ok 6 1 N (σC.1 10 p) (-1) 1 (σM.1 3 (24 + 5 * p + 4)) σC (by decide) (by decide) (by omega) (by rw [e0]; exact hS) hP
    obtain ⟨υ, v1, v2, v3⟩ := e_dearM hN (by decide) (show 24 + 5 * p + 4 < 94 by omega) ok 6 1 N (σM.1 3 (24 + 5 * p + 4)) (-1) 0 (σM.1 3 (24 + 5 * p + 4)) σM (by decide) (by decide) (by omega) e0.symm rfl
    rw [a, b, q_bz1, q_bz1]
    unfold f_F_worthiest_0_10 f_M_dearest
    dsimp only
    rw [q_in (show p < 8 by omega) (by decide), cond_true, nI_clamp (show p < 2 ^ 31 by omega), show (24 + (5 * nI p)) + 4 = nI (24 + 5 * p + 4) from q_i5 p 4, q_in (show 24 + 5 * p + 4 < 526 by omega) (by decide), cond_true, nI_clamp (show 24 + 5 * p + 4 < 2 ^ 31 by omega), show f_F_worthiest_0_10_14 N N (nI p) 6 (σC.1 10 p) (-1) 1 1 σC = _ from t1, show f_M_dearest_16 N N (nI (24 + 5 * p + 4)) 6 (σM.1 3 (24 + 5 * p + 4)) 0 (-1) 1 σM = _ from v1, Option.bind_some, Option.bind_some]
    refine ⟨_, _, _, rfl, ?_, q_R_t hR (q_bkC (cc := 9) (by unfold q_pg; simp) t2) ?_ (q_bkM v2)⟩
    · rw [q_dr1 (a := 0) (b := 1)]
      obtain ⟨c, c1, c2⟩ := q_rs_w (L := L) (ok.2.2.1 1 (by decide) (by decide)).1 16 0 (σM.1 1)
      exact ⟨c, by omega, c2⟩
    · rw [q_w0 (by decide)]
      exact v3
/-! ===== letGoBy ===== -/
def q_fst (P : Nat → Bool) : Nat → Nat → Int32
  | 0, _ => -3
  | r + 1, v => bif P v then nI v else q_fst P r (v + 1)
def q_dn (P : Nat → Bool) : Nat → Int32 → Int32
  | 0, x => x
  | v + 1, x => q_dn P v (bif P (v + 1) then nI (v + 1) else x)
theorem q_dn_f {P : Nat → Bool} : ∀ (v r : Nat), q_dn P v (q_fst P r (v + 1)) = q_fst P (r + v) 1
  | 0, r => rfl
  | v + 1, r => by
    rw [q_dn, show (bif P (v + 1) then nI (v + 1) else q_fst P r (v + 1 + 1)) = q_fst P (r + 1) (v + 1) from rfl, q_dn_f v (r + 1), show r + 1 + v = r + (v + 1) by omega]
def q_lP (S : q_f) (L : q_L) (row : q_f) (m p K : Nat) (v : Nat) : Bool := decide ((q_rs (va_up S K (nI v)) L 16 0 row).2 (2 + p) = q_all m)
theorem e_lgbC {N n m d h p K : Nat} {S : q_f} {L : q_L} {row : q_f} (hN : 300 ≤ N) (hp : p < 6) (ok : q_ok S L n m d row h 2 p K 9) : ∀ (r v k : Nat) (was u : Int32) (σ : jw_M), v + r = 10 → 1 ≤ v → r < k → q_SC 1 σ (va_up S K u) L m → q_PC 27 σ row → ∃ σ', f_F_letGoBy_29 N k (nI p) was (-3) (nI v) σ = some (q_fst (q_lP S L row m p K) r v, jx_w σ' 3 p was) ∧ q_fr (q_pgx 2 p) σ σ' := by
  intro r
  induction r with
  | zero =>
    intro v k was u σ hv v1 hk hS hP
    obtain ⟨k, rfl⟩ : ∃ j, k = j + 1 := ⟨k - 1, by omega⟩
    refine ⟨σ, ?_, q_fr_r _ _⟩
    unfold f_F_letGoBy_29 f_F_letGoBy_88
    rw [if_pos (show (9 : Int32) < nI v from nI_lt (a := 9) (by omega) (by omega)), q_in hp (by decide), cond_true, nI_clamp (by omega)]
    rfl
  | succ r ih =>
    intro v k was u σ hv v1 hk hS hP
    obtain ⟨k, rfl⟩ : ∃ j, k = j + 1 := ⟨k - 1, by omega⟩
    obtain ⟨τ, g1, g2, g3, g4, g5⟩ := e_putC hN ok v1 (by omega) hS hP
    have e5 : τ.1 1 5 = nI m := by rw [show τ.1 1 5 = _ from g3.1 0 5 3 rfl]; exact (ok.2.2.1 v v1 (by omega)).1.2.2.2.2.2.1
    rw [f_F_letGoBy_29, if_neg (show ¬ (9 : Int32) < nI v from nI_nlt (b := v) (a := 9) (by omega) (by omega)), if_pos rfl, q_in hp (by decide), cond_true, nI_clamp (by omega), show f_F_worthOfRest N 16 (jx_w σ 3 p (nI v)) = _ from g1, Option.bind_some]
    unfold f_F_letGoBy_82
    dsimp only
    rw [e_allC e5, Option.bind_some]
    dsimp only
    rw [show τ.1 77 p = _ from q_PCl g2 hp, nI_1, q_fst]
    by_cases c : (q_rs (va_up S K (nI v)) L 16 0 row).2 (2 + p) = q_all m
    · rw [if_pos c, show q_lP S L row m p K v = true from decide_eq_true c, cond_true]
      obtain ⟨k, rfl⟩ : ∃ j, k = j + 1 := ⟨k - 1, by omega⟩
      refine ⟨τ, ?_, g5⟩
      unfold f_F_letGoBy_29 f_F_letGoBy_88
      rw [q_in hp (by decide), cond_true, nI_clamp (by omega), if_neg (show ¬ nI v = -3 from fun z => nI_pos (n := v) (by omega) (by rw [z]; decide)), ite_self]
    · rw [if_neg c, show q_lP S L row m p K v = false from decide_eq_false c, cond_false]
      obtain ⟨σ', f1, f2⟩ := ih (v + 1) k was _ τ (by omega) (by omega) (by omega) g3 g4
      exact ⟨σ', f1, q_fr_t g5 f2⟩
theorem e_lgbM {N n m d h p cc K : Nat} {S : q_f} {L : q_L} {row : q_f} (hN : 300 ≤ N) (hp : p < n) (hK : K < 94) (ok : q_ok S L n m d row h cc p K 9) : ∀ (v k : Nat) (was x u : Int32) (σ : jw_M), v ≤ 9 → v < k → σ.1 3 = va_up S K u → σ.1 1 = row → ∃ σ', f_M_letGoBy_34 N k (nI p) (nI K) was x (nI v) σ = some (q_dn (q_lP S L row m p K) v x, jx_w σ' 3 K was) ∧ q_fr (q_p2x K) σ σ' ∧ σ'.1 1 = row := by
  intro v
  induction v with
  | zero =>
    intro k was x u σ hv hk hS hP
    obtain ⟨k, rfl⟩ : ∃ j, k = j + 1 := ⟨k - 1, by omega⟩
    refine ⟨σ, ?_, q_fr_r _ _, hP⟩
    rw [f_M_letGoBy_34, if_pos (show nI 0 < 1 by decide), q_in (show K < 526 by omega) (by decide), cond_true, nI_clamp (by omega)]
    rfl
  | succ v ih =>
    intro k was x u σ hv hk hS hP
    obtain ⟨k, rfl⟩ : ∃ j, k = j + 1 := ⟨k - 1, by omega⟩
    obtain ⟨w1, w2, w3⟩ := ok.2.2.1 (v + 1) (by omega) (by omega)
    have hn := w1.1
    have hS2 : (jx_w σ 3 K (nI (v + 1))).1 3 = va_up S K (nI (v + 1)) := by rw [q_w1, hS, q_up_up]
    obtain ⟨τ, g1, g2, g3⟩ := e_letGoM hN w1 w2 w3 hS2 (by rw [q_w0 (by decide)]; exact hP)
    have g4 : τ.1 3 = va_up S K (nI (v + 1)) := by rw [← hS2]; exact funext fun j => g3.1 3 j rfl
    have g5 : τ.1 1 = row := by rw [g2, q_w0 (by decide)]; exact hP
    have g6 : q_fr (q_p2x K) σ τ := q_fr_t (q_fr_w (q_fr_r _ _) q_p2x_1) (q_fr_m g3 (fun c j z => q_p2x_0 z))
    have hb : bt (q_lg (q_rs (va_up S K (nI (v + 1))) L 16 0 row).2 (q_all m) n 0 0) p = q_lP S L row m p K (v + 1) := by
      rw [q_lg_b (by omega) n 0 0 (by omega), b_0, Bool.false_or, decide_eq_true (show 0 ≤ p by omega), decide_eq_true (show p < 0 + n by omega), Bool.true_and, Bool.true_and]
      rfl
    rw [f_M_letGoBy_34, if_neg (show ¬ nI (v + 1) < 1 from nI_nlt (b := 1) (by omega) (by omega)), q_in (show K < 526 by omega) (by decide), cond_true, nI_clamp (by omega), g1, Option.bind_some, q_dn]
    unfold f_M_letGoBy_67
    dsimp only
    rw [pk_m1]
    cases c : q_lP S L row m p K (v + 1)
    · rw [if_neg (fun z => by rw [q_bit1 _ (by omega), hb, c] at z; cases z), cond_false]
      obtain ⟨σ', f1, f2, f3⟩ := ih k was x _ τ (by omega) (by omega) g4 g5
      exact ⟨σ', f1, q_fr_t g6 f2, f3⟩
    · rw [if_pos ((q_bit1 _ (by omega)).mpr (by rw [hb, c])), cond_true]
      obtain ⟨σ', f1, f2, f3⟩ := ih k was (nI (v + 1)) _ τ (by omega) (by omega) g4 g5
      exact ⟨σ', f1, q_fr_t g6 f2, f3⟩
theorem u_letGoBy {N : Nat} (hN : 300 ≤ N) {x : Int32} : q_U (f_F_letGoBy N x) (f_M_letGoBy N x) := by
  intro σC σM hR
  obtain ⟨⟨L, n, m, d, h, t, hw, hq, ht, hRM, hr, hS, hP⟩, hO⟩ := id hR
  have hP : q_PC 27 σC (σM.1 1) := hP
  have en : σC.1 1 0 = nI n := by rw [show σC.1 1 0 = _ from hS.1 0 0 2 rfl]; exact hw.2.2.2.2.1
  have hn := hw.1
  unfold f_F_letGoBy f_M_letGoBy
  rcases q_shD (N := N) (x := x) en hw.2.2.2.2.1 hw.1 with ⟨a, b⟩ | ⟨p, hp, rfl, a, b⟩
  · rw [a, b, q_bz0, q_bz0]
    exact ⟨_, σC, σM, rfl, rfl, hR⟩
  · have ok := q_okq hw hRM hr hp
    have e0 : va_up (σM.1 3) (6 + 3 * p + 1) (σM.1 3 (6 + 3 * p + 1)) = σM.1 3 := q_up_id
    obtain ⟨τ, t1, t2⟩ := e_lgbC hN (show p < 6 by omega) ok 9 1 N (σC.1 3 p) (σM.1 3 (6 + 3 * p + 1)) σC (by decide) (by decide) (by omega) (by rw [e0]; exact hS) hP
    obtain ⟨υ, v1, v2, v3⟩ := e_lgbM hN hp (show 6 + 3 * p + 1 < 94 by omega) ok 9 N (σM.1 3 (6 + 3 * p + 1)) (-3) (σM.1 3 (6 + 3 * p + 1)) σM (by decide) (by omega) e0.symm rfl
    rw [a, b, q_bz1, q_bz1]
    dsimp only
    rw [q_in (show p < 6 by omega) (by decide), cond_true, nI_clamp (show p < 2 ^ 31 by omega), show (6 + (3 * nI p)) + 1 = nI (6 + 3 * p + 1) from q_i3 p 1, q_in (show 6 + 3 * p + 1 < 526 by omega) (by decide), cond_true, nI_clamp (show 6 + 3 * p + 1 < 2 ^ 31 by omega), show f_F_letGoBy_29 N N (nI p) (σC.1 3 p) (-3) 1 σC = _ from t1, show f_M_letGoBy_34 N N (nI p) (nI (6 + 3 * p + 1)) (σM.1 3 (6 + 3 * p + 1)) (-3) 9 σM = _ from v1]
    refine ⟨_, _, _, rfl, ?_, q_R_t hR (q_bkC (cc := 2) (by unfold q_pg; simp) t2) ?_ (q_bkM v2)⟩
    · rw [show (-3 : Int32) = q_fst (q_lP (σM.1 3) L (σM.1 1) m p (6 + 3 * p + 1)) 0 (9 + 1) from rfl, q_dn_f 9 0]
    · rw [q_w0 (by decide)]
      exact v3
