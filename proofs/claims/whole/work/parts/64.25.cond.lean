/-! ===== pure: reading: one, and a condition ===== -/
theorem Z_join {E : q_En} {N k op V m m' pd pv o o' : Nat} {L : q_L} {c : List q_I} {σ τ : jw_M} (G : q_G E) (Z : q_Z E k op L c V m (pd + 1) pv σ τ) (h : (o = 3 ∧ o' = 4 ∧ m = m' + 1 ∧ 1 ≤ m') ∨ (o = 4 ∧ o' = 5 ∧ m = m' + 1 ∧ 1 ≤ m') ∨ (o = 5 ∧ o' = 3 ∧ m = m' ∧ 1 ≤ m')) : ∃ c' σ' τ', f_R_addStep N (nI o) 0 0 σ = some σ' ∧ f_M_step N (nI o') 0 τ = some τ' ∧ q_Z E k op L c' V m' pd pv σ' τ' := by
  obtain ⟨zC, zM, z3, z4, z5, z6, z7, z8⟩ := Z
  have hL : L.length ≤ 8 := zC.2.2.1
  have hT := G.1
  have pT := q_p_T G zC.1.2.2.1
  have ff : q_fl1 (o, (false, 0), (false, 0)) = [(o', 0)] := by
    rcases h with ⟨rfl, rfl, _⟩ | ⟨rfl, rfl, _⟩ | ⟨rfl, rfl, _⟩ <;> rfl
  obtain ⟨σ1, a1, a2⟩ := C_step (N := N) (o := o) (x2 := 0) (x3 := 0) (v := (false, 0)) (w := (false, 0)) zC (by omega) (fun z => by omega)
  obtain ⟨τ1, b1, b2⟩ := M_step (N := N) (a := o') (b := 0) hL zM (by rw [List.length_nil]; omega)
  refine ⟨_, σ1, τ1, a1, b1, a2, M_cl b2 (by rw [ff]; rfl), ?_, ?_, q_io_a z5 ⟨show o < 6 by omega, fun (y : o < 3) => by omega⟩, ?_, ?_, z8⟩
  · rw [q_dp_a, z3, z4]
    rcases h with ⟨rfl, rfl, rfl, g⟩ | ⟨rfl, rfl, rfl, g⟩ | ⟨rfl, rfl, rfl, g⟩
    · show (true && (decide (3 < 5) && decide (2 ≤ m' + 1) && true)) = true
      rw [decide_eq_true (show 2 ≤ m' + 1 by omega)]
      rfl
    · show (true && (decide (4 < 5) && decide (2 ≤ m' + 1) && true)) = true
      rw [decide_eq_true (show 2 ≤ m' + 1 by omega)]
      rfl
    · show (true && (decide (1 ≤ m) && true)) = true
      rw [decide_eq_true g]
      rfl
  · rw [q_dl_a, z4]
    rcases h with ⟨rfl, rfl, rfl, g⟩ | ⟨rfl, rfl, rfl, g⟩ | ⟨rfl, rfl, rfl, g⟩ <;> rfl
  · rw [List.length_append, List.length_singleton]
    omega
  · rw [q_fl_a, ff, List.length_append, List.length_singleton]
    omega
/-- a token taken on both sides -/
theorem Z_go {E : q_En} {N k op V m pd pv : Nat} {L : q_L} {c : List q_I} {σ τ : jw_M} (hN : 300 ≤ N) (G : q_G E) (Z : q_Z E k op L c V m pd pv σ τ) (hk : k < E.nt) : ∃ σ' τ', f_D_goOn N σ = some σ' ∧ f_M_advance N τ = some τ' ∧ q_Z E (k + 1) op L c V m pd (pv + 1) σ' τ' := by
  obtain ⟨zC, zM, z3, z4, z5, z6, z7, z8⟩ := Z
  obtain ⟨σ1, a1, a2, _⟩ := C_go (N := N) G zC hk
  obtain ⟨τ1, b1, b2⟩ := M_adv (N := N) hN G zC.2.2.1 zM hk
  have p := q_p_1 G hk
  exact ⟨σ1, τ1, a1, b1, a2, b2, z3, z4, z5, by omega, by omega, by omega⟩
/-- a word taken on both sides: room for one step more -/
theorem Z_goW {E : q_En} {N k op V m pd pv j : Nat} {L : q_L} {c : List q_I} {σ τ : jw_M} (hN : 300 ≤ N) (G : q_G E) (Z : q_Z E k op L c V m pd pv σ τ) (hj : j < 18) (e : q_t E k = nI j) : ∃ σ' τ', f_D_goOn N σ = some σ' ∧ f_M_advance N τ = some τ' ∧ q_Z E (k + 1) op L c V m (pd + 1) (pv + 1) σ' τ' := by
  have hk := q_t_lt G Z.1.1.2.2.1 e (by omega)
  have p := q_p_2 G hk hj e
  obtain ⟨σ1, τ1, a1, b1, zC, zM, z3, z4, z5, z6, z7, z8⟩ := Z_go (N := N) hN G Z hk
  obtain ⟨_, _, _, _, _, y6, y7, _⟩ := Z
  exact ⟨σ1, τ1, a1, b1, zC, zM, z3, z4, z5, by omega, by omega, z8⟩
theorem Z_pd {E : q_En} {k op V m pd pd' pv pv' : Nat} {L : q_L} {c : List q_I} {σ τ : jw_M} (Z : q_Z E k op L c V m pd pv σ τ) (h : pd' ≤ pd) (h2 : pv' ≤ pv) : q_Z E k op L c V m pd' pv' σ τ := by
  obtain ⟨zC, zM, z3, z4, z5, z6, z7, z8⟩ := Z
  exact ⟨zC, zM, z3, z4, z5, by omega, by omega, by omega⟩
theorem Z_ne {E : q_En} {k op V m pd pv : Nat} {L : q_L} {c : List q_I} {σ τ : jw_M} (Z : q_Z E k op L c V m pd pv σ τ) : ¬ τ.1 0 13 = 0 := M_13 Z.2.1
theorem M_f140 {N : Nat} {R' : jw_M → Option jw_M} {x1 : Int32} {τ : jw_M} (h : τ.1 0 13 = 0) : f_M_readOne_140 N R' x1 τ = some τ := by
  unfold f_M_readOne_140
  rw [if_pos h]
theorem M_f108 {N : Nat} {R' : jw_M → Option jw_M} {x1 : Int32} {τ : jw_M} : f_M_readOne_108 N R' x1 τ = some (jx_w τ 0 13 0) := by
  unfold f_M_readOne_108 f_M_readOne_109
  rw [if_pos (Or.inl rfl), q_wS, if_pos rfl, M_f140 q_wS]
theorem M_fone {N : Nat} {R' : jw_M → Option jw_M} {τ : jw_M} (hN : 1 ≤ N) (h : τ.1 0 13 = 0) : f_M_readOne N R' τ = some τ := by
  obtain ⟨n, rfl⟩ : ∃ n, N = n + 1 := ⟨N - 1, by omega⟩
  unfold f_M_readOne
  rw [f_M_readOne_2, if_pos h]
  unfold f_M_readOne_29
  rw [if_pos h]
  unfold f_M_readOne_136
  rw [M_failt h, Option.bind_some, M_f140 h]
theorem C_71 {N : Nat} {R : Int32 → jw_M → Option (Int32 × jw_M)} {x2 : Int32} {σ : jw_M} : f_D_readOne_71 N R x2 0 σ = some (0, σ) := by
  unfold f_D_readOne_71
  rw [if_pos rfl, if_pos (Or.inl rfl)]
theorem q_par : ∀ i, i < 256 → (nI i - nI i / 2 * 2) = nI (i % 2) := by decide +kernel
theorem Z_tail {E : q_En} {N k k0 op V m pd i : Nat} {L : q_L} {c : List q_I} {σ τ : jw_M} {R : Int32 → jw_M → Option (Int32 × jw_M)} {R' : jw_M → Option jw_M} (G : q_G E) (hi : i < 256) (hk : k0 < k) (Z : q_Z E k op L c V (m + 1) (pd + i % 2) 1 σ τ) : q_Out E op L (m + 1) pd 1 k0 (f_D_readOne_71 N R (nI (i % 2)) 1 σ) (f_M_readOne_140 N R' (nI i) τ) := by
  unfold f_D_readOne_71 f_M_readOne_140
  rw [if_neg (show ¬ (1 : Int32) = 0 by decide), if_neg (Z_ne Z), q_par i hi]
  rcases (show i % 2 = 0 ∨ i % 2 = 1 by omega) with e | e
  · rw [e] at Z ⊢
    rw [if_pos (show nI 0 = 0 from rfl), if_pos (Or.inr rfl), if_neg (show ¬ nI 0 = 1 by decide)]
    exact Or.inl ⟨k, c, V, σ, τ, rfl, rfl, hk, Z⟩
  · rw [e] at Z ⊢
    obtain ⟨c', σ1, τ1, a1, a2, a3⟩ := Z_join (N := N) (o := 5) (o' := 3) (m' := m + 1) G Z (Or.inr (Or.inr ⟨rfl, rfl, rfl, by omega⟩))
    rw [if_neg (show ¬ nI 1 = 0 by decide), show f_R_addStep N 5 0 0 σ = some σ1 from a1, Option.bind_some, if_pos (Or.inr rfl), if_pos (show nI 1 = 1 from rfl), show f_M_step N 3 0 τ = some τ1 from a2, Option.bind_some]
    exact Or.inl ⟨k, c', V, σ1, τ1, rfl, rfl, hk, a3⟩
theorem Z_45 {E : q_En} {N k op V m pd i : Nat} {L : q_L} {c : List q_I} {σ τ : jw_M} {R : Int32 → jw_M → Option (Int32 × jw_M)} {R' : jw_M → Option jw_M} (hN : 300 ≤ N) (G : q_G E) (hop : op ≤ 3) (hi : i < 256) (hm : m ≤ 2 * op + 2) (hF : ∀ τ, τ.1 0 13 = 0 → R' τ = some τ) (hR : op < 3 → ∀ k c V m pd σ τ, m ≤ 2 * (op + 1) → q_Z E k (op + 1) L c V m pd 2 σ τ → q_Out E (op + 1) L (m + 1) pd 1 k (R (nI (op + 1)) σ) (R' τ)) (Z : q_Z E k op L c V m (pd + i % 2) 2 σ τ) : q_Out E op L (m + 1) pd 1 k (f_D_readOne_45 N R (nI op) (nI (i % 2)) σ) (f_M_readOne_29 N R' (nI i) τ) := by
  have hL : L.length ≤ 8 := Z.1.2.2.1
  obtain ⟨a1, a2, _⟩ := C_at G Z.1.1
  unfold f_D_readOne_45 f_M_readOne_29
  rw [a1, cond_true, a2, if_neg (Z_ne Z)]
  by_cases h40 : q_t E k = nI 40
  · have hk := q_t_lt G Z.1.1.2.2.1 h40 (by decide)
    rw [if_pos (show q_t E k = 40 from h40), show f_M_isMark N 40 τ = some (1, τ) from (M_m (b := 40) G Z.2.1 (by omega)).1 h40, q_y1]
    dsimp only
    unfold f_D_readWithin
    rw [Z.2.1.2.2.2.1]
    by_cases o3 : op < 3
    · rw [if_pos (show nI op < 3 from nI_lt (b := 3) o3 (by decide)), if_neg (show ¬ (3 : Int32) ≤ nI op from nI_ge (b := 3) o3 (by decide))]
      unfold f_M_readOne_59
      rw [if_pos (Or.inr rfl), q_wId Z.2.1.2.2.1, if_neg (Z_ne Z), Z.2.1.2.2.2.1, nI_1]
      have Z1 : q_Z E k (op + 1) L c V m (pd + i % 2) 2 σ (jx_w τ 0 17 (nI (op + 1))) := ⟨Z.1, M_op hL Z.2.1, Z.2.2⟩
      obtain ⟨σ1, τ1, b1, b2, b3⟩ := Z_go (N := N) hN G Z1 hk
      rw [b1, Option.bind_some, b2, Option.bind_some]
      unfold f_M_readOne_83
      rcases hR o3 (k + 1) c V m (pd + i % 2) σ1 τ1 (by omega) (Z_pd b3 (Nat.le_refl _) (by omega)) with ⟨k', c', V', σ', τ', r1, r2, r3, r4⟩ | ⟨k', σ', τ', r1, r2, r3, r4⟩
      · rw [r1, q_bz1, r2, Option.bind_some, if_neg (Z_ne r4)]
        dsimp only
        unfold f_D_readSign
        obtain ⟨d1, d2, _⟩ := C_at G r4.1.1
        rw [d1, cond_true, d2]
        by_cases h41 : q_t E k' = nI 41
        · have hk' := q_t_lt G r4.1.1.2.2.1 h41 (by decide)
          have Z2 : q_Z E k' op L c' V' (m + 1) (pd + i % 2) 1 σ' (jx_w τ' 0 17 (nI op)) := ⟨r4.1, M_op hL r4.2.1, r4.2.2⟩
          obtain ⟨σ2, τ2, g1, g2, g3⟩ := Z_go (N := N) hN G Z2 hk'
          rw [if_pos (show q_t E k' = 41 from h41), show f_M_isMark N 41 τ' = some (1, τ') from (M_m (b := 41) G r4.2.1 (by omega)).1 h41, q_y1, g1]
          dsimp only
          unfold f_M_readOne_109
          rw [if_pos (Or.inr rfl), q_wId r4.2.1.2.2.1, if_neg (Z_ne r4), r4.2.1.2.2.2.1, show nI (op + 1) - 1 = nI op from (pk_sub (a := op + 1) (b := 1) (by omega)).trans (by rw [Nat.add_sub_cancel]), g2, Option.bind_some, Option.bind_some, if_neg (show ¬ ((1 : Int32), σ2).1 = 0 by show ¬ (1 : Int32) = 0; decide), Option.bind_some, Option.bind_some]
          exact Z_tail G hi (show k < k' + 1 by omega) (Z_pd g3 (Nat.le_refl _) (by omega))
        · rw [if_neg (show ¬ q_t E k' = 41 from h41), show f_M_isMark N 41 τ' = some (0, τ') from (M_m (b := 41) G r4.2.1 (by omega)).2 h41, q_y0, q_y0, M_f108, Option.bind_some]
          dsimp only
          rw [C_71]
          exact Or.inr ⟨k', σ', _, rfl, rfl, r4.1.1, M_fl r4.2.1⟩
      · rw [r1, q_bz0, r2, Option.bind_some, Option.bind_some, if_pos r4.1, M_f108, q_wId r4.1]
        dsimp only
        rw [C_71]
        exact Or.inr ⟨k', σ', _, rfl, rfl, r3, r4⟩
    · rw [if_neg (show ¬ nI op < 3 from Int32.not_lt.mpr (nI_le (a := 3) (by omega) (by omega))), if_pos (show (3 : Int32) ≤ nI op from nI_le (a := 3) (by omega) (by omega)), Option.bind_some]
      dsimp only
      rw [C_71]
      unfold f_M_readOne_59
      rw [if_pos (Or.inl rfl), q_wS, if_pos rfl]
      unfold f_M_readOne_83
      rw [hF _ q_wS, Option.bind_some, q_wS, if_pos rfl, M_f108, q_wId q_wS]
      exact Or.inr ⟨k, σ, _, rfl, rfl, Z.1.1, M_fl Z.2.1⟩
  · rw [if_neg (show ¬ q_t E k = 40 from h40), show f_M_isMark N 40 τ = some (0, τ) from (M_m (b := 40) G Z.2.1 (by omega)).2 h40, q_y0]
    dsimp only
    unfold f_M_readOne_136
    rcases Z_cmp (N := N) hN G Z (by omega) with ⟨k', c', V', σ', τ', r1, r2, r3, r4⟩ | ⟨k', σ', τ', r1, r2, r3, r4⟩
    · rw [r1, Option.bind_some, r2, Option.bind_some]
      exact Z_tail G hi r3 r4
    · rw [r1, Option.bind_some, r2, Option.bind_some]
      dsimp only
      rw [C_71, M_f140 r4.1]
      exact Or.inr ⟨k', σ', _, rfl, rfl, r3, r4⟩
theorem Z_out {E : q_En} {op m pd pv k0 k1 : Nat} {L : q_L} {r : Option (Int32 × jw_M)} {s : Option jw_M} (h : k0 ≤ k1) (o : q_Out E op L m pd pv k1 r s) : q_Out E op L m pd pv k0 r s := by
  rcases o with ⟨k', c', V', σ', τ', r1, r2, r3, r4⟩ | o
  · exact Or.inl ⟨k', c', V', σ', τ', r1, r2, by omega, r4⟩
  · exact Or.inr o
theorem Z_oneL {E : q_En} {N op m pd : Nat} {L : q_L} {R : Int32 → jw_M → Option (Int32 × jw_M)} {R' : jw_M → Option jw_M} (hN : 300 ≤ N) (G : q_G E) (hop : op ≤ 3) (hm : m ≤ 2 * op + 2) (hF : ∀ τ, τ.1 0 13 = 0 → R' τ = some τ) (hR : op < 3 → ∀ k c V m pd σ τ, m ≤ 2 * (op + 1) → q_Z E k (op + 1) L c V m pd 2 σ τ → q_Out E (op + 1) L (m + 1) pd 1 k (R (nI (op + 1)) σ) (R' τ)) : ∀ (d k i f f' V : Nat) (c : List q_I) (σ τ : jw_M), E.nt - k = d → i + 2 ≤ k → d < f → d < f' → q_Z E k op L c V m (pd + i % 2) 2 σ τ → q_Out E op L (m + 1) pd 1 k (f_D_readOne_4 N R f (nI op) (nI (i % 2)) (nI i) σ) (f_M_readOne_2 N R' f' (nI i) τ)
  | d, k, i, 0, f', V, c, σ, τ, hd, hik, hf, hf', Z => by omega
  | d, k, i, f + 1, 0, V, c, σ, τ, hd, hik, hf, hf', Z => by omega
  | d, k, i, f + 1, f' + 1, V, c, σ, τ, hd, hik, hf, hf', Z => by
    have hk : k ≤ E.nt := Z.1.1.2.2.1
    have hT := G.1
    have hnT := G.2.1
    obtain ⟨a1, a2, _⟩ := C_at G Z.1.1
    rw [f_D_readOne_4, f_M_readOne_2, if_neg (show ¬ (200 : Int32) ≤ nI i from nI_ge (b := 200) (by omega) (by decide)), a1, cond_true, a2, if_neg (Z_ne Z)]
    by_cases h12 : q_t E k = nI 12
    · have hk1 := q_t_lt G hk h12 (by decide)
      rw [if_pos (show q_t E k = 12 from h12), (M_w Z.2.1 (by decide) q_W12).1 h12, q_y1]
      obtain ⟨σ1, τ1, b1, b2, b3⟩ := Z_goW (N := N) hN G Z (by decide) h12
      dsimp only
      unfold f_D_readOne_34
      rw [b1, b2, Option.bind_some, Option.bind_some, Option.bind_some, nI_1]
      have hz := Z_oneL (pd := pd) hN G hop hm hF hR (E.nt - (k + 1)) (k + 1) (i + 1) f f' V c σ1 τ1 rfl (by omega) (by omega) (by omega) (Z_pd b3 (by omega) (by omega))
      rcases (show i % 2 = 0 ∨ i % 2 = 1 by omega) with e | e
      · rw [e, if_pos (show nI 0 = 0 from rfl)]
        rw [show (i + 1) % 2 = 1 by omega] at hz
        exact Z_out (by omega) hz
      · rw [e, if_neg (show ¬ nI 1 = 0 by decide)]
        rw [show (i + 1) % 2 = 0 by omega] at hz
        exact Z_out (by omega) hz
    · rw [if_neg (show ¬ q_t E k = 12 from h12), (M_w Z.2.1 (by decide) q_W12).2 h12, q_y0]
      exact Z_45 hN G hop (by omega) hm hF hR Z
theorem Z_one {E : q_En} {N op m pd k V : Nat} {L : q_L} {c : List q_I} {σ τ : jw_M} {R : Int32 → jw_M → Option (Int32 × jw_M)} {R' : jw_M → Option jw_M} (hN : 300 ≤ N) (G : q_G E) (hop : op ≤ 3) (hm : m ≤ 2 * op + 2) (hF : ∀ τ, τ.1 0 13 = 0 → R' τ = some τ) (hR : op < 3 → ∀ k c V m pd σ τ, m ≤ 2 * (op + 1) → q_Z E k (op + 1) L c V m pd 2 σ τ → q_Out E (op + 1) L (m + 1) pd 1 k (R (nI (op + 1)) σ) (R' τ)) (Z : q_Z E k op L c V m pd 2 σ τ) : q_Out E op L (m + 1) pd 1 k (f_D_readOne N R (nI op) σ) (f_M_readOne N R' τ) := by
  have hT := G.1
  have hnT := G.2.1
  have z8 := Z.2.2.2.2.2.2.2
  exact Z_oneL (pd := pd) hN G hop hm hF hR (E.nt - k) k 0 N N V c σ τ rfl (by omega) (by omega) (by omega) Z
