/-! ===== pure: reading: both go together; a comparison ===== -/
theorem q_dl_a : ∀ (c : List q_I) (x : q_I) (n : Nat), q_dl (c ++ [x]) n = q_dl [x] (q_dl c n)
  | [], x, n => rfl
  | y :: c, x, n => by
    have e1 : q_dl (y :: c) n = if y.1 < 3 then q_dl c (n + 1) else if y.1 = 5 then q_dl c n else q_dl c (n - 1) := by rw [q_dl]
    have e2 : q_dl (y :: c ++ [x]) n = if y.1 < 3 then q_dl (c ++ [x]) (n + 1) else if y.1 = 5 then q_dl (c ++ [x]) n else q_dl (c ++ [x]) (n - 1) := by rw [List.cons_append, q_dl]
    rw [e1, e2]
    by_cases h1 : y.1 < 3
    · rw [if_pos h1, if_pos h1, q_dl_a c x]
    · rw [if_neg h1, if_neg h1]
      by_cases h2 : y.1 = 5
      · rw [if_pos h2, if_pos h2, q_dl_a c x]
      · rw [if_neg h2, if_neg h2, q_dl_a c x]
theorem q_dp_a : ∀ (c : List q_I) (x : q_I) (n : Nat), q_dp (c ++ [x]) n = (q_dp c n && q_dp [x] (q_dl c n))
  | [], x, n => by
    show q_dp [x] n = (true && q_dp [x] n)
    rw [Bool.true_and]
  | y :: c, x, n => by
    rw [List.cons_append, q_dp, q_dp, q_dl]
    by_cases h1 : y.1 < 3
    · rw [if_pos h1, if_pos h1, if_pos h1, q_dp_a c x, Bool.and_assoc]
    · rw [if_neg h1, if_neg h1, if_neg h1]
      by_cases h2 : y.1 = 5
      · rw [if_pos h2, if_pos h2, if_pos h2, q_dp_a c x, Bool.and_assoc]
      · rw [if_neg h2, if_neg h2, if_neg h2, q_dp_a c x, ← Bool.and_assoc]
def q_Z (E : q_En) (k op : Nat) (L : q_L) (c : List q_I) (V m pd pv : Nat) (σ τ : jw_M) : Prop := q_ZC E k L c V σ ∧ q_ZM E k op L c [] τ ∧ q_dp c 0 = true ∧ q_dl c 0 = m ∧ (∀ y, y ∈ c → q_io y) ∧ 2 * (q_E L + c.length + pd) ≤ q_p E k ∧ q_Fm L + (q_fl c).length + pd ≤ q_p E k ∧ 2 * V + pv ≤ k
def q_Bad (E : q_En) (r : Option (Int32 × jw_M)) (s : Option jw_M) : Prop := ∃ k' σ' τ', r = some (0, σ') ∧ s = some τ' ∧ q_CT E k' σ' ∧ q_Fl E k' τ'
def q_Out (E : q_En) (op : Nat) (L : q_L) (m pd pv k0 : Nat) (r : Option (Int32 × jw_M)) (s : Option jw_M) : Prop := (∃ k' c' V' σ' τ', r = some (1, σ') ∧ s = some τ' ∧ k0 < k' ∧ q_Z E k' op L c' V' m pd pv σ' τ') ∨ q_Bad E r s
theorem q_io_a {c : List q_I} {I : q_I} (h : ∀ y, y ∈ c → q_io y) (hI : q_io I) : ∀ y, y ∈ c ++ [I] → q_io y := fun y hy => by
  rcases List.mem_append.mp hy with z | z
  · exact h y z
  · rw [List.mem_singleton.mp z]
    exact hI
theorem q_lt60 : ∀ j, j < 60 → nI j - 60 < 0 := by decide +kernel
theorem q_lt6 : ∀ j, j < 6 → nI j - 6 < 0 := by decide +kernel
theorem q_opc {E : q_En} {k : Nat} (G : q_G E) (h : k ≤ E.nt) : (∃ o, o < 3 ∧ q_t E k = nI (60 + o)) ∨ ((q_t E k - 60 < 0 ∨ 2 < q_t E k - 60) ∧ q_t E k ≠ nI 60 ∧ q_t E k ≠ nI 61 ∧ q_t E k ≠ nI 62) := by
  rcases q_t_c G h with ⟨_, e⟩ | ⟨_, e | ⟨j, hj, e⟩ | ⟨b, hb, e⟩ | ⟨v, hv, e⟩⟩
  · rw [e]
    exact Or.inr (by decide)
  · rw [e]
    exact Or.inr (by decide)
  · exact Or.inr ⟨Or.inl (by rw [e]; exact q_lt60 j (by omega)), q_tne e (by omega) (by omega) (by decide), q_tne e (by omega) (by omega) (by decide), q_tne e (by omega) (by omega) (by decide)⟩
  · by_cases c : 60 ≤ b
    · exact Or.inl ⟨b - 60, by omega, by rw [e, show 60 + (b - 60) = b by omega]⟩
    · exact Or.inr ⟨Or.inl (by rw [e]; exact q_lt60 b (by omega)), q_tne e (by omega) (by omega) (by decide), q_tne e (by omega) (by omega) (by decide), q_tne e (by omega) (by omega) (by decide)⟩
  · refine Or.inr ⟨Or.inr ?_, q_tne e (by omega) (by omega) (by decide), q_tne e (by omega) (by omega) (by decide), q_tne e (by omega) (by omega) (by decide)⟩
    rw [e, show nI (1000 + v) - 60 = nI (1000 + v - 60) from pk_sub (b := 60) (by omega)]
    exact nI_lt (a := 2) (by omega) (by omega)
theorem q_isv_lt {E : q_En} {k : Nat} {v : Bool × Nat} (G : q_G E) (h : k ≤ E.nt) (e : q_isv (q_t E k) v) : k < E.nt := by
  rcases e with ⟨_, a, b⟩ | ⟨_, a, b⟩
  · exact q_t_lt G h b (by omega)
  · exact q_t_lt G h b (by omega)
theorem q_isv_io {d : Int32} {v : Bool × Nat} (e : q_isv d v) : v.1 = true → v.2 < 5 := fun z => by
  rcases e with ⟨_, a, _⟩ | ⟨a, _⟩
  · exact a
  · rw [a] at z
    exact absurd z (by decide)
theorem M_t43 {N : Nat} {τ : jw_M} : f_M_readTest_43 N τ = some (jx_w τ 0 13 0) := by
  unfold f_M_readTest_43 f_M_readTest_44
  rw [if_pos (Or.inl rfl), q_wS, if_pos rfl]
  unfold f_M_readTest_63
  rw [M_failv q_wS, Option.bind_some, q_wS, if_pos rfl]
theorem M_failt {N : Nat} {τ : jw_M} (h : τ.1 0 13 = 0) : f_M_readTest N τ = some τ := by
  unfold f_M_readTest
  rw [M_failv h, Option.bind_some, if_pos h, M_t43, q_wId h]
theorem Z_cmp {E : q_En} {N k op V m pd : Nat} {L : q_L} {c : List q_I} {σ τ : jw_M} (hN : 300 ≤ N) (G : q_G E) (Z : q_Z E k op L c V m pd 2 σ τ) (hm : m < 9) : q_Out E op L (m + 1) pd 1 k (f_D_readComparison N σ) (f_M_readTest N τ) := by
  obtain ⟨zC, zM, z3, z4, z5, z6, z7, z8⟩ := Z
  have hL : L.length ≤ 8 := zC.2.2.1
  have hk : k ≤ E.nt := zC.1.2.2.1
  have hT := G.1
  have hnT := G.2.1
  have pT := q_p_T G hk
  obtain ⟨a1, a2, a3⟩ := C_at G zC.1
  unfold f_D_readComparison f_M_readTest
  rw [a1, cond_true, a2]
  rcases q_isv_c G hk with ⟨v, hv⟩ | hv
  · have hk1 := q_isv_lt G hk hv
    have p1 := q_p_1 G hk1
    have pk := G.2.2.1 k hk1
    rw [C_isv hv, q_bz1]
    dsimp only
    obtain ⟨a, V1, σ1, b1, b2, b3, b4, b5, b6, b7⟩ := C_val (N := N) zC hv (by omega)
    rw [a1, cond_true, a2, b1, Option.bind_some]
    obtain ⟨σ2, c1, c2, c3⟩ := C_go (N := N) G b2 hk1
    obtain ⟨d1, d2, _⟩ := C_at G c2.1
    dsimp only
    rw [c1, Option.bind_some, d1, cond_true, d2]
    obtain ⟨τ1, t1, t2⟩ := M_val (N := N) hN G hL zM hv hk1 (by rw [List.length_nil]; omega)
    rw [t1, Option.bind_some, if_neg (M_13 t2)]
    rcases q_opc G (show k + 1 ≤ E.nt by omega) with ⟨o, ho, eo⟩ | ⟨n1, n2, n3, n4⟩
    · have hk2 := q_t_lt G (show k + 1 ≤ E.nt by omega) eo (by omega)
      have p2 := q_p_1 G hk2
      have w12 : τ1.1 0 12 = nI (60 + o) := e_mark12 t2.2.1 (fun h => G.2.2.2.2 _ h) (by omega) eo
      have w39 : ((f_M_isMark N 60 τ1).bind fun z13 => if z13.1 = 0 then (f_M_isMark N 61 z13.2).bind fun z16 => if z16.1 = 0 then (f_M_isMark N 62 z16.2).bind fun z19 => if z19.1 = 0 then f_M_readTest_43 N z19.2 else f_M_readTest_39 N z19.2 else f_M_readTest_39 N z16.2 else f_M_readTest_39 N z13.2) = f_M_readTest_39 N τ1 := by
        by_cases o0 : o = 0
        · subst o0
          rw [show f_M_isMark N 60 τ1 = some (1, τ1) from (M_m (b := 60) G t2 (by omega)).1 eo, q_y1]
        rw [show f_M_isMark N 60 τ1 = some (0, τ1) from (M_m (b := 60) G t2 (by omega)).2 (q_tne eo (by omega) (by omega) (by decide)), q_y0]
        dsimp only
        by_cases o1 : o = 1
        · subst o1
          rw [show f_M_isMark N 61 τ1 = some (1, τ1) from (M_m (b := 61) G t2 (by omega)).1 eo, q_y1]
        rw [show f_M_isMark N 61 τ1 = some (0, τ1) from (M_m (b := 61) G t2 (by omega)).2 (q_tne eo (by omega) (by omega) (by decide)), q_y0]
        dsimp only
        have o2 : o = 2 := by omega
        subst o2
        rw [show f_M_isMark N 62 τ1 = some (1, τ1) from (M_m (b := 62) G t2 (by omega)).1 eo, q_y1]
      rw [w39, eo, show nI (60 + o) - 60 = nI o from (pk_sub (a := 60 + o) (b := 60) (by omega)).trans (by rw [Nat.add_sub_cancel_left]), e_win1 (fun z => by
        rcases z with z | z
        · exact nI_pos (by omega) z
        · exact absurd z (Int32.not_lt.mpr (nI_le (b := 2) (by omega) (by decide)))), q_bz1]
      dsimp only
      obtain ⟨σ3, e1, e2, e3⟩ := C_go (N := N) G c2 hk2
      obtain ⟨f1, f2, _⟩ := C_at G e2.1
      rw [e1, Option.bind_some, f1, cond_true, f2]
      obtain ⟨τ2, s1, s2⟩ := M_adv (N := N) hN G hL t2 hk2
      unfold f_M_readTest_39 f_M_readTest_44
      rw [if_pos (Or.inr rfl), q_wId t2.2.2.1, if_neg (M_13 t2), s1, Option.bind_some, w12]
      unfold f_M_readTest_63
      rcases q_isv_c G (show k + 1 + 1 ≤ E.nt by omega) with ⟨w, hw⟩ | hw
      · have hk3 := q_isv_lt G (show k + 1 + 1 ≤ E.nt by omega) hw
        have p3 := q_p_1 G hk3
        have pk3 := G.2.2.1 _ hk3
        rw [C_isv hw, q_bz1]
        dsimp only
        obtain ⟨b, V2, σ4, g1, g2, g3, g4, g5, g6, g7⟩ := C_val (N := N) e2 hw (by omega)
        rw [f1, cond_true, f2, g1, Option.bind_some]
        dsimp only
        obtain ⟨σ5, h1, h2⟩ := C_step (N := N) (o := o) (x2 := nI a) (x3 := nI b) (v := v) (w := w) g2 (by omega) (fun _ => ⟨a, b, by omega, g5, rfl, rfl, g7 _ _ b5 (e3 _ _ (c3 _ _ b6)), g6⟩)
        obtain ⟨σ6, i1, i2, _⟩ := C_go (N := N) G h2 hk3
        obtain ⟨τ3, j1, j2⟩ := M_val (N := N) hN G hL s2 hw hk3 (by rw [List.nil_append, List.length_singleton]; omega)
        obtain ⟨τ4, l1, l2⟩ := M_step (N := N) (a := 2) (b := 60 + o) hL j2 (by rw [List.nil_append, List.length_append, List.length_singleton, List.length_singleton]; omega)
        rw [h1, Option.bind_some, i1, Option.bind_some, j1, Option.bind_some, if_neg (M_13 j2), show f_M_step N 2 (nI (60 + o)) τ3 = _ from l1, Option.bind_some]
        have ff : q_fl1 (o, v, w) = [q_fv v, q_fv w, (2, 60 + o)] := if_pos ho
        refine Or.inl ⟨k + 1 + 1 + 1, _, V2, σ6, τ4, rfl, rfl, by omega, i2, M_cl l2 (by rw [ff]; rfl), ?_, ?_, q_io_a z5 ⟨show o < 6 by omega, fun _ => ⟨q_isv_io hv, q_isv_io hw⟩⟩, ?_, ?_, by omega⟩
        · rw [q_dp_a, z3, z4]
          show (true && (if o < 3 then decide (m < 9) && true else _)) = true
          rw [if_pos ho, decide_eq_true hm]
          rfl
        · rw [q_dl_a, z4]
          show (if o < 3 then m + 1 else _) = m + 1
          rw [if_pos ho]
        · rw [List.length_append, List.length_singleton]
          omega
        · rw [q_fl_a, ff, List.length_append]
          show _ + (_ + 3) + _ ≤ _
          omega
      · rw [C_nov hw, q_bz0, M_nov s2 hw, Option.bind_some, q_wS, if_pos rfl]
        exact Or.inr ⟨_, _, _, rfl, rfl, e2.1, M_fl s2⟩
    · rw [e_win0 n1, q_bz0, show f_M_isMark N 60 τ1 = some (0, τ1) from (M_m (b := 60) G t2 (by omega)).2 n2, q_y0]
      dsimp only
      rw [show f_M_isMark N 61 τ1 = some (0, τ1) from (M_m (b := 61) G t2 (by omega)).2 n3, q_y0]
      dsimp only
      rw [show f_M_isMark N 62 τ1 = some (0, τ1) from (M_m (b := 62) G t2 (by omega)).2 n4, q_y0, M_t43]
      exact Or.inr ⟨_, _, _, rfl, rfl, c2.1, M_fl t2⟩
  · rw [C_nov hv, q_bz0, M_nov zM hv, Option.bind_some, q_wS, if_pos rfl, M_t43, q_wId q_wS]
    exact Or.inr ⟨_, _, _, rfl, rfl, zC.1, M_fl zM⟩
