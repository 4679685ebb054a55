/-! ===== pure: best, ith, ways, taught, bars ===== -/
def q_hr (x d h : Nat) : Nat := if d - h < x then d - h else x
theorem q_hr_4 {x d h : Nat} (hx : x ≤ 4) (hh : h ≤ d) : q_hr x d h ≤ 4 ∧ h + q_hr x d h ≤ d := by
  unfold q_hr
  split <;> omega
def q_wA (c i : Nat) : Bool := (c == 92 && decide (2 ≤ i) && decide (i ≤ 9)) || (decide (94 ≤ c) && decide (c ≤ 115)) || (c == 26 && decide (i < 5))
theorem q_wA_t (c i : Nat) (z : q_cO c i ∨ (1 ≤ c ∧ c ≤ 29 ∧ (c ≠ 26 ∨ 5 ≤ i))) : q_wA c i = false := by
  unfold q_cO at z
  unfold q_wA
  simp
  omega
theorem q_pm_t (c i : Nat) (z : q_mO c i ∨ c = 3) : q_pm c i = false := by
  unfold q_mO at z
  unfold q_pm
  simp
  omega
theorem e_planHours {N n m d h x : Nat} {S row : q_f} {σ : jw_M} (hx : x ≤ 4) (hw : q_wf S n m d) (hr : q_wr S n m d row h) (h3 : σ.1 3 = S) (h1 : σ.1 1 = row) : f_M_planHours N (nI x) σ = some (nI (q_hr x d h), σ) := by
  have d16 := hw.2.2.2.1
  have hhd := hr.2.1
  unfold f_M_planHours q_hr
  rw [h3, h1, hr.1, hw.2.2.2.2.2.2.1, pk_sub hhd]
  by_cases c : d - h < x
  · rw [if_neg (nI_ge c (by omega)), if_pos c, if_pos (nI_pos' (by omega))]
  · rw [if_pos (nI_le (by omega) (by omega)), if_neg c]
theorem e_walkAll {N n m d h x : Nat} {wanted : Int32} {S : q_f} {L : q_L} {row : q_f} {σ : jw_M} (hN : 300 ≤ N) (hx : x ≤ 4) (hw : q_wf S n m d) (hR : q_RM S L) (hr : q_wr S n m d row h) (hS : q_SC 1 σ S L m) (hP : q_PC 27 σ row) : ∃ σ', f_L_walkAll N (nI x) wanted σ = some σ' ∧ q_LS (q_hr x d h) (n + 1) wanted (q_fB (q_gB S L (n + 1) row (q_hr x d h)) ((n + 1) ^ (q_hr x d h)) 0 (-1, 0, 0)) (q_fT (q_gT S L (n + 1) row (q_hr x d h) wanted) ((n + 1) ^ (q_hr x d h)) 0 (5, 0)) σ' ∧ q_LD (q_hr x d h) (n + 1) (q_fB (q_gB S L (n + 1) row (q_hr x d h)) ((n + 1) ^ (q_hr x d h)) 0 (-1, 0, 0)) σ' ∧ q_SC 1 σ' S L m ∧ q_PC 94 σ' row ∧ q_fr q_wA σ σ' := by
  have d16 := hw.2.2.2.1
  have hhd := hr.2.1
  obtain ⟨h4, hd⟩ := q_hr_4 (x := x) hx hhd
  unfold f_L_walkAll
  obtain ⟨τ, t1, t2, t3⟩ := e_copyP (N := N) (p0 := 94) hP (by omega)
  rw [t1, Option.bind_some]
  have S1 := q_SC_g hS (by decide) (q_pp_g t3)
  have P1 : q_PC 27 τ row := q_PC_k hP (fun c i hc => t3.1 _ _ (by unfold q_pp; simp; omega))
  have em : f_J_min N (nI x) ((τ.1 1 14) - (τ.1 27 0)) τ = some (nI (q_hr x d h), τ) := by
    unfold f_J_min q_hr
    rw [show τ.1 1 14 = _ from S1.1 0 14 0 rfl, q_PC0 P1, hr.1, hw.2.2.2.2.2.2.1, pk_sub hhd]
    by_cases c : d - h < x
    · rw [if_pos (nI_lt c (by omega)), if_pos c]
    · rw [if_neg (nI_nlt (by omega) (by omega)), if_neg c]
  rw [em, Option.bind_some]
  obtain ⟨H, hH⟩ : ∃ H, H = q_hr x d h := ⟨_, rfl⟩
  rw [← hH] at h4 hd ⊢
  dsimp only
  obtain ⟨υ, hυ⟩ : ∃ z, z = jx_w (jx_w (jx_w (jx_w (jx_w (jx_w τ 92 2 (nI H)) 92 3 (-1)) 92 4 0) 92 6 wanted) 92 7 5) 92 8 0 := ⟨_, rfl⟩
  rw [← hυ]
  have g1 : ∀ c i, c ≠ 92 → υ.1 c i = τ.1 c i := fun c i z => by rw [hυ, q_wC z, q_wC z, q_wC z, q_wC z, q_wC z, q_wC z]
  have S2 : q_SC 1 υ S L m := q_SC_k S1 (fun c i h1 h2 => g1 _ _ (by omega))
  have P2 : q_PC 94 υ row := q_PC_k t2 (fun c i hc => g1 _ _ (by omega))
  have nd : q_nd S L (n + 1) m row 0 0 υ := ⟨S2, P2, fun k hk => absurd hk (by omega)⟩
  have LS : q_LS H (n + 1) wanted (-1, 0, 0) (5, 0) υ := by
    rw [hυ]
    refine ⟨?_, ?_, ?_, ?_, ?_, by decide, q_wS, Or.inl rfl⟩
    · rw [q_wI (by decide), q_wI (by decide), q_wI (by decide), q_wI (by decide), q_wI (by decide), q_wS]
    · rw [q_wI (by decide), q_wI (by decide), q_wI (by decide), q_wI (by decide), q_wS]
    · rw [q_wI (by decide), q_wI (by decide), q_wI (by decide), q_wS]
    · rw [q_wI (by decide), q_wI (by decide), q_wS]
    · rw [q_wI (by decide), q_wS]
      rfl
  obtain ⟨ω, o1, o2, o3, o4⟩ := e_walk (wanted := wanted) (L := L) (row := row) hN h4 rfl hw hR hr hd H 0 0 64 (-1, 0, 0) (5, 0) υ (by omega) (by omega) nd LS
  rw [Nat.zero_mul] at o2 o3
  rw [show f_L_walk N 64 0 0 0 υ = _ from o1, Option.bind_some]
  have fr : q_fr q_wA σ υ := by
    rw [hυ]
    refine q_fr_w (q_fr_w (q_fr_w (q_fr_w (q_fr_w (q_fr_w (q_fr_m t3 (fun c i z => ?_)) rfl) rfl) rfl) rfl) rfl) rfl
    unfold q_wA at z
    unfold q_pp
    simp at z ⊢
    omega
  have nd' := q_wk_nd (by decide) nd o4
  refine ⟨ω, rfl, o2, o3, nd'.1, nd'.2.1, q_fr_t fr (q_fr_m o4 (fun c i z => ?_))⟩
  unfold q_wA at z
  unfold q_wk
  simp at z ⊢
  omega
theorem u_best {N : Nat} (hN : 3000 ≤ N) {x : Int32} : q_U (f_F_best N x) (f_M_best N x) := by
  intro σC σM hR
  obtain ⟨⟨L, n, m, d, h, t, hw, hq, ht, hRM, hr, hS, hP⟩, hO⟩ := id hR
  unfold f_F_best f_M_best
  by_cases c : x < 0 ∨ 4 < x
  · rw [e_win0 c, e_in0 c, q_bz0, q_bz0]
    exact ⟨_, σC, σM, rfl, rfl, hR⟩
  · rw [e_win1 c, e_in1 c, q_bz1, q_bz1]
    dsimp only
    obtain ⟨j, _, j4, rfl⟩ := q_num 0 4 c
    obtain ⟨h4, hd⟩ := q_hr_4 (x := j) j4 hr.2.1
    obtain ⟨τ, t1, t2, t3, t4, t5, t6⟩ := e_walkAll (N := N) (wanted := 0) (by omega) j4 hw hRM hr hS hP
    rw [t1, Option.bind_some, e_planHours j4 hw hr rfl rfl, Option.bind_some]
    dsimp only
    obtain ⟨ω, o1, o2, o3, o4, o5, o6, o7, o8, o9⟩ := e_findBest (L := L) hN h4 hw hRM hr hd (rfl : σM.1 3 = _) rfl
    rw [o1, Option.bind_some, t2.2.1, o2]
    exact ⟨_, τ, ω, rfl, rfl, q_R_tf hR t6 o7 o9 q_wA_t q_pm_t⟩
theorem u_ways {N : Nat} (hN : 3000 ≤ N) {x : Int32} : q_U (f_F_ways N x) (f_M_ways N x) := by
  intro σC σM hR
  obtain ⟨⟨L, n, m, d, h, t, hw, hq, ht, hRM, hr, hS, hP⟩, hO⟩ := id hR
  unfold f_F_ways f_M_ways
  by_cases c : x < 0 ∨ 4 < x
  · rw [e_win0 c, e_in0 c, q_bz0, q_bz0]
    exact ⟨_, σC, σM, rfl, rfl, hR⟩
  · rw [e_win1 c, e_in1 c, q_bz1, q_bz1]
    dsimp only
    obtain ⟨j, _, j4, rfl⟩ := q_num 0 4 c
    obtain ⟨h4, hd⟩ := q_hr_4 (x := j) j4 hr.2.1
    obtain ⟨τ, t1, t2, t3, t4, t5, t6⟩ := e_walkAll (N := N) (wanted := 0) (by omega) j4 hw hRM hr hS hP
    rw [t1, Option.bind_some, e_planHours j4 hw hr rfl rfl, Option.bind_some]
    dsimp only
    obtain ⟨ω, o1, o2, o3, o4, o5, o6, o7, o8, o9⟩ := e_findBest (L := L) hN h4 hw hRM hr hd (rfl : σM.1 3 = _) rfl
    rw [o1, Option.bind_some, t2.2.2.1, o3]
    exact ⟨_, τ, ω, rfl, rfl, q_R_tf hR t6 o7 o9 q_wA_t q_pm_t⟩
theorem u_ith {N : Nat} (hN : 3000 ≤ N) {x y : Int32} : q_U (f_F_ith N x y) (f_M_ith N x y) := by
  intro σC σM hR
  obtain ⟨⟨L, n, m, d, h, t, hw, hq, ht, hRM, hr, hS, hP⟩, hO⟩ := id hR
  have hn := hw.1
  unfold f_F_ith f_M_ith
  by_cases c : x < 0 ∨ 4 < x
  · rw [e_win0 c, e_in0 c, q_bz0, q_bz0]
    exact ⟨_, σC, σM, rfl, rfl, hR⟩
  · rw [e_win1 c, e_in1 c, q_bz1, q_bz1]
    dsimp only
    by_cases c2 : y < 0 ∨ 3 < y
    · rw [e_win0 c2, e_in0 c2, q_bz0, q_bz0]
      exact ⟨_, σC, σM, rfl, rfl, hR⟩
    · rw [e_win1 c2, e_in1 c2, q_bz1, q_bz1]
      dsimp only
      obtain ⟨j, _, j4, rfl⟩ := q_num 0 4 c
      obtain ⟨i, _, i3, rfl⟩ := q_num 0 3 c2
      obtain ⟨h4, hd⟩ := q_hr_4 (x := j) j4 hr.2.1
      have hbH := q_bH hn h4
      obtain ⟨τ, t1, t2, t3, t4, t5, t6⟩ := e_walkAll (N := N) (wanted := 0) (by omega) j4 hw hRM hr hS hP
      rw [t1, Option.bind_some, e_planHours j4 hw hr rfl rfl, Option.bind_some]
      dsimp only
      rw [t2.1]
      by_cases ci : i < q_hr j d h
      · rw [if_neg (nI_ge ci (by omega)), if_pos (nI_lt ci (by omega))]
        obtain ⟨ω, o1, o2, o3, o4, o5, o6, o7, o8, o9⟩ := e_findBest (L := L) hN h4 hw hRM hr hd (rfl : σM.1 3 = _) rfl
        rw [o1, Option.bind_some, o4, e_actIn (by omega) hn (by rw [o6]; exact hw.2.2.2.2.1) h4 ci (by omega), Option.bind_some, q_in (show i < 4 by omega) (by decide), cond_true, nI_clamp (by omega), t3.2 i ci]
        exact ⟨_, τ, ω, rfl, rfl, q_R_tf hR t6 o7 o9 q_wA_t q_pm_t⟩
      · rw [if_pos (nI_le (by omega) (by omega)), if_neg (nI_nlt (by omega) (by omega))]
        exact ⟨_, τ, σM, rfl, rfl, q_R_tf hR t6 rfl (q_fr_r q_pm _) q_wA_t q_pm_t⟩
/-! ===== sets of lessons ===== -/
theorem q_alT : ∀ m, m < 9 → ∀ j, j < 256 → (decide (nI j &&& (q_all m ^^^ (-1)) = 0)) = !decide (nI j < 0 ∨ q_all m < nI j) := by decide +kernel
theorem q_alB : ∀ m, m < 9 → ∃ a, a < 256 ∧ q_all m = nI a := by
  intro m hm
  rcases (show m = 0 ∨ m = 1 ∨ m = 2 ∨ m = 3 ∨ m = 4 ∨ m = 5 ∨ m = 6 ∨ m = 7 ∨ m = 8 by omega) with rfl | rfl | rfl | rfl | rfl | rfl | rfl | rfl | rfl
  · exact ⟨0, by decide, by decide⟩
  · exact ⟨1, by decide, by decide⟩
  · exact ⟨3, by decide, by decide⟩
  · exact ⟨7, by decide, by decide⟩
  · exact ⟨15, by decide, by decide⟩
  · exact ⟨31, by decide, by decide⟩
  · exact ⟨63, by decide, by decide⟩
  · exact ⟨127, by decide, by decide⟩
  · exact ⟨255, by decide, by decide⟩
theorem q_bn8 {a i : Nat} (ha : a < 256) (hi : 8 ≤ i) : bt (nI a) i = false := by
  unfold bt
  show (BitVec.ofNat 32 a).getLsbD i = false
  rw [BitVec.getLsbD_ofNat]
  rw [Nat.testBit_lt_two_pow (Nat.lt_of_lt_of_le ha (show 256 ≤ 2 ^ i from Nat.pow_le_pow_right (n := 2) (by decide) hi)), Bool.and_false]
theorem q_set {m : Nat} {x : Int32} (hm : m ≤ 8) : (x &&& (q_all m ^^^ (-1)) = 0 ∧ ¬ (x < 0 ∨ q_all m < x) ∧ ∃ j, j < 256 ∧ x = nI j) ∨ (¬ x &&& (q_all m ^^^ (-1)) = 0 ∧ (x < 0 ∨ q_all m < x)) := by
  obtain ⟨a, ha, ea⟩ := q_alB m (by omega)
  by_cases c : ∃ j, j < 256 ∧ x = nI j
  · obtain ⟨j, hj, rfl⟩ := c
    have z := q_alT m (by omega) j hj
    by_cases c2 : nI j < 0 ∨ q_all m < nI j
    · rw [decide_eq_true c2] at z
      exact Or.inr ⟨of_decide_eq_false z, c2⟩
    · rw [decide_eq_false c2] at z
      exact Or.inl ⟨of_decide_eq_true z, c2, j, hj, rfl⟩
  · right
    constructor
    · intro z
      apply c
      obtain ⟨j, hj, e, _⟩ := q_sm x (fun i h1 h2 => by
        have y : bt (x &&& (q_all m ^^^ (-1))) i = bt 0 i := by rw [z]
        rw [q_bn _ _ h2, b_0, ea, q_bn8 ha h1] at y
        revert y
        cases bt x i <;> decide)
      exact ⟨j, hj, e⟩
    · by_cases c2 : x < 0
      · exact Or.inl c2
      · right
        obtain ⟨j, hj, rfl⟩ := nI_of c2
        rw [ea]
        exact nI_lt (by
          rcases Nat.lt_or_ge a j with z | z
          · exact z
          · exact absurd ⟨j, by omega, rfl⟩ c) hj
theorem e_set {N m : Nat} {x : Int32} {σC σM : jw_M} (hm : m ≤ 8) (h5 : σC.1 1 5 = nI m) : (f_S_isSetOfLessons N x σC = some (0, σC) ∧ f_M_in N x 0 (q_all m) σM = some (0, σM)) ∨ (f_S_isSetOfLessons N x σC = some (1, σC) ∧ f_M_in N x 0 (q_all m) σM = some (1, σM) ∧ ∃ j, j < 256 ∧ x = nI j) := by
  unfold f_S_isSetOfLessons
  rw [e_allC h5, Option.bind_some]
  dsimp only
  rcases q_set (x := x) hm with ⟨a, b, c⟩ | ⟨a, b⟩
  · rw [if_pos a]
    exact Or.inr ⟨rfl, e_in1 b, c⟩
  · rw [if_neg a]
    exact Or.inl ⟨rfl, e_in0 b⟩
theorem u_taught {N : Nat} (hN : 3000 ≤ N) {x y : Int32} : q_U (f_F_taught N x y) (f_M_taught N x y) := by
  intro σC σM hR
  obtain ⟨⟨L, n, m, d, h, t, hw, hq, ht, hRM, hr, hS, hP⟩, hO⟩ := id hR
  have em : σC.1 1 5 = nI m := by rw [show σC.1 1 5 = _ from hS.1 0 5 3 rfl]; exact hw.2.2.2.2.2.1
  unfold f_F_taught f_M_taught
  by_cases c : x < 0 ∨ 4 < x
  · rw [e_win0 c, e_in0 c, q_bz0, q_bz0]
    exact ⟨_, σC, σM, rfl, rfl, hR⟩
  · rw [e_win1 c, e_in1 c, q_bz1, q_bz1]
    dsimp only
    rw [e_allM hw.2.2.2.2.2.1, Option.bind_some]
    dsimp only
    rcases e_set (N := N) (x := y) (σM := σM) hw.2.1 em with ⟨a, b⟩ | ⟨a, b, _⟩
    · rw [a, b, q_bz0, q_bz0]
      exact ⟨_, σC, σM, rfl, rfl, hR⟩
    · rw [a, b, q_bz1, q_bz1]
      dsimp only
      obtain ⟨j, _, j4, rfl⟩ := q_num 0 4 c
      obtain ⟨h4, hd⟩ := q_hr_4 (x := j) j4 hr.2.1
      obtain ⟨τ, t1, t2, t3, t4, t5, t6⟩ := e_walkAll (N := N) (wanted := y) (by omega) j4 hw hRM hr hS hP
      rw [t1, Option.bind_some, e_planHours j4 hw hr rfl rfl, Option.bind_some]
      dsimp only
      obtain ⟨ω, o1, o2, o3, o4, o5, o6⟩ := e_findTaught (wanted := y) (L := L) hN h4 hw hRM hr hd (rfl : σM.1 3 = _) rfl
      obtain ⟨_, _, _, _, l7, l5, l8, _⟩ := t2
      rw [o1, Option.bind_some, l7, o2]
      have l5' := l5
      unfold q_en
      by_cases c5 : (q_fT (q_gT (σM.1 3) L (n + 1) (σM.1 1) (q_hr j d h) y) ((n + 1) ^ q_hr j d h) 0 (5, 0)).1 = 5
      · rw [c5, if_pos (show (4 : Int32) < nI 5 by decide), if_pos rfl]
        exact ⟨_, τ, ω, rfl, rfl, q_R_tf hR t6 o5 o6 q_wA_t q_pm_t⟩
      · rw [if_neg (show ¬ (4 : Int32) < nI _ from nI_nlt (a := 4) (by omega) (by decide)), if_neg c5]
        exact ⟨_, τ, ω, rfl, rfl, q_R_tf hR t6 o5 o6 q_wA_t q_pm_t⟩
def q_bl (x : Int32) : Nat → Nat → Int32
  | 0, l => if (8 : Int32) ≤ nI l then -3 else nI l
  | r + 1, l => if ((x >>> (nI l &&& 31)) &&& 1) = 0 then q_bl x r (l + 1) else nI l
theorem q_blT : ∀ j, j < 256 → (if nI j = 0 then -3 else q_ntz (nI j)) = q_bl (nI j) 8 0 := by decide +kernel
theorem e_bars45 {N : Nat} {x : Int32} {σ : jw_M} : ∀ (r l k : Nat), l + r = 8 → r < k → f_M_bars_45 N k x (nI l) σ = some (q_bl x r l, σ)
  | 0, l, k, hl, hk => by
    obtain ⟨k, rfl⟩ : ∃ j, k = j + 1 := ⟨k - 1, by omega⟩
    rw [f_M_bars_45, if_pos (show (8 : Int32) ≤ nI l from nI_le (a := 8) (by omega) (by omega))]
    unfold f_M_bars_67 q_bl
    rw [if_pos (show (8 : Int32) ≤ nI l from nI_le (a := 8) (by omega) (by omega)), if_pos (show (8 : Int32) ≤ nI l from nI_le (a := 8) (by omega) (by omega))]
  | r + 1, l, k, hl, hk => by
    obtain ⟨k, rfl⟩ : ∃ j, k = j + 1 := ⟨k - 1, by omega⟩
    rw [f_M_bars_45, if_neg (show ¬ (8 : Int32) ≤ nI l from nI_ge (b := 8) (by omega) (by decide)), q_bl]
    by_cases c : ((x >>> (nI l &&& 31)) &&& 1) = 0
    · rw [if_pos c, if_pos c, nI_1]
      exact e_bars45 r (l + 1) k (by omega) (by omega)
    · rw [if_neg c, if_neg c]
      unfold f_M_bars_67
      rw [if_neg (show ¬ (8 : Int32) ≤ nI l from nI_ge (b := 8) (by omega) (by decide))]
theorem u_bars {N : Nat} (hN : 3000 ≤ N) {x y : Int32} : q_U (f_F_bars N x y) (f_M_bars N x y) := by
  intro σC σM hR
  obtain ⟨⟨L, n, m, d, h, t, hw, hq, ht, hRM, hr, hS, hP⟩, hO⟩ := id hR
  have em : σC.1 1 5 = nI m := by rw [show σC.1 1 5 = _ from hS.1 0 5 3 rfl]; exact hw.2.2.2.2.2.1
  unfold f_F_bars f_M_bars
  by_cases c : x < 0 ∨ 4 < x
  · rw [e_win0 c, e_in0 c, q_bz0, q_bz0]
    exact ⟨_, σC, σM, rfl, rfl, hR⟩
  · rw [e_win1 c, e_in1 c, q_bz1, q_bz1]
    dsimp only
    rw [e_allM hw.2.2.2.2.2.1, Option.bind_some]
    dsimp only
    rcases e_set (N := N) (x := y) (σM := σM) hw.2.1 em with ⟨a, b⟩ | ⟨a, b, z, hz, rfl⟩
    · rw [a, b, q_bz0, q_bz0]
      exact ⟨_, σC, σM, rfl, rfl, hR⟩
    · rw [a, b, q_bz1, q_bz1]
      dsimp only
      obtain ⟨j, _, j4, rfl⟩ := q_num 0 4 c
      obtain ⟨h4, hd⟩ := q_hr_4 (x := j) j4 hr.2.1
      obtain ⟨τ, t1, t2, t3, t4, t5, t6⟩ := e_walkAll (N := N) (wanted := nI z) (by omega) j4 hw hRM hr hS hP
      rw [t1, Option.bind_some, e_planHours j4 hw hr rfl rfl, Option.bind_some]
      dsimp only
      obtain ⟨ω, o1, o2, o3, o4, o5, o6⟩ := e_findTaught (wanted := nI z) (L := L) hN h4 hw hRM hr hd (rfl : σM.1 3 = _) rfl
      obtain ⟨_, _, _, _, l7, l5, l8, _⟩ := t2
      rw [o1, Option.bind_some, l8, o3]
      generalize (q_fT (q_gT (σM.1 3) L (n + 1) (σM.1 1) (q_hr j d h) (nI z)) ((n + 1) ^ q_hr j d h) 0 (5, 0)).2 = v
      obtain ⟨e, he, ee, _⟩ := q_sm (nI z &&& (v ^^^ (-1))) (fun i h1 h2 => by rw [q_bn _ _ h2, q_bn8 hz h1, Bool.false_and])
      rw [ee, show f_M_bars_45 N N (nI e) 0 ω = _ from e_bars45 8 0 N (by omega) (by omega), ← q_blT e he]
      by_cases c0 : nI e = 0
      · rw [if_pos c0, if_pos c0]
        exact ⟨_, τ, ω, rfl, rfl, q_R_tf hR t6 o5 o6 q_wA_t q_pm_t⟩
      · rw [if_neg c0, if_neg c0, e_ntz, Option.bind_some]
        exact ⟨_, τ, ω, rfl, rfl, q_R_tf hR t6 o5 o6 q_wA_t q_pm_t⟩
