/-! ===== pure: span, liar ===== -/
def q_fV (S : q_f) (mo r : Nat) : Int32 := q_ln (S (70 + 4 * r + 0)) (S (70 + 4 * r + 1)) (nI (mo / 5)) * (nI (mo % 5) + 1)
def q_fP (S : q_f) (lo : Int32) (mo r : Nat) : Bool := decide (nI r = lo) || (!decide (q_fV S mo r < S (70 + 4 * r + 2)) && !decide (S (70 + 4 * r + 3) < q_fV S mo r))
def q_fit (P : Nat → Bool) : Nat → Nat → Bool
  | 0, _ => true
  | k + 1, r => P r && q_fit P k (r + 1)
theorem q_fit_cg {P Q : Nat → Bool} : ∀ (k r : Nat), (∀ j, r ≤ j → j < r + k → P j = Q j) → q_fit P k r = q_fit Q k r
  | 0, _, _ => rfl
  | k + 1, r, h => by rw [q_fit, q_fit, h r (by omega) (by omega), q_fit_cg k (r + 1) (fun j h1 h2 => h j (by omega) (by omega))]
theorem e_fitC {N t mo : Nat} {S : q_f} {L : q_L} {m : Nat} {lo : Int32} {σ : jw_M} (hmo : mo < 80) (ht : q_wt S t) (hS : q_SC 1 σ S L m) : ∀ (r i k : Nat), i + r = t → r < k → f_S_fits_2 N k (nI mo) lo (nI i) σ = some (bif q_fit (q_fP S lo mo) r i then 1 else 0, σ)
  | 0, i, k, hi, hk => by
    obtain ⟨k, rfl⟩ : ∃ j, k = j + 1 := ⟨k - 1, by omega⟩
    have t6 := ht.1
    rw [f_S_fits_2, show σ.1 1 12 = _ from hS.1 0 12 5 rfl, ht.2.1, if_pos (nI_le (by omega) (by omega))]
    rfl
  | r + 1, i, k, hi, hk => by
    obtain ⟨k, rfl⟩ : ∃ j, k = j + 1 := ⟨k - 1, by omega⟩
    have t6 := ht.1
    obtain ⟨⟨kd, k1, k5, ek⟩, w, w1, w9, ew⟩ := ht.2.2 i (by omega)
    have c0 : ∀ j, j < 4 → σ.1 (13 + i) j = S (70 + 4 * i + j) := fun j hj => by
      have z := hS.1 (12 + i) j _ (q_js_t (by omega) (by omega) hj)
      rw [show 1 + (12 + i) = 13 + i by omega, show 12 + i - 12 = i by omega] at z
      exact z
    rw [f_S_fits_2, show σ.1 1 12 = _ from hS.1 0 12 5 rfl, ht.2.1, if_neg (nI_ge (by omega) (by omega))]
    unfold f_S_fits_15 f_S_fits_16 f_S_fits_26 f_S_fits_27 f_S_fits_34 f_S_fits_37 f_S_fits_70
    rw [q_in (show i < 6 by omega) (by decide), cond_true, nI_clamp (show i < 2 ^ 31 by omega), c0 0 (by decide), c0 1 (by decide), ek, q_in (show kd < 6 by omega) (by decide), cond_true, nI_clamp (show kd < 2 ^ 31 by omega), ew, show nI mo / 5 = nI (mo / 5) from pk_div (d := 5) (by omega) (by decide) (by decide)]
    rw [show (if 32 + kd = 32 then f_Z_Shade_lengthIn N (32 + kd) (nI (mo / 5)) (nI w) σ else if 32 + kd = 33 then f_Z_Shade_lengthIn N (32 + kd) (nI (mo / 5)) (nI w) σ else if 32 + kd = 34 then f_Z_Shade_lengthIn N (32 + kd) (nI (mo / 5)) (nI w) σ else if 32 + kd = 35 then f_Z_Coloured_lengthIn N (nI (mo / 5)) (nI w) σ else if 32 + kd = 36 then f_Z_Slow_lengthIn N (32 + kd) (nI (mo / 5)) (nI w) σ else if 32 + kd = 37 then f_Z_Borrowed_lengthIn N (nI (mo / 5)) (nI w) σ else none) = _ from e_lenIn (h := mo / 5) (by omega) (by omega) (by omega) (by omega), Option.bind_some]
    dsimp only
    rw [c0 2 (by decide), c0 3 (by decide), show nI mo - nI (mo / 5) * 5 = nI (mo % 5) by rw [show nI (mo / 5) = nI mo / nI 5 from (pk_div (d := 5) (by omega) (by decide) (by decide)).symm]; exact pk_rem (d := 5) (by omega) (by decide) (by decide), nI_1 i]
    have eV : q_ln (nI kd) (nI w) (nI (mo / 5)) * (nI (mo % 5) + 1) = q_fV S mo i := by
      unfold q_fV
      rw [ek, ew]
    rw [eV, q_fit, e_fitC hmo ht hS r (i + 1) k (by omega) (by omega)]
    rw [show q_fP S lo mo i = (decide (nI i = lo) || (!decide (q_fV S mo i < S (70 + 4 * i + 2)) && !decide (S (70 + 4 * i + 3) < q_fV S mo i))) from rfl]
    by_cases g1 : nI i = lo
    · rw [if_pos g1, decide_eq_true g1, Bool.true_or, Bool.true_and]
    · rw [if_neg g1, decide_eq_false g1, Bool.false_or]
      by_cases g2 : q_fV S mo i < S (70 + 4 * i + 2)
      · rw [if_pos g2, decide_eq_true g2]
        rfl
      · rw [if_neg g2, decide_eq_false g2]
        by_cases g3 : S (70 + 4 * i + 3) < q_fV S mo i
        · rw [if_neg (fun z => absurd g3 (Int32.not_lt.mpr z)), decide_eq_true g3]
          rfl
        · rw [if_pos (Int32.not_lt.mp g3), decide_eq_false g3]
          rfl
theorem e_fitM {N t mo : Nat} {S : q_f} {lo : Int32} {σ : jw_M} (hmo : mo < 80) (ht : q_wt S t) (h3 : σ.1 3 = S) : ∀ (r i k : Nat) (b : Bool), i + r = t → r < k → f_M_fits_5 N k (nI mo) lo (bif b then 1 else 0) (nI i) σ = some (bif b && q_fit (q_fP S lo mo) r i then 1 else 0, σ)
  | 0, i, k, b, hi, hk => by
    obtain ⟨k, rfl⟩ : ∃ j, k = j + 1 := ⟨k - 1, by omega⟩
    have t6 := ht.1
    rw [f_M_fits_5, h3, ht.2.1, if_pos (nI_le (by omega) (by omega))]
    cases b <;> rfl
  | r + 1, i, k, b, hi, hk => by
    obtain ⟨k, rfl⟩ : ∃ j, k = j + 1 := ⟨k - 1, by omega⟩
    have t6 := ht.1
    have i0 : (70 : Int32) + (4 * nI i) = nI (70 + 4 * i + 0) := by
      show nI 70 + (nI 4 * nI i) = _
      rw [pk_mul, nI_add]
      rfl
    have ih0 := e_fitM (lo := lo) (N := N) hmo ht h3 r (i + 1) k false (by omega) (by omega)
    have ih1 := e_fitM (lo := lo) (N := N) hmo ht h3 r (i + 1) k true (by omega) (by omega)
    rw [cond_false, Bool.false_and, cond_false] at ih0
    rw [cond_true, Bool.true_and] at ih1
    rw [f_M_fits_5, h3, ht.2.1, if_neg (nI_ge (by omega) (by omega)), show (70 + (4 * nI i)) + (1 : Int32) = nI (70 + 4 * i + 1) from q_i70 i 1, show (70 + (4 * nI i)) + (2 : Int32) = nI (70 + 4 * i + 2) from q_i70 i 2, show (70 + (4 * nI i)) + (3 : Int32) = nI (70 + 4 * i + 3) from q_i70 i 3, i0, q_in (show 70 + 4 * i + 0 < 526 by omega) (by decide), cond_true, q_in (show 70 + 4 * i + 1 < 526 by omega) (by decide), cond_true, nI_clamp (show 70 + 4 * i + 0 < 2 ^ 31 by omega), nI_clamp (show 70 + 4 * i + 1 < 2 ^ 31 by omega), e_lengthBy, Option.bind_some, q_in (show 70 + 4 * i + 2 < 526 by omega) (by decide), cond_true, q_in (show 70 + 4 * i + 3 < 526 by omega) (by decide), cond_true, nI_clamp (show 70 + 4 * i + 2 < 2 ^ 31 by omega), nI_clamp (show 70 + 4 * i + 3 < 2 ^ 31 by omega), show nI mo / 5 = nI (mo / 5) from pk_div (d := 5) (by omega) (by decide) (by decide)]
    unfold f_M_fits_95 f_M_fits_91 f_M_fits_96
    dsimp only
    rw [h3, show nI mo - nI (mo / 5) * 5 = nI (mo % 5) by rw [show nI (mo / 5) = nI mo / nI 5 from (pk_div (d := 5) (by omega) (by decide) (by decide)).symm]; exact pk_rem (d := 5) (by omega) (by decide) (by decide), nI_1 i, show q_ln (S (70 + 4 * i + 0)) (S (70 + 4 * i + 1)) (nI (mo / 5)) * (nI (mo % 5) + 1) = q_fV S mo i from rfl, ih0, ih1, q_fit]
    cases b
    · rw [cond_false, if_pos rfl, Bool.false_and, cond_false]
    · rw [cond_true, if_neg (show ¬ (1 : Int32) = 0 by decide), Bool.true_and]
      rw [show q_fP S lo mo i = (decide (nI i = lo) || (!decide (q_fV S mo i < S (70 + 4 * i + 2)) && !decide (S (70 + 4 * i + 3) < q_fV S mo i))) from rfl]
      by_cases g1 : nI i = lo
      · rw [if_pos g1, decide_eq_true g1, Bool.true_or, Bool.true_and]
      · rw [if_neg g1, decide_eq_false g1, Bool.false_or]
        by_cases g2 : q_fV S mo i < S (70 + 4 * i + 2)
        · rw [e_in0 (Or.inl g2), q_bz0, decide_eq_true g2]
          exact ih0
        · by_cases g3 : S (70 + 4 * i + 3) < q_fV S mo i
          · rw [e_in0 (Or.inr g3), q_bz0, decide_eq_false g2, decide_eq_true g3]
            exact ih0
          · rw [e_in1 (fun z => z.elim g2 g3), q_bz1, decide_eq_false g2, decide_eq_false g3]
            exact ih1
/-- whether a moment fits -/
def q_F (S : q_f) (t : Nat) (lo : Int32) (mo : Nat) : Bool := q_fit (q_fP S lo mo) t 0
theorem q_F13 {S : q_f} {t mo : Nat} (ht : t ≤ 6) : q_F S t (-3) mo = q_F S t (-1) mo := by
  unfold q_F
  refine q_fit_cg t 0 (fun j h1 h2 => ?_)
  unfold q_fP
  rw [decide_eq_false (show ¬ nI j = -3 from fun z => nI_pos (n := j) (by omega) (by rw [z]; decide)), decide_eq_false (show ¬ nI j = -1 from fun z => nI_pos (n := j) (by omega) (by rw [z]; decide))]
def q_ff (F : Nat → Bool) : Nat → Nat → Int32
  | 0, _ => -1
  | r + 1, mo => bif F mo then nI mo else q_ff F r (mo + 1)
theorem q_ff_cg {F G : Nat → Bool} (h : ∀ j, F j = G j) : ∀ (r mo : Nat), q_ff F r mo = q_ff G r mo
  | 0, _ => rfl
  | r + 1, mo => by rw [q_ff, q_ff, h mo, q_ff_cg h r (mo + 1)]
theorem e_ffC {N t : Nat} {S : q_f} {L : q_L} {m : Nat} {lo : Int32} {σ : jw_M} (hN : 300 ≤ N) (ht : q_wt S t) (hS : q_SC 1 σ S L m) : ∀ (r mo k : Nat), mo + r = 80 → r < k → f_S_firstFit_2 N k lo (nI mo) σ = some (q_ff (q_F S t lo) r mo, σ)
  | 0, mo, k, hm, hk => by
    obtain ⟨k, rfl⟩ : ∃ j, k = j + 1 := ⟨k - 1, by omega⟩
    rw [f_S_firstFit_2, if_pos (show (80 : Int32) ≤ nI mo from nI_le (a := 80) (by omega) (by omega))]
    rfl
  | r + 1, mo, k, hm, hk => by
    obtain ⟨k, rfl⟩ : ∃ j, k = j + 1 := ⟨k - 1, by omega⟩
    have t6 := ht.1
    rw [f_S_firstFit_2, if_neg (show ¬ (80 : Int32) ≤ nI mo from nI_ge (b := 80) (by omega) (by decide))]
    unfold f_S_fits
    rw [show f_S_fits_2 N N (nI mo) lo 0 σ = _ from e_fitC (by omega) ht hS t 0 N (by omega) (by omega), nI_1, q_ff]
    show _ = some ((bif q_fit (q_fP S lo mo) t 0 then nI mo else q_ff (q_F S t lo) r (mo + 1)), σ)
    cases q_fit (q_fP S lo mo) t 0
    · rw [cond_false, cond_false, q_bz0]
      exact e_ffC hN ht hS r (mo + 1) k (by omega) (by omega)
    · rw [cond_true, cond_true, q_bz1]
theorem e_ffM {N t : Nat} {S : q_f} {lo : Int32} {σ : jw_M} (hN : 300 ≤ N) (ht : q_wt S t) (h3 : σ.1 3 = S) : ∀ (r mo k : Nat), mo + r = 80 → r < k → f_M_firstMoment_2 N k lo (nI mo) σ = some (q_ff (q_F S t lo) r mo, σ)
  | 0, mo, k, hm, hk => by
    obtain ⟨k, rfl⟩ : ∃ j, k = j + 1 := ⟨k - 1, by omega⟩
    rw [f_M_firstMoment_2, if_pos (show (80 : Int32) ≤ nI mo from nI_le (a := 80) (by omega) (by omega))]
    rfl
  | r + 1, mo, k, hm, hk => by
    obtain ⟨k, rfl⟩ : ∃ j, k = j + 1 := ⟨k - 1, by omega⟩
    have t6 := ht.1
    rw [f_M_firstMoment_2, if_neg (show ¬ (80 : Int32) ≤ nI mo from nI_ge (b := 80) (by omega) (by decide))]
    unfold f_M_fits
    rw [show f_M_fits_5 N N (nI mo) lo 1 0 σ = _ from e_fitM (by omega) ht h3 t 0 N true (by omega) (by omega), nI_1, Bool.true_and, q_ff]
    show _ = some ((bif q_fit (q_fP S lo mo) t 0 then nI mo else q_ff (q_F S t lo) r (mo + 1)), σ)
    cases q_fit (q_fP S lo mo) t 0
    · rw [cond_false, cond_false, q_bz0]
      exact e_ffM hN ht h3 r (mo + 1) k (by omega) (by omega)
    · rw [cond_true, cond_true, q_bz1]
def q_fc (F : Nat → Bool) : Nat → Nat → Int32 → Int32
  | 0, _, x => x
  | r + 1, mo, x => q_fc F r (mo + 1) (bif F mo then x + 1 else x)
theorem e_fcC {N t : Nat} {S : q_f} {L : q_L} {m : Nat} {σ : jw_M} (hN : 300 ≤ N) (ht : q_wt S t) (hS : q_SC 1 σ S L m) : ∀ (r mo k : Nat) (x : Int32), mo + r = 80 → r < k → f_S_howManyFit_4 N k x (nI mo) σ = some (q_fc (q_F S t (-1)) r mo x, σ)
  | 0, mo, k, x, hm, hk => by
    obtain ⟨k, rfl⟩ : ∃ j, k = j + 1 := ⟨k - 1, by omega⟩
    rw [f_S_howManyFit_4, if_pos (show (80 : Int32) ≤ nI mo from nI_le (a := 80) (by omega) (by omega))]
    rfl
  | r + 1, mo, k, x, hm, hk => by
    obtain ⟨k, rfl⟩ : ∃ j, k = j + 1 := ⟨k - 1, by omega⟩
    have t6 := ht.1
    rw [f_S_howManyFit_4, if_neg (show ¬ (80 : Int32) ≤ nI mo from nI_ge (b := 80) (by omega) (by decide))]
    unfold f_S_fits f_S_howManyFit_23
    rw [show f_S_fits_2 N N (nI mo) (-3) 0 σ = _ from e_fitC (by omega) ht hS t 0 N (by omega) (by omega), nI_1, q_fc, show q_fit (q_fP S (-3) mo) t 0 = q_F S t (-1) mo from q_F13 t6]
    cases q_F S t (-1) mo
    · rw [cond_false, cond_false, q_bz0]
      exact e_fcC hN ht hS r (mo + 1) k _ (by omega) (by omega)
    · rw [cond_true, cond_true, q_bz1]
      exact e_fcC hN ht hS r (mo + 1) k _ (by omega) (by omega)
theorem e_fcM {N t : Nat} {S : q_f} {σ : jw_M} (hN : 300 ≤ N) (ht : q_wt S t) (h3 : σ.1 3 = S) : ∀ (r mo k : Nat) (x : Int32), mo + r = 80 → r < k → f_M_span_19 N k x (nI mo) σ = some (q_fc (q_F S t (-1)) r mo x, σ)
  | 0, mo, k, x, hm, hk => by
    obtain ⟨k, rfl⟩ : ∃ j, k = j + 1 := ⟨k - 1, by omega⟩
    rw [f_M_span_19, if_pos (show (80 : Int32) ≤ nI mo from nI_le (a := 80) (by omega) (by omega))]
    rfl
  | r + 1, mo, k, x, hm, hk => by
    obtain ⟨k, rfl⟩ : ∃ j, k = j + 1 := ⟨k - 1, by omega⟩
    have t6 := ht.1
    rw [f_M_span_19, if_neg (show ¬ (80 : Int32) ≤ nI mo from nI_ge (b := 80) (by omega) (by decide))]
    unfold f_M_fits f_M_span_40
    rw [show f_M_fits_5 N N (nI mo) (-1) 1 0 σ = _ from e_fitM (by omega) ht h3 t 0 N true (by omega) (by omega), nI_1, Bool.true_and, q_fc]
    show _ = some (q_fc (q_F S t (-1)) r (mo + 1) (bif q_fit (q_fP S (-1) mo) t 0 then x + 1 else x), σ)
    cases q_fit (q_fP S (-1) mo) t 0
    · rw [cond_false, cond_false, q_bz0, Int32.add_zero]
      exact e_fcM hN ht h3 r (mo + 1) k _ (by omega) (by omega)
    · rw [cond_true, cond_true, q_bz1]
      exact e_fcM hN ht h3 r (mo + 1) k _ (by omega) (by omega)
theorem u_span {N : Nat} (hN : 300 ≤ N) {x : Int32} : q_U (f_F_span N x) (f_M_span N x) := by
  intro σC σM hR
  obtain ⟨⟨L, n, m, d, h, t, hw, hq, ht, hRM, hr, hS, hP⟩, hO⟩ := id hR
  unfold f_F_span f_M_span
  by_cases c : x < 0 ∨ 2 < x
  · rw [e_win0 c, e_in0 c, q_bz0, q_bz0]
    exact ⟨_, σC, σM, rfl, rfl, hR⟩
  · rw [e_win1 c, e_in1 c, q_bz1, q_bz1]
    dsimp only
    by_cases c0 : x = 0
    · rw [if_pos c0, if_pos c0]
      unfold f_S_howManyFit
      rw [show f_S_howManyFit_4 N N 0 0 σC = _ from e_fcC hN ht hS 80 0 N 0 (by omega) (by omega), show f_M_span_19 N N 0 0 σM = _ from e_fcM hN ht rfl 80 0 N 0 (by omega) (by omega), Option.bind_some]
      exact ⟨_, σC, σM, rfl, rfl, hR⟩
    · rw [if_neg c0, if_neg c0]
      unfold f_S_firstFit f_M_firstMoment
      rw [show f_S_firstFit_2 N N (-3) 0 σC = _ from e_ffC hN ht hS 80 0 N (by omega) (by omega), show f_M_firstMoment_2 N N (-1) 0 σM = _ from e_ffM hN ht rfl 80 0 N (by omega) (by omega), Option.bind_some, Option.bind_some, q_ff_cg (fun j => q_F13 ht.1)]
      dsimp only
      by_cases c1 : 0 ≤ q_ff (q_F (σM.1 3) t (-1)) 80 0
      · rw [if_pos c1, if_pos c1]
        by_cases c2 : x = 1
        · rw [if_pos c2, if_pos c2]
          exact ⟨_, σC, σM, rfl, rfl, hR⟩
        · rw [if_neg c2, if_neg c2]
          exact ⟨_, σC, σM, rfl, rfl, hR⟩
      · rw [if_neg c1, if_neg c1]
        exact ⟨_, σC, σM, rfl, rfl, hR⟩
theorem e_liar {N t m : Nat} {S : q_f} {L : q_L} {σC σM : jw_M} (hN : 300 ≤ N) (ht : q_wt S t) (hS : q_SC 1 σC S L m) (h3 : σM.1 3 = S) : ∀ (r i k k2 : Nat), i + r = t → r < k → r < k2 → ∃ x, f_F_liar_17 N k (nI i) σC = some (x, σC) ∧ f_M_liar_13 N k2 (nI i) σM = some (x, σM)
  | 0, i, k, k2, hi, hk, hk2 => by
    obtain ⟨k, rfl⟩ : ∃ j, k = j + 1 := ⟨k - 1, by omega⟩
    obtain ⟨k2, rfl⟩ : ∃ j, k2 = j + 1 := ⟨k2 - 1, by omega⟩
    have t6 := ht.1
    rw [f_F_liar_17, f_M_liar_13, show σC.1 1 12 = _ from hS.1 0 12 5 rfl, h3, ht.2.1, if_pos (nI_le (by omega) (by omega)), if_pos (nI_le (by omega) (by omega))]
    exact ⟨_, rfl, rfl⟩
  | r + 1, i, k, k2, hi, hk, hk2 => by
    obtain ⟨k, rfl⟩ : ∃ j, k = j + 1 := ⟨k - 1, by omega⟩
    obtain ⟨k2, rfl⟩ : ∃ j, k2 = j + 1 := ⟨k2 - 1, by omega⟩
    have t6 := ht.1
    rw [f_F_liar_17, f_M_liar_13, show σC.1 1 12 = _ from hS.1 0 12 5 rfl, h3, ht.2.1, if_neg (nI_ge (by omega) (by omega)), if_neg (nI_ge (by omega) (by omega))]
    unfold f_S_firstFit f_M_firstMoment
    rw [show f_S_firstFit_2 N N (nI i) 0 σC = _ from e_ffC hN ht hS 80 0 N (by omega) (by omega), show f_M_firstMoment_2 N N (nI i) 0 σM = _ from e_ffM hN ht h3 80 0 N (by omega) (by omega), Option.bind_some, Option.bind_some]
    dsimp only
    by_cases c : q_ff (q_F S t (nI i)) 80 0 < 0
    · rw [if_pos c, if_pos c, nI_1]
      exact e_liar hN ht hS h3 r (i + 1) k k2 (by omega) (by omega) (by omega)
    · rw [if_neg c, if_neg c]
      exact ⟨_, rfl, rfl⟩
theorem u_liar {N : Nat} (hN : 300 ≤ N) : q_U (f_F_liar N) (f_M_liar N) := by
  intro σC σM hR
  obtain ⟨⟨L, n, m, d, h, t, hw, hq, ht, hRM, hr, hS, hP⟩, hO⟩ := id hR
  have t6 := ht.1
  unfold f_F_liar f_M_liar f_S_firstFit f_M_firstMoment
  rw [show f_S_firstFit_2 N N (-3) 0 σC = _ from e_ffC hN ht hS 80 0 N (by omega) (by omega), show f_M_firstMoment_2 N N (-1) 0 σM = _ from e_ffM hN ht rfl 80 0 N (by omega) (by omega), Option.bind_some, Option.bind_some, q_ff_cg (fun j => q_F13 ht.1)]
  dsimp only
  by_cases c : q_ff (q_F (σM.1 3) t (-1)) 80 0 < 0
  · rw [if_pos c, if_pos c]
    obtain ⟨x, g1, g2⟩ := e_liar hN ht hS (rfl : σM.1 3 = _) t 0 N N (by omega) (by omega) (by omega)
    exact ⟨x, σC, σM, g1, g2, hR⟩
  · rw [if_neg c, if_neg c]
    exact ⟨_, σC, σM, rfl, rfl, hR⟩
