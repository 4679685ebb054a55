/-! ===== pure: a condition, on the reference's side ===== -/
def q_fv (v : Bool × Nat) : Nat × Nat := (bif v.1 then 1 else 0, v.2)
def q_fl1 (x : q_I) : List (Nat × Nat) := if x.1 < 3 then [q_fv x.2.1, q_fv x.2.2, (2, 60 + x.1)] else if x.1 = 3 then [(4, 0)] else if x.1 = 4 then [(5, 0)] else [(3, 0)]
def q_fl : List q_I → List (Nat × Nat)
  | [] => []
  | x :: c => q_fl1 x ++ q_fl c
def q_cM (S : Nat → Int32) : Nat → List (Nat × Nat) → Prop
  | _, [] => True
  | e, y :: c => S (126 + 2 * e) = nI y.1 ∧ S (126 + 2 * e + 1) = nI y.2 ∧ q_cM S (e + 1) c
def q_io (x : q_I) : Prop := x.1 < 6 ∧ (x.1 < 3 → (x.2.1.1 = true → x.2.1.2 < 5) ∧ (x.2.2.1 = true → x.2.2.2 < 5))
/-- how many wait behind a condition -/
def q_dl : List q_I → Nat → Nat
  | [], n => n
  | x :: c, n => if x.1 < 3 then q_dl c (n + 1) else if x.1 = 5 then q_dl c n else q_dl c (n - 1)
def q_n9 (σ τ : jw_M) : Prop := (∀ c i, c ≠ 9 → τ.1 c i = σ.1 c i) ∧ τ.2 = σ.2
theorem q_n9_w {σ τ : jw_M} (h : q_n9 σ τ) (i : Nat) (v : Int32) : q_n9 σ (jx_w τ 9 i v) :=
  ⟨fun c j hc => by rw [q_wC hc]; exact h.1 c j hc, h.2⟩
theorem q_i126 (e : Nat) : (126 + (2 * nI e)) = nI (126 + 2 * e) := by
  show nI 126 + (nI 2 * nI e) = _
  rw [pk_mul, nI_add]
def q_pl (τ : jw_M) : List Bool → Prop
  | [] => True
  | b :: s => τ.1 9 s.length = (bif b then 1 else 0) ∧ q_pl τ s
theorem q_pl_w {τ : jw_M} {i : Nat} {v : Int32} : ∀ s : List Bool, q_pl τ s → s.length ≤ i → q_pl (jx_w τ 9 i v) s
  | [], _, _ => trivial
  | b :: s, h, hi => by
    rw [List.length_cons] at hi
    refine ⟨?_, q_pl_w s h.2 (by omega)⟩
    rw [q_wI (show s.length ≠ i by omega)]
    exact h.1
theorem e_Mv {N k p fr mn e sl : Nat} {v : Bool × Nat} {F : Nat → Int32} {σ : jw_M} (hv : v.1 = true → v.2 < 5) (he : e < fr + mn) (hb : fr + mn ≤ 200) (hs : sl < 200) (h1 : σ.1 3 (126 + 2 * e) = nI (q_fv v).1) (h2 : σ.1 3 (126 + 2 * e + 1) = nI (q_fv v).2) (hF : ∀ f, f < 5 → f_M_factOf N (nI p) (nI f) σ = some (F f, σ)) : f_M_holds_35 N (k + 1) (nI p) (nI fr) (nI mn) (nI sl) (nI e) σ = f_M_holds_35 N k (nI p) (nI fr) (nI mn) (nI (sl + 1)) (nI (e + 1)) (jx_w σ 9 sl (q_val F v)) := by
  obtain ⟨b, x⟩ := v
  rw [f_M_holds_35, nI_add, if_neg (nI_ge he (by omega)), q_i126, q_in (show 126 + 2 * e < 526 by omega) (by decide), cond_true, nI_1, q_in (show 126 + 2 * e + 1 < 526 by omega) (by decide), cond_true, nI_clamp (show 126 + 2 * e < 2 ^ 31 by omega), nI_clamp (show 126 + 2 * e + 1 < 2 ^ 31 by omega)]
  unfold f_M_holds_103 f_M_holds_174
  cases b
  · rw [show σ.1 3 (126 + 2 * e) = nI 0 from h1, show σ.1 3 (126 + 2 * e + 1) = nI x from h2, if_neg (show ¬ (1 : Int32) < nI 0 by decide), if_pos (show nI 0 = 0 from rfl), q_in hs (by decide), cond_true, nI_clamp (show sl < 2 ^ 31 by omega), nI_1, nI_1]
    rfl
  · have hx : x < 5 := hv rfl
    rw [show σ.1 3 (126 + 2 * e) = nI 1 from h1, show σ.1 3 (126 + 2 * e + 1) = nI x from h2, if_neg (show ¬ (1 : Int32) < nI 1 by decide), if_neg (show ¬ nI 1 = 0 by decide), hF x hx, Option.bind_some]
    dsimp only
    rw [q_in hs (by decide), cond_true, nI_clamp (show sl < 2 ^ 31 by omega), nI_1, nI_1]
    rfl
theorem e_joined2 {N o : Nat} {F : Nat → Int32} {σ : jw_M} (ho : o < 3) (a b : Bool × Nat) : f_M_joined N 2 (nI (60 + o)) (q_val F a) (q_val F b) σ = some (bif q_cmp F o a b then 1 else 0, σ) := by
  unfold f_M_joined f_M_joined_76 f_M_told q_cmp
  generalize q_val F a = x
  generalize q_val F b = y
  rw [if_pos rfl]
  rcases (show o = 0 ∨ o = 1 ∨ o = 2 by omega) with rfl | rfl | rfl
  · rw [if_pos (show nI (60 + 0) = 60 from rfl), if_pos rfl]
    by_cases c : y ≤ x
    · rw [if_pos c, decide_eq_false (Int32.not_lt.mpr c)]
      rfl
    · rw [if_neg c, decide_eq_true (Int32.not_le.mp c)]
      rfl
  · rw [if_neg (show ¬ nI (60 + 1) = 60 by decide), if_pos (show nI (60 + 1) = 61 from rfl), if_neg (show ¬ (1 : Nat) = 0 by decide), if_pos (show (1 : Nat) = 1 from rfl)]
    by_cases c : x = y
    · rw [if_pos c, decide_eq_true c]
      rfl
    · rw [if_neg c, decide_eq_false c]
      rfl
  · rw [if_neg (show ¬ nI (60 + 2) = 60 by decide), if_neg (show ¬ nI (60 + 2) = 61 by decide), if_neg (show ¬ (2 : Nat) = 0 by decide), if_neg (show ¬ (2 : Nat) = 1 by decide)]
    by_cases c : x ≤ y
    · rw [if_pos c, decide_eq_false (Int32.not_lt.mpr c)]
      rfl
    · rw [if_neg c, decide_eq_true (Int32.not_le.mp c)]
      rfl
theorem e_joined4 {N : Nat} {σ : jw_M} (a b : Bool) : f_M_joined N (nI 4) (nI 0) (bif a then 1 else 0) (bif b then 1 else 0) σ = some (bif a && b then 1 else 0, σ) := by
  cases a <;> cases b <;> rfl
theorem e_joined5 {N : Nat} {σ : jw_M} (a b : Bool) : f_M_joined N (nI 5) (nI 0) (bif a then 1 else 0) (bif b then 1 else 0) σ = some (bif a || b then 1 else 0, σ) := by
  cases a <;> cases b <;> rfl
/-- what joins two -/
theorem e_Mj {N k p fr mn e sl w u : Nat} {r : Int32} {σ : jw_M} (he : e < fr + mn) (hb : fr + mn ≤ 200) (hs : sl + 2 ≤ 200) (hw : w = 2 ∨ w = 4 ∨ w = 5) (h1 : σ.1 3 (126 + 2 * e) = nI w) (h2 : σ.1 3 (126 + 2 * e + 1) = nI u) (hj : f_M_joined N (nI w) (nI u) (σ.1 9 sl) (σ.1 9 (sl + 1)) σ = some (r, σ)) : f_M_holds_35 N (k + 1) (nI p) (nI fr) (nI mn) (nI (sl + 2)) (nI e) σ = f_M_holds_35 N k (nI p) (nI fr) (nI mn) (nI (sl + 1)) (nI (e + 1)) (jx_w σ 9 sl r) := by
  rw [f_M_holds_35, nI_add, if_neg (nI_ge he (by omega)), q_i126, q_in (show 126 + 2 * e < 526 by omega) (by decide), cond_true, nI_1, q_in (show 126 + 2 * e + 1 < 526 by omega) (by decide), cond_true, nI_clamp (show 126 + 2 * e < 2 ^ 31 by omega), nI_clamp (show 126 + 2 * e + 1 < 2 ^ 31 by omega), h1, h2]
  have w1 : (1 : Int32) < nI w := nI_lt (a := 1) (by omega) (by omega)
  have w3 : ¬ nI w = 3 := fun z => by
    have := (nI_eq (b := 3) (by omega) (by omega)).mp z
    omega
  unfold f_M_holds_174
  rw [if_pos w1, if_neg w3, show nI (sl + 2) + (-1) = nI (sl + 1) from pk_m1 (sl + 1), show nI (sl + 1) - 1 = nI sl from nI_pred sl, q_in (show sl < 200 by omega) (by decide), cond_true, q_in (show sl + 1 < 200 by omega) (by decide), cond_true, nI_clamp (show sl < 2 ^ 31 by omega), nI_clamp (show sl + 1 < 2 ^ 31 by omega), hj, Option.bind_some]
  dsimp only
  rw [nI_1]
/-- what turns one -/
theorem e_Mn {N k p fr mn e sl : Nat} {σ : jw_M} (he : e < fr + mn) (hb : fr + mn ≤ 200) (hs : sl + 1 ≤ 200) (h1 : σ.1 3 (126 + 2 * e) = nI 3) : f_M_holds_35 N (k + 1) (nI p) (nI fr) (nI mn) (nI (sl + 1)) (nI e) σ = f_M_holds_35 N k (nI p) (nI fr) (nI mn) (nI (sl + 1)) (nI (e + 1)) (jx_w σ 9 sl (1 - σ.1 9 sl)) := by
  rw [f_M_holds_35, nI_add, if_neg (nI_ge he (by omega)), q_i126, q_in (show 126 + 2 * e < 526 by omega) (by decide), cond_true, nI_1, q_in (show 126 + 2 * e + 1 < 526 by omega) (by decide), cond_true, nI_clamp (show 126 + 2 * e < 2 ^ 31 by omega), nI_clamp (show 126 + 2 * e + 1 < 2 ^ 31 by omega), h1]
  unfold f_M_holds_174
  rw [if_pos (show (1 : Int32) < nI 3 by decide), if_pos (show nI 3 = 3 from rfl), show nI (sl + 1) - 1 = nI sl from nI_pred sl, q_in (show sl < 200 by omega) (by decide), cond_true, nI_clamp (show sl < 2 ^ 31 by omega), nI_1]
theorem e_Mh {N p fr mn : Nat} {F : Nat → Int32} {σ0 : jw_M} (hb : fr + mn ≤ 200) (hF : ∀ τ, q_n9 σ0 τ → ∀ f, f < 5 → f_M_factOf N (nI p) (nI f) τ = some (F f, τ)) : ∀ (c : List q_I) (e k : Nat) (s : List Bool) (σ : jw_M), q_n9 σ0 σ → q_cM (σ0.1 3) e (q_fl c) → (∀ x, x ∈ c → q_io x) → q_dp c s.length = true → s.length ≤ 9 → q_pl σ s → e + (q_fl c).length = fr + mn → (q_fl c).length < k → ∃ σ', f_M_holds_35 N k (nI p) (nI fr) (nI mn) (nI s.length) (nI e) σ = (if nI mn = 0 then some (1, σ') else if σ'.1 9 0 = 1 then some (1, σ') else some (0, σ')) ∧ q_n9 σ0 σ' ∧ q_pl σ' (q_ev F c s)
  | [], e, 0, s, σ, _, _, _, _, _, _, _, hk => absurd hk (by simp)
  | [], e, k + 1, s, σ, hσ, hc, _, _, _, hp, he, hk => by
    refine ⟨σ, ?_, hσ, hp⟩
    have z : e = fr + mn := by simpa [q_fl] using he
    rw [f_M_holds_35, nI_add, if_pos (nI_le (by omega) (by omega))]
    rfl
  | x :: c, e, k, s, σ, hσ, hc, hi, hd, hs, hp, he, hk => by
    have hx := hi x (List.mem_cons_self ..)
    have hi' : ∀ y, y ∈ c → q_io y := fun y hy => hi y (List.mem_cons_of_mem _ hy)
    have S3 : ∀ i, σ.1 3 i = σ0.1 3 i := fun i => hσ.1 3 i (by decide)
    rw [q_dp] at hd
    rw [q_ev]
    by_cases c3 : x.1 < 3
    · have hf : q_fl (x :: c) = q_fv x.2.1 :: q_fv x.2.2 :: (2, 60 + x.1) :: q_fl c := by
        rw [q_fl, q_fl1, if_pos c3]
        rfl
      rw [hf] at hc he hk
      simp only [List.length_cons] at he hk
      obtain ⟨a1, a2, b1, b2, d1, d2, hc⟩ := hc
      obtain ⟨k, rfl⟩ : ∃ j, k = j + 3 := ⟨k - 3, by omega⟩
      rw [if_pos c3] at hd
      simp only [Bool.and_eq_true, decide_eq_true_eq] at hd
      have n1 := q_n9_w hσ s.length (q_val F x.2.1)
      have n2 := q_n9_w n1 (s.length + 1) (q_val F x.2.2)
      rw [e_Mv (hx.2 c3).1 (show e < fr + mn by omega) hb (show s.length < 200 by omega) (by rw [S3]; exact a1) (by rw [S3]; exact a2) (hF σ hσ)]
      rw [e_Mv (hx.2 c3).2 (show e + 1 < fr + mn by omega) hb (show s.length + 1 < 200 by omega) (by rw [n1.1 3 _ (by decide)]; exact b1) (by rw [n1.1 3 _ (by decide)]; exact b2) (hF _ n1)]
      rw [e_Mj (w := 2) (u := 60 + x.1) (r := bif q_cmp F x.1 x.2.1 x.2.2 then 1 else 0) (sl := s.length) (show e + 1 + 1 < fr + mn by omega) hb (by omega) (Or.inl rfl) (by rw [n2.1 3 _ (by decide)]; exact d1) (by rw [n2.1 3 _ (by decide)]; exact d2) (by
        rw [q_wS, q_wI (show s.length ≠ s.length + 1 by omega), q_wS]
        exact e_joined2 c3 _ _)]
      have z : q_ev1 F x s = q_cmp F x.1 x.2.1 x.2.2 :: s := by
        unfold q_ev1
        rw [if_pos c3]
      rw [z]
      refine e_Mh hb hF c (e + 1 + 1 + 1) k (q_cmp F x.1 x.2.1 x.2.2 :: s) _ (q_n9_w n2 _ _) hc hi' hd.2 (by rw [List.length_cons]; omega) ⟨q_wS, ?_⟩ (by omega) (by omega)
      exact q_pl_w s (q_pl_w s (q_pl_w s hp (by omega)) (by omega)) (by omega)
    · rw [if_neg c3] at hd
      by_cases c5 : x.1 = 5
      · have hf : q_fl (x :: c) = (3, 0) :: q_fl c := by
          rw [q_fl, q_fl1, if_neg c3, if_neg (by omega), if_neg (by omega)]
          rfl
        rw [hf] at hc he hk
        simp only [List.length_cons] at he hk
        obtain ⟨a1, a2, hc⟩ := hc
        obtain ⟨k, rfl⟩ : ∃ j, k = j + 1 := ⟨k - 1, by omega⟩
        rw [if_pos c5] at hd
        simp only [Bool.and_eq_true, decide_eq_true_eq] at hd
        match s, hs, hd, hp with
        | b :: s, hs, hd, hp =>
          simp only [List.length_cons] at hd hs ⊢
          rw [e_Mn (show e < fr + mn by omega) hb (by omega) (by rw [S3]; exact a1)]
          have z : q_ev1 F x (b :: s) = (!b) :: s := by
            unfold q_ev1
            rw [c5]
            rfl
          rw [z]
          refine e_Mh hb hF c (e + 1) k ((!b) :: s) _ (q_n9_w hσ _ _) hc hi' hd.2 (by rw [List.length_cons]; omega) ⟨?_, q_pl_w s hp.2 (by omega)⟩ (by omega) (by omega)
          rw [q_wS, hp.1]
          cases b <;> rfl
      · rw [if_neg c5] at hd
        simp only [Bool.and_eq_true, decide_eq_true_eq] at hd
        have hx6 := hx.1
        match s, hs, hd, hp with
        | [], hs, hd, hp => exact absurd hd.1.2 (by simp)
        | [b], hs, hd, hp => exact absurd hd.1.2 (by simp)
        | b :: a :: s, hs, hd, hp =>
          simp only [List.length_cons] at hd hs ⊢
          by_cases c4 : x.1 = 3
          · have hf : q_fl (x :: c) = (4, 0) :: q_fl c := by
              rw [q_fl, q_fl1, if_neg c3, if_pos c4]
              rfl
            rw [hf] at hc he hk
            simp only [List.length_cons] at he hk
            obtain ⟨a1, a2, hc⟩ := hc
            obtain ⟨k, rfl⟩ : ∃ j, k = j + 1 := ⟨k - 1, by omega⟩
            rw [e_Mj (w := 4) (u := 0) (r := bif a && b then 1 else 0) (sl := s.length) (show e < fr + mn by omega) hb (by omega) (Or.inr (Or.inl rfl)) (by rw [S3]; exact a1) (by rw [S3]; exact a2) (by
              rw [hp.2.1, show σ.1 9 (s.length + 1) = _ from hp.1]
              exact e_joined4 a b)]
            have z : q_ev1 F x (b :: a :: s) = (a && b) :: s := by
              unfold q_ev1
              rw [c4]
              rfl
            rw [z]
            exact e_Mh hb hF c (e + 1) k ((a && b) :: s) _ (q_n9_w hσ _ _) hc hi' hd.2 (by rw [List.length_cons]; omega) ⟨q_wS, q_pl_w s hp.2.2 (by omega)⟩ (by omega) (by omega)
          · have hf : q_fl (x :: c) = (5, 0) :: q_fl c := by
              rw [q_fl, q_fl1, if_neg c3, if_neg c4, if_pos (by omega)]
              rfl
            rw [hf] at hc he hk
            simp only [List.length_cons] at he hk
            obtain ⟨a1, a2, hc⟩ := hc
            obtain ⟨k, rfl⟩ : ∃ j, k = j + 1 := ⟨k - 1, by omega⟩
            rw [e_Mj (w := 5) (u := 0) (r := bif a || b then 1 else 0) (sl := s.length) (show e < fr + mn by omega) hb (by omega) (Or.inr (Or.inr rfl)) (by rw [S3]; exact a1) (by rw [S3]; exact a2) (by
              rw [hp.2.1, show σ.1 9 (s.length + 1) = _ from hp.1]
              exact e_joined5 a b)]
            have z : q_ev1 F x (b :: a :: s) = (a || b) :: s := by
              unfold q_ev1
              rw [show x.1 = 4 by omega]
              rfl
            rw [z]
            exact e_Mh hb hF c (e + 1) k ((a || b) :: s) _ (q_n9_w hσ _ _) hc hi' hd.2 (by rw [List.length_cons]; omega) ⟨q_wS, q_pl_w s hp.2.2 (by omega)⟩ (by omega) (by omega)
theorem q_evl {F : Nat → Int32} : ∀ (c : List q_I) (s : List Bool), (∀ x, x ∈ c → q_io x) → q_dp c s.length = true → (q_ev F c s).length = q_dl c s.length
  | [], _, _, _ => rfl
  | x :: c, s, hi, hd => by
    have hx := (hi x (List.mem_cons_self ..)).1
    have hi' : ∀ y, y ∈ c → q_io y := fun y hy => hi y (List.mem_cons_of_mem _ hy)
    rw [q_dp] at hd
    rw [q_ev, q_dl]
    by_cases c3 : x.1 < 3
    · rw [if_pos c3] at hd ⊢
      simp only [Bool.and_eq_true, decide_eq_true_eq] at hd
      have z : q_ev1 F x s = q_cmp F x.1 x.2.1 x.2.2 :: s := by
        unfold q_ev1
        rw [if_pos c3]
      rw [z]
      exact q_evl c _ hi' hd.2
    · rw [if_neg c3] at hd ⊢
      by_cases c5 : x.1 = 5
      · rw [if_pos c5] at hd ⊢
        simp only [Bool.and_eq_true, decide_eq_true_eq] at hd
        match s, hd with
        | b :: s, hd =>
          have z : q_ev1 F x (b :: s) = (!b) :: s := by
            unfold q_ev1
            rw [c5]
            rfl
          rw [z]
          exact q_evl c _ hi' hd.2
      · rw [if_neg c5] at hd ⊢
        simp only [Bool.and_eq_true, decide_eq_true_eq] at hd
        match s, hd with
        | [], hd => exact absurd hd.1.2 (by simp)
        | [b], hd => exact absurd hd.1.2 (by simp)
        | b :: a :: s, hd =>
          have z : ∃ t, q_ev1 F x (b :: a :: s) = t :: s := by
            unfold q_ev1
            rw [if_neg c3]
            dsimp only
            rw [if_neg c5]
            exact ⟨_, rfl⟩
          obtain ⟨t, z⟩ := z
          rw [z]
          exact q_evl c (t :: s) hi' hd.2
theorem q_i94 (r w : Nat) : (94 + (4 * nI r)) + nI w = nI (94 + 4 * r + w) := by
  show (nI 94 + (nI 4 * nI r)) + nI w = _
  rw [pk_mul, nI_add, nI_add]
theorem q_fl_nil {c : List q_I} (h : (q_fl c).length = 0) : c = [] := by
  cases c with
  | nil => rfl
  | cons x c =>
    exfalso
    rw [q_fl, List.length_append] at h
    unfold q_fl1 at h
    by_cases a : x.1 < 3
    · rw [if_pos a] at h
      simp at h
    · rw [if_neg a] at h
      by_cases b : x.1 = 3
      · rw [if_pos b] at h
        simp at h
      · rw [if_neg b] at h
        by_cases d : x.1 = 4
        · rw [if_pos d] at h
          simp at h
        · rw [if_neg d] at h
          simp at h
theorem e_Mholds {N p r fr : Nat} {c : List q_I} {F : Nat → Int32} {σ0 : jw_M} (hN : 300 ≤ N) (hr : r < 8) (h2 : σ0.1 3 (94 + 4 * r + 2) = nI fr) (h3 : σ0.1 3 (94 + 4 * r + 3) = nI (q_fl c).length) (hb : fr + (q_fl c).length ≤ 200) (hF : ∀ τ, q_n9 σ0 τ → ∀ f, f < 5 → f_M_factOf N (nI p) (nI f) τ = some (F f, τ)) (hc : q_cM (σ0.1 3) fr (q_fl c)) (hi : ∀ x, x ∈ c → q_io x) (hd : q_dp c 0 = true) (hl : c = [] ∨ q_dl c 0 = 1) {σ : jw_M} (hσ : q_n9 σ0 σ) : ∃ σ', f_M_holds N (nI r) (nI p) σ = some (bif q_top (q_ev F c []) then 1 else 0, σ') ∧ q_n9 σ0 σ' := by
  unfold f_M_holds
  rw [show (94 + (4 * nI r)) + 2 = nI (94 + 4 * r + 2) from q_i94 r 2, show (94 + (4 * nI r)) + 3 = nI (94 + 4 * r + 3) from q_i94 r 3, q_in (show 94 + 4 * r + 2 < 526 by omega) (by decide), cond_true, q_in (show 94 + 4 * r + 3 < 526 by omega) (by decide), cond_true, nI_clamp (show 94 + 4 * r + 2 < 2 ^ 31 by omega), nI_clamp (show 94 + 4 * r + 3 < 2 ^ 31 by omega), hσ.1 3 _ (by decide), hσ.1 3 _ (by decide), h2, h3]
  obtain ⟨σ', e1, e2, e3⟩ := e_Mh hb hF c fr N [] σ hσ hc hi hd (by decide) trivial rfl (by omega)
  refine ⟨σ', ?_, e2⟩
  rw [show f_M_holds_35 N N (nI p) (nI fr) (nI (q_fl c).length) 0 (nI fr) σ = _ from e1]
  rcases hl with rfl | hl
  · rfl
  · have hn : ¬ nI (q_fl c).length = 0 := by
      intro z
      have := (nI_eq (b := 0) (by omega) (by omega)).mp z
      rw [q_fl_nil this] at hl
      cases hl
    rw [if_neg hn]
    have hlen := q_evl (F := F) c [] hi hd
    rw [show q_dl c [].length = 1 from hl] at hlen
    match q_ev F c [], hlen, e3 with
    | [b], _, e3 =>
      rw [show σ'.1 9 0 = _ from e3.1]
      cases b <;> rfl
