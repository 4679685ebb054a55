/-! ===== pure: a condition's bits, on the class's side ===== -/
theorem q_enc10 {s : List Bool} (h : s.length ≤ 9) : q_enc s < 1024 :=
  Nat.lt_of_lt_of_le (q_encB s) (Nat.pow_le_pow_right (by decide) (by omega : s.length + 1 ≤ 10))
theorem q_encA (a b : Bool) (s : List Bool) : q_enc (b :: a :: s) / 4 * 2 + (q_enc (b :: a :: s) / 2 % 2) * (q_enc (b :: a :: s) % 2) = q_enc ((a && b) :: s) := by
  simp only [q_enc]
  generalize q_enc s = n
  cases a <;> cases b <;> simp only [cond_true, cond_false, Bool.and_true, Bool.and_false]
  · rw [show (2 * (2 * n + 0) + 0) % 2 = 0 by omega, Nat.mul_zero]
    omega
  · rw [show (2 * (2 * n + 0) + 1) / 2 % 2 = 0 by omega, Nat.zero_mul]
    omega
  · rw [show (2 * (2 * n + 1) + 0) % 2 = 0 by omega, Nat.mul_zero]
    omega
  · rw [show (2 * (2 * n + 1) + 1) / 2 % 2 = 1 by omega, show (2 * (2 * n + 1) + 1) % 2 = 1 by omega]
    omega
theorem q_encO (a b : Bool) (s : List Bool) : q_enc (b :: a :: s) / 4 * 2 + (if q_enc (b :: a :: s) / 2 % 2 + q_enc (b :: a :: s) % 2 = 0 then 0 else 1) = q_enc ((a || b) :: s) := by
  have e : q_enc (b :: a :: s) = 2 * (2 * q_enc s + (bif a then 1 else 0)) + (bif b then 1 else 0) := rfl
  show _ = 2 * q_enc s + (bif a || b then 1 else 0)
  generalize q_enc (b :: a :: s) = m at e ⊢
  generalize q_enc s = n at e ⊢
  cases a <;> cases b <;> simp only [cond_true, cond_false, Bool.or_true, Bool.or_false] at e ⊢
  · rw [if_pos (by omega)]
    omega
  · rw [if_neg (by omega)]
    omega
  · rw [if_neg (by omega)]
    omega
  · rw [if_neg (by omega)]
    omega
theorem q_encN (b : Bool) (s : List Bool) : (if q_enc (b :: s) % 2 = 0 then q_enc (b :: s) + 1 else q_enc (b :: s) - 1) = q_enc ((!b) :: s) := by
  have e : q_enc (b :: s) = 2 * q_enc s + (bif b then 1 else 0) := rfl
  show _ = 2 * q_enc s + (bif !b then 1 else 0)
  generalize q_enc (b :: s) = m at e ⊢
  generalize q_enc s = n at e ⊢
  cases b <;> simp only [cond_true, cond_false, Bool.not_true, Bool.not_false] at e ⊢
  · rw [if_pos (by omega)]
    omega
  · rw [if_neg (by omega)]
    omega
theorem e_holds5 {N t : Nat} {τ : jw_M} {F : Nat → Int32} (ht : t ≤ 100) : ∀ (c : List q_I) (e k : Nat) (s : List Bool), q_cC τ F e c → q_dp c s.length = true → s.length ≤ 9 → e + c.length = t → c.length < k → f_R_holds_5 N k (nI t) (nI (q_enc s)) (nI e) τ = some (bif q_top (q_ev F c s) then 1 else 0, τ)
  | [], _, 0, _, _, _, _, _, h => absurd h (by simp)
  | _ :: _, _, 0, _, _, _, _, _, h => absurd h (by simp)
  | [], e, k + 1, s, _, _, hs, he, _ => by
    rw [List.length_nil] at he
    rw [f_R_holds_5, if_pos (nI_le (by omega) (by omega)), q_Bt _ (q_enc10 hs), q_encT, q_ev]
    cases q_top s
    · rw [cond_false, cond_false, if_neg (by decide)]
    · rw [cond_true, cond_true, if_pos (show nI 1 = 1 from rfl)]
  | x :: c, e, k + 1, s, hc, hd, hs, he, hk => by
    rw [List.length_cons] at he hk
    obtain ⟨h1, h6, h2, h3⟩ := hc
    have hn := q_enc10 hs
    rw [f_R_holds_5, if_neg (nI_ge (by omega) (by omega)), q_in (show e < 100 by omega) (by decide), cond_true, nI_clamp (show e < 2 ^ 31 by omega), h1]
    unfold f_R_holds_168
    rw [nI_1, q_ev]
    rw [q_dp] at hd
    by_cases c3 : x.1 = 3
    · rw [if_pos (show nI x.1 = 3 by rw [c3]; rfl), q_B3 _ hn]
      rw [c3, if_neg (by decide), if_neg (by decide)] at hd
      simp only [Bool.and_eq_true, decide_eq_true_eq] at hd
      obtain ⟨⟨_, hl⟩, hd⟩ := hd
      match s, hs, hn, hl, hd with
      | b :: a :: s, hs, hn, hl, hd =>
        rw [q_encA]
        have z : q_ev1 F x (b :: a :: s) = (a && b) :: s := by
          unfold q_ev1
          rw [c3]
          rfl
        rw [z]
        exact e_holds5 ht c (e + 1) k _ h3 hd (by simp only [List.length_cons] at hs ⊢; omega) (by omega) (by omega)
    · rw [if_neg (show ¬ nI x.1 = 3 from fun z => c3 ((nI_eq (b := 3) (by omega) (by omega)).mp z))]
      by_cases c4 : x.1 = 4
      · rw [if_pos (show nI x.1 = 4 by rw [c4]; rfl), q_B4 _ hn]
        rw [c4, if_neg (by decide), if_neg (by decide)] at hd
        simp only [Bool.and_eq_true, decide_eq_true_eq] at hd
        obtain ⟨⟨_, hl⟩, hd⟩ := hd
        match s, hs, hn, hl, hd with
        | b :: a :: s, hs, hn, hl, hd =>
          rw [q_encO]
          have z : q_ev1 F x (b :: a :: s) = (a || b) :: s := by
            unfold q_ev1
            rw [c4]
            rfl
          rw [z]
          exact e_holds5 ht c (e + 1) k _ h3 hd (by simp only [List.length_cons] at hs ⊢; omega) (by omega) (by omega)
      · rw [if_neg (show ¬ nI x.1 = 4 from fun z => c4 ((nI_eq (b := 4) (by omega) (by omega)).mp z))]
        by_cases c5 : x.1 = 5
        · rw [if_pos (show nI x.1 = 5 by rw [c5]; rfl), q_B5 _ hn]
          rw [c5, if_neg (by decide), if_pos rfl] at hd
          simp only [Bool.and_eq_true, decide_eq_true_eq] at hd
          obtain ⟨hl, hd⟩ := hd
          match s, hs, hn, hl, hd with
          | b :: s, hs, hn, hl, hd =>
            rw [q_encN]
            have z : q_ev1 F x (b :: s) = (!b) :: s := by
              unfold q_ev1
              rw [c5]
              rfl
            rw [z]
            exact e_holds5 ht c (e + 1) k _ h3 hd (by simp only [List.length_cons] at hs ⊢; omega) (by omega) (by omega)
        · have c2 : x.1 < 3 := by omega
          rw [if_neg (show ¬ nI x.1 = 5 from fun z => c5 ((nI_eq (b := 5) (by omega) (by omega)).mp z))]
          obtain ⟨a, b, ha, hb, g1, g2, g3, g4⟩ := h2 c2
          rw [g1, q_in ha (by decide), cond_true, g2, q_in hb (by decide), cond_true, nI_clamp (show a < 2 ^ 31 by omega), nI_clamp (show b < 2 ^ 31 by omega), g3, g4]
          obtain ⟨r, r1, r2⟩ := e_compare (F := F) c2 x.2.1 x.2.2 (G := fun y => f_R_holds_144 N (f_R_holds_5 N k) (nI t) (nI (q_enc s)) (nI e) y τ)
          refine Eq.trans r1 ?_
          unfold f_R_holds_144 f_R_holds_166 f_R_holds_168
          rw [q_in (show e < 100 by omega) (by decide), cond_true, nI_clamp (show e < 2 ^ 31 by omega), h1, nI_1]
          rw [if_pos c2] at hd
          simp only [Bool.and_eq_true, decide_eq_true_eq] at hd
          have z : q_ev1 F x s = q_cmp F x.1 x.2.1 x.2.2 :: s := by
            unfold q_ev1
            rw [if_pos c2]
          rw [z]
          have go := e_holds5 (N := N) ht c (e + 1) k (q_cmp F x.1 x.2.1 x.2.2 :: s) h3 hd.2 (by rw [List.length_cons]; omega) (by omega) (by omega)
          rw [q_enc] at go
          cases w : q_cmp F x.1 x.2.1 x.2.2
          · rw [w, cond_false] at go
            rw [if_neg (fun y => by rw [r2.mp y] at w; cases w), q_B0 _ hn]
            exact go
          · rw [w, cond_true] at go
            rw [if_pos (r2.mpr w), q_B1 _ hn]
            exact go
