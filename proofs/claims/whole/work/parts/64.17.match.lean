/-! ===== pure: gifts: by rows and by columns ===== -/
def q_S (f : Nat → Nat) : List Nat → Nat
  | [] => 0
  | k :: T => f k + q_S f T
def q_P (A : Nat → Nat → Bool) : List Nat → List Nat → Nat
  | [], _ => 1
  | s :: S, T => q_S (fun k => bif A s k then q_P A S (T.filter (fun x => x != k)) else 0) T
theorem q_S_cg {f g : Nat → Nat} : ∀ T : List Nat, (∀ k, k ∈ T → f k = g k) → q_S f T = q_S g T
  | [], _ => rfl
  | k :: T, h => by rw [q_S, q_S, h k List.mem_cons_self, q_S_cg T (fun j hj => h j (List.mem_cons_of_mem _ hj))]
theorem q_S_app {f : Nat → Nat} : ∀ T U : List Nat, q_S f (T ++ U) = q_S f T + q_S f U
  | [], U => by rw [List.nil_append, q_S, Nat.zero_add]
  | k :: T, U => by rw [List.cons_append, q_S, q_S, q_S_app T U, Nat.add_assoc]
theorem q_S_0 : ∀ T : List Nat, q_S (fun _ => 0) T = 0
  | [] => rfl
  | k :: T => by rw [q_S, q_S_0 T]
theorem q_S_c {c : Bool} {f : Nat → Nat} {T : List Nat} : (bif c then q_S f T else 0) = q_S (fun k => bif c then f k else 0) T := by
  cases c
  · rw [cond_false]
    exact (q_S_0 T).symm
  · rfl
theorem q_S_add {f g : Nat → Nat} : ∀ T : List Nat, q_S (fun k => f k + g k) T = q_S f T + q_S g T
  | [] => rfl
  | k :: T => by rw [q_S, q_S, q_S, q_S_add T]; omega
theorem q_S_sw {g : Nat → Nat → Nat} {S : List Nat} : ∀ T : List Nat, q_S (fun k => q_S (fun p => g k p) S) T = q_S (fun p => q_S (fun k => g k p) T) S
  | [] => (q_S_0 S).symm
  | k :: T => by rw [q_S, q_S_sw T, ← q_S_add]; rfl
theorem q_fk1 {k : Nat} : ∀ T : List Nat, k ∉ T → T.filter (fun x => x != k) = T := fun T h => List.filter_eq_self.mpr (fun a ha => by
  simp
  intro e
  rw [e] at ha
  exact h ha)
theorem q_fk2 {k : Nat} : ∀ T : List Nat, k ∈ T → T.Nodup → (T.filter (fun x => x != k)).length + 1 = T.length
  | [], h, _ => by cases h
  | a :: T, h, hn => by
    obtain ⟨n1, n2⟩ := List.nodup_cons.mp hn
    by_cases e : a = k
    · subst e
      rw [List.filter_cons_of_neg (by simp), q_fk1 T n1, List.length_cons]
    · rw [List.filter_cons_of_pos (by simpa using e), List.length_cons, q_fk2 T ((List.mem_cons.mp h).resolve_left (fun z => e z.symm)) n2, List.length_cons]
theorem q_col {A : Nat → Nat → Bool} : ∀ (S T : List Nat) (t : Nat), S.Nodup → (T ++ [t]).Nodup → S.length = T.length + 1 → q_P A S (T ++ [t]) = q_S (fun p => bif A p t then q_P A (S.filter (fun x => x != p)) T else 0) S
  | [], T, t, _, _, h => by cases h
  | s :: S, T, t, hS, hT, hl => by
    obtain ⟨s1, s2⟩ := List.nodup_cons.mp hS
    rw [List.nodup_append] at hT
    obtain ⟨t1, _, t3⟩ := hT
    have tT : t ∉ T := fun z => t3 t z t (by simp) rfl
    rw [List.length_cons] at hl
    rw [q_P, q_S_app, q_S, q_S, Nat.add_zero, q_S]
    have e1 : (T ++ [t]).filter (fun x => x != t) = T := by
      rw [List.filter_append, q_fk1 T tT]
      simp
    have e2 : (s :: S).filter (fun x => x != s) = S := by
      rw [List.filter_cons_of_neg (by simp), q_fk1 S s1]
    rw [e1, e2, Nat.add_comm]
    congr 1
    have l1 : q_S (fun k => bif A s k then q_P A S ((T ++ [t]).filter (fun x => x != k)) else 0) T = q_S (fun k => q_S (fun p => bif A s k then (bif A p t then q_P A (S.filter (fun x => x != p)) (T.filter (fun x => x != k)) else 0) else 0) S) T := by
      refine q_S_cg T (fun k hk => ?_)
      have kt : ¬ t = k := fun z => tT (by rw [z]; exact hk)
      rw [show (T ++ [t]).filter (fun x => x != k) = T.filter (fun x => x != k) ++ [t] by rw [List.filter_append, List.filter_cons_of_pos (by simpa using kt)]; rfl]
      rw [q_col S (T.filter (fun x => x != k)) t s2 (by
        rw [List.nodup_append]
        refine ⟨List.Pairwise.filter _ t1, by simp, fun a ha b hb => ?_⟩
        rw [List.mem_singleton] at hb
        rw [hb]
        intro e
        rw [e] at ha
        exact tT (List.mem_filter.mp ha).1) (by
        have := q_fk2 T hk t1
        omega), q_S_c]
    have l2 : q_S (fun p => bif A p t then q_P A ((s :: S).filter (fun x => x != p)) T else 0) S = q_S (fun p => q_S (fun k => bif A s k then (bif A p t then q_P A (S.filter (fun x => x != p)) (T.filter (fun x => x != k)) else 0) else 0) T) S := by
      refine q_S_cg S (fun p hp => ?_)
      have sp : ¬ s = p := fun z => s1 (by rw [z]; exact hp)
      rw [List.filter_cons_of_pos (by simpa using sp), q_P, q_S_c]
      refine q_S_cg T (fun k _ => ?_)
      cases A p t <;> cases A s k <;> rfl
    rw [l1, l2, q_S_sw]
/-! ===== the class's count ===== -/
def q_un (U : Int32) (M : Nat) : List Nat := (List.range' 0 M).filter (fun k => !bt U k)
theorem q_un_w {U : Int32} {M k : Nat} (hM : M ≤ 6) (hk : k < M) : q_un (U ||| ((1 : Int32) <<< (nI k &&& 31))) M = (q_un U M).filter (fun x => x != k) := by
  unfold q_un
  rw [List.filter_filter]
  refine List.filter_congr (fun x hx => ?_)
  have hx : x < M := by
    obtain ⟨i, hi, e⟩ := List.mem_range'.mp hx
    omega
  rw [b_or, q_sh1 (by omega) (by omega)]
  by_cases e : x = k
  · rw [decide_eq_true e, e]
    simp
  · rw [decide_eq_false e]
    simp [e]
theorem e_gift {N M s i : Nat} {A : Nat → Nat → Bool} {slack : Int32} {σ : jw_M} (hN : 300 ≤ N) (hM : M ≤ 6) (h0 : σ.1 1 0 = nI M) (hfit : ∀ p k, p < M → k < M → ∃ v l, f_H_itemAt N (nI s) (nI i + nI k) σ = some (v, σ) ∧ f_S_lengthOf N (nI p) σ = some (l, σ) ∧ A p k = !decide (slack < (if 0 ≤ v - l then v - l else -(v - l)))) : ∀ (e p r : Nat) (U : Int32), p + e = M → e < r → f_F_countGifts N r (nI p) U (nI s) (nI i) slack σ = some (nI (q_P A (List.range' p e) (q_un U M)), σ) := by
  intro e
  induction e with
  | zero =>
    intro p r U hp hr
    obtain ⟨r, rfl⟩ : ∃ j, r = j + 1 := ⟨r - 1, by omega⟩
    rw [f_F_countGifts, h0, if_neg (nI_nlt (by omega) (by omega))]
    rfl
  | succ e ih =>
    intro p r U hp hr
    obtain ⟨r, rfl⟩ : ∃ j, r = j + 1 := ⟨r - 1, by omega⟩
    have loop : ∀ (c k f : Nat) (x : Int32), k + c = M → c < f → f_F_countGifts_19 N (f_F_countGifts N r) f (nI p) U (nI s) (nI i) slack x (nI k) σ = some (x + nI (q_S (fun k => bif A p k then q_P A (List.range' (p + 1) e) ((q_un U M).filter (fun x => x != k)) else 0) ((List.range' k c).filter (fun k => !bt U k))), σ) := by
      intro c
      induction c with
      | zero =>
        intro k f x hk hf
        obtain ⟨f, rfl⟩ : ∃ j, f = j + 1 := ⟨f - 1, by omega⟩
        rw [f_F_countGifts_19, h0, if_pos (nI_le (by omega) (by omega))]
        show _ = some (x + nI 0, σ)
        rw [show nI 0 = 0 from rfl, Int32.add_zero]
      | succ c ihc =>
        intro k f x hk hf
        obtain ⟨f, rfl⟩ : ∃ j, f = j + 1 := ⟨f - 1, by omega⟩
        rw [f_F_countGifts_19, h0, if_neg (nI_ge (by omega) (by omega)), List.range'_succ]
        unfold f_F_countGifts_93
        cases hb : bt U k
        · rw [if_pos ((q_bit0 _ (by omega)).mpr hb), List.filter_cons_of_pos (by simp [hb]), q_S]
          obtain ⟨v, l, g1, g2, g3⟩ := hfit p k (by omega) (by omega)
          rw [g1, Option.bind_some]
          dsimp only
          rw [g2, Option.bind_some, e_abs, Option.bind_some, nI_1]
          dsimp only
          by_cases c1 : slack < (if 0 ≤ v - l then v - l else -(v - l))
          · rw [if_pos c1, g3, decide_eq_true c1]
            show _ = some (x + nI (0 + _), σ)
            rw [Nat.zero_add]
            exact ihc (k + 1) f x (by omega) (by omega)
          · rw [if_neg c1, g3, decide_eq_false c1, nI_1, ih (p + 1) r _ (by omega) (by omega), Option.bind_some, q_un_w hM (by omega)]
            dsimp only
            rw [ihc (k + 1) f _ (by omega) (by omega), Int32.add_assoc, nI_add]
            rfl
        · rw [if_neg (fun z => by rw [q_bit0 _ (by omega), hb] at z; cases z), List.filter_cons_of_neg (by simp [hb]), nI_1]
          exact ihc (k + 1) f x (by omega) (by omega)
    rw [f_F_countGifts, h0, if_pos (nI_lt (by omega) (by omega)), show f_F_countGifts_19 N (f_F_countGifts N r) N (nI p) U (nI s) (nI i) slack 0 0 σ = _ from loop M 0 N 0 (by omega) (by omega), Int32.zero_add, List.range'_succ, q_P]
    rfl
/-! ===== the reference's ===== -/
def q_rw (M w : Nat) : List Nat := (List.range' 0 M).filter (fun p => bt (nI w) p)
theorem q_rwT : ∀ M, M < 7 → ∀ w, w < 64 → (decide (2 ^ M ≤ w) || decide (q_bc (nI w) = nI (q_rw M w).length)) = true := by decide +kernel
theorem q_rwL : ∀ M, M < 7 → ∀ w, w < 64 → (decide (w = 0) || decide (2 ^ M ≤ w) || decide (0 < (q_rw M w).length)) = true := by decide +kernel
theorem q_rwO : ∀ p, p < 6 → ∀ w, w < 64 → (!bt (nI w) p || (decide (nI w &&& (((1 : Int32) <<< (nI p &&& 31)) ^^^ (-1)) = nI (w - 2 ^ p)) && decide (2 ^ p ≤ w))) = true := by decide +kernel
theorem q_rwA : ∀ M, M < 7 → q_rw M (2 ^ M - 1) = List.range' 0 M := by decide +kernel
theorem q_allT : ∀ M, M < 7 → (1 : Int32) <<< (nI M &&& 31) = nI (2 ^ M) := by decide +kernel
theorem q_rw_w {M w p : Nat} (hM : M ≤ 6) (hw : w < 64) (hp : p < M) (hb : bt (nI w) p = true) : q_rw M (w - 2 ^ p) = (q_rw M w).filter (fun x => x != p) ∧ 2 ^ p ≤ w ∧ nI w &&& (((1 : Int32) <<< (nI p &&& 31)) ^^^ (-1)) = nI (w - 2 ^ p) := by
  have z := q_rwO p (by omega) w hw
  rw [hb, Bool.not_true, Bool.false_or, Bool.and_eq_true] at z
  have z1 := of_decide_eq_true z.1
  refine ⟨?_, of_decide_eq_true z.2, z1⟩
  unfold q_rw
  rw [List.filter_filter, ← z1]
  refine List.filter_congr (fun x hx => ?_)
  have hx : x < M := by
    obtain ⟨i, hi, e⟩ := List.mem_range'.mp hx
    omega
  rw [q_bn _ _ (by omega), q_sh1 (by omega) (by omega), Bool.and_comm]
  by_cases e : x = p
  · rw [decide_eq_true e, e]
    simp
  · rw [decide_eq_false e]
    simp [e]
def q_Wv (A : Nat → Nat → Bool) (M v : Nat) : Nat := q_P A (q_rw M v) (List.range (q_rw M v).length)
theorem q_Wv_c {A : Nat → Nat → Bool} {M w : Nat} (hM : M ≤ 6) (hw : w < 2 ^ M) (h0 : 0 < w) : q_Wv A M w = q_S (fun p => bif A p ((q_rw M w).length - 1) then q_P A ((q_rw M w).filter (fun x => x != p)) (List.range ((q_rw M w).length - 1)) else 0) (q_rw M w) := by
  have h64 : w < 64 := by
    have : 2 ^ M ≤ 2 ^ 6 := Nat.pow_le_pow_right (by decide) hM
    omega
  have z := q_rwL M (by omega) w h64
  rw [decide_eq_false (show ¬ w = 0 by omega), decide_eq_false (show ¬ 2 ^ M ≤ w by omega), Bool.false_or, Bool.false_or] at z
  have z := of_decide_eq_true z
  unfold q_Wv
  obtain ⟨t, ht⟩ : ∃ t, (q_rw M w).length = t + 1 := ⟨(q_rw M w).length - 1, by omega⟩
  rw [ht, show t + 1 - 1 = t by omega, List.range_succ]
  refine q_col (q_rw M w) (List.range t) t (List.Pairwise.filter _ List.nodup_range') ?_ (by rw [ht, List.length_range])
  rw [← List.range_succ]
  exact List.nodup_range
theorem e_m135 {N M s i w t : Nat} {A : Nat → Nat → Bool} {slack it : Int32} {K : Int32 → Int32 → Int32 → Int32 → Int32 → jw_M → Option (Int32 × jw_M)} {S row : q_f} (hM : M ≤ 6) (hw : w < 2 ^ M) (h2 : S 2 = nI M) (ht : (q_rw M w).length = t + 1) (hfit : ∀ p, p < M → A p t = !decide (slack < (if q_ln (S (6 + 3 * p + 0)) (S (6 + 3 * p + 2)) (row 0) ≤ it then it - q_ln (S (6 + 3 * p + 0)) (S (6 + 3 * p + 2)) (row 0) else q_ln (S (6 + 3 * p + 0)) (S (6 + 3 * p + 2)) (row 0) - it))) : ∀ (c p f : Nat) (x : Nat) (σ : jw_M), p + c = M → c < f → σ.1 3 = S → σ.1 1 = row → σ.1 12 w = nI x → (∀ v, v < w → σ.1 12 v = nI (q_Wv A M v)) → ∃ σ', f_M_match_135 N K f (nI s) (nI i) slack (nI (2 ^ M)) (nI w) it (nI p) σ = K (nI s) (nI i) slack (nI (2 ^ M)) (nI (w + 1)) σ' ∧ σ'.1 12 w = nI (x + q_S (fun p => bif A p t then q_P A ((q_rw M w).filter (fun x => x != p)) (List.range t) else 0) ((List.range' p c).filter (fun p => bt (nI w) p))) ∧ q_fr (fun c i => c == 12 && i == w) σ σ' := by
  have h64 : w < 64 := by
    have : 2 ^ M ≤ 2 ^ 6 := Nat.pow_le_pow_right (by decide) hM
    omega
  intro c
  induction c with
  | zero =>
    intro p f x σ hp hf h3 h1 hx hv
    obtain ⟨f, rfl⟩ : ∃ j, f = j + 1 := ⟨f - 1, by omega⟩
    rw [f_M_match_135, h3, h2, if_pos (nI_le (by omega) (by omega)), nI_1]
    exact ⟨σ, rfl, hx, q_fr_r _ _⟩
  | succ c ihc =>
    intro p f x σ hp hf h3 h1 hx hv
    obtain ⟨f, rfl⟩ : ∃ j, f = j + 1 := ⟨f - 1, by omega⟩
    rw [f_M_match_135, h3, h2, if_neg (nI_ge (by omega) (by omega)), List.range'_succ]
    unfold f_M_match_193 f_M_match_194 f_M_match_227
    rw [q_in h64 (by decide), nI_clamp (show w < 2 ^ 31 by omega), nI_1]
    simp only [cond_true]
    cases hb : bt (nI w) p
    · rw [if_neg (fun z => by rw [q_bit1 _ (by omega), hb] at z; cases z), List.filter_cons_of_neg (by simp [hb]), if_pos trivial, Int32.add_zero, q_w_id rfl]
      exact ihc (p + 1) f x σ (by omega) (by omega) h3 h1 hx hv
    · rw [if_pos ((q_bit1 _ (by omega)).mpr hb), List.filter_cons_of_pos (by simp [hb]), q_S]
      rw [show f_M_of N (nI p) 0 σ = _ from e_of (w := 0) (by omega) (by decide), Option.bind_some]
      dsimp only
      rw [show f_M_of N (nI p) 2 σ = _ from e_of (w := 2) (by omega) (by decide), Option.bind_some]
      dsimp only
      rw [e_lengthBy, Option.bind_some]
      dsimp only
      rw [e_far, Option.bind_some, h3, h1]
      simp only [cond_true]
      obtain ⟨w1, w2, w3⟩ := q_rw_w hM h64 (show p < M by omega) hb
      have wl : (q_rw M (w - 2 ^ p)).length = t := by
        have := q_fk2 (k := p) (q_rw M w) (List.mem_filter.mpr ⟨List.mem_range'.mpr ⟨p, by omega, by omega⟩, hb⟩) (List.Pairwise.filter _ List.nodup_range')
        rw [w1]
        omega
      have w0 : w - 2 ^ p < w := by
        have : 0 < 2 ^ p := Nat.pow_pos (by decide)
        omega
      by_cases c1 : slack < (if q_ln (S (6 + 3 * p + 0)) (S (6 + 3 * p + 2)) (row 0) ≤ it then it - q_ln (S (6 + 3 * p + 0)) (S (6 + 3 * p + 2)) (row 0) else q_ln (S (6 + 3 * p + 0)) (S (6 + 3 * p + 2)) (row 0) - it)
      · rw [if_pos c1, hfit p (by omega), decide_eq_true c1, if_pos trivial, Int32.add_zero, q_w_id rfl]
        obtain ⟨σ', g1, g2, g3⟩ := ihc (p + 1) f x σ (by omega) (by omega) h3 h1 hx hv
        refine ⟨σ', g1, ?_, g3⟩
        rw [g2]
        show _ = nI (x + (0 + _))
        rw [Nat.zero_add]
      · rw [if_neg c1, if_neg (show ¬ (1 : Int32) = 0 by decide), w3, q_in (show w - 2 ^ p < 64 by omega) (by decide), cond_true, nI_clamp (show w - 2 ^ p < 2 ^ 31 by omega), hx, hv _ w0, nI_add]
        obtain ⟨σ', g1, g2, g3⟩ := ihc (p + 1) f (x + q_Wv A M (w - 2 ^ p)) (jx_w σ 12 w (nI (x + q_Wv A M (w - 2 ^ p)))) (by omega) (by omega) (by rw [q_w0 (by decide)]; exact h3) (by rw [q_w0 (by decide)]; exact h1) q_wS (fun v hv' => by rw [q_wI (by omega)]; exact hv v hv')
        refine ⟨σ', g1, ?_, q_fr_t (q_fr_w (q_fr_r _ _) (by simp)) g3⟩
        rw [g2, hfit p (by omega), decide_eq_false c1, Nat.add_assoc]
        unfold q_Wv
        rw [wl, w1]
        rfl
theorem e_m103 {N M s i : Nat} {A : Nat → Nat → Bool} {slack : Int32} {its : Nat → Int32} {S row : q_f} (hN : 300 ≤ N) (hM : M ≤ 6) (hs : s < 4) (hi : i + M ≤ 40) (h2 : S 2 = nI M) (hfit : ∀ p t, p < M → t < M → A p t = !decide (slack < (if q_ln (S (6 + 3 * p + 0)) (S (6 + 3 * p + 2)) (row 0) ≤ its t then its t - q_ln (S (6 + 3 * p + 0)) (S (6 + 3 * p + 2)) (row 0) else q_ln (S (6 + 3 * p + 0)) (S (6 + 3 * p + 2)) (row 0) - its t))) : ∀ (r w f : Nat) (σ : jw_M), w + r = 2 ^ M → 0 < w → r < f → σ.1 3 = S → σ.1 1 = row → (∀ t, t < M → (σ.2 16 (40 * s + i + t)).toInt32 = its t) → (∀ v, v < w → σ.1 12 v = nI (q_Wv A M v)) → (∀ v, w ≤ v → v < 2 ^ M → σ.1 12 v = 0) → ∃ σ', f_M_match_103 N f (nI s) (nI i) slack (nI (2 ^ M)) (nI w) σ = some (nI (q_Wv A M (2 ^ M - 1)), σ') ∧ q_fr (fun c _ => c == 12) σ σ' := by
  have h64 : 2 ^ M ≤ 64 := Nat.pow_le_pow_right (n := 2) (by decide) hM
  intro r
  induction r with
  | zero =>
    intro w f σ hw w0 hf h3 h1 hits hv hz
    obtain ⟨f, rfl⟩ : ∃ j, f = j + 1 := ⟨f - 1, by omega⟩
    rw [f_M_match_103, if_pos (nI_le (by omega) (by omega)), show nI (2 ^ M) - 1 = nI (2 ^ M - 1) from pk_sub (b := 1) (by omega), q_in (show 2 ^ M - 1 < 64 by omega) (by decide), cond_true, nI_clamp (by omega), hv _ (by omega)]
    exact ⟨σ, rfl, q_fr_r _ _⟩
  | succ r ih =>
    intro w f σ hw w0 hf h3 h1 hits hv hz
    obtain ⟨f, rfl⟩ : ∃ j, f = j + 1 := ⟨f - 1, by omega⟩
    have z1 := q_rwT M (by omega) w (by omega)
    rw [decide_eq_false (show ¬ 2 ^ M ≤ w by omega), Bool.false_or] at z1
    have z1 := of_decide_eq_true z1
    have z2 := q_rwL M (by omega) w (by omega)
    rw [decide_eq_false (show ¬ w = 0 by omega), decide_eq_false (show ¬ 2 ^ M ≤ w by omega), Bool.false_or, Bool.false_or] at z2
    have z2 := of_decide_eq_true z2
    obtain ⟨t, ht⟩ : ∃ t, (q_rw M w).length = t + 1 := ⟨(q_rw M w).length - 1, by omega⟩
    have htM : t < M := by
      have : (q_rw M w).length ≤ (List.range' 0 M).length := List.length_filter_le _ _
      rw [List.length_range'] at this
      omega
    rw [f_M_match_103, if_neg (nI_ge (by omega) (by omega)), e_ones (by omega) (by omega), Option.bind_some, z1, ht]
    dsimp only
    rw [q_i40', show 40 * s + i + (t + 1) = (40 * s + i + t) + 1 by omega, nI_pred, q_in (show 40 * s + i + t < 160 by omega) (by decide), cond_true, nI_clamp (show 40 * s + i + t < 2 ^ 31 by omega), hits t htM]
    obtain ⟨τ, t1, t2, t3⟩ := e_m135 (N := N) (K := f_M_match_103 N f) (s := s) (i := i) (it := its t) hM (show w < 2 ^ M by omega) h2 ht (fun p hp => hfit p t hp htM) M 0 N 0 σ (by omega) (by omega) h3 h1 (hz w (by omega) (by omega)) hv
    rw [show f_M_match_135 N (f_M_match_103 N f) N (nI s) (nI i) slack (nI (2 ^ M)) (nI w) (its t) 0 σ = _ from t1]
    have eW : τ.1 12 w = nI (q_Wv A M w) := by
      rw [t2, Nat.zero_add, q_Wv_c hM (by omega) w0, ht]
      rfl
    obtain ⟨σ', g1, g2⟩ := ih (w + 1) f τ (by omega) (by omega) (by omega) (by rw [← h3]; exact funext fun j => t3.1 3 j rfl) (by rw [← h1]; exact funext fun j => t3.1 1 j rfl) (fun t ht => by rw [t3.2]; exact hits t ht) (fun v hv' => by
      by_cases e : v = w
      · rw [e]; exact eW
      · rw [t3.1 12 v (by simpa using e)]
        exact hv v (by omega)) (fun v h1 h2 => by
      rw [t3.1 12 v (by simp; omega)]
      exact hz v (by omega) h2)
    exact ⟨σ', g1, q_fr_t (q_fr_m t3 (fun c i z => by simp at z ⊢; omega)) g2⟩
theorem e_m72 {N M : Nat} {xs xi slack : Int32} (hM : M ≤ 6) : ∀ (r w f : Nat) (σ : jw_M), w + r = 2 ^ M → 0 < w → r < f → ∃ σ', f_M_match_72 N f xs xi slack (nI (2 ^ M)) (nI w) σ = f_M_match_103 N N xs xi slack (nI (2 ^ M)) 1 (jx_w σ' 12 0 1) ∧ (∀ v, w ≤ v → v < 2 ^ M → σ'.1 12 v = 0) ∧ (∀ v, v < w → σ'.1 12 v = σ.1 12 v) ∧ q_fr (fun c _ => c == 12) σ σ'
  | 0, w, f, σ, hw, w0, hf => by
    obtain ⟨f, rfl⟩ : ∃ j, f = j + 1 := ⟨f - 1, by omega⟩
    have h64 : 2 ^ M ≤ 64 := Nat.pow_le_pow_right (n := 2) (by decide) hM
    refine ⟨σ, ?_, fun v h1 h2 => absurd h1 (by omega), fun _ _ => rfl, q_fr_r _ _⟩
    rw [f_M_match_72, if_pos (nI_le (by omega) (by omega))]
  | r + 1, w, f, σ, hw, w0, hf => by
    obtain ⟨f, rfl⟩ : ∃ j, f = j + 1 := ⟨f - 1, by omega⟩
    have h64 : 2 ^ M ≤ 64 := Nat.pow_le_pow_right (n := 2) (by decide) hM
    obtain ⟨σ', g1, g2, g3, g4⟩ := e_m72 (N := N) (xs := xs) (xi := xi) (slack := slack) hM r (w + 1) f (jx_w σ 12 w 0) (by omega) (by omega) (by omega)
    refine ⟨σ', ?_, fun v h1 h2 => ?_, fun v hv => by rw [g3 v (by omega), q_wI (by omega)], q_fr_t (q_fr_w (q_fr_r _ _) rfl) g4⟩
    · rw [f_M_match_72, if_neg (nI_ge (by omega) (by omega)), q_in (show w < 64 by omega) (by decide), cond_true, nI_clamp (by omega), nI_1]
      exact g1
    · by_cases e : v = w
      · rw [e, g3 w (by omega), q_wS]
      · exact g2 v (by omega) h2
/-! ===== match ===== -/
theorem q_lnB : ∀ k, k < 6 → ∀ w, w < 10 → ∀ h, h < 17 → (q_ln (nI k) (nI w) (nI h) = nI (q_ln (nI k) (nI w) (nI h)).toNatClampNeg ∧ (q_ln (nI k) (nI w) (nI h)).toNatClampNeg < 200) := by decide +kernel
theorem q_absfar {v : Int32} {c : Nat} (h1 : -128 ≤ v.toInt) (h2 : v.toInt ≤ 127) (hc : c < 200) : (if 0 ≤ v - nI c then v - nI c else -(v - nI c)) = (if nI c ≤ v then v - nI c else nI c - v) := by
  have e : (v - nI c).toInt = v.toInt - c := by
    rw [Int32.toInt_sub, nI_toInt (by omega), Int.bmod_eq_of_le (by omega) (by omega)]
  have e2 : (0 ≤ v - nI c) ↔ (nI c ≤ v) := by
    rw [Int32.le_iff_toInt_le, Int32.le_iff_toInt_le, e, nI_toInt (by omega), show (0 : Int32).toInt = 0 by decide]
    omega
  by_cases c1 : nI c ≤ v
  · rw [if_pos (e2.mpr c1), if_pos c1]
  · rw [if_neg (fun z => c1 (e2.mp z)), if_neg c1, Int32.neg_sub]
theorem u_match {N : Nat} (hN : 300 ≤ N) {x y v : Int32} : q_U (f_F_match N x y v) (f_M_match N x y v) := by
  intro σC σM hR
  obtain ⟨⟨L, n, m, d, h, t, hw, hq, ht, hRM, hr, hS, hP⟩, hO⟩ := id hR
  have hH := hO.2.2.2.1
  have hn := hw.1
  have d16 := hw.2.2.2.1
  have hhd := hr.2.1
  have en : σC.1 1 0 = nI n := by rw [show σC.1 1 0 = _ from hS.1 0 0 2 rfl]; exact hw.2.2.2.2.1
  unfold f_F_match f_M_match
  rcases q_shtD (N := N) (x := x) (σC := σC) (σM := σM) with ⟨a, b⟩ | ⟨s, hs, rfl, a, b⟩
  · rw [a, b, q_bz0, q_bz0]
    exact ⟨_, σC, σM, rfl, rfl, hR⟩
  · rw [a, b, q_bz1, q_bz1]
    dsimp only
    by_cases c : v < 0 ∨ 99 < v
    · rw [e_win0 c, e_in0 c, q_bz0, q_bz0]
      exact ⟨_, σC, σM, rfl, rfl, hR⟩
    · rw [e_win1 c, e_in1 c, q_bz1, q_bz1]
      dsimp only
      rcases e_ref (N := N) (y := 0) hs hH with ⟨w, w0, a, b⟩ | ⟨a, b, e0⟩
      · rw [a, b, Option.bind_some, Option.bind_some, if_neg w0, if_neg w0]
        exact ⟨_, σC, σM, rfl, rfl, hR⟩
      · rw [a, b, q_bz0, q_bz0]
        dsimp only
        obtain ⟨z, z40, h2, h3, h4, h5, h6⟩ := hH s hs
        unfold f_H_hasItems
        rw [q_in hs (by decide), cond_true, cond_true, nI_clamp (show s < 2 ^ 31 by omega), h2, h3, en, hw.2.2.2.2.1]
        by_cases cy : y < 0
        · rw [if_pos cy, if_pos cy, q_bz0]
          exact ⟨_, σC, σM, rfl, rfl, hR⟩
        · rw [if_neg cy, if_neg cy]
          obtain ⟨i, hi, rfl⟩ := nI_of cy
          by_cases c2 : nI i ≤ nI z - nI n
          · have hiz : i + n ≤ z := by
              rw [Int32.le_iff_toInt_le, nI_toInt hi, pk_sub_toInt (by omega) (by omega)] at c2
              omega
            rw [if_neg (Int32.not_lt.mpr c2), if_pos c2, q_bz1]
            dsimp only
            obtain ⟨A, hA⟩ : ∃ A : Nat → Nat → Bool, A = fun p k => !decide (v < (if q_ln (σM.1 3 (6 + 3 * p + 0)) (σM.1 3 (6 + 3 * p + 2)) (σM.1 1 0) ≤ σC.1 (125 + s) (i + k) then σC.1 (125 + s) (i + k) - q_ln (σM.1 3 (6 + 3 * p + 0)) (σM.1 3 (6 + 3 * p + 2)) (σM.1 1 0) else q_ln (σM.1 3 (6 + 3 * p + 0)) (σM.1 3 (6 + 3 * p + 2)) (σM.1 1 0) - σC.1 (125 + s) (i + k))) := ⟨_, rfl⟩
            have hC := e_gift (N := N) (M := n) (s := s) (i := i) (A := A) (slack := v) (σ := σC) hN hn en (fun p k hp hk => by
              obtain ⟨⟨kd, k1, k5, ek⟩, _, ⟨tw, w1, w9, ew⟩⟩ := hw.2.2.2.2.2.2.2.1 p hp
              obtain ⟨b1, b2⟩ := (h6 (i + k) (by omega)).2 e0
              refine ⟨_, _, by rw [nI_add]; exact e_itemAt hs (by omega), e_lengthOf (k := kd) (w := tw) (h := h) (by omega) (by omega) (by omega) (by omega) (by omega) (by rw [show σC.1 2 p = _ from q_SCs hS (w := 0) (by decide) (show p < 6 by omega)]; exact ek) (by rw [show σC.1 4 p = _ from q_SCs hS (w := 2) (by decide) (show p < 6 by omega)]; exact ew) (by rw [show σC.1 27 0 = _ from q_PC0 hP]; exact hr.1), ?_⟩
              obtain ⟨l1, l2⟩ := q_lnB kd (by omega) tw (by omega) h (by omega)
              rw [hA]
              dsimp only
              rw [ek, ew, hr.1, l1, q_absfar b1 b2 l2]) n 0 64 0 (by omega) (by omega)
            rw [show f_F_countGifts N 64 0 0 (nI s) (nI i) v σC = _ from hC, Option.bind_some, q_allT n (by omega)]
            obtain ⟨τ, t1, t2, t3, t4⟩ := e_m72 (N := N) (M := n) (xs := nI s) (xi := nI i) (slack := v) hn (2 ^ n - 1) 1 N σM (by have : 0 < 2 ^ n := Nat.pow_pos (by decide); omega) (by omega) (by have h64 : 2 ^ n ≤ 64 := Nat.pow_le_pow_right (n := 2) (by decide) hn; omega)
            rw [show f_M_match_72 N N (nI s) (nI i) v (nI (2 ^ n)) 1 σM = _ from t1]
            obtain ⟨ω, o1, o2⟩ := e_m103 (N := N) (M := n) (s := s) (i := i) (A := A) (slack := v) (its := fun t => σC.1 (125 + s) (i + t)) (S := σM.1 3) (row := σM.1 1) hN hn hs (by omega) hw.2.2.2.2.1 (fun p t _ _ => by rw [hA]) (2 ^ n - 1) 1 N (jx_w τ 12 0 1) (by have : 0 < 2 ^ n := Nat.pow_pos (by decide); omega) (by omega) (by have h64 : 2 ^ n ≤ 64 := Nat.pow_le_pow_right (n := 2) (by decide) hn; omega) (by rw [q_w0 (by decide)]; exact funext fun j => t4.1 3 j rfl) (by rw [q_w0 (by decide)]; exact funext fun j => t4.1 1 j rfl) (fun t ht => by
              rw [q_w2, t4.2, show 40 * s + i + t = 40 * s + (i + t) by omega, (h6 (i + t) (by omega)).1, Int32.toInt32_toInt64]) (fun v hv => by
              rw [show v = 0 by omega, q_wS]
              have e1 : q_rw n 0 = [] := List.filter_eq_nil_iff.mpr (fun a _ => by
                rw [show nI 0 = 0 from rfl, b_0]
                decide)
              unfold q_Wv
              rw [e1]
              rfl) (fun v h1 h2 => by rw [q_wI (by omega)]; exact t2 v h1 h2)
            rw [show f_M_match_103 N N (nI s) (nI i) v (nI (2 ^ n)) 1 (jx_w τ 12 0 1) = _ from o1]
            refine ⟨_, σC, ω, rfl, ?_, ?_⟩
            · unfold q_Wv
              rw [q_rwA n (by omega), List.length_range', List.range_eq_range']
              have e1 : q_un 0 n = List.range' 0 n := List.filter_eq_self.mpr (fun a _ => by rw [b_0]; rfl)
              rw [e1]
            · have fM : q_fr (fun c _ => c == 12) σM ω := q_fr_t (q_fr_w t4 rfl) o2
              refine q_R_tf (PC := q_wA) hR (q_fr_r _ _) (funext fun j => fM.1 1 j rfl) fM q_wA_t (fun c i z => ?_)
              unfold q_mO at z
              simp
              omega
          · rw [if_pos (Int32.not_le.mp c2), if_neg c2, q_bz0]
            exact ⟨_, σC, σM, rfl, rfl, hR⟩
