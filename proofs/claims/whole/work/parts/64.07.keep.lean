/-! ===== pure: keep, again ===== -/
def q_cpD (c i : Nat) : Prop := (c = 0 ∧ (i = 0 ∨ i = 5 ∨ i = 12 ∨ i = 14 ∨ i = 15)) ∨ (1 ≤ c ∧ c ≤ 4 ∧ i < 6) ∨ (5 ≤ c ∧ c ≤ 9 ∧ i < 8) ∨ (c = 10 ∧ i < 17) ∨ (12 ≤ c ∧ c ≤ 17 ∧ i < 4) ∨ (c = 18 ∧ i = 0) ∨ (19 ≤ c ∧ c ≤ 21 ∧ i < 8) ∨ (22 ≤ c ∧ c ≤ 24 ∧ i < 100) ∨ (c = 25 ∧ i < 105)
theorem q_c0_b {rb rb' : Nat} {σ τ : jw_M} (h2 : ∀ c i, 4 ≤ c → c ≤ 6 → i < 100 → τ.1 (rb' + c) i = σ.1 (rb + c) i) (h3 : ∀ i, 5 ≤ i → i < 105 → τ.1 (rb' + 7) i = σ.1 (rb + 7) i) : ∀ (c : List q_I) (e : Nat), e + c.length ≤ 100 → q_c0 rb σ e c → q_c0 rb' τ e c
  | [], _, _, _ => trivial
  | x :: c, e, hl, h => by
    obtain ⟨g1, g2, g3⟩ := h
    rw [List.length_cons] at hl
    refine ⟨by rw [h2 4 e (by decide) (by decide) (by omega)]; exact g1, fun z => ?_, q_c0_b h2 h3 c (e + 1) (by omega) g3⟩
    obtain ⟨a, b, ha, hb, e1, e2, v1, v2⟩ := g2 z
    refine ⟨a, b, ha, hb, by rw [h2 5 e (by decide) (by decide) (by omega)]; exact e1, by rw [h2 6 e (by decide) (by decide) (by omega)]; exact e2, ⟨v1.1, fun y => ?_⟩, ⟨v2.1, fun y => ?_⟩⟩
    · obtain ⟨y1, y2⟩ := v1.2 y
      exact ⟨y1, by rw [h3 a y1 ha]; exact y2⟩
    · obtain ⟨y1, y2⟩ := v2.2 y
      exact ⟨y1, by rw [h3 b y1 hb]; exact y2⟩
theorem q_r0_b {rb rb' : Nat} {σ τ : jw_M} (h1 : ∀ c i, 1 ≤ c → c ≤ 3 → i < 8 → τ.1 (rb' + c) i = σ.1 (rb + c) i) (h2 : ∀ c i, 4 ≤ c → c ≤ 6 → i < 100 → τ.1 (rb' + c) i = σ.1 (rb + c) i) (h3 : ∀ i, 5 ≤ i → i < 105 → τ.1 (rb' + 7) i = σ.1 (rb + 7) i) : ∀ (L : q_L) (r e : Nat), r + L.length ≤ 8 → q_r0 rb σ r e L → q_r0 rb' τ r e L
  | [], _, _, _, _ => trivial
  | x :: L, r, e, hl, h => by
    obtain ⟨g1, g2, g3, g4, g5, g6⟩ := h
    rw [List.length_cons] at hl
    exact ⟨by rw [h1 1 r (by decide) (by decide) (by omega)]; exact g1, by rw [h1 2 r (by decide) (by decide) (by omega)]; exact g2, by rw [h1 3 r (by decide) (by decide) (by omega)]; exact g3, g4, q_c0_b h2 h3 _ _ g4 g5, q_r0_b h1 h2 h3 L _ _ (by omega) g6⟩
theorem q_jsD {c i k : Nat} (h : q_js c i = some k) : q_cpD c i := by
  unfold q_js at h
  unfold q_cpD
  repeat' split at h
  all_goals first
    | (cases h; done)
    | omega
/-- a school moved to another place -/
theorem q_AA_mv {b b' : Nat} {σ σ' : jw_M} {S row : q_f} {L : q_L} {n m d h t : Nat} (H : q_AA b σ S row L n m d h t) (g : ∀ c i, q_cpD c i → σ'.1 (b' + c) i = σ.1 (b + c) i) (hP : q_PC (b' + 26) σ' row) : q_AA b' σ' S row L n m d h t := by
  obtain ⟨a1, a2, a3, a4, a5, a6, a7⟩ := H
  refine ⟨a1, a2, a3, a4, a5, ⟨fun c i k hk => ?_, fun h hh i hi => ?_, q_r0_b (rb := b + 18) (σ := σ) (fun c i h1 h2 h3 => ?_) (fun c i h1 h2 h3 => ?_) (fun i h1 h2 => ?_) L 0 0 (by have := a4.2.1; omega) a6.2.2⟩, hP⟩
  · rw [g c i (q_jsD hk)]
    exact a6.1 c i k hk
  · rw [g 10 h (by unfold q_cpD; omega)]
    exact a6.2.1 h hh i hi
  · rw [show b' + 18 + c = b' + (18 + c) by omega, show b + 18 + c = b + (18 + c) by omega]
    exact g _ _ (by unfold q_cpD; omega)
  · rw [show b' + 18 + c = b' + (18 + c) by omega, show b + 18 + c = b + (18 + c) by omega]
    exact g _ _ (by unfold q_cpD; omega)
  · rw [show b' + 18 + 7 = b' + 25 by omega, show b + 18 + 7 = b + 25 by omega]
    exact g _ _ (by unfold q_cpD; omega)
theorem q_cM_b {S S' : q_f} (g : ∀ k, 94 ≤ k → k < 526 → S' k = S k) : ∀ (c : List (Nat × Nat)) (e : Nat), e + c.length ≤ 200 → q_cM S e c → q_cM S' e c
  | [], _, _, _ => trivial
  | y :: c, e, hl, h => by
    rw [List.length_cons] at hl
    exact ⟨by rw [g _ (by omega) (by omega)]; exact h.1, by rw [g _ (by omega) (by omega)]; exact h.2.1, q_cM_b g c (e + 1) (by omega) h.2.2⟩
theorem q_rM_b {S S' : q_f} (g : ∀ k, 94 ≤ k → k < 526 → S' k = S k) : ∀ (L : q_L) (r e : Nat), r + L.length ≤ 8 → q_rM S r e L → q_rM S' r e L
  | [], _, _, _, _ => trivial
  | x :: L, r, e, hl, h => by
    obtain ⟨g1, g2, g3, g4, g5, g6, g7⟩ := h
    rw [List.length_cons] at hl
    exact ⟨by rw [g _ (by omega) (by omega)]; exact g1, by rw [g _ (by omega) (by omega)]; exact g2, by rw [g _ (by omega) (by omega)]; exact g3, by rw [g _ (by omega) (by omega)]; exact g4, g5, q_cM_b g _ _ g5 g6, q_rM_b g L _ _ (by omega) g7⟩
/-- what lies beyond has no bearing -/
theorem q_AA_cg {b : Nat} {σ : jw_M} {S row S' row' : q_f} {L : q_L} {n m d h t : Nat} (H : q_AA b σ S row L n m d h t) (gS : ∀ k, k < 526 → S' k = S k) (gr : ∀ k, k < 56 → row' k = row k) : q_AA b σ S' row' L n m d h t := by
  obtain ⟨a1, a2, a3, a4, a5, a6, a7⟩ := H
  have hn := a1.1
  have hm := a1.2.1
  refine ⟨q_wf_k a1 (fun k hk _ _ _ => gS k (by omega)), q_wq_k a2 (fun k h1 h2 => gS k (by omega)), q_wt_k a3 (gS 5 (by decide)) (fun k h1 h2 => gS k (by omega)), ⟨by rw [gS 4 (by decide)]; exact a4.1, a4.2.1, q_rM_b (fun k h1 h2 => gS k h2) L 0 0 (by have := a4.2.1; omega) a4.2.2.1, a4.2.2.2⟩, ?_, ⟨fun c i k hk => ?_, fun h hh i hi => ?_, a6.2.2⟩, fun c i k hk => ?_⟩
  · obtain ⟨b1, b2, b3, b4, b5⟩ := a5
    refine ⟨by rw [gr 0 (by decide)]; exact b1, b2, fun p hp => ⟨fun i h1 h2 => ?_, fun l h1 h2 => ?_⟩, fun p h1 h2 => ⟨?_, fun l hl => ?_⟩, fun p l hp hl hb => ?_⟩
    · rw [gr _ (by omega)]
      exact (b3 p hp).1 i h1 h2
    · rw [gr _ (by omega)]
      exact (b3 p hp).2 l h1 h2
    · rw [gr _ (by omega)]
      exact (b4 p h1 h2).1
    · rw [gr _ (by omega)]
      exact (b4 p h1 h2).2 l hl
    · rw [gr _ (by omega)] at hb ⊢
      rw [gS _ (by omega)]
      exact b5 p l hp hl hb
  · rw [gS k (by have := (q_jsv hk).2; omega)]
    exact a6.1 c i k hk
  · rw [a6.2.1 h hh i hi]
    by_cases z : i < m
    · rw [gS _ (by omega), gS _ (by omega)]
    · rw [decide_eq_false z, Bool.false_and, Bool.false_and]
  · rw [gr k (q_jpr hk).2.2]
    exact a7 c i k hk
/-! ===== the class's copies ===== -/
theorem e_cr {N a b n : Nat} (hn : n ≤ 1000) (σ : jw_M) : ∃ σ', f_F_copyRow N a b n n σ = some σ' ∧ (∀ i, i < n → σ'.1 b i = σ.1 a i) ∧ (∀ c i, c ≠ b → σ'.1 c i = σ.1 c i) ∧ σ'.2 = σ.2 := by
  unfold f_F_copyRow
  rw [show (n == n && Nat.ble n 1000) = true by simp [Nat.ble_eq, hn], cond_true]
  refine ⟨_, rfl, fun i hi => ?_, fun c i hc => ?_, rfl⟩
  · show jw_lay _ b _ b i = _
    unfold jw_lay
    rw [if_pos rfl, pk_cpy_in (by omega) (by omega), show 0 + (i - 0) = i by omega]
  · show jw_lay _ b _ c i = _
    unfold jw_lay
    rw [if_neg hc]
def q_cp (D : Nat → Nat → Prop) (src dst : Nat) (σ σ' : jw_M) : Prop := (∀ c i, D c i → σ'.1 (dst + c) i = σ.1 (src + c) i) ∧ (∀ c i, (c < dst ∨ dst + 28 < c) → σ'.1 c i = σ.1 c i) ∧ σ'.2 = σ.2
theorem q_cp_m {D D' : Nat → Nat → Prop} {src dst : Nat} {σ σ' : jw_M} (H : q_cp D src dst σ σ') (g : ∀ c i, D' c i → D c i) : q_cp D' src dst σ σ' := ⟨fun c i h => H.1 c i (g c i h), H.2⟩
theorem q_cp_row {N src dst n : Nat} {D : Nat → Nat → Prop} {σ σ' : jw_M} (H : q_cp D src dst σ σ') (c0 : Nat) (hd : src + 28 < dst ∨ dst + 28 < src) (h0 : c0 ≤ 28) (hn : n ≤ 1000) : ∃ σ'', f_F_copyRow N (src + c0) (dst + c0) n n σ' = some σ'' ∧ q_cp (fun c i => D c i ∨ (c = c0 ∧ i < n)) src dst σ σ'' := by
  obtain ⟨τ, t1, t2, t3, t4⟩ := e_cr (N := N) (a := src + c0) (b := dst + c0) hn σ'
  refine ⟨τ, t1, fun c i h => ?_, fun c i h => ?_, by rw [t4]; exact H.2.2⟩
  · by_cases e : c = c0 ∧ i < n
    · rw [e.1, t2 i e.2]
      exact H.2.1 _ _ (by omega)
    · have h' : D c i := h.resolve_right e
      by_cases e2 : c = c0
      · by_cases e3 : i < n
        · exact absurd ⟨e2, e3⟩ e
        · subst e2
          rw [← H.1 c i h']
          unfold f_F_copyRow at t1
          rw [show (n == n && Nat.ble n 1000) = true by simp [Nat.ble_eq, hn], cond_true] at t1
          have z := Option.some.inj t1
          rw [← z]
          show jw_lay _ (dst + c) _ (dst + c) i = _
          unfold jw_lay
          rw [if_pos rfl, pk_cpy_out (by omega)]
      · rw [t3 _ _ (by omega)]
        exact H.1 c i h'
  · rw [t3 _ _ (by omega)]
    exact H.2.1 c i h
theorem q_cp_w {src dst : Nat} {D : Nat → Nat → Prop} {σ σ' : jw_M} (H : q_cp D src dst σ σ') (c0 i0 : Nat) (hd : src + 28 < dst ∨ dst + 28 < src) (h0 : c0 ≤ 28) : q_cp (fun c i => D c i ∨ (c = c0 ∧ i = i0)) src dst σ (jx_w σ' (dst + c0) i0 (σ'.1 (src + c0) i0)) := by
  refine ⟨fun c i h => ?_, fun c i h => ?_, H.2.2⟩
  · rw [q_w]
    by_cases e : c = c0 ∧ i = i0
    · rw [if_pos (by omega), e.1, e.2]
      exact H.2.1 _ _ (by omega)
    · rw [if_neg (by omega)]
      exact H.1 c i (h.resolve_right e)
  · rw [q_wC (by omega)]
    exact H.2.1 c i h
def q_cpK (k f c i : Nat) : Prop := q_cpD c i ∧ c < k ∧ (c = 0 → i ≤ f)
theorem q_st_row {k f n src dst : Nat} {σ σ' : jw_M} (H : q_cp (fun c i => q_cpK k f c i ∨ (c = k ∧ i < n)) src dst σ σ') (hn : ∀ i, q_cpD k i → i < n) : q_cp (q_cpK (k + 1) f) src dst σ σ' :=
  q_cp_m H (fun c i z => by
    by_cases e : c = k
    · exact Or.inr ⟨e, hn i (by rw [← e]; exact z.1)⟩
    · exact Or.inl ⟨z.1, by have := z.2.1; omega, z.2.2⟩)
theorem q_st_w {k f g src dst : Nat} {σ σ' : jw_M} (H : q_cp (fun c i => q_cpK k f c i ∨ (c = 0 ∧ i = g)) src dst σ σ') (hn : ∀ i, q_cpD 0 i → i ≤ g → i ≤ f ∨ i = g) : q_cp (q_cpK k g) src dst σ σ' :=
  q_cp_m H (fun c i z => by
    by_cases e : c = 0
    · subst e
      rcases hn i z.1 (z.2.2 rfl) with y | y
      · exact Or.inl ⟨z.1, z.2.1, fun _ => y⟩
      · exact Or.inr ⟨rfl, y⟩
    · exact Or.inl ⟨z.1, z.2.1, fun y => absurd y e⟩)
/-- the rules' copy -/
theorem e_cpR {N src dst : Nat} {D : Nat → Nat → Prop} {σ σ' : jw_M} (H : q_cp D src dst σ σ') (hd : src + 28 < dst ∨ dst + 28 < src) : ∃ σ'', f_R_copyFrom N (dst + 18) (src + 18) σ' = some σ'' ∧ q_cp (fun c i => D c i ∨ (18 ≤ c ∧ q_cpD c i)) src dst σ σ'' := by
  unfold f_R_copyFrom f_R_copyFrom_27 f_R_copyFrom_38 f_R_copyFrom_49 f_R_copyFrom_60 f_R_copyFrom_71 f_R_copyFrom_82
  have H1 := q_cp_w (q_cp_w H 18 0 hd (by decide)) 18 1 hd (by decide)
  obtain ⟨a1, g1, H2⟩ := q_cp_row (N := N) (n := 8) H1 19 hd (by decide) (by decide)
  rw [show src + 18 + 1 = src + 19 by omega, show dst + 18 + 1 = dst + 19 by omega, g1, Option.bind_some]
  obtain ⟨a2, g2, H3⟩ := q_cp_row (N := N) (n := 8) H2 20 hd (by decide) (by decide)
  rw [show src + 18 + 2 = src + 20 by omega, show dst + 18 + 2 = dst + 20 by omega, g2, Option.bind_some]
  obtain ⟨a3, g3, H4⟩ := q_cp_row (N := N) (n := 8) H3 21 hd (by decide) (by decide)
  rw [show src + 18 + 3 = src + 21 by omega, show dst + 18 + 3 = dst + 21 by omega, g3, Option.bind_some]
  obtain ⟨a4, g4, H5⟩ := q_cp_row (N := N) (n := 100) H4 22 hd (by decide) (by decide)
  rw [show src + 18 + 4 = src + 22 by omega, show dst + 18 + 4 = dst + 22 by omega, g4, Option.bind_some]
  obtain ⟨a5, g5, H6⟩ := q_cp_row (N := N) (n := 100) H5 23 hd (by decide) (by decide)
  rw [show src + 18 + 5 = src + 23 by omega, show dst + 18 + 5 = dst + 23 by omega, g5, Option.bind_some]
  obtain ⟨a6, g6, H7⟩ := q_cp_row (N := N) (n := 100) H6 24 hd (by decide) (by decide)
  rw [show src + 18 + 6 = src + 24 by omega, show dst + 18 + 6 = dst + 24 by omega, g6, Option.bind_some]
  have H8 := q_cp_w H7 18 9 hd (by decide)
  obtain ⟨a8, g8, H9⟩ := q_cp_row (N := N) (n := 105) H8 25 hd (by decide) (by decide)
  rw [show src + 18 + 7 = src + 25 by omega, show dst + 18 + 7 = dst + 25 by omega, g8, Option.bind_some]
  refine ⟨a8, rfl, q_cp_m H9 (fun c i z => ?_)⟩
  rcases z with z | ⟨z1, z2⟩
  · exact Or.inl (Or.inl (Or.inl (Or.inl (Or.inl (Or.inl (Or.inl (Or.inl (Or.inl (Or.inl (z))))))))))
  · unfold q_cpD at z2
    rcases (show c = 18 ∨ c = 19 ∨ c = 20 ∨ c = 21 ∨ c = 22 ∨ c = 23 ∨ c = 24 ∨ c = 25 by omega) with rfl | rfl | rfl | rfl | rfl | rfl | rfl | rfl
    · exact Or.inl (Or.inl (Or.inl (Or.inl (Or.inl (Or.inl (Or.inl (Or.inl (Or.inl (Or.inr ⟨rfl, by omega⟩)))))))))
    · exact Or.inl (Or.inl (Or.inl (Or.inl (Or.inl (Or.inl (Or.inl (Or.inr ⟨rfl, by omega⟩)))))))
    · exact Or.inl (Or.inl (Or.inl (Or.inl (Or.inl (Or.inl (Or.inr ⟨rfl, by omega⟩))))))
    · exact Or.inl (Or.inl (Or.inl (Or.inl (Or.inl (Or.inr ⟨rfl, by omega⟩)))))
    · exact Or.inl (Or.inl (Or.inl (Or.inl (Or.inr ⟨rfl, by omega⟩))))
    · exact Or.inl (Or.inl (Or.inl (Or.inr ⟨rfl, by omega⟩)))
    · exact Or.inl (Or.inl (Or.inr ⟨rfl, by omega⟩))
    · exact Or.inr ⟨rfl, by omega⟩

theorem e_cpT38 {N : Nat} {σ : jw_M} : ∀ (r x k : Nat) (D : Nat → Nat → Prop) (σ' : jw_M), x + r = 6 → r < k → q_cp D 1 38 σ σ' → ∃ σ'', f_S_copyFrom_38_1_136 N k (nI x) σ' = ((f_R_copyFrom N 56 19 (jx_w (jx_w σ'' 38 14 (σ''.1 1 14)) 38 15 ((jx_w σ'' 38 14 (σ''.1 1 14)).1 1 15))).bind fun z22 => (f_P_copyFrom N 64 27 z22).bind fun z24 => some z24) ∧ q_cp (fun c i => D c i ∨ (12 + x ≤ c ∧ c ≤ 17 ∧ i < 4)) 1 38 σ σ''
  | 0, x, k, D, σ', hx, hk, H => by
    obtain ⟨k, rfl⟩ : ∃ j, k = j + 1 := ⟨k - 1, by omega⟩
    refine ⟨σ', ?_, q_cp_m H (fun c i z => z.resolve_right (by omega))⟩
    rw [f_S_copyFrom_38_1_136, if_pos (show (6 : Int32) ≤ nI x from nI_le (a := 6) (by omega) (by omega))]
  | r + 1, x, k, D, σ', hx, hk, H => by
    obtain ⟨k, rfl⟩ : ∃ j, k = j + 1 := ⟨k - 1, by omega⟩
    obtain ⟨τ, g1, H1⟩ := q_cp_row (N := N) (n := 4) H (12 + x) (by decide) (by omega) (by decide)
    obtain ⟨υ, g2, H2⟩ := e_cpT38 r (x + 1) k _ τ (by omega) (by omega) H1
    refine ⟨υ, ?_, q_cp_m H2 (fun c i z => ?_)⟩
    · rw [f_S_copyFrom_38_1_136, if_neg (show ¬ (6 : Int32) ≤ nI x from nI_ge (b := 6) (by omega) (by decide))]
      unfold f_S_copyFrom_38_1_147 f_S_copyFrom_38_1_148 f_S_copyFrom_38_1_153 f_S_copyFrom_38_1_154 f_S_copyFrom_38_1_157
      rw [q_in (show x < 6 by omega) (by decide), cond_true, cond_true, nI_clamp (show x < 2 ^ 31 by omega), show 13 + x = 1 + (12 + x) by omega, show 50 + x = 38 + (12 + x) by omega, g1, Option.bind_some, nI_1]
      exact g2
    · rcases z with z | z
      · exact Or.inl (Or.inl z)
      · by_cases e : c = 12 + x
        · exact Or.inl (Or.inr ⟨e, z.2.2⟩)
        · exact Or.inr ⟨by omega, z.2.1, z.2.2⟩
theorem e_cpS38 {N : Nat} {row : q_f} {σ : jw_M} (hN : 300 ≤ N) (hP : q_PC 27 σ row) : ∃ σ', f_S_copyFrom_38_1 N σ = some σ' ∧ (∀ c i, q_cpD c i → σ'.1 (38 + c) i = σ.1 (1 + c) i) ∧ q_PC 64 σ' row ∧ ∀ c i, (c < 38 ∨ 38 + 28 < c) → σ'.1 c i = σ.1 c i ∧ σ'.2 = σ.2 := by
  unfold f_S_copyFrom_38_1
  have H0 : q_cp (fun _ _ => False) 1 38 σ σ := ⟨fun c i z => absurd z (fun y => y), fun _ _ _ => rfl, rfl⟩
  have H1 : q_cp (q_cpK 1 0) 1 38 σ _ := q_cp_m (q_cp_w H0 0 0 (by decide) (by decide)) (fun c i z => Or.inr ⟨by have := z.2.1; omega, by have := z.2.2 (by have := z.2.1; omega); omega⟩)
  obtain ⟨a2, g2, K2⟩ := q_cp_row (N := N) (n := 6) H1 1 (by decide) (by decide) (by decide)
  rw [show f_F_copyRow N 2 39 6 6 _ = _ from g2, Option.bind_some]
  have H2 := q_st_row K2 (fun i z => by unfold q_cpD at z; omega)
  obtain ⟨a3, g3, K3⟩ := q_cp_row (N := N) (n := 6) H2 2 (by decide) (by decide) (by decide)
  rw [show f_F_copyRow N 3 40 6 6 _ = _ from g3, Option.bind_some]
  have H3 := q_st_row K3 (fun i z => by unfold q_cpD at z; omega)
  obtain ⟨a4, g4, K4⟩ := q_cp_row (N := N) (n := 6) H3 3 (by decide) (by decide) (by decide)
  rw [show f_F_copyRow N 4 41 6 6 _ = _ from g4, Option.bind_some]
  have H4 := q_st_row K4 (fun i z => by unfold q_cpD at z; omega)
  obtain ⟨a5, g5, K5⟩ := q_cp_row (N := N) (n := 6) H4 4 (by decide) (by decide) (by decide)
  rw [show f_F_copyRow N 5 42 6 6 _ = _ from g5, Option.bind_some]
  have H5 := q_st_row K5 (fun i z => by unfold q_cpD at z; omega)
  have H5' := q_st_w (q_cp_w H5 0 5 (by decide) (by decide)) (fun i z y => by unfold q_cpD at z; omega)
  obtain ⟨a6, g6, K6⟩ := q_cp_row (N := N) (n := 8) H5' 5 (by decide) (by decide) (by decide)
  rw [show f_F_copyRow N 6 43 8 8 _ = _ from g6, Option.bind_some]
  have H6 := q_st_row K6 (fun i z => by unfold q_cpD at z; omega)
  obtain ⟨a7, g7, K7⟩ := q_cp_row (N := N) (n := 8) H6 6 (by decide) (by decide) (by decide)
  rw [show f_F_copyRow N 7 44 8 8 _ = _ from g7, Option.bind_some]
  have H7 := q_st_row K7 (fun i z => by unfold q_cpD at z; omega)
  obtain ⟨a8, g8, K8⟩ := q_cp_row (N := N) (n := 8) H7 7 (by decide) (by decide) (by decide)
  rw [show f_F_copyRow N 8 45 8 8 _ = _ from g8, Option.bind_some]
  have H8 := q_st_row K8 (fun i z => by unfold q_cpD at z; omega)
  obtain ⟨a9, g9, K9⟩ := q_cp_row (N := N) (n := 8) H8 8 (by decide) (by decide) (by decide)
  rw [show f_F_copyRow N 9 46 8 8 _ = _ from g9, Option.bind_some]
  have H9 := q_st_row K9 (fun i z => by unfold q_cpD at z; omega)
  obtain ⟨a10, g10, K10⟩ := q_cp_row (N := N) (n := 8) H9 9 (by decide) (by decide) (by decide)
  rw [show f_F_copyRow N 10 47 8 8 _ = _ from g10, Option.bind_some]
  have H10 := q_st_row K10 (fun i z => by unfold q_cpD at z; omega)
  obtain ⟨a11, g11, K11⟩ := q_cp_row (N := N) (n := 17) H10 10 (by decide) (by decide) (by decide)
  rw [show f_F_copyRow N 11 48 17 17 _ = _ from g11, Option.bind_some]
  have H11 := q_st_row K11 (fun i z => by unfold q_cpD at z; omega)
  have T0 := q_st_w (q_cp_w H11 0 12 (by decide) (by decide)) (fun i z y => by unfold q_cpD at z; omega)
  obtain ⟨b, i1, T1⟩ := e_cpT38 (N := N) 6 0 N _ _ (by omega) (by omega) T0
  rw [show f_S_copyFrom_38_1_136 N N 0 _ = _ from i1]
  have T1' : q_cp (q_cpK 18 12) 1 38 σ b := q_cp_m T1 (fun c i z => by
    by_cases e : 12 ≤ c
    · exact Or.inr ⟨e, by have := z.2.1; omega, by have y := z.1; have := z.2.1; unfold q_cpD at y; omega⟩
    · exact Or.inl ⟨z.1, by have y := z.1; unfold q_cpD at y; omega, z.2.2⟩)
  have T2 := q_st_w (q_cp_w (q_st_w (q_cp_w T1' 0 14 (by decide) (by decide)) (fun i z y => by unfold q_cpD at z; omega)) 0 15 (by decide) (by decide)) (fun i z y => by unfold q_cpD at z; omega)
  obtain ⟨c, i2, T3⟩ := e_cpR (N := N) T2 (by decide)
  rw [show f_R_copyFrom N 56 19 _ = _ from i2, Option.bind_some]
  have hP2 : q_PC 27 c row := q_PC_k hP (fun c' i hc => T3.2.1 _ _ (by omega))
  obtain ⟨τ, t1, t2, t3⟩ := e_copyP (N := N) (p0 := 64) hP2 (by omega)
  rw [t1, Option.bind_some]
  refine ⟨τ, rfl, fun c' i z => ?_, t2, fun c' i z => ⟨?_, by rw [t3.2, T3.2.2]⟩⟩
  · rw [t3.1 _ _ (by unfold q_pp; unfold q_cpD at z; simp; omega)]
    refine T3.1 c' i ?_
    by_cases e : 18 ≤ c'
    · exact Or.inr ⟨e, z⟩
    · exact Or.inl ⟨z, by omega, fun y => by subst y; unfold q_cpD at z; omega⟩
  · rw [t3.1 _ _ (by unfold q_pp; simp; omega)]
    exact T3.2.1 c' i z
theorem e_cpT1 {N : Nat} {σ : jw_M} : ∀ (r x k : Nat) (D : Nat → Nat → Prop) (σ' : jw_M), x + r = 6 → r < k → q_cp D 38 1 σ σ' → ∃ σ'', f_S_copyFrom_1_38_136 N k (nI x) σ' = ((f_R_copyFrom N 19 56 (jx_w (jx_w σ'' 1 14 (σ''.1 38 14)) 1 15 ((jx_w σ'' 1 14 (σ''.1 38 14)).1 38 15))).bind fun z22 => (f_P_copyFrom N 27 64 z22).bind fun z24 => some z24) ∧ q_cp (fun c i => D c i ∨ (12 + x ≤ c ∧ c ≤ 17 ∧ i < 4)) 38 1 σ σ''
  | 0, x, k, D, σ', hx, hk, H => by
    obtain ⟨k, rfl⟩ : ∃ j, k = j + 1 := ⟨k - 1, by omega⟩
    refine ⟨σ', ?_, q_cp_m H (fun c i z => z.resolve_right (by omega))⟩
    rw [f_S_copyFrom_1_38_136, if_pos (show (6 : Int32) ≤ nI x from nI_le (a := 6) (by omega) (by omega))]
  | r + 1, x, k, D, σ', hx, hk, H => by
    obtain ⟨k, rfl⟩ : ∃ j, k = j + 1 := ⟨k - 1, by omega⟩
    obtain ⟨τ, g1, H1⟩ := q_cp_row (N := N) (n := 4) H (12 + x) (by decide) (by omega) (by decide)
    obtain ⟨υ, g2, H2⟩ := e_cpT1 r (x + 1) k _ τ (by omega) (by omega) H1
    refine ⟨υ, ?_, q_cp_m H2 (fun c i z => ?_)⟩
    · rw [f_S_copyFrom_1_38_136, if_neg (show ¬ (6 : Int32) ≤ nI x from nI_ge (b := 6) (by omega) (by decide))]
      unfold f_S_copyFrom_1_38_147 f_S_copyFrom_1_38_148 f_S_copyFrom_1_38_153 f_S_copyFrom_1_38_154 f_S_copyFrom_1_38_157
      rw [q_in (show x < 6 by omega) (by decide), cond_true, cond_true, nI_clamp (show x < 2 ^ 31 by omega), show 50 + x = 38 + (12 + x) by omega, show 13 + x = 1 + (12 + x) by omega, g1, Option.bind_some, nI_1]
      exact g2
    · rcases z with z | z
      · exact Or.inl (Or.inl z)
      · by_cases e : c = 12 + x
        · exact Or.inl (Or.inr ⟨e, z.2.2⟩)
        · exact Or.inr ⟨by omega, z.2.1, z.2.2⟩
theorem e_cpS1 {N : Nat} {row : q_f} {σ : jw_M} (hN : 300 ≤ N) (hP : q_PC 64 σ row) : ∃ σ', f_S_copyFrom_1_38 N σ = some σ' ∧ (∀ c i, q_cpD c i → σ'.1 (1 + c) i = σ.1 (38 + c) i) ∧ q_PC 27 σ' row ∧ ∀ c i, (c < 1 ∨ 1 + 28 < c) → σ'.1 c i = σ.1 c i ∧ σ'.2 = σ.2 := by
  unfold f_S_copyFrom_1_38
  have H0 : q_cp (fun _ _ => False) 38 1 σ σ := ⟨fun c i z => absurd z (fun y => y), fun _ _ _ => rfl, rfl⟩
  have H1 : q_cp (q_cpK 1 0) 38 1 σ _ := q_cp_m (q_cp_w H0 0 0 (by decide) (by decide)) (fun c i z => Or.inr ⟨by have := z.2.1; omega, by have := z.2.2 (by have := z.2.1; omega); omega⟩)
  obtain ⟨a2, g2, K2⟩ := q_cp_row (N := N) (n := 6) H1 1 (by decide) (by decide) (by decide)
  rw [show f_F_copyRow N 39 2 6 6 _ = _ from g2, Option.bind_some]
  have H2 := q_st_row K2 (fun i z => by unfold q_cpD at z; omega)
  obtain ⟨a3, g3, K3⟩ := q_cp_row (N := N) (n := 6) H2 2 (by decide) (by decide) (by decide)
  rw [show f_F_copyRow N 40 3 6 6 _ = _ from g3, Option.bind_some]
  have H3 := q_st_row K3 (fun i z => by unfold q_cpD at z; omega)
  obtain ⟨a4, g4, K4⟩ := q_cp_row (N := N) (n := 6) H3 3 (by decide) (by decide) (by decide)
  rw [show f_F_copyRow N 41 4 6 6 _ = _ from g4, Option.bind_some]
  have H4 := q_st_row K4 (fun i z => by unfold q_cpD at z; omega)
  obtain ⟨a5, g5, K5⟩ := q_cp_row (N := N) (n := 6) H4 4 (by decide) (by decide) (by decide)
  rw [show f_F_copyRow N 42 5 6 6 _ = _ from g5, Option.bind_some]
  have H5 := q_st_row K5 (fun i z => by unfold q_cpD at z; omega)
  have H5' := q_st_w (q_cp_w H5 0 5 (by decide) (by decide)) (fun i z y => by unfold q_cpD at z; omega)
  obtain ⟨a6, g6, K6⟩ := q_cp_row (N := N) (n := 8) H5' 5 (by decide) (by decide) (by decide)
  rw [show f_F_copyRow N 43 6 8 8 _ = _ from g6, Option.bind_some]
  have H6 := q_st_row K6 (fun i z => by unfold q_cpD at z; omega)
  obtain ⟨a7, g7, K7⟩ := q_cp_row (N := N) (n := 8) H6 6 (by decide) (by decide) (by decide)
  rw [show f_F_copyRow N 44 7 8 8 _ = _ from g7, Option.bind_some]
  have H7 := q_st_row K7 (fun i z => by unfold q_cpD at z; omega)
  obtain ⟨a8, g8, K8⟩ := q_cp_row (N := N) (n := 8) H7 7 (by decide) (by decide) (by decide)
  rw [show f_F_copyRow N 45 8 8 8 _ = _ from g8, Option.bind_some]
  have H8 := q_st_row K8 (fun i z => by unfold q_cpD at z; omega)
  obtain ⟨a9, g9, K9⟩ := q_cp_row (N := N) (n := 8) H8 8 (by decide) (by decide) (by decide)
  rw [show f_F_copyRow N 46 9 8 8 _ = _ from g9, Option.bind_some]
  have H9 := q_st_row K9 (fun i z => by unfold q_cpD at z; omega)
  obtain ⟨a10, g10, K10⟩ := q_cp_row (N := N) (n := 8) H9 9 (by decide) (by decide) (by decide)
  rw [show f_F_copyRow N 47 10 8 8 _ = _ from g10, Option.bind_some]
  have H10 := q_st_row K10 (fun i z => by unfold q_cpD at z; omega)
  obtain ⟨a11, g11, K11⟩ := q_cp_row (N := N) (n := 17) H10 10 (by decide) (by decide) (by decide)
  rw [show f_F_copyRow N 48 11 17 17 _ = _ from g11, Option.bind_some]
  have H11 := q_st_row K11 (fun i z => by unfold q_cpD at z; omega)
  have T0 := q_st_w (q_cp_w H11 0 12 (by decide) (by decide)) (fun i z y => by unfold q_cpD at z; omega)
  obtain ⟨b, i1, T1⟩ := e_cpT1 (N := N) 6 0 N _ _ (by omega) (by omega) T0
  rw [show f_S_copyFrom_1_38_136 N N 0 _ = _ from i1]
  have T1' : q_cp (q_cpK 18 12) 38 1 σ b := q_cp_m T1 (fun c i z => by
    by_cases e : 12 ≤ c
    · exact Or.inr ⟨e, by have := z.2.1; omega, by have y := z.1; have := z.2.1; unfold q_cpD at y; omega⟩
    · exact Or.inl ⟨z.1, by have y := z.1; unfold q_cpD at y; omega, z.2.2⟩)
  have T2 := q_st_w (q_cp_w (q_st_w (q_cp_w T1' 0 14 (by decide) (by decide)) (fun i z y => by unfold q_cpD at z; omega)) 0 15 (by decide) (by decide)) (fun i z y => by unfold q_cpD at z; omega)
  obtain ⟨c, i2, T3⟩ := e_cpR (N := N) T2 (by decide)
  rw [show f_R_copyFrom N 19 56 _ = _ from i2, Option.bind_some]
  have hP2 : q_PC 64 c row := q_PC_k hP (fun c' i hc => T3.2.1 _ _ (by omega))
  obtain ⟨τ, t1, t2, t3⟩ := e_copyP (N := N) (p0 := 27) hP2 (by omega)
  rw [t1, Option.bind_some]
  refine ⟨τ, rfl, fun c' i z => ?_, t2, fun c' i z => ⟨?_, by rw [t3.2, T3.2.2]⟩⟩
  · rw [t3.1 _ _ (by unfold q_pp; unfold q_cpD at z; simp; omega)]
    refine T3.1 c' i ?_
    by_cases e : 18 ≤ c'
    · exact Or.inr ⟨e, z⟩
    · exact Or.inl ⟨z, by omega, fun y => by subst y; unfold q_cpD at z; omega⟩
  · rw [t3.1 _ _ (by unfold q_pp; simp; omega)]
    exact T3.2.1 c' i z
/-! ===== the reference's copies ===== -/
theorem e_kp2 {N : Nat} : ∀ (r i k : Nat) (σ : jw_M), i + r = 56 → r < k → ∃ σ', f_M_keep_2 N k (nI i) σ = f_M_keep_28 N N 0 σ' ∧ (∀ j, σ'.1 4 j = if i ≤ j ∧ j < 56 then σ.1 1 j else σ.1 4 j) ∧ (∀ c, c ≠ 4 → σ'.1 c = σ.1 c) ∧ σ'.2 = σ.2
  | 0, i, k, σ, hi, hk => by
    obtain ⟨k, rfl⟩ : ∃ j, k = j + 1 := ⟨k - 1, by omega⟩
    refine ⟨σ, ?_, fun j => by rw [if_neg (by omega)], fun _ _ => rfl, rfl⟩
    rw [f_M_keep_2, if_pos (show (56 : Int32) ≤ nI i from nI_le (a := 56) (by omega) (by omega))]
  | r + 1, i, k, σ, hi, hk => by
    obtain ⟨k, rfl⟩ : ∃ j, k = j + 1 := ⟨k - 1, by omega⟩
    obtain ⟨σ', g1, g2, g3, g4⟩ := e_kp2 (N := N) r (i + 1) k (jx_w σ 4 i (σ.1 1 i)) (by omega) (by omega)
    refine ⟨σ', ?_, fun j => ?_, fun c hc => by rw [g3 c hc, q_w0 hc], by rw [g4]; rfl⟩
    · rw [f_M_keep_2, if_neg (show ¬ (56 : Int32) ≤ nI i from nI_ge (b := 56) (by omega) (by omega)), q_in (show i < 56 by omega) (by decide), cond_true, nI_clamp (show i < 2 ^ 31 by omega), nI_1]
      exact g1
    · rw [g2 j, q_wC (show (1 : Nat) ≠ 4 by decide)]
      by_cases c : j = i
      · subst c
        rw [if_neg (by omega), if_pos (by omega), q_wS]
      · rw [q_wI c]
        by_cases c2 : i + 1 ≤ j ∧ j < 56
        · rw [if_pos c2, if_pos (by omega)]
        · rw [if_neg c2, if_neg (by omega)]
theorem e_kp28 {N : Nat} : ∀ (r i k : Nat) (σ : jw_M), i + r = 526 → r < k → ∃ σ', f_M_keep_28 N k (nI i) σ = some (1, jx_w σ' 0 5 1) ∧ (∀ j, σ'.1 5 j = if i ≤ j ∧ j < 526 then σ.1 3 j else σ.1 5 j) ∧ (∀ c, c ≠ 5 → σ'.1 c = σ.1 c) ∧ σ'.2 = σ.2
  | 0, i, k, σ, hi, hk => by
    obtain ⟨k, rfl⟩ : ∃ j, k = j + 1 := ⟨k - 1, by omega⟩
    refine ⟨σ, ?_, fun j => by rw [if_neg (by omega)], fun _ _ => rfl, rfl⟩
    rw [f_M_keep_28, if_pos (show (526 : Int32) ≤ nI i from nI_le (a := 526) (by omega) (by omega))]
  | r + 1, i, k, σ, hi, hk => by
    obtain ⟨k, rfl⟩ : ∃ j, k = j + 1 := ⟨k - 1, by omega⟩
    obtain ⟨σ', g1, g2, g3, g4⟩ := e_kp28 (N := N) r (i + 1) k (jx_w σ 5 i (σ.1 3 i)) (by omega) (by omega)
    refine ⟨σ', ?_, fun j => ?_, fun c hc => by rw [g3 c hc, q_w0 hc], by rw [g4]; rfl⟩
    · rw [f_M_keep_28, if_neg (show ¬ (526 : Int32) ≤ nI i from nI_ge (b := 526) (by omega) (by omega)), q_in (show i < 526 by omega) (by decide), cond_true, nI_clamp (show i < 2 ^ 31 by omega), nI_1]
      exact g1
    · rw [g2 j, q_wC (show (3 : Nat) ≠ 5 by decide)]
      by_cases c : j = i
      · subst c
        rw [if_neg (by omega), if_pos (by omega), q_wS]
      · rw [q_wI c]
        by_cases c2 : i + 1 ≤ j ∧ j < 526
        · rw [if_pos c2, if_pos (by omega)]
        · rw [if_neg c2, if_neg (by omega)]
theorem e_ag12 {N : Nat} : ∀ (r i k : Nat) (σ : jw_M), i + r = 56 → r < k → ∃ σ', f_M_again_12 N k (nI i) σ = f_M_again_38 N N 0 σ' ∧ (∀ j, σ'.1 1 j = if i ≤ j ∧ j < 56 then σ.1 4 j else σ.1 1 j) ∧ (∀ c, c ≠ 1 → σ'.1 c = σ.1 c) ∧ σ'.2 = σ.2
  | 0, i, k, σ, hi, hk => by
    obtain ⟨k, rfl⟩ : ∃ j, k = j + 1 := ⟨k - 1, by omega⟩
    refine ⟨σ, ?_, fun j => by rw [if_neg (by omega)], fun _ _ => rfl, rfl⟩
    rw [f_M_again_12, if_pos (show (56 : Int32) ≤ nI i from nI_le (a := 56) (by omega) (by omega))]
  | r + 1, i, k, σ, hi, hk => by
    obtain ⟨k, rfl⟩ : ∃ j, k = j + 1 := ⟨k - 1, by omega⟩
    obtain ⟨σ', g1, g2, g3, g4⟩ := e_ag12 (N := N) r (i + 1) k (jx_w σ 1 i (σ.1 4 i)) (by omega) (by omega)
    refine ⟨σ', ?_, fun j => ?_, fun c hc => by rw [g3 c hc, q_w0 hc], by rw [g4]; rfl⟩
    · rw [f_M_again_12, if_neg (show ¬ (56 : Int32) ≤ nI i from nI_ge (b := 56) (by omega) (by omega)), q_in (show i < 56 by omega) (by decide), cond_true, nI_clamp (show i < 2 ^ 31 by omega), nI_1]
      exact g1
    · rw [g2 j, q_wC (show (4 : Nat) ≠ 1 by decide)]
      by_cases c : j = i
      · subst c
        rw [if_neg (by omega), if_pos (by omega), q_wS]
      · rw [q_wI c]
        by_cases c2 : i + 1 ≤ j ∧ j < 56
        · rw [if_pos c2, if_pos (by omega)]
        · rw [if_neg c2, if_neg (by omega)]
theorem e_ag38 {N : Nat} : ∀ (r i k : Nat) (σ : jw_M), i + r = 526 → r < k → ∃ σ', f_M_again_38 N k (nI i) σ = some (σ'.1 3 2, σ') ∧ (∀ j, σ'.1 3 j = if i ≤ j ∧ j < 526 then σ.1 5 j else σ.1 3 j) ∧ (∀ c, c ≠ 3 → σ'.1 c = σ.1 c) ∧ σ'.2 = σ.2
  | 0, i, k, σ, hi, hk => by
    obtain ⟨k, rfl⟩ : ∃ j, k = j + 1 := ⟨k - 1, by omega⟩
    refine ⟨σ, ?_, fun j => by rw [if_neg (by omega)], fun _ _ => rfl, rfl⟩
    rw [f_M_again_38, if_pos (show (526 : Int32) ≤ nI i from nI_le (a := 526) (by omega) (by omega))]
  | r + 1, i, k, σ, hi, hk => by
    obtain ⟨k, rfl⟩ : ∃ j, k = j + 1 := ⟨k - 1, by omega⟩
    obtain ⟨σ', g1, g2, g3, g4⟩ := e_ag38 (N := N) r (i + 1) k (jx_w σ 3 i (σ.1 5 i)) (by omega) (by omega)
    refine ⟨σ', ?_, fun j => ?_, fun c hc => by rw [g3 c hc, q_w0 hc], by rw [g4]; rfl⟩
    · rw [f_M_again_38, if_neg (show ¬ (526 : Int32) ≤ nI i from nI_ge (b := 526) (by omega) (by omega)), q_in (show i < 526 by omega) (by decide), cond_true, nI_clamp (show i < 2 ^ 31 by omega), nI_1]
      exact g1
    · rw [g2 j, q_wC (show (5 : Nat) ≠ 3 by decide)]
      by_cases c : j = i
      · subst c
        rw [if_neg (by omega), if_pos (by omega), q_wS]
      · rw [q_wI c]
        by_cases c2 : i + 1 ≤ j ∧ j < 526
        · rw [if_pos c2, if_pos (by omega)]
        · rw [if_neg c2, if_neg (by omega)]
theorem u_keep {N : Nat} (hN : 1000 ≤ N) : q_U (f_F_keep N) (f_M_keep N) := by
  intro σC σM hR
  obtain ⟨⟨L, n, m, d, h, t, H⟩, hK, hT, hW, hH, hV, hX⟩ := id hR
  unfold f_F_keep f_M_keep
  obtain ⟨τ, t1, t2, t3, t4⟩ := e_cpS38 (N := N) (by omega) (show q_PC 27 σC (σM.1 1) from H.2.2.2.2.2.2)
  obtain ⟨υ, v1, v2, v3, v4⟩ := e_kp2 (N := N) 56 0 N σM (by omega) (by omega)
  obtain ⟨ω, o1, o2, o3, o4⟩ := e_kp28 (N := N) 526 0 N υ (by omega) (by omega)
  rw [t1, Option.bind_some, show f_M_keep_2 N N 0 σM = _ from v1, show f_M_keep_28 N N 0 υ = _ from o1]
  have gC : ∀ c i, (c < 38 ∨ 66 < c) → (c ≠ 0 ∨ i ≠ 2) → (jx_w τ 0 2 1).1 c i = σC.1 c i := fun c i h1 h2 => by
    rw [q_w, if_neg (by omega)]
    exact (t4 c i (by omega)).1
  have gM : ∀ c i, c ≠ 4 → c ≠ 5 → (c ≠ 0 ∨ i ≠ 5) → (jx_w ω 0 5 1).1 c i = σM.1 c i := fun c i h1 h2 h3 => by
    rw [q_w, if_neg (by omega), o3 c h2, v3 c h1]
  have gL : ∀ i, (jx_w ω 0 5 1).2 16 i = σM.2 16 i := fun i => by rw [q_w2, o4, v4]
  refine ⟨1, _, _, rfl, rfl, ⟨L, n, m, d, h, t, ?_⟩, Or.inr ⟨q_wS, q_wS, L, n, m, d, h, t, ?_⟩, q_T_k hT (fun c i z => gC _ _ (by omega) (by omega)) (fun c i z => gM _ _ (by omega) (by omega) (by omega)), q_W_k hW (fun c i z => gC _ _ (by omega) (by omega)) (fun c i z => gM _ _ (by omega) (by omega) (by omega)), q_H_k hH (fun c i z => gC _ _ (by omega) (by omega)) (fun c i z => gM _ _ (by omega) (by omega) (by omega)) gL, q_V_k hV (fun c i z => gC _ _ (by omega) (by omega)) (fun c i z => gM _ _ (by omega) (by omega) (by omega)), q_X_k hX (fun c i z => gC _ _ (by omega) (by omega)) (fun c i z => gM _ _ (by omega) (by omega) (by omega))⟩
  · rw [show (jx_w ω 0 5 1).1 3 = σM.1 3 from funext fun i => gM 3 i (by omega) (by omega) (by omega), show (jx_w ω 0 5 1).1 1 = σM.1 1 from funext fun i => gM 1 i (by omega) (by omega) (by omega)]
    exact q_AA_k H (fun c i h1 h2 => gC _ _ (by omega) (by omega))
  · refine q_AA_cg (q_AA_k (q_AA_mv H t2 t3) (fun c i h1 h2 => q_wC (by omega))) (fun k hk => ?_) (fun k hk => ?_)
    · rw [q_wC (by decide), o2, if_pos (by omega), v3 3 (by decide)]
    · rw [q_wC (by decide), o3 4 (by decide), v2, if_pos (by omega)]
theorem u_again {N : Nat} (hN : 1000 ≤ N) : q_U (f_F_again N) (f_M_again N) := by
  intro σC σM hR
  obtain ⟨⟨L0, n0, m0, d0, h0, t0, H0⟩, hK, hT, hW, hH, hV, hX⟩ := id hR
  unfold f_F_again f_M_again
  rcases id hK with ⟨k1, k2⟩ | ⟨k1, k2, L, n, m, d, h, t, H⟩
  · rw [k1, k2, if_pos rfl, if_pos rfl]
    exact ⟨_, σC, σM, rfl, rfl, hR⟩
  · rw [k1, k2, if_neg (by decide), if_neg (by decide)]
    obtain ⟨τ, t1, t2, t3, t4⟩ := e_cpS1 (N := N) (by omega) (show q_PC 64 σC (σM.1 4) from H.2.2.2.2.2.2)
    obtain ⟨υ, v1, v2, v3, v4⟩ := e_ag12 (N := N) 56 0 N σM (by omega) (by omega)
    obtain ⟨ω, o1, o2, o3, o4⟩ := e_ag38 (N := N) 526 0 N υ (by omega) (by omega)
    rw [t1, Option.bind_some, show f_M_again_12 N N 0 σM = _ from v1, show f_M_again_38 N N 0 υ = _ from o1]
    have gC : ∀ c i, (c < 1 ∨ 29 < c) → τ.1 c i = σC.1 c i := fun c i h1 => (t4 c i (by omega)).1
    have gM : ∀ c i, c ≠ 1 → c ≠ 3 → ω.1 c i = σM.1 c i := fun c i h1 h2 => by rw [o3 c h2, v3 c h1]
    have gL : ∀ i, ω.2 16 i = σM.2 16 i := fun i => by rw [o4, v4]
    have HA : q_AA 1 τ (ω.1 3) (ω.1 1) L n m d h t := by
      refine q_AA_cg (q_AA_mv H t2 t3) (fun k hk => ?_) (fun k hk => ?_)
      · rw [o2, if_pos (by omega), v3 5 (by decide)]
      · rw [o3 1 (by decide), v2, if_pos (by omega)]
    refine ⟨_, τ, ω, by rw [show τ.1 1 0 = ω.1 3 2 from HA.2.2.2.2.2.1.1 0 0 2 rfl], rfl, ⟨L, n, m, d, h, t, HA⟩, q_K_k hK (fun c i z => gC _ _ (by omega)) (fun c i z => gM _ _ (by omega) (by omega)), q_T_k hT (fun c i z => gC _ _ (by omega)) (fun c i z => gM _ _ (by omega) (by omega)), q_W_k hW (fun c i z => gC _ _ (by omega)) (fun c i z => gM _ _ (by omega) (by omega)), q_H_k hH (fun c i z => gC _ _ (by omega)) (fun c i z => gM _ _ (by omega) (by omega)) gL, q_V_k hV (fun c i z => gC _ _ (by omega)) (fun c i z => gM _ _ (by omega) (by omega)), q_X_k hX (fun c i z => gC _ _ (by omega)) (fun c i z => gM _ _ (by omega) (by omega))⟩
