/-! ===== pure: plans as numbers; what each comes to ===== -/
def q_px (S : q_f) (L : q_L) (b : Nat) (row : q_f) : Nat → Nat → Int32 × Nat × q_f
  | 0, _ => (0, 0, row)
  | k + 1, P => ((q_px S L b row k (P / b)).1 + (q_go S L (nI (P % b)) (q_px S L b row k (P / b)).2.2).1, (if P % b = 0 then (q_px S L b row k (P / b)).2.1 else (q_px S L b row k (P / b)).2.1 + 1), (q_go S L (nI (P % b)) (q_px S L b row k (P / b)).2.2).2.1)
theorem q_px_wr {S : q_f} {L : q_L} {n m d h b : Nat} {row : q_f} (hw : q_wf S n m d) (hr : q_wr S n m d row h) : ∀ (k P : Nat), h + k ≤ d → q_wr S n m d (q_px S L b row k P).2.2 (h + k)
  | 0, _, _ => hr
  | k + 1, P, hk => q_wr_go hw (q_px_wr hw hr k (P / b) (by omega)) (show h + k < d by omega)
theorem q_px_w {S : q_f} {L : q_L} {n m d b : Nat} {row : q_f} (hw : q_wf S n m d) : ∀ (k P : Nat), ∃ c, c ≤ 120 * k ∧ (q_px S L b row k P).1 = nI c
  | 0, _ => ⟨0, by omega, rfl⟩
  | k + 1, P => by
    obtain ⟨c, c1, c2⟩ := q_px_w (L := L) (b := b) (row := row) hw k (P / b)
    obtain ⟨g, g1, g2⟩ := q_go_w (L := L) (a := nI (P % b)) (row := (q_px S L b row k (P / b)).2.2) hw
    exact ⟨c + g, by omega, by rw [q_px, c2, g2, nI_add]⟩
theorem q_px_s {S : q_f} {L : q_L} {b : Nat} {row : q_f} : ∀ (k P : Nat), (q_px S L b row k P).2.1 ≤ k
  | 0, _ => Nat.le_refl _
  | k + 1, P => by
    have := q_px_s (S := S) (L := L) (b := b) (row := row) k (P / b)
    rw [q_px]
    dsimp only
    split <;> omega
theorem q_px_hi {S : q_f} {L : q_L} {n m d b : Nat} {row : q_f} (hw : q_wf S n m d) {i : Nat} (hi : 56 ≤ i) : ∀ (k P : Nat), (q_px S L b row k P).2.2 i = row i
  | 0, _ => rfl
  | k + 1, P => by
    rw [q_px]
    dsimp only
    rw [q_go_hi hw hi, q_px_hi hw hi k (P / b)]
abbrev q_bS : Type := Int32 × Int32 × Nat
abbrev q_tS : Type := Nat × Int32
def q_wb (w : Int32) (p : Nat) (s : q_bS) : q_bS := if w ≤ s.1 then (if w = s.1 then (s.1, s.2.1 + 1, s.2.2) else s) else (w, 0 + 1, p)
def q_wu (wanted : Int32) (sent : Nat) (some : Int32) (u : q_tS) : q_tS := (if wanted &&& (some ^^^ (-1)) = 0 then (if sent < u.1 then sent else u.1) else u.1, u.2 ||| some)
def q_gB (S : q_f) (L : q_L) (b : Nat) (row : q_f) (H : Nat) (p : Nat) (s : q_bS) : q_bS := q_wb (q_px S L b row H p).1 p s
def q_gT (S : q_f) (L : q_L) (b : Nat) (row : q_f) (H : Nat) (wanted : Int32) (p : Nat) (u : q_tS) : q_tS := q_wu wanted (q_px S L b row H p).2.1 (q_some (q_px S L b row H p).2.2) u
def q_fB (g : Nat → q_bS → q_bS) : Nat → Nat → q_bS → q_bS
  | 0, _, s => s
  | k + 1, p, s => q_fB g k (p + 1) (g p s)
def q_fT (g : Nat → q_tS → q_tS) : Nat → Nat → q_tS → q_tS
  | 0, _, s => s
  | k + 1, p, s => q_fT g k (p + 1) (g p s)
theorem q_fB_add {g : Nat → q_bS → q_bS} : ∀ (k j p : Nat) (s : q_bS), q_fB g (k + j) p s = q_fB g j (p + k) (q_fB g k p s)
  | 0, j, p, s => by rw [Nat.zero_add]; rfl
  | k + 1, j, p, s => by
    rw [show k + 1 + j = (k + j) + 1 by omega, q_fB, q_fB, q_fB_add k j (p + 1), show p + 1 + k = p + (k + 1) by omega]
theorem q_fT_add {g : Nat → q_tS → q_tS} : ∀ (k j p : Nat) (s : q_tS), q_fT g (k + j) p s = q_fT g j (p + k) (q_fT g k p s)
  | 0, j, p, s => by rw [Nat.zero_add]; rfl
  | k + 1, j, p, s => by
    rw [show k + 1 + j = (k + j) + 1 by omega, q_fT, q_fT, q_fT_add k j (p + 1), show p + 1 + k = p + (k + 1) by omega]
/-! ===== the class's walk ===== -/
/-- how the walk stands -/
def q_LS (H b : Nat) (wanted : Int32) (s : q_bS) (u : q_tS) (σ : jw_M) : Prop := σ.1 92 2 = nI H ∧ σ.1 92 3 = s.1 ∧ σ.1 92 4 = s.2.1 ∧ σ.1 92 6 = wanted ∧ σ.1 92 7 = nI u.1 ∧ u.1 ≤ 5 ∧ σ.1 92 8 = u.2 ∧ (s.1 = -1 ∨ (¬ s.1 ≤ -1 ∧ ∀ k, k < H → σ.1 115 k = nI (s.2.2 / b ^ (H - 1 - k) % b)))
def q_LD (H b : Nat) (s : q_bS) (σ : jw_M) : Prop := ¬ s.1 ≤ -1 ∧ ∀ k, k < H → σ.1 115 k = nI (s.2.2 / b ^ (H - 1 - k) % b)
def q_wk (dp c i : Nat) : Bool := (c == 92 && (i == 3 || i == 4 || i == 7 || i == 8)) || (c == 114 && decide (dp ≤ i)) || c == 115 || (decide (94 + 4 * (dp + 1) ≤ c) && decide (c ≤ 113)) || (c == 26 && decide (i < 5))
theorem e_weigh {N H b sent : Nat} {wanted w some : Int32} {s : q_bS} {u : q_tS} {σ : jw_M} {p : Nat} (h4 : H ≤ 4) (hs : sent ≤ 5) (hw : ∃ c, c < 2 ^ 31 ∧ w = nI c) (hL : q_LS H b wanted s u σ) (ha : ∀ k, k < H → σ.1 114 k = nI (p / b ^ (H - 1 - k) % b)) : ∃ σ', f_L_weigh N w (nI sent) some σ = .some σ' ∧ q_LS H b wanted (q_wb w p s) (q_wu wanted sent some u) σ' ∧ q_LD H b (q_wb w p s) σ' ∧ q_fr (fun c i => (c == 92 && (i == 3 || i == 4 || i == 7 || i == 8)) || c == 115) σ σ' := by
  obtain ⟨l2, l3, l4, l6, l7, l5, l8, l9⟩ := hL
  obtain ⟨c, hc, hcw⟩ := hw
  have nw : ¬ w ≤ -1 := by rw [hcw]; exact q_nm1 hc
  have step1 : ∃ τ, f_L_weigh N w (nI sent) some σ = f_L_weigh_47 N (nI sent) some τ ∧ τ.1 92 2 = nI H ∧ τ.1 92 3 = (q_wb w p s).1 ∧ τ.1 92 4 = (q_wb w p s).2.1 ∧ τ.1 92 6 = wanted ∧ τ.1 92 7 = nI u.1 ∧ τ.1 92 8 = u.2 ∧ q_LD H b (q_wb w p s) τ ∧ q_fr (fun c i => (c == 92 && (i == 3 || i == 4 || i == 7 || i == 8)) || c == 115) σ τ := by
    unfold f_L_weigh f_L_weigh_29 q_wb
    rw [l3]
    by_cases c1 : w ≤ s.1
    · have l9' := l9.resolve_left (fun z => nw (by rw [← z]; exact c1))
      rw [if_pos c1, if_pos c1]
      by_cases c2 : w = s.1
      · rw [if_pos c2, if_pos c2, l4]
        refine ⟨_, rfl, ?_, ?_, q_wS, ?_, ?_, ?_, ⟨l9'.1, fun k hk => ?_⟩, q_fr_w (q_fr_r _ _) rfl⟩
        · rw [q_wI (by decide)]; exact l2
        · rw [q_wI (by decide)]; exact l3
        · rw [q_wI (by decide)]; exact l6
        · rw [q_wI (by decide)]; exact l7
        · rw [q_wI (by decide)]; exact l8
        · rw [q_wC (by decide)]
          exact l9'.2 k hk
      · rw [if_neg c2, if_neg c2]
        exact ⟨σ, rfl, l2, l3, l4, l6, l7, l8, l9', q_fr_r _ _⟩
    · rw [if_neg c1, if_neg c1]
      obtain ⟨τ, t1, t2, t3, t4⟩ := e_cr (N := N) (a := 114) (b := 115) (n := 4) (by decide) (jx_w (jx_w σ 92 3 w) 92 4 0)
      rw [t1, Option.bind_some, t3 92 3 (by decide), q_wI (by decide), q_wS, if_pos rfl, t3 92 4 (by decide), q_wS]
      refine ⟨_, rfl, ?_, ?_, q_wS, ?_, ?_, ?_, ⟨nw, fun k hk => ?_⟩, ?_⟩
      · rw [q_wI (by decide), t3 92 2 (by decide), q_wI (by decide), q_wI (by decide)]; exact l2
      · rw [q_wI (by decide), t3 92 3 (by decide), q_wI (by decide), q_wS]
      · rw [q_wI (by decide), t3 92 6 (by decide), q_wI (by decide), q_wI (by decide)]; exact l6
      · rw [q_wI (by decide), t3 92 7 (by decide), q_wI (by decide), q_wI (by decide)]; exact l7
      · rw [q_wI (by decide), t3 92 8 (by decide), q_wI (by decide), q_wI (by decide)]; exact l8
      · rw [q_wC (by decide), t2 k (by omega), q_wC (by decide), q_wC (by decide)]
        exact ha k hk
      · refine q_fr_w (q_fr_t (q_fr_w (q_fr_w (q_fr_r _ _) rfl) rfl) ⟨fun c i z => t3 c i (fun e => ?_), t4⟩) rfl
        rw [e] at z
        simp at z
  obtain ⟨τ, g0, g2, g3, g4, g6, g7, g8, gD, gf⟩ := step1
  rw [g0]
  unfold f_L_weigh_47 f_L_weigh_70 q_wu f_J_min
  rw [g6, g7]
  by_cases c1 : wanted &&& (some ^^^ (-1)) = 0
  · rw [if_pos c1, if_pos c1]
    by_cases c2 : sent < u.1
    · rw [if_pos (nI_lt c2 (by omega)), if_pos c2, Option.bind_some, q_wI (by decide), g8]
      refine ⟨_, rfl, ⟨?_, ?_, ?_, ?_, ?_, ?_, q_wS, Or.inr ⟨gD.1, fun k hk => ?_⟩⟩, ⟨gD.1, fun k hk => ?_⟩, q_fr_w (q_fr_w gf rfl) rfl⟩
      · rw [q_wI (by decide), q_wI (by decide)]; exact g2
      · rw [q_wI (by decide), q_wI (by decide)]; exact g3
      · rw [q_wI (by decide), q_wI (by decide)]; exact g4
      · rw [q_wI (by decide), q_wI (by decide)]; exact g6
      · rw [q_wI (by decide), q_wS]
      · exact hs
      · rw [q_wC (by decide), q_wC (by decide)]; exact gD.2 k hk
      · rw [q_wC (by decide), q_wC (by decide)]; exact gD.2 k hk
    · rw [if_neg (nI_nlt (by omega) (by omega)), if_neg c2, Option.bind_some, q_wI (by decide), g8]
      refine ⟨_, rfl, ⟨?_, ?_, ?_, ?_, ?_, l5, q_wS, Or.inr ⟨gD.1, fun k hk => ?_⟩⟩, ⟨gD.1, fun k hk => ?_⟩, q_fr_w (q_fr_w gf rfl) rfl⟩
      · rw [q_wI (by decide), q_wI (by decide)]; exact g2
      · rw [q_wI (by decide), q_wI (by decide)]; exact g3
      · rw [q_wI (by decide), q_wI (by decide)]; exact g4
      · rw [q_wI (by decide), q_wI (by decide)]; exact g6
      · rw [q_wI (by decide), q_wS]
      · rw [q_wC (by decide), q_wC (by decide)]; exact gD.2 k hk
      · rw [q_wC (by decide), q_wC (by decide)]; exact gD.2 k hk
  · rw [if_neg c1, if_neg c1, g8]
    refine ⟨_, rfl, ⟨?_, ?_, ?_, ?_, ?_, l5, q_wS, Or.inr ⟨gD.1, fun k hk => ?_⟩⟩, ⟨gD.1, fun k hk => ?_⟩, q_fr_w gf rfl⟩
    · rw [q_wI (by decide)]; exact g2
    · rw [q_wI (by decide)]; exact g3
    · rw [q_wI (by decide)]; exact g4
    · rw [q_wI (by decide)]; exact g6
    · rw [q_wI (by decide)]; exact g7
    · rw [q_wC (by decide)]; exact gD.2 k hk
    · rw [q_wC (by decide)]; exact gD.2 k hk
/-- at a node of the walk -/
def q_nd (S : q_f) (L : q_L) (b m : Nat) (row : q_f) (dp P : Nat) (σ : jw_M) : Prop := q_SC 1 σ S L m ∧ q_PC (94 + 4 * dp) σ (q_px S L b row dp P).2.2 ∧ ∀ k, k < dp → σ.1 114 k = nI (P / b ^ (dp - 1 - k) % b)
theorem q_wk_nd {S : q_f} {L : q_L} {b m dp P : Nat} {row : q_f} {σ τ : jw_M} (hd : dp ≤ 4) (h : q_nd S L b m row dp P σ) (f : q_fr (q_wk dp) σ τ) : q_nd S L b m row dp P τ := by
  refine ⟨q_SC_k h.1 (fun c i h1 h2 => f.1 _ _ ?_), q_PC_k h.2.1 (fun c i hc => f.1 _ _ ?_), fun k hk => ?_⟩
  · unfold q_wk; simp; omega
  · unfold q_wk; simp; omega
  · rw [f.1 114 k (by unfold q_wk; simp; omega)]
    exact h.2.2 k hk
theorem q_wk_m {dp c i : Nat} (h : q_wk dp c i = false) : q_wk (dp + 1) c i = false := by
  unfold q_wk at h ⊢
  simp at h ⊢
  omega
theorem e_walk13 {N Rr H n m d h b dp P : Nat} {wanted : Int32} {S : q_f} {L : q_L} {row : q_f} {s : q_bS} {u : q_tS} {σ : jw_M} {Rec : Int32 → Int32 → Int32 → jw_M → Option jw_M} (hN : 300 ≤ N) (h4 : H ≤ 4) (hw : q_wf S n m d) (hdp : dp = H) (hn : q_nd S L b m row dp P σ) (hL : q_LS H b wanted s u σ) : ∃ σ', f_L_walk_13 N Rec (nI dp) (q_px S L b row dp P).1 (nI (q_px S L b row dp P).2.1) σ = some σ' ∧ q_LS H b wanted (q_gB S L b row H P s) (q_gT S L b row H wanted P u) σ' ∧ q_LD H b (q_gB S L b row H P s) σ' ∧ q_fr (q_wk dp) σ σ' := by
  subst hdp
  unfold f_L_walk_13 f_L_walk_22 f_L_walk_23
  rw [q_in (show dp < 5 by omega) (by decide), cond_true, nI_clamp (show dp < 2 ^ 31 by omega), e_someC hN hn.2.1, Option.bind_some]
  obtain ⟨c, c1, c2⟩ := q_px_w (L := L) (b := b) (row := row) hw dp P
  have hs := q_px_s (S := S) (L := L) (b := b) (row := row) dp P
  obtain ⟨τ, t1, t2, t3, t4⟩ := e_weigh (N := N) (w := (q_px S L b row dp P).1) (sent := (q_px S L b row dp P).2.1) (some := q_some (q_px S L b row dp P).2.2) (p := P) h4 (by omega) ⟨c, by omega, c2⟩ hL hn.2.2
  dsimp only
  rw [t1, Option.bind_some]
  refine ⟨τ, rfl, t2, t3, q_fr_m t4 (fun c i z => ?_)⟩
  unfold q_wk at z
  simp at z ⊢
  omega
/-- the digits of a node's child -/
theorem q_ch_d {b dp P a k : Nat} (hb : 0 < b) (ha : a < b) (hk : k < dp) : (P * b + a) / b ^ (dp + 1 - 1 - k) % b = P / b ^ (dp - 1 - k) % b := by
  rw [show dp + 1 - 1 - k = (dp - 1 - k) + 1 by omega, Nat.pow_succ, Nat.mul_comm (b ^ (dp - 1 - k)) b, ← Nat.div_div_eq_div_mul, show (P * b + a) / b = P by rw [Nat.add_comm, Nat.add_mul_div_right _ _ hb, Nat.div_eq_of_lt ha, Nat.zero_add]]
theorem q_ch_q {b P a : Nat} (hb : 0 < b) (ha : a < b) : (P * b + a) / b = P := by
  rw [Nat.add_comm, Nat.add_mul_div_right _ _ hb, Nat.div_eq_of_lt ha, Nat.zero_add]
theorem q_ch_r {b P a : Nat} (ha : a < b) : (P * b + a) % b = a := by
  rw [Nat.add_comm, Nat.add_mul_mod_self_right, Nat.mod_eq_of_lt ha]
theorem e_walk {N H n m d h b : Nat} {wanted : Int32} {S : q_f} {L : q_L} {row : q_f} (hN : 300 ≤ N) (h4 : H ≤ 4) (hb : b = n + 1) (hw : q_wf S n m d) (hR : q_RM S L) (hr : q_wr S n m d row h) (hd : h + H ≤ d) : ∀ (e dp P r : Nat) (s : q_bS) (u : q_tS) (σ : jw_M), dp + e = H → e < r → q_nd S L b m row dp P σ → q_LS H b wanted s u σ → ∃ σ', f_L_walk N r (nI dp) (q_px S L b row dp P).1 (nI (q_px S L b row dp P).2.1) σ = some σ' ∧ q_LS H b wanted (q_fB (q_gB S L b row H) (b ^ e) (P * b ^ e) s) (q_fT (q_gT S L b row H wanted) (b ^ e) (P * b ^ e) u) σ' ∧ q_LD H b (q_fB (q_gB S L b row H) (b ^ e) (P * b ^ e) s) σ' ∧ q_fr (q_wk dp) σ σ' := by
  have hn6 := hw.1
  intro e
  induction e with
  | zero =>
    intro dp P r s u σ hdp hr' hn hL
    obtain ⟨r, rfl⟩ : ∃ j, r = j + 1 := ⟨r - 1, by omega⟩
    rw [f_L_walk, hL.1, if_pos (nI_le (by omega) (by omega)), Nat.pow_zero, Nat.mul_one]
    exact e_walk13 (Rr := 0) (d := d) (h := h) (n := n) hN h4 hw (by omega) hn hL
  | succ e ih =>
    intro dp P r s u σ hdp hr' hn hL
    obtain ⟨r, rfl⟩ : ∃ j, r = j + 1 := ⟨r - 1, by omega⟩
    have hs := q_px_s (S := S) (L := L) (b := b) (row := row) dp P
    have loop : ∀ (c a k : Nat) (s : q_bS) (u : q_tS) (σ : jw_M), a + c = b → c < k → q_nd S L b m row dp P σ → q_LS H b wanted s u σ → (0 < c ∨ q_LD H b s σ) → ∃ σ', f_L_walk_43 N (f_L_walk N r) k (nI dp) (q_px S L b row dp P).1 (nI (q_px S L b row dp P).2.1) (94 + 4 * (dp + 1)) (nI a) σ = some σ' ∧ q_LS H b wanted (q_fB (q_gB S L b row H) (c * b ^ e) ((P * b + a) * b ^ e) s) (q_fT (q_gT S L b row H wanted) (c * b ^ e) ((P * b + a) * b ^ e) u) σ' ∧ q_LD H b (q_fB (q_gB S L b row H) (c * b ^ e) ((P * b + a) * b ^ e) s) σ' ∧ q_fr (q_wk dp) σ σ' := by
      intro c
      induction c with
      | zero =>
        intro a k s u σ ha hk hn hL hD
        obtain ⟨k, rfl⟩ : ∃ j, k = j + 1 := ⟨k - 1, by omega⟩
        have en : σ.1 1 0 = nI n := by rw [show σ.1 1 0 = _ from hn.1.1 0 0 2 rfl]; exact hw.2.2.2.2.1
        rw [f_L_walk_43, en, if_pos (nI_lt (by omega) (by omega)), Nat.zero_mul]
        exact ⟨σ, rfl, hL, hD.resolve_left (by omega), q_fr_r _ _⟩
      | succ c ihc =>
        intro a k s u σ ha hk hn hL hD
        obtain ⟨k, rfl⟩ : ∃ j, k = j + 1 := ⟨k - 1, by omega⟩
        have en : σ.1 1 0 = nI n := by rw [show σ.1 1 0 = _ from hn.1.1 0 0 2 rfl]; exact hw.2.2.2.2.1
        rw [f_L_walk_43, en, if_neg (nI_nlt (by omega) (by omega)), q_in (show dp < 4 by omega) (by decide), cond_true, nI_clamp (show dp < 2 ^ 31 by omega)]
        unfold f_L_walk_67 f_L_walk_68 f_L_walk_71 f_L_walk_104
        rw [q_in (show dp < 5 by omega) (by decide), cond_true, nI_clamp (show dp < 2 ^ 31 by omega)]
        have P1 : q_PC (94 + 4 * dp) (jx_w σ 114 dp (nI a)) (q_px S L b row dp P).2.2 := q_PC_k hn.2.1 (fun c i hc => q_wC (by omega))
        obtain ⟨τ, t1, t2, t3⟩ := e_copyP (N := N) (p0 := 94 + 4 * (dp + 1)) P1 (by omega)
        rw [t1, Option.bind_some]
        have S1 : q_SC 1 τ S L m := q_SC_k hn.1 (fun c i h1 h2 => by rw [t3.1 _ _ (by unfold q_pp; simp; omega), q_wC (by omega)])
        have wr := q_px_wr (L := L) (b := b) hw hr dp P (by omega)
        obtain ⟨υ, v1, v2, v3, v4⟩ := e_goBy (p1 := 94 + 4 * (dp + 1)) (a := nI a) hN (by omega) hw hR wr S1 t2
        rw [v1, Option.bind_some]
        dsimp only
        have hPa : (P * b + a) / b = P := q_ch_q (by omega) (by omega)
        have hPr : (P * b + a) % b = a := q_ch_r (by omega)
        have x1 : (q_px S L b row (dp + 1) (P * b + a)).1 = (q_px S L b row dp P).1 + (q_go S L (nI a) (q_px S L b row dp P).2.2).1 := by rw [q_px, hPa, hPr]
        have x2 : (q_px S L b row (dp + 1) (P * b + a)).2.1 = if a = 0 then (q_px S L b row dp P).2.1 else (q_px S L b row dp P).2.1 + 1 := by rw [q_px, hPa, hPr]
        have x3 : (q_px S L b row (dp + 1) (P * b + a)).2.2 = (q_go S L (nI a) (q_px S L b row dp P).2.2).2.1 := by rw [q_px, hPa, hPr]
        have fr1 : q_fr (q_wk dp) σ υ := by
          refine q_fr_t (q_fr_t (q_fr_w (q_fr_r _ _) (by unfold q_wk; simp)) (q_fr_m t3 (fun c i z => ?_))) (q_fr_m v4 (fun c i z => ?_))
          · unfold q_wk at z
            unfold q_pp
            simp at z ⊢
            omega
          · unfold q_wk at z
            unfold q_pg
            simp at z ⊢
            omega
        have hnd : q_nd S L b m row (dp + 1) (P * b + a) υ := by
          refine ⟨q_SC_g S1 (by omega) v4, by rw [x3]; exact v2, fun k hk => ?_⟩
          rw [v4.1 114 k (by unfold q_pg; simp; omega), t3.1 114 k (by unfold q_pp; simp; omega)]
          by_cases ek : k = dp
          · subst ek
            rw [q_wS, show k + 1 - 1 - k = 0 by omega, Nat.pow_zero, Nat.div_one, hPr]
          · rw [q_wI ek, q_ch_d (by omega) (by omega) (by omega)]
            exact hn.2.2 k (by omega)
        have q1 : ∀ c i, (c = 92 ∧ ¬ (94 ≤ c)) ∨ c = 115 → υ.1 c i = σ.1 c i := fun c i z => by
          rw [v4.1 c i (by unfold q_pg; simp; omega), t3.1 c i (by unfold q_pp; simp; omega), q_wC (by omega)]
        have hLS : q_LS H b wanted s u υ := by
          obtain ⟨l2, l3, l4, l6, l7, l5, l8, l9⟩ := hL
          refine ⟨by rw [q1 _ _ (by omega)]; exact l2, by rw [q1 _ _ (by omega)]; exact l3, by rw [q1 _ _ (by omega)]; exact l4, by rw [q1 _ _ (by omega)]; exact l6, by rw [q1 _ _ (by omega)]; exact l7, l5, by rw [q1 _ _ (by omega)]; exact l8, ?_⟩
          rcases l9 with l9 | l9
          · exact Or.inl l9
          · exact Or.inr ⟨l9.1, fun k hk => by rw [q1 _ _ (by omega)]; exact l9.2 k hk⟩
        obtain ⟨ω, o1, o2, o3, o4⟩ := ih (dp + 1) (P * b + a) r s u υ (by omega) (by omega) hnd hLS
        rw [x1, x2] at o1
        have fr2 : q_fr (q_wk dp) σ ω := q_fr_t fr1 (q_fr_m o4 (fun c i z => q_wk_m z))
        have e1 : (c + 1) * b ^ e = b ^ e + c * b ^ e := by rw [Nat.succ_mul, Nat.add_comm]
        have e2 : (P * b + a) * b ^ e + b ^ e = (P * b + (a + 1)) * b ^ e := by rw [← Nat.succ_mul]; rfl
        obtain ⟨ψ, p1, p2, p3, p4⟩ := ihc (a + 1) k _ _ ω (by omega) (by omega) (q_wk_nd (by omega) hn fr2) o2 (Or.inr o3)
        rw [e1, q_fB_add, q_fT_add, e2]
        refine ⟨ψ, ?_, p2, p3, q_fr_t fr2 p4⟩
        by_cases ca : a = 0
        · rw [if_pos ca] at o1
          rw [if_pos (by rw [ca]; rfl), nI_1, nI_1, o1, Option.bind_some]
          exact p1
        · rw [if_neg ca] at o1
          rw [if_neg (nI_ne0 (by omega) (by omega)), nI_1 dp, nI_1 (q_px S L b row dp P).2.1, nI_1 a, o1, Option.bind_some]
          exact p1
    rw [f_L_walk, hL.1, if_neg (nI_ge (by omega) (by omega)), if_pos (show nI dp < 4 from nI_lt (b := 4) (by omega) (by decide))]
    unfold f_L_walk_37 f_L_walk_38
    rw [nI_1, q_in (show dp + 1 < 5 by omega) (by decide), cond_true, nI_clamp (show dp + 1 < 2 ^ 31 by omega), Nat.pow_succ, Nat.mul_comm (b ^ e) b, ← Nat.mul_assoc]
    obtain ⟨σ', g1, g2, g3, g4⟩ := loop b 0 N s u σ (by omega) (by omega) hn hL (Or.inl (by omega))
    rw [Nat.add_zero] at g2 g3
    exact ⟨σ', g1, g2, g3, g4⟩
