/-! ===== pure: the choice, on the class's side ===== -/
def q_lk (σ : jw_M) (p1 p : Nat) (l : Nat) : Int32 := σ.1 6 l - σ.1 (p1 + 1) (p * 8 + l)
theorem q_ix8 (p l : Nat) : (nI p * 8) + nI l = nI (p * 8 + l) := by
  show (nI p * nI 8) + nI l = _
  rw [pk_mul, nI_add]
theorem e_easy {N p1 p m : Nat} {σ : jw_M} {o : Int32} (hp : p < 6) (hm : m ≤ 8) (h5 : σ.1 1 5 = nI m) (hlk : ∀ l, l < m → bt o l = true → q_lk σ p1 p l < 21) : ∀ (r l k best : Nat) (least : Int32), l + r = m → r < k → (best = 8 ∧ least = 21 ∨ best < 8 ∧ least = q_lk σ p1 p best) → f_S_easiest_11 N p1 k (nI p) o least (nI best) (nI l) σ = some (nI (q_ch (bt o) (q_lk σ p1 p) 1 r best l), σ)
  | 0, l, 0, _, _, _, h, _ => absurd h (by omega)
  | r + 1, l, 0, _, _, _, h, _ => absurd h (by omega)
  | 0, l, k + 1, best, least, hl, _, _ => by
    rw [f_S_easiest_11, h5, if_pos (nI_le (by omega) (by omega))]
    rfl
  | r + 1, l, k + 1, best, least, hl, hk, hb => by
    rw [f_S_easiest_11, h5, if_neg (nI_ge (by omega) (by omega)), q_in (show l < 8 by omega) (by decide), cond_true, q_ix8, q_in (show p * 8 + l < 48 by omega) (by decide), cond_true, nI_clamp (show l < 2 ^ 31 by omega), nI_clamp (show p * 8 + l < 2 ^ 31 by omega), q_ch]
    rw [show σ.1 6 l - σ.1 (p1 + 1) (p * 8 + l) = q_lk σ p1 p l from rfl]
    unfold f_S_easiest_67
    by_cases b : bt o l = true
    · rw [if_pos ((q_bit1 o (show l < 32 by omega)).mpr b)]
      by_cases c : least ≤ q_lk σ p1 p l
      · rw [if_pos c, nI_1]
        have no : ¬ (bt o l = true ∧ (best = 8 ∨ (1 : Int32) = 0 ∨ ((1 : Int32) = 1 ∧ q_lk σ p1 p l < q_lk σ p1 p best))) := by
          rintro ⟨_, z | z | ⟨_, z⟩⟩
          · rcases hb with ⟨_, y⟩ | ⟨y, _⟩
            · rw [y] at c
              exact absurd (hlk l (by omega) b) (Int32.not_lt.mpr c)
            · omega
          · exact absurd z (by decide)
          · rcases hb with ⟨y1, y⟩ | ⟨_, y⟩
            · rw [y] at c
              exact absurd (hlk l (by omega) b) (Int32.not_lt.mpr c)
            · rw [y] at c
              exact absurd z (Int32.not_lt.mpr c)
        rw [if_neg no]
        exact e_easy hp hm h5 hlk r (l + 1) k best least (by omega) (by omega) hb
      · rw [if_neg c, nI_1]
        have ye : bt o l = true ∧ (best = 8 ∨ (1 : Int32) = 0 ∨ ((1 : Int32) = 1 ∧ q_lk σ p1 p l < q_lk σ p1 p best)) := by
          refine ⟨b, ?_⟩
          rcases hb with ⟨y, _⟩ | ⟨_, y⟩
          · exact Or.inl y
          · rw [y] at c
            exact Or.inr (Or.inr ⟨rfl, Int32.not_le.mp c⟩)
        rw [if_pos ye]
        exact e_easy hp hm h5 hlk r (l + 1) k l _ (by omega) (by omega) (Or.inr ⟨by omega, rfl⟩)
    · rw [if_neg (fun z => b ((q_bit1 o (show l < 32 by omega)).mp z)), nI_1, if_neg (fun z => b z.1)]
      exact e_easy hp hm h5 hlk r (l + 1) k best least (by omega) (by omega) hb
def q_pick (op : Nat → Bool) (lk : Nat → Int32) (t : Int32) (m : Nat) : Nat := if t = 2 then 8 else q_ch op lk t m 8 0
theorem q_ch8 {op : Nat → Bool} {lk : Nat → Int32} {t : Int32} {m : Nat} (hm : m ≤ 8) (h : ∀ j, m ≤ j → j < 8 → op j = false) : q_ch op lk t 8 8 0 = q_ch op lk t m 8 0 := by
  rw [show (8 : Nat) = m + (8 - m) by omega, q_ch_add, q_ch_no (8 - m) _ (0 + m) (fun j h1 h2 => h j (by omega) (by omega))]
theorem q_pick_m {op : Nat → Bool} {lk : Nat → Int32} {m : Nat} : q_pick op lk 3 m = q_pick op lk (-1) m := by
  unfold q_pick
  rw [if_neg (by decide), if_neg (by decide), q_ch3 op lk lk (t := 3) (t' := -1) (by decide) (by decide) (by decide) (by decide)]
theorem e_choice {N p1 m h p : Nat} {σ σ' : jw_M} {full d : Int32} (hN : 9 ≤ N) (hp : p < 6) (hh : h ≤ 16) (hm : m ≤ 8) (h0 : σ.1 p1 0 = nI h) (h5 : σ.1 1 5 = nI m) (hn : ∀ l, l < m → σ.1 7 l < 0 ∨ ∃ j, j < 32 ∧ σ.1 7 l = nI j) (hg : ∀ i, m ≤ i → i < 32 → bt (σ.1 11 h) i = false) (hd : f_S_deedOf N p1 (nI p) σ = some (d, σ')) (hd4 : d = 0 ∨ d = 1 ∨ d = 2 ∨ d = 3) (hA : ∀ c i, c ≠ 26 → σ'.1 c i = σ.1 c i) (h26 : p1 + 1 ≠ 26) (hlk : ∀ l, l < m → bt (σ.1 (p1 + 2) p) l = false → q_lk σ p1 p l < 21) : ∃ o σ'', (∀ i, i < 32 → bt o i = (bt (σ.1 11 h) i && !bt (σ.1 (p1 + 2) p) i && !bt full i && q_need σ (σ.1 (p1 + 2) p) i)) ∧ f_S_choice N p1 (nI p) full σ = some (nI (q_pick (bt o) (q_lk σ p1 p) d m), σ'') ∧ (σ'' = σ ∨ σ'' = σ') := by
  obtain ⟨o, e1, e2⟩ := e_openTo (N := N) (p1 := p1) (full := full) hN hp hh hm h0 h5 hn hg
  have hz : ∀ i, m ≤ i → i < 32 → bt o i = false := by
    intro i z1 z2
    rw [e2 i z2, hg i z1 z2, Bool.false_and, Bool.false_and, Bool.false_and]
  have h8 : ∀ i, 8 ≤ i → i < 32 → bt o i = false := fun i z1 z2 => hz i (by omega) z2
  unfold f_S_choice
  rw [e1, Option.bind_some]
  dsimp only
  by_cases c : o = 0
  · refine ⟨o, σ, e2, ?_, Or.inl rfl⟩
    rw [if_pos c]
    have z : q_pick (bt o) (q_lk σ p1 p) d m = 8 := by
      unfold q_pick
      split
      · rfl
      · rw [q_ch_no m 8 0 (fun j _ _ => by rw [c, b_0])]
    rw [z]
    rfl
  · refine ⟨o, σ', e2, ?_, Or.inr rfl⟩
    rw [if_neg c, hd, Option.bind_some]
    dsimp only
    rcases hd4 with rfl | rfl | rfl | rfl
    · rw [if_pos rfl, e_nlz, Option.bind_some]
      dsimp only
      rw [q_lastS h8 c (q_lk σ p1 p)]
      unfold q_pick
      rw [if_neg (by decide), q_ch8 hm (fun j z1 z2 => hz j z1 (by omega))]
    · rw [if_neg (by decide), if_pos rfl]
      have k1 : σ'.1 1 5 = nI m := by rw [hA 1 5 (by decide), h5]
      have k2 : q_lk σ' p1 p = q_lk σ p1 p := by
        funext l
        unfold q_lk
        rw [hA 6 _ (by decide), hA (p1 + 1) _ h26]
      unfold f_S_easiest
      have k3 := e_easy (N := N) (p1 := p1) (o := o) hp hm k1 (by
        intro l hl hb
        rw [k2]
        apply hlk l hl
        have y := e2 l (by omega)
        rw [hb] at y
        cases w : bt (σ.1 (p1 + 2) p) l
        · rfl
        · rw [w] at y
          simp at y) m 0 N 8 21 (by omega) (by omega) (Or.inl ⟨rfl, rfl⟩)
      rw [show f_S_easiest_11 N p1 N (nI p) o 21 8 0 σ' = _ from k3, Option.bind_some]
      dsimp only
      rw [k2]
      unfold q_pick
      rw [if_neg (by decide)]
    · rw [if_neg (by decide), if_neg (by decide), if_pos rfl]
      rfl
    · rw [if_neg (by decide), if_neg (by decide), if_neg (by decide), e_ntz, Option.bind_some]
      dsimp only
      rw [q_firstS h8 c (q_lk σ p1 p) (t := 3) (by decide) (by decide)]
      unfold q_pick
      rw [if_neg (by decide), q_ch8 hm (fun j z1 z2 => hz j z1 (by omega))]
