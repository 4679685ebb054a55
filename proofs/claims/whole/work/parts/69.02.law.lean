/-! ===== the law's machine: two worlds and the script ===== -/
abbrev jl_M : Type := jw_M × jw_M
def jl_scr : Nat := 500000
def jl_al (sz b a1 a2 a3 off : Nat) : Nat → Nat := fun i => if i < 100000 then sz + off + i else if i = jw_str then a1 else if i = jw_self then a2 else if i = jw_str + 2 then a3 else b
def jl_n1 : Value → Bool
  | .ref _ => false
  | _ => true
def jl_nr : List Value → Bool
  | [] => true
  | v :: l => jl_n1 v && jl_nr l
theorem jl_nr_map {α : Nat → Nat} : ∀ {l : List Value}, jl_nr l = true → l.map (jw_ad α) = l
  | [], _ => rfl
  | v :: l, h => by
    have h : jl_n1 v = true ∧ jl_nr l = true := by
      have := h
      rw [jl_nr, Bool.and_eq_true] at this
      exact this
    rw [List.map_cons, jl_nr_map h.2]
    have h1 := h.1
    cases v <;> first | rfl | (exact Bool.noConfusion h1)
def jl_call (pc : Nat) (L : jw_L) (st : List Value) (res : jw_R) (g : jl_M) (K : Nat → jw_L → List Value → jl_M → Prop) : Prop := match st.drop res.2.1 with
  | .ref b :: r => bif Nat.beq res.1 0 && (jl_nr (st.take res.2.1) && jl_nr r) then (bif Nat.beq b 0 then jw_call (jw_C jp_kd jp_ys 300) (jw_bud jp_ys) (133, jw_sz jx_ShC) res (st.take res.2.1 ++ .ref 0 :: r) (jx_ShC, g.1) (fun st' h' => ∃ σ', h' = (jx_ShC, σ') ∧ jl_nr st' = true ∧ K (pc + 3) L st' (σ', g.2)) else bif Nat.beq b 133 then jw_call (jw_C jp_kd jp_ys 300) (jw_bud jp_ys) (21, jw_sz jx_ShM) res (st.take res.2.1 ++ .ref 0 :: r) (jx_ShM, g.2) (fun st' h' => ∃ σ', h' = (jx_ShM, σ') ∧ jl_nr st' = true ∧ K (pc + 3) L st' (g.1, σ')) else False) else False
  | _ => False
def jl_step (Ls : Nat) (xs : Nat → Int32) (q : jw_I) (L : jw_L) (st : List Value) (g : jl_M) (K : Nat → jw_L → List Value → jl_M → Prop) : Prop := match q.2.1 with
  | .iaload => (match st with
    | .int i :: .ref a :: r => a = jl_scr ∧ ¬ (i < 0 ∨ Ls ≤ i.toNatClampNeg) ∧ K (q.1 + 1) L (.int (xs i.toNatClampNeg) :: r) g
    | _ => False)
  | .arraylength => (match st with
    | .ref a :: r => a = jl_scr ∧ K (q.1 + 1) L (.int (nI Ls) :: r) g
    | _ => False)
  | .ldc2_w _ => (match q.2.2.2.2.2 with
    | [(v, _)] => K (q.1 + 3) L (.long (Int64.ofInt v) :: st) g
    | _ => False)
  | .invokevirtual _ => jl_call q.1 L st q.2.2.2 g K
  | ins => bif jw_isS ins then jw_step jp_kd (fun _ _ _ _ => False) (jw_bud jp_ys) (0, 0) none q L st ([], g.1) (fun _ _ => False) (fun pc L st _ => K pc L st g) else False
theorem jl_al_d {sz b a1 a2 a3 off n : Nat} {cy : Nat → ClassId} {h : jw_H} (hn : h.1.length = n) (h1 : n < 100000) : va_D (fun q => sz ≤ q) (jw_wld cy (jl_al sz b a1 a2 a3 off) h) := by
  have key : ∀ (i : Nat) (p : Nat × va_E), (jw_wld cy (jl_al sz b a1 a2 a3 off) h)[i]? = some p → i < n ∧ p.1 = sz + off + i := fun i p hp => by
    have hi : i < n := by
      have := (List.getElem?_eq_some_iff.mp hp).1
      rw [jw_wld_length, hn] at this
      exact this
    rw [jw_wld_get] at hp
    cases hc : h.1[i]? with
    | none => rw [hc] at hp; cases hp
    | some sh =>
      rw [hc] at hp
      cases hp
      exact ⟨hi, if_pos (by omega)⟩
  refine ⟨fun i j p q hp hq e => ?_, fun k q hq => ?_⟩
  · have a := key i p hp
    have b := key j q hq
    omega
  · have a := key k q hq
    show sz ≤ q.1
    omega
theorem jl_w {sz b a1 a2 a3 off n i : Nat} {cy : Nat → ClassId} {h : jw_H} (hn : h.1.length = n) (h1 : n < 100000) {p : Nat × va_E} (hp : (jw_wld cy (jl_al sz b a1 a2 a3 off) h)[i]? = some p) : i < n ∧ p.1 = sz + off + i := by
  have hi : i < n := by
    have := (List.getElem?_eq_some_iff.mp hp).1
    rw [jw_wld_length, hn] at this
    exact this
  rw [jw_wld_get] at hp
  cases hc : h.1[i]? with
  | none => rw [hc] at hp; cases hp
  | some sh =>
    rw [hc] at hp
    cases hp
    exact ⟨hi, if_pos (by omega)⟩
theorem jl_lC : jx_ShC.length = 133 := by decide +kernel
theorem jl_lM : jx_ShM.length = 21 := by decide +kernel
section JLS
variable {p : Program} {l : Launch} {e : Env} {s : State} {m : MethodId} {args : Array Value} {below : List Frame} {meth : Method} {c : Code} {H : Heap} {locs : List Loc} {cells slots : Nat} {Qf : State → Prop}
variable {ls : Array Slot} {D : va_G} {cy : Nat → ClassId} {b Ls a1 a2 a3 : Nat} {xs : Nat → Int32} {L : jw_L} {st : List Value} {g : jl_M} {K : Nat → jw_L → List Value → jl_M → Prop}
/-- what stands at each step of the law -/
def jl_inv (D : va_G) (cy : Nat → ClassId) (s : State) (b a1 a2 a3 : Nat) (g : jl_M) (H : Heap) (locs : List Loc) : Prop := va_P D jp_cl (jw_wld cy (jl_al s.heap.size b a1 a2 a3 0) (jx_ShC, g.1)) H ∧ va_P D jp_cl (jw_wld cy (jl_al s.heap.size b a1 a2 a3 133) (jx_ShM, g.2)) H ∧ va_S (fun q => s.heap.size ≤ q) s.heap H locs ∧ H.size = s.heap.size + 154
/-- what stands all along -/
def jl_env (p : Program) (l : Launch) (s : State) (m : MethodId) (args : Array Value) (meth : Method) (c : Code) (D : va_G) (cy : Nat → ClassId) (b Ls a1 a2 a3 : Nat) (xs : Nat → Int32) : Prop := p.tables.exec = Jvm.exec ∧ c.code = code ∧ c.maxLocals = 4 ∧ s.vm.findClass "ShadowSchoolLaw" = some m.cls ∧ (∀ w ∈ lw_tbl, w.before args s = true) ∧ jw_prog2 l jp_kd jp_cl jp_ys jp_Tg jp_Ns ∧ va_K D jp_cl (jw_tys cy) s ∧ (∀ off, jw_X (jl_al s.heap.size b a1 a2 a3 off) (fun q => s.heap.size ≤ q) s s.heap) ∧ jw_nw jp_Ns s ∧ va_X b Ls xs s s.heap ∧ b < s.heap.size ∧ Ls ≤ 3072
theorem jl_Tl : ∀ w ∈ jp_Tg, w ∈ lw_tbl := fun w hw => (List.mem_filter.mp hw).1
set_option maxHeartbeats 4000000 in
theorem jl_sound1 {q : jw_I} (Z : jl_env p l s m args meth c D cy b Ls a1 a2 a3 xs) (hok : jw_okI "ShadowSchoolLaw" "law" jp_kd jp_cl jp_ys jp_Tg jp_Ns code q) (hc1 : cells ≤ room_1.cells) (hc2 : slots ≤ room_1.slots) (hn : L.length = 4) (hl : lv_has ls 4 (jw_asc (jl_al s.heap.size b a1 a2 a3 0) 0 L)) (hI : jl_inv D cy s b a1 a2 a3 g H locs) (hs : jl_step Ls xs q L st g K)
    (hK : ∀ (pc' : Nat) (L' : jw_L) (st' : List Value) (g' : jl_M) (ls' : Array Slot) (H' : Heap) (locs' : List Loc), K pc' L' st' g' → L'.length = 4 → lv_has ls' 4 (jw_asc (jl_al s.heap.size b a1 a2 a3 0) 0 L') → jl_inv D cy s b a1 a2 a3 g' H' locs' → W p l e room_1 s m args below meth c H' locs' cells slots Qf (F0 m pc' ls' (st'.map (jw_ad (jl_al s.heap.size b a1 a2 a3 0))))) :
    W p l e room_1 s m args below meth c H locs cells slots Qf (F0 m q.1 ls (st.map (jw_ad (jl_al s.heap.size b a1 a2 a3 0)))) := by
  obtain ⟨hx, hb, hml, hown, hts, hp, hK0, hX, hN, hXs, hbl, hLs⟩ := Z
  obtain ⟨hgood, hns, hcl, hasg, hstr, hysl, hys⟩ := id hp
  obtain ⟨hPC, hPM, hS, hsz⟩ := id hI
  have hA : ∀ x, s.heap.size ≤ x → (fun y => s.heap.size ≤ y) x := fun _ h => h
  obtain ⟨k1, k2, k3, k4, k5, k6, k7⟩ := hok
  obtain ⟨pc, ins, len, res⟩ := q
  have hdg := k1.1
  dsimp only at hdg
  have hlen' : ∀ k, jw_len ins = k + 1 → len = k + 1 := fun k hk => by
    rcases k1.2.1 with h9 | h9
    · dsimp only at h9; omega
    · dsimp only at h9; omega
  have hXb : va_X b Ls xs s H := hXs.kept (hS.2.1 b hbl (fun z => Nat.lt_irrefl _ (Nat.lt_of_lt_of_le hbl z)))
  have hscr : jl_al s.heap.size b a1 a2 a3 0 jl_scr = b := by
    unfold jl_al jl_scr jw_str jw_self
    rw [if_neg (by decide), if_neg (by decide), if_neg (by decide), if_neg (by decide)]
  by_cases hS1 : jw_isS ins = true
  · have hs' : jw_step jp_kd (fun _ _ _ _ => False) (jw_bud jp_ys) (0, 0) none (pc, ins, len, res) L st ([], g.1) (fun _ _ => False) (fun pc L st _ => K pc L st g) := by
      cases ins <;> first | (exact Bool.noConfusion hS1) | exact hs
    exact jo_simple hS1 hx hb k1 hl hn hs' (fun pc' L' st' ls' hk hn' hl' => hK pc' L' st' g ls' H locs hk hn' hl' hI)
  · cases ins <;> first | (exact absurd rfl hS1) | (exact hs.elim) | skip
    case iaload =>
      have := hlen' 0 rfl; subst this
      unfold jl_step at hs
      dsimp only at hs
      split at hs
      · rename_i i a r
        obtain ⟨rfl, hin, hs⟩ := hs
        obtain ⟨scr, x1, x2, x3, x4, x5⟩ := hXb
        refine W.iald hx hb x1 x2 x3 (j := i) (v := .int (xs i.toNatClampNeg)) (by rw [x4]; exact hin) (x5 _ (by omega)) (g := F0 m pc ls _) rfl (rest := r.map (jw_ad (jl_al s.heap.size b a1 a2 a3 0))) (by show [Value.int i, Value.ref _] ++ _ = _; rw [hscr]; rfl) hdg ?_
        exact hK _ L (.int (xs i.toNatClampNeg) :: r) g ls H locs hs hn hl hI
      · exact hs.elim
    case arraylength =>
      have := hlen' 0 rfl; subst this
      unfold jl_step at hs
      dsimp only at hs
      split at hs
      · rename_i a r
        obtain ⟨rfl, hs⟩ := hs
        obtain ⟨scr, x1, x2, x3, x4, x5⟩ := hXb
        refine W.alen hx hb x1 x2 (n := nI Ls) (by rw [x4]; rfl) (g := F0 m pc ls _) rfl (rest := r.map (jw_ad (jl_al s.heap.size b a1 a2 a3 0))) (by show [Value.ref _] ++ _ = _; rw [hscr]; rfl) hdg ?_
        exact hK _ L (.int (nI Ls) :: r) g ls H locs hs hn hl hI
      · exact hs.elim
    case ldc2_w idx =>
      have := hlen' 2 rfl; subst this
      unfold jl_step at hs
      dsimp only at hs
      split at hs
      · rename_i v z hv
        refine lv_ldc2 hx hb hown (hts _ (jl_Tl _ (k3 (.constantLong "ShadowSchoolLaw" idx (Int64.ofInt v)) ?_))) hdg (hK _ L (.long (Int64.ofInt v) :: st) g ls H locs hs hn hl hI)
        unfold jw_wd
        dsimp only
        rw [hv]
        exact List.mem_singleton.mpr rfl
      · exact hs.elim
    case invokevirtual idx =>
      have := hlen' 2 rfl; subst this
      replace hs : jl_call pc L st res g K := hs
      obtain ⟨kind, n, tg⟩ := res
      unfold jl_call at hs
      dsimp only at hs
      split at hs
      · rename_i b0 r hdr
        obtain ⟨g1, hs2⟩ := jw_bif hs
        clear hs
        simp only [Bool.and_eq_true] at g1
        obtain ⟨g1, g2, g3⟩ := g1
        have g1 : kind = 0 := Nat.eq_of_beq_eq_true g1
        subst g1
        unfold jw_wc at k5
        unfold jw_fc at k7
        dsimp only at k5 k7
        have k5 : ∀ w ∈ tg.flatMap (jw_wcV "ShadowSchoolLaw" jp_cl jp_ys idx 0), w ∈ jp_Tg := k5
        have k7 : tg.all (jw_fcV jp_cl jp_ys 0 n) = true := by
          rcases Bool.or_eq_true _ _ ▸ k7 with h9 | h9
          · exact absurd h9 (by simp)
          · simpa using h9
        cases hb0 : Nat.beq b0 0 with
        | true =>
          rw [hb0, cond_true] at hs2
          have hb1 : b0 = 0 := Nat.eq_of_beq_eq_true hb0
          clear hb0
          subst hb1
          rw [← jw_take hdr] at hs2
          refine jo_virt2 (kind := 0) (n := n) (tg := tg) (d := 300) (own := "ShadowSchoolLaw") (ys := jp_ys) (lim := (133, jw_sz jx_ShC)) (C := jw_C jp_kd jp_ys 300) (h := (jx_ShC, g.1)) (α := jl_al s.heap.size b a1 a2 a3 0) (A := fun q => s.heap.size ≤ q) (nL := 4) (Ts := lw_tbl) (Tg := jp_Tg) (Ns := jp_Ns) hx hb hml hown hts jl_Tl hgood hns (fun z hz1 w hw => k5 w (List.mem_flatMap.mpr ⟨z, hz1, hw⟩)) (fun z hz1 => List.all_eq_true.mp k7 z hz1) (Nat.le_of_ble_eq_true rfl) (Nat.le_of_ble_eq_true rfl) hdg hl.1 hK0 hPC (jl_al_d jl_lC (by decide)) hS hA (hX 0) hN (fun mid as Q h9 => jw_sound2 hp 300 mid as _ Q h9) (fun mc hmc j h1 h2 => by rw [show ((jx_ShC, g.1) : jw_H).1.length = 133 from jl_lC] at hmc h1 h2; dsimp only at hmc; omega) (fun mc ms h1 h2 => by rw [show ((jx_ShC, g.1) : jw_H).1.length = 133 from jl_lC] at h1; dsimp only at h1 h2; exact ⟨by omega, by omega⟩) ⟨by rw [show ((jx_ShC, g.1) : jw_H).1.length = 133 from jl_lC]; exact Nat.le_refl _, Nat.le_refl _⟩ hs2 (fun st' h' H' locs' k n9 hf z1 z2 z3 z4 z5 hP1 hD1 hS1 hfr => ?_)
          obtain ⟨σ', rfl, hnr, hk⟩ := hf
          have e1 : k = 0 := by dsimp only at z2; omega
          have e2 : n9 = 0 := by dsimp only at z3; omega
          subst e1 e2
          refine hK _ L st' (σ', g.2) ls H' locs' hk hn hl ⟨hP1, hPM.kept (fun k x hx9 => hfr x.1 ?_ ?_), hS1, by omega⟩
          · have := jl_w jl_lM (by decide) hx9
            omega
          · have w := jl_w jl_lM (by decide) hx9
            rintro (⟨k', e0, h9⟩ | h9)
            · have := jl_w jl_lC (by decide) h9
              dsimp only at this
              omega
            · omega
        | false =>
          rw [hb0, cond_false] at hs2
          obtain ⟨hb1, hs3⟩ := jw_bif hs2
          clear hs2
          have hb2 : b0 = 133 := Nat.eq_of_beq_eq_true hb1
          clear hb1 hb0
          subst hb2
          have est : st.map (jw_ad (jl_al s.heap.size b a1 a2 a3 0)) = (st.take n ++ .ref 0 :: r).map (jw_ad (jl_al s.heap.size b a1 a2 a3 133)) := by
            conv => lhs; rw [jw_take hdr]
            rw [List.map_append, List.map_append, jl_nr_map g2, jl_nr_map g2, List.map_cons, List.map_cons, jl_nr_map g3, jl_nr_map g3]
            rfl
          rw [est]
          refine jo_virt2 (kind := 0) (n := n) (tg := tg) (d := 300) (own := "ShadowSchoolLaw") (ys := jp_ys) (lim := (21, jw_sz jx_ShM)) (C := jw_C jp_kd jp_ys 300) (h := (jx_ShM, g.2)) (α := jl_al s.heap.size b a1 a2 a3 133) (A := fun q => s.heap.size ≤ q) (nL := 4) (Ts := lw_tbl) (Tg := jp_Tg) (Ns := jp_Ns) hx hb hml hown hts jl_Tl hgood hns (fun z hz1 w hw => k5 w (List.mem_flatMap.mpr ⟨z, hz1, hw⟩)) (fun z hz1 => List.all_eq_true.mp k7 z hz1) (Nat.le_of_ble_eq_true rfl) (Nat.le_of_ble_eq_true rfl) hdg hl.1 hK0 hPM (jl_al_d jl_lM (by decide)) hS hA (hX 133) hN (fun mid as Q h9 => jw_sound2 hp 300 mid as _ Q h9) (fun mc hmc j h1 h2 => by rw [show ((jx_ShM, g.2) : jw_H).1.length = 21 from jl_lM] at hmc h1 h2; dsimp only at hmc; omega) (fun mc ms h1 h2 => by rw [show ((jx_ShM, g.2) : jw_H).1.length = 21 from jl_lM] at h1; dsimp only at h1 h2; exact ⟨by omega, by omega⟩) ⟨by rw [show ((jx_ShM, g.2) : jw_H).1.length = 21 from jl_lM]; exact Nat.le_refl _, Nat.le_refl _⟩ hs3 (fun st' h' H' locs' k n9 hf z1 z2 z3 z4 z5 hP1 hD1 hS1 hfr => ?_)
          obtain ⟨σ', rfl, hnr, hk⟩ := hf
          have e1 : k = 0 := by dsimp only at z2; omega
          have e2 : n9 = 0 := by dsimp only at z3; omega
          subst e1 e2
          have fin := hK _ L st' (g.1, σ') ls H' locs' hk hn hl ⟨hPC.kept (fun k x hx9 => hfr x.1 (by
            have := jl_w jl_lC (by decide) hx9
            omega) (by
            have w := jl_w jl_lC (by decide) hx9
            rintro (⟨k', e0, h9⟩ | h9)
            · have := jl_w jl_lM (by decide) h9
              dsimp only at this
              omega
            · omega)), hP1, hS1, by omega⟩
          rw [jl_nr_map hnr] at fin ⊢
          exact fin
      · exact hs.elim
end JLS
