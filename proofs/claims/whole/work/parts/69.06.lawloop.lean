/-! ===== the law's loop ===== -/
theorem jl_swt {x : Int32} {d : Nat} {K : Nat → Prop} : ∀ {l : List (Int × Nat)}, (∀ z ∈ l, K z.2) → K d → jw_swt x l d K
  | [], _, h => h
  | z :: l, h, hd => ⟨fun _ => h z List.mem_cons_self, fun _ => jl_swt (fun y hy => h y (List.mem_cons_of_mem _ hy)) hd⟩
def jl_S33 (pc : Nat) : Bool := Nat.blt 33 pc
def jl_Sx (pc : Nat) : Bool := Nat.beq pc 1944
def jl_Kh (Ls i : Nat) (g : jl_M) (pc : Nat) (L : jw_L) (st : List Value) (g' : jl_M) : Prop := L = jl_L i ∧ st = [] ∧ g' = g ∧ (pc = 1943 ∨ (i + 6 ≤ Ls ∧ (pc = 1937 ∨ pc ∈ jl_tgs)))
theorem jl_swl : ∀ z ∈ ((jl_h.getD 11 (0, .iadd, 0, 0, 0, [])).2.2.2.2.2), z.2 ∈ jl_tgs := by decide +kernel
theorem jl_t33 : ∀ t ∈ jl_tgs, jl_S33 t = true := by decide +kernel
theorem jl_head {Ls i : Nat} {xs : Nat → Int32} {g : jl_M} (hL : Ls ≤ 3072) (hi : i ≤ 4000) : jl_run Ls xs jl_h jl_S33 (jl_Kh Ls i g) 20 18 (jl_L i) [] g := by
  have cmp : (nI Ls - (Int8.ofInt 6).toInt32 < nI i) ↔ Ls < i + 6 := by
    rw [show (Int8.ofInt 6).toInt32 = nI 6 from by decide, Int32.lt_iff_toInt_lt, pk_sub_toInt (by omega) (by omega), nI_toInt (by omega)]
    omega
  refine And.intro rfl (And.intro (fun _ => And.intro rfl (And.intro rfl (And.intro rfl (Or.inl rfl)))) (fun z => ?_))
  have hz : i + 6 ≤ Ls := Nat.le_of_not_lt (fun y => z (cmp.mpr y))
  exact And.intro rfl (And.intro (jl_r0 (by omega) hL) (jl_swt (fun y hy => by
    have q := jl_swl y hy
    have w := jl_t33 y.2 q
    dsimp only
    rw [w, cond_true]
    exact ⟨rfl, rfl, rfl, Or.inr ⟨hz, Or.inr q⟩⟩) (And.intro rfl (And.intro rfl (And.intro rfl (Or.inr ⟨hz, Or.inl rfl⟩))))))
theorem jl_exit {Ls i : Nat} {xs : Nat → Int32} {g : jl_M} : jl_run Ls xs jl_x jl_Sx (fun pc L st g' => pc = 1944 ∧ L = jl_L i ∧ st = [.int 1] ∧ g' = g) 2 1943 (jl_L i) [] g := And.intro rfl (And.intro rfl (And.intro rfl rfl))
theorem jl_dflt {Ls i : Nat} {xs : Nat → Int32} {g : jl_M} (hR : q_R g.1 g.2) : jl_run Ls xs jl_d jl_S (jl_Kc i) 80 1937 (jl_L i) [] g := And.intro rfl (And.intro rfl (And.intro rfl hR))
theorem jl_cases {N Ls i : Nat} {xs : Nat → Int32} {g : jl_M} (hN : 50000 ≤ N) (hi : i + 6 ≤ Ls) (hL : Ls ≤ 3072) (hR : q_R g.1 g.2) : ∀ t ∈ jl_tgs, ∃ cs, (∀ q ∈ cs, jw_okI "ShadowSchoolLaw" "law" jp_kd jp_cl jp_ys jp_Tg jp_Ns code q) ∧ jl_run Ls xs cs jl_S (jl_Kc i) 80 t (jl_L i) [] g := List.forall_mem_cons.mpr ⟨⟨jl_c0, jl_oc0, jl_case_0 hN hi hL hR⟩, List.forall_mem_cons.mpr ⟨⟨jl_c1, jl_oc1, jl_case_1 hN hi hL hR⟩, List.forall_mem_cons.mpr ⟨⟨jl_c2, jl_oc2, jl_case_2 hN hi hL hR⟩, List.forall_mem_cons.mpr ⟨⟨jl_c3, jl_oc3, jl_case_3 hN hi hL hR⟩, List.forall_mem_cons.mpr ⟨⟨jl_c4, jl_oc4, jl_case_4 hN hi hL hR⟩, List.forall_mem_cons.mpr ⟨⟨jl_c5, jl_oc5, jl_case_5 hN hi hL hR⟩, List.forall_mem_cons.mpr ⟨⟨jl_c6, jl_oc6, jl_case_6 hN hi hL hR⟩, List.forall_mem_cons.mpr ⟨⟨jl_c7, jl_oc7, jl_case_7 hN hi hL hR⟩, List.forall_mem_cons.mpr ⟨⟨jl_c8, jl_oc8, jl_case_8 hN hi hL hR⟩, List.forall_mem_cons.mpr ⟨⟨jl_c9, jl_oc9, jl_case_9 hN hi hL hR⟩, List.forall_mem_cons.mpr ⟨⟨jl_c10, jl_oc10, jl_case_10 hN hi hL hR⟩, List.forall_mem_cons.mpr ⟨⟨jl_c11, jl_oc11, jl_case_11 hN hi hL hR⟩, List.forall_mem_cons.mpr ⟨⟨jl_c12, jl_oc12, jl_case_12 hN hi hL hR⟩, List.forall_mem_cons.mpr ⟨⟨jl_c13, jl_oc13, jl_case_13 hN hi hL hR⟩, List.forall_mem_cons.mpr ⟨⟨jl_c14, jl_oc14, jl_case_14 hN hi hL hR⟩, List.forall_mem_cons.mpr ⟨⟨jl_c15, jl_oc15, jl_case_15 hN hi hL hR⟩, List.forall_mem_cons.mpr ⟨⟨jl_c16, jl_oc16, jl_case_16 hN hi hL hR⟩, List.forall_mem_cons.mpr ⟨⟨jl_c17, jl_oc17, jl_case_17 hN hi hL hR⟩, List.forall_mem_cons.mpr ⟨⟨jl_c18, jl_oc18, jl_case_18 hN hi hL hR⟩, List.forall_mem_cons.mpr ⟨⟨jl_c19, jl_oc19, jl_case_19 hN hi hL hR⟩, List.forall_mem_cons.mpr ⟨⟨jl_c20, jl_oc20, jl_case_20 hN hi hL hR⟩, List.forall_mem_cons.mpr ⟨⟨jl_c21, jl_oc21, jl_case_21 hN hi hL hR⟩, List.forall_mem_cons.mpr ⟨⟨jl_c22, jl_oc22, jl_case_22 hN hi hL hR⟩, List.forall_mem_cons.mpr ⟨⟨jl_c23, jl_oc23, jl_case_23 hN hi hL hR⟩, List.forall_mem_cons.mpr ⟨⟨jl_c24, jl_oc24, jl_case_24 hN hi hL hR⟩, List.forall_mem_cons.mpr ⟨⟨jl_c25, jl_oc25, jl_case_25 hN hi hL hR⟩, List.forall_mem_cons.mpr ⟨⟨jl_c26, jl_oc26, jl_case_26 hN hi hL hR⟩, List.forall_mem_cons.mpr ⟨⟨jl_c27, jl_oc27, jl_case_27 hN hi hL hR⟩, List.forall_mem_cons.mpr ⟨⟨jl_c28, jl_oc28, jl_case_28 hN hi hL hR⟩, List.forall_mem_cons.mpr ⟨⟨jl_c29, jl_oc29, jl_case_29 hN hi hL hR⟩, List.forall_mem_cons.mpr ⟨⟨jl_c30, jl_oc30, jl_case_30 hN hi hL hR⟩, List.forall_mem_cons.mpr ⟨⟨jl_c31, jl_oc31, jl_case_31 hN hi hL hR⟩, List.forall_mem_cons.mpr ⟨⟨jl_c32, jl_oc32, jl_case_32 hN hi hL hR⟩, List.forall_mem_cons.mpr ⟨⟨jl_c33, jl_oc33, jl_case_33 hN hi hL hR⟩, List.forall_mem_cons.mpr ⟨⟨jl_c34, jl_oc34, jl_case_34 hN hi hL hR⟩, List.forall_mem_cons.mpr ⟨⟨jl_c35, jl_oc35, jl_case_35 hN hi hL hR⟩, List.forall_mem_cons.mpr ⟨⟨jl_c36, jl_oc36, jl_case_36 hN hi hL hR⟩, List.forall_mem_cons.mpr ⟨⟨jl_c37, jl_oc37, jl_case_37 hN hi hL hR⟩, List.forall_mem_cons.mpr ⟨⟨jl_c38, jl_oc38, jl_case_38 hN hi hL hR⟩, List.forall_mem_cons.mpr ⟨⟨jl_c39, jl_oc39, jl_case_39 hN hi hL hR⟩, List.forall_mem_cons.mpr ⟨⟨jl_c40, jl_oc40, jl_case_40 hN hi hL hR⟩, List.forall_mem_cons.mpr ⟨⟨jl_c41, jl_oc41, jl_case_41 hN hi hL hR⟩, List.forall_mem_cons.mpr ⟨⟨jl_c42, jl_oc42, jl_case_42 hN hi hL hR⟩, List.forall_mem_cons.mpr ⟨⟨jl_c43, jl_oc43, jl_case_43 hN hi hL hR⟩, List.forall_mem_cons.mpr ⟨⟨jl_c44, jl_oc44, jl_case_44 hN hi hL hR⟩, List.forall_mem_cons.mpr ⟨⟨jl_c45, jl_oc45, jl_case_45 hN hi hL hR⟩, List.forall_mem_cons.mpr ⟨⟨jl_c46, jl_oc46, jl_case_46 hN hi hL hR⟩, List.forall_mem_cons.mpr ⟨⟨jl_c47, jl_oc47, jl_case_47 hN hi hL hR⟩, List.forall_mem_cons.mpr ⟨⟨jl_c48, jl_oc48, jl_case_48 hN hi hL hR⟩, List.forall_mem_cons.mpr ⟨⟨jl_c49, jl_oc49, jl_case_49 hN hi hL hR⟩, List.forall_mem_cons.mpr ⟨⟨jl_c50, jl_oc50, jl_case_50 hN hi hL hR⟩, List.forall_mem_cons.mpr ⟨⟨jl_c51, jl_oc51, jl_case_51 hN hi hL hR⟩, List.forall_mem_cons.mpr ⟨⟨jl_c52, jl_oc52, jl_case_52 hN hi hL hR⟩, List.forall_mem_cons.mpr ⟨⟨jl_c53, jl_oc53, jl_case_53 hN hi hL hR⟩, List.forall_mem_cons.mpr ⟨⟨jl_c54, jl_oc54, jl_case_54 hN hi hL hR⟩, List.forall_mem_cons.mpr ⟨⟨jl_c55, jl_oc55, jl_case_55 hN hi hL hR⟩, List.forall_mem_cons.mpr ⟨⟨jl_c56, jl_oc56, jl_case_56 hN hi hL hR⟩, fun _ h => absurd h List.not_mem_nil⟩⟩⟩⟩⟩⟩⟩⟩⟩⟩⟩⟩⟩⟩⟩⟩⟩⟩⟩⟩⟩⟩⟩⟩⟩⟩⟩⟩⟩⟩⟩⟩⟩⟩⟩⟩⟩⟩⟩⟩⟩⟩⟩⟩⟩⟩⟩⟩⟩⟩⟩⟩⟩⟩⟩⟩⟩
section JLW
variable {p : Program} {l : Launch} {e : Env} {s : State} {m : MethodId} {args : Array Value} {below : List Frame} {meth : Method} {c : Code} {cells slots : Nat} {Qf : State → Prop}
variable {D : va_G} {cy : Nat → ClassId} {b Ls a1 a2 a3 : Nat} {xs : Nat → Int32}
theorem jl_soundR {cs : List jw_I} {S : Nat → Bool} {K : Nat → jw_L → List Value → jl_M → Prop} (Z : jl_env p l s m args meth c D cy b Ls a1 a2 a3 xs) (hok : ∀ q ∈ cs, jw_okI "ShadowSchoolLaw" "law" jp_kd jp_cl jp_ys jp_Tg jp_Ns code q) (hc1 : cells ≤ room_1.cells) (hc2 : slots ≤ room_1.slots)
    (hK : ∀ (pc' : Nat) (L' : jw_L) (st' : List Value) (g' : jl_M) (ls' : Array Slot) (H' : Heap) (locs' : List Loc), K pc' L' st' g' → L'.length = 4 → lv_has ls' 4 (jw_asc (jl_al s.heap.size b a1 a2 a3 0) 0 L') → jl_inv D cy s b a1 a2 a3 g' H' locs' → W p l e room_1 s m args below meth c H' locs' cells slots Qf (F0 m pc' ls' (st'.map (jw_ad (jl_al s.heap.size b a1 a2 a3 0))))) :
    ∀ (n pc : Nat) (L : jw_L) (st : List Value) (g : jl_M) (ls : Array Slot) (H : Heap) (locs : List Loc), jl_run Ls xs cs S K n pc L st g → L.length = 4 → lv_has ls 4 (jw_asc (jl_al s.heap.size b a1 a2 a3 0) 0 L) → jl_inv D cy s b a1 a2 a3 g H locs → W p l e room_1 s m args below meth c H locs cells slots Qf (F0 m pc ls (st.map (jw_ad (jl_al s.heap.size b a1 a2 a3 0)))) := by
  intro n
  induction n with
  | zero => intro pc L st g ls H locs h; exact h.elim
  | succ n ih =>
    intro pc L st g ls H locs h hn hl hI
    rw [jl_run] at h
    cases hq : jw_at pc cs with
    | none => rw [hq] at h; exact h.elim
    | some q =>
      rw [hq] at h
      dsimp only at h
      obtain ⟨hqm, hqp⟩ := jw_at_ok hq
      subst hqp
      refine jl_sound1 Z (hok q hqm) hc1 hc2 hn hl hI h (fun pc' L' st' g' ls' H' locs' hk hn' hl' hI' => ?_)
      cases hS : S pc' with
      | true =>
        rw [hS, cond_true] at hk
        exact hK pc' L' st' g' ls' H' locs' hk hn' hl' hI'
      | false =>
        rw [hS, cond_false] at hk
        exact ih pc' L' st' g' ls' H' locs' hk hn' hl' hI'
theorem jl_loop (Z : jl_env p l s m args meth c D cy b Ls a1 a2 a3 xs) (hc1 : cells ≤ room_1.cells) (hc2 : slots ≤ room_1.slots)
    (hend : ∀ (ls : Array Slot) (H : Heap) (locs : List Loc), (∀ q ∈ locs, s.heap.size ≤ q.base) → W p l e room_1 s m args below meth c H locs cells slots Qf (F0 m 1944 ls [.int 1])) :
    ∀ (n i : Nat) (g : jl_M) (ls : Array Slot) (H : Heap) (locs : List Loc), Ls < i + 6 * n → i ≤ Ls + 6 → q_R g.1 g.2 → lv_has ls 4 (jw_asc (jl_al s.heap.size b a1 a2 a3 0) 0 (jl_L i)) → jl_inv D cy s b a1 a2 a3 g H locs → W p l e room_1 s m args below meth c H locs cells slots Qf (F0 m 18 ls []) := by
  intro n
  induction n with
  | zero =>
    intro i g ls H locs hn hi hR hl hI
    have hL : Ls ≤ 3072 := Z.2.2.2.2.2.2.2.2.2.2.2
    refine jl_soundR Z jl_oh hc1 hc2 (K := jl_Kh Ls i g) (S := jl_S33) (fun pc' L' st' g' ls' H' locs' hk hn' hl' hI' => ?_) 20 18 (jl_L i) [] g ls H locs (jl_head hL (by omega)) rfl hl hI
    obtain ⟨rfl, rfl, rfl, hk⟩ := hk
    rcases hk with rfl | ⟨h6, hk⟩
    · refine jl_soundR Z jl_ox hc1 hc2 (fun pc2 L2 st2 g2 ls2 H2 locs2 hk2 hn2 hl2 hI2 => ?_) 2 1943 (jl_L i) [] g' ls' H' locs' jl_exit rfl hl' hI'
      obtain ⟨rfl, rfl, rfl, rfl⟩ := hk2
      exact hend ls2 H2 locs2 hI2.2.2.1.2.2
    · omega
  | succ n ih =>
    intro i g ls H locs hn hi hR hl hI
    have hL : Ls ≤ 3072 := Z.2.2.2.2.2.2.2.2.2.2.2
    refine jl_soundR Z jl_oh hc1 hc2 (K := jl_Kh Ls i g) (S := jl_S33) (fun pc' L' st' g' ls' H' locs' hk hn' hl' hI' => ?_) 20 18 (jl_L i) [] g ls H locs (jl_head hL (by omega)) rfl hl hI
    obtain ⟨rfl, rfl, rfl, hk⟩ := hk
    rcases hk with rfl | ⟨h6, hk⟩
    · refine jl_soundR Z jl_ox hc1 hc2 (fun pc2 L2 st2 g2 ls2 H2 locs2 hk2 hn2 hl2 hI2 => ?_) 2 1943 (jl_L i) [] g' ls' H' locs' jl_exit rfl hl' hI'
      obtain ⟨rfl, rfl, rfl, rfl⟩ := hk2
      exact hend ls2 H2 locs2 hI2.2.2.1.2.2
    · have next : ∀ (pc' : Nat) (L' : jw_L) (st' : List Value) (g' : jl_M) (ls' : Array Slot) (H' : Heap) (locs' : List Loc), jl_Kc i pc' L' st' g' → L'.length = 4 → lv_has ls' 4 (jw_asc (jl_al s.heap.size b a1 a2 a3 0) 0 L') → jl_inv D cy s b a1 a2 a3 g' H' locs' → W p l e room_1 s m args below meth c H' locs' cells slots Qf (F0 m pc' ls' (st'.map (jw_ad (jl_al s.heap.size b a1 a2 a3 0)))) := fun pc' L' st' g' ls' H' locs' hk hn' hl' hI' => by
        obtain ⟨rfl, rfl, rfl, hR'⟩ := hk
        rw [show Int32.ofInt 6 = nI 6 from by decide, nI_add] at hl'
        exact ih (i + 6) g' ls' H' locs' (by omega) (by omega) hR' hl' hI'
      rcases hk with rfl | hk
      · exact jl_soundR Z jl_od hc1 hc2 next 80 1937 (jl_L i) [] g' ls' H' locs' (jl_dflt hR) rfl hl' hI'
      · obtain ⟨cs, o1, o2⟩ := jl_cases (N := 50000) (Ls := Ls) (xs := xs) (Nat.le_refl _) h6 hL hR pc' hk
        exact jl_soundR Z o1 hc1 hc2 next 80 pc' (jl_L i) [] g' ls' H' locs' o2 rfl hl' hI'
end JLW
