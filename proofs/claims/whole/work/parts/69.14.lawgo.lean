/-! ===== the law: from its entry to its loop ===== -/
def jl_z : jw_M := (fun _ _ => 0, fun _ _ => 0)
theorem jl_lay0 {h : jw_M} (e : h = jl_z) : ((jw_lay h.1 0 (fun _ => 0), jw_lay h.2 0 (fun _ => 0)) : jw_M) = jl_z := by
  subst e
  refine Prod.ext ?_ ?_
  · funext c k
    show jw_lay (fun _ _ => (0 : Int32)) 0 (fun _ => 0) c k = 0
    unfold jw_lay
    split <;> rfl
  · funext c k
    show jw_lay (fun _ _ => (0 : Int64)) 0 (fun _ => 0) c k = 0
    unfold jw_lay
    split <;> rfl
theorem jl_P0 {D : va_G} {cy : Nat → ClassId} {α : Nat → Nat} {H : Heap} : va_P D jp_cl (jw_wld cy α ([], jl_z)) H := fun k q hq => by
  have hq : ([] : va_W)[k]? = some q := hq
  simp at hq
theorem jl_D0 {cy : Nat → ClassId} {α : Nat → Nat} {A : Nat → Prop} : va_D A (jw_wld cy α ([], jl_z)) := by
  refine ⟨fun i j p q hp => ?_, fun k q hq => ?_⟩
  · have hp : ([] : va_W)[i]? = some p := hp
    simp at hp
  · have hq : ([] : va_W)[k]? = some q := hq
    simp at hq
theorem jl_gw {w : Cond} {i : Nat} (h1 : lw_tbl[i]? = some w) (h2 : goodWord w = true) : w ∈ jp_Tg := List.mem_filter.mpr ⟨List.mem_of_getElem? h1, h2⟩
set_option maxRecDepth 100000 in
theorem jl_wC1 : Cond.methodLink "ShadowSchoolLaw" 9 yX12_init ∈ jp_Tg := jl_gw (i := 126) (by decide +kernel) (by decide +kernel)
set_option maxRecDepth 100000 in
theorem jl_wC2 : Cond.instanceMethod yX12_init ∈ jp_Tg := jl_gw (i := 127) (by decide +kernel) (by decide +kernel)
set_option maxRecDepth 100000 in
theorem jl_wC3 : Cond.initialized yX12_init.cls ∈ jp_Tg := jl_gw (i := 102) (by decide +kernel) (by decide +kernel)
set_option maxRecDepth 100000 in
theorem jl_wC4 : Cond.code yX12_init cX12_init 1 none ∈ jp_Tg := jl_gw (i := 128) (by decide +kernel) (by decide +kernel)
set_option maxRecDepth 100000 in
theorem jl_wC5 : ∀ w ∈ [Cond.classLink "ShadowSchoolLaw" 7 RX12, .instantiable RX12 8, .initialized RX12], w ∈ lw_tbl := List.forall_mem_cons.mpr ⟨List.mem_of_getElem? (i := 124) (by decide +kernel), List.forall_mem_cons.mpr ⟨List.mem_of_getElem? (i := 125) (by decide +kernel), List.forall_mem_cons.mpr ⟨List.mem_of_getElem? (i := 102) (by decide +kernel), fun _ h => absurd h List.not_mem_nil⟩⟩⟩
set_option maxRecDepth 100000 in
theorem jl_wM1 : Cond.methodLink "ShadowSchoolLaw" 12 yX13_init ∈ jp_Tg := jl_gw (i := 1300) (by decide +kernel) (by decide +kernel)
set_option maxRecDepth 100000 in
theorem jl_wM2 : Cond.instanceMethod yX13_init ∈ jp_Tg := jl_gw (i := 1301) (by decide +kernel) (by decide +kernel)
set_option maxRecDepth 100000 in
theorem jl_wM3 : Cond.initialized yX13_init.cls ∈ jp_Tg := jl_gw (i := 115) (by decide +kernel) (by decide +kernel)
set_option maxRecDepth 100000 in
theorem jl_wM4 : Cond.code yX13_init cX13_init 1 none ∈ jp_Tg := jl_gw (i := 1302) (by decide +kernel) (by decide +kernel)
set_option maxRecDepth 100000 in
theorem jl_wM5 : ∀ w ∈ [Cond.classLink "ShadowSchoolLaw" 10 RX13, .instantiable RX13 42, .initialized RX13], w ∈ lw_tbl := List.forall_mem_cons.mpr ⟨List.mem_of_getElem? (i := 1298) (by decide +kernel), List.forall_mem_cons.mpr ⟨List.mem_of_getElem? (i := 1299) (by decide +kernel), List.forall_mem_cons.mpr ⟨List.mem_of_getElem? (i := 115) (by decide +kernel), fun _ h => absurd h List.not_mem_nil⟩⟩⟩
theorem jl_d0 : decode code 0 = .ok (.new 7, 3) := by decide +kernel
theorem jl_d4 : decode code 4 = .ok (.invokespecial 9, 3) := by decide +kernel
theorem jl_d8 : decode code 8 = .ok (.new 10, 3) := by decide +kernel
theorem jl_d12 : decode code 12 = .ok (.invokespecial 12, 3) := by decide +kernel
theorem jl_d3 : jw_okd code (3, .dup, 1, 0, 0, []) := ⟨by decide +kernel, Or.inr rfl, rfl⟩
theorem jl_d7 : jw_okd code (7, .astore_n 1, 1, 0, 0, []) := ⟨by decide +kernel, Or.inr rfl, rfl⟩
theorem jl_d11 : jw_okd code (11, .dup, 1, 0, 0, []) := ⟨by decide +kernel, Or.inr rfl, rfl⟩
theorem jl_d15 : jw_okd code (15, .astore_n 2, 1, 0, 0, []) := ⟨by decide +kernel, Or.inr rfl, rfl⟩
theorem jl_d16 : jw_okd code (16, .iconst 0, 1, 0, 0, []) := ⟨by decide +kernel, Or.inr rfl, rfl⟩
theorem jl_d17 : jw_okd code (17, .istore_n 3, 1, 0, 0, []) := ⟨by decide +kernel, Or.inr rfl, rfl⟩
theorem jl_kd12 : jw_kdok jp_kd jp_cl 12 = true := by decide +kernel
theorem jl_kd13 : jw_kdok jp_kd jp_cl 13 = true := by decide +kernel
section JL5
variable {p : Program} {l : Launch} {e : Env} {s : State} {m : MethodId} {args : Array Value} {below : List Frame} {meth : Method} {c : Code} {H : Heap} {locs : List Loc} {cells slots : Nat} {Qf : State → Prop}
variable {ls : Array Slot} {D : va_G} {cy : Nat → ClassId} {b Ls a1 a2 a3 : Nat} {xs : Nat → Int32} {α : Nat → Nat}
theorem jl_s1 {pc len pc' : Nat} {ins : Instr} {L L' : jw_L} {st st' : List Value} (hS1 : jw_isS ins = true) (hx : p.tables.exec = Jvm.exec) (hb : c.code = code) (hd : jw_okd code (pc, ins, len, 0, 0, [])) (hn : L.length = 4) (hl : lv_has ls 4 (jw_asc α 0 L)) (hs : jw_step jp_kd (fun _ _ _ _ => False) (jw_bud jp_ys) (0, 0) none (pc, ins, len, 0, 0, []) L st ([], jl_z) (fun _ _ => False) (fun pc1 L1 st1 _ => pc1 = pc' ∧ L1 = L' ∧ st1 = st'))
    (hK : ∀ ls' : Array Slot, L'.length = 4 → lv_has ls' 4 (jw_asc α 0 L') → W p l e room_1 s m args below meth c H locs cells slots Qf (F0 m pc' ls' (st'.map (jw_ad α)))) : W p l e room_1 s m args below meth c H locs cells slots Qf (F0 m pc ls (st.map (jw_ad α))) :=
  jo_simple hS1 hx hb hd hl hn hs (fun pc1 L1 st1 ls1 hk hn1 hl1 => by
    obtain ⟨rfl, rfl, rfl⟩ := hk
    exact hK ls1 hn1 hl1)
set_option maxHeartbeats 4000000 in
theorem jl_go (kC : ∃ σ : jw_M, (∀ c k, c < 133 → k < 202 → σ.1 c k = jx_M0C c k ∧ σ.2 c k = 0) ∧ ∀ Q : jw_Q, Q none (jx_ShC, σ) → jw_C jp_kd jp_ys 8 109 [.ref 0] ([.inl (12, jp_kd 12)], (fun _ _ => 0), (fun _ _ => 0)) Q) (kM : ∃ σ : jw_M, (∀ c k, c < 21 → k < 527 → σ.1 c k = jx_M0M c k ∧ σ.2 c k = 0) ∧ ∀ Q : jw_Q, Q none (jx_ShM, σ) → jw_C jp_kd jp_ys 8 177 [.ref 0] ([.inl (13, jp_kd 13)], (fun _ _ => 0), (fun _ _ => 0)) Q) (Z : jl_env p l s m args meth c D cy b Ls a1 a2 a3 xs) (hend : ∀ (ls : Array Slot) (H : Heap) (locs : List Loc), (∀ q ∈ locs, s.heap.size ≤ q.base) → W p l e room_1 s m args below meth c H locs (0 + 1 + 132 + 1 + 20) (0 + 8 + 3005 + 42 + 2688) Qf (F0 m 1944 ls [.int 1])) (hl : lv_has ls 4 (jw_asc (jl_al s.heap.size b a1 a2 a3 0) 0 [some (.ref jl_scr), none, none, none])) : W p l e room_1 s m args below meth c s.heap [] 0 0 Qf (F0 m 0 ls []) := by
  obtain ⟨hx, hb, hml, hown, hts, hp, hK0, hX, hN, hXs, hbl, hLs⟩ := id Z
  obtain ⟨hgood, hns, hcl, hasg, hstr, hysl, hys⟩ := id hp
  have hclT : jw_clok jp_cl lw_tbl := fun ci C T N h => ⟨fun w hw => jl_Tl w ((hcl ci C T N h).1 w hw), (hcl ci C T N h).2⟩
  have hA : ∀ x, s.heap.size ≤ x → (fun y => s.heap.size ≤ y) x := fun _ h => h
  have al : ∀ off j, j < 100000 → jl_al s.heap.size b a1 a2 a3 off j = s.heap.size + off + j := fun off j h => if_pos h
  obtain ⟨σC, c1, c2⟩ := kC
  obtain ⟨σM, m1, m2⟩ := kM
  have r0 : (0 : Nat) + 1 + 132 + 1 + 20 ≤ room_1.cells := Nat.le_of_ble_eq_true rfl
  have r1 : (0 : Nat) + 8 + 3005 + 42 + 2688 ≤ room_1.slots := Nat.le_of_ble_eq_true rfl
  -- the class's object
  refine jo_new2 (α := jl_al s.heap.size b a1 a2 a3 0) (h := ([], jl_z)) (lim := (1, 8)) (kd := jp_kd) (cl := jp_cl) (ci := 12) (idx := 7) (A := fun y => s.heap.size ≤ y) (Ts := lw_tbl) (own := "ShadowSchoolLaw") (st := []) (f := fun a h' => a = 0 ∧ h' = ([.inl (12, jp_kd 12)], jl_z)) hx hb hown hts hclT (C0 := RX12) (T0 := TX12) (N0 := 8) rfl jl_wC5 jl_kd12 jl_d0 hK0 jl_P0 jl_D0 ⟨Nat.le_refl _, fun _ _ _ => rfl, fun l hl => absurd hl List.not_mem_nil⟩ hA (fun mc hmc j h1 h2 => by
    rw [al 0 j (by dsimp only [List.length_nil] at hmc h2; omega)]
    dsimp only [List.length_nil]
    omega) (fun mc ms h1 h2 => by
    have z1 : mc ≤ 1 := by dsimp only [List.length_nil] at h1; omega
    have z2 : ms ≤ 8 := by
      have : 0 + ms ≤ 8 := h2
      omega
    exact ⟨by omega, by omega⟩) (And.intro rfl (congrArg (fun z => (([.inl (12, jp_kd 12)], z) : jw_H)) (jl_lay0 rfl))) (fun a h' H1 locs1 k n hf z1 z2 z3 z4 z5 hP1 hD1 hS1 hfr1 => ?_)
  obtain ⟨rfl, rfl⟩ := hf
  have k1 : k = 1 := by
    have : 1 = 0 + k := z2
    omega
  have n1 : n = 8 := by
    have : jw_sz [.inl (12, jp_kd 12)] = 0 + n := z3
    rw [show jw_sz [.inl (12, jp_kd 12)] = 8 from by decide +kernel] at this
    omega
  subst k1 n1
  refine jl_s1 (L' := [some (.ref jl_scr), none, none, none]) (st' := [.ref 0, .ref 0]) (pc' := 4) rfl hx hb jl_d3 rfl hl (And.intro rfl (And.intro rfl rfl)) (fun ls2 _ hl2 => ?_)
  refine jl_init (nL := 4) (α := jl_al s.heap.size b a1 a2 a3 0) (cl := jp_cl) (A := fun y => s.heap.size ≤ y) (own := "ShadowSchoolLaw") (Ts := lw_tbl) (Tg := jp_Tg) (Ns := jp_Ns) (ys := jp_ys) (h := ([.inl (12, jp_kd 12)], jl_z)) (mid := 109) (d := 8) (mc := 132) (ms := 3005) (nL' := 1) (nm := yX12_init) (cc' := cX12_init) (cs := jc_109) (r := [.ref 0]) (Q := fun v h' => v = none ∧ h' = (jx_ShC, σC)) hx hb hml hown hts jl_Tl hgood hns rfl rfl (by decide +kernel) (by decide +kernel) (by decide) jl_wC1 jl_wC2 jl_wC3 jl_wC4 (Nat.le_of_ble_eq_true rfl) (Nat.le_of_ble_eq_true rfl) jl_d4 hl2.1 ⟨by omega, by omega⟩ (by decide) hK0 hP1 hD1 hS1 hA (hX 0) hN (jw_sound2 hp 8 109 [.ref 0] _ _ (c2 _ ⟨rfl, rfl⟩) _ rfl) (fun j h1 h2 => by
    have q1 : 1 ≤ j := h1
    have q2 : j < 1 + 132 := h2
    rw [al 0 j (by omega), z1]
    show _ = _ + 1 + (j - 1)
    omega) (fun v h' H2 locs2 hq z6 hP2 hD2 hS2 hfr2 => ?_)
  obtain ⟨rfl, rfl⟩ := hq
  refine jl_s1 (L' := [some (.ref jl_scr), some (.ref 0), none, none]) (st := [.ref 0]) (st' := []) (pc' := 8) rfl hx hb jl_d7 rfl hl2 (And.intro rfl (And.intro rfl rfl)) (fun ls3 _ hl3 => ?_)
  -- the reference's object
  refine jo_new2 (α := jl_al s.heap.size b a1 a2 a3 133) (h := ([], jl_z)) (lim := (1, 42)) (kd := jp_kd) (cl := jp_cl) (ci := 13) (idx := 10) (A := fun y => s.heap.size ≤ y) (Ts := lw_tbl) (own := "ShadowSchoolLaw") (st := []) (f := fun a h' => a = 0 ∧ h' = ([.inl (13, jp_kd 13)], jl_z)) hx hb hown hts hclT (C0 := RX13) (T0 := TX13) (N0 := 42) rfl jl_wM5 jl_kd13 jl_d8 hK0 jl_P0 jl_D0 hS2 hA (fun mc hmc j h1 h2 => by
    rw [al 133 j (by dsimp only [List.length_nil] at hmc h2; omega), z6, z1]
    dsimp only [List.length_nil]
    omega) (fun mc ms h1 h2 => by
    have z1 : mc ≤ 1 := by dsimp only [List.length_nil] at h1; omega
    have z2 : ms ≤ 42 := by
      have : 0 + ms ≤ 42 := h2
      omega
    exact ⟨by omega, by omega⟩) (And.intro rfl (congrArg (fun z => (([.inl (13, jp_kd 13)], z) : jw_H)) (jl_lay0 rfl))) (fun a h' H3 locs3 k n hf y1 y2 y3 y4 y5 hP3 hD3 hS3 hfr3 => ?_)
  obtain ⟨rfl, rfl⟩ := hf
  have k1 : k = 1 := by
    have : 1 = 0 + k := y2
    omega
  have n1 : n = 42 := by
    have : jw_sz [.inl (13, jp_kd 13)] = 0 + n := y3
    rw [show jw_sz [.inl (13, jp_kd 13)] = 42 from by decide +kernel] at this
    omega
  subst k1 n1
  have e1 : ([.ref 0] : List Value).map (jw_ad (jl_al s.heap.size b a1 a2 a3 133)) = ([.ref 133] : List Value).map (jw_ad (jl_al s.heap.size b a1 a2 a3 0)) := rfl
  have e2 : ([.ref 133, .ref 133] : List Value).map (jw_ad (jl_al s.heap.size b a1 a2 a3 0)) = ([.ref 0, .ref 0] : List Value).map (jw_ad (jl_al s.heap.size b a1 a2 a3 133)) := rfl
  rw [e1]
  refine jl_s1 (L' := [some (.ref jl_scr), some (.ref 0), none, none]) (st' := [.ref 133, .ref 133]) (pc' := 12) rfl hx hb jl_d11 rfl hl3 (And.intro rfl (And.intro rfl rfl)) (fun ls4 _ hl4 => ?_)
  rw [e2]
  refine jl_init (nL := 4) (α := jl_al s.heap.size b a1 a2 a3 133) (cl := jp_cl) (A := fun y => s.heap.size ≤ y) (own := "ShadowSchoolLaw") (Ts := lw_tbl) (Tg := jp_Tg) (Ns := jp_Ns) (ys := jp_ys) (h := ([.inl (13, jp_kd 13)], jl_z)) (mid := 177) (d := 8) (mc := 20) (ms := 2688) (nL' := 1) (nm := yX13_init) (cc' := cX13_init) (cs := jc_177) (r := [.ref 0]) (Q := fun v h' => v = none ∧ h' = (jx_ShM, σM)) hx hb hml hown hts jl_Tl hgood hns rfl rfl (by decide +kernel) (by decide +kernel) (by decide) jl_wM1 jl_wM2 jl_wM3 jl_wM4 (Nat.le_of_ble_eq_true rfl) (Nat.le_of_ble_eq_true rfl) jl_d12 hl4.1 ⟨by omega, by omega⟩ (by decide) hK0 hP3 hD3 hS3 hA (hX 133) hN (jw_sound2 hp 8 177 [.ref 0] _ _ (m2 _ ⟨rfl, rfl⟩) _ rfl) (fun j h1 h2 => by
    have q1 : 1 ≤ j := h1
    have q2 : j < 1 + 20 := h2
    rw [al 133 j (by omega), y1, z6, z1]
    show _ = _ + 1 + (j - 1)
    omega) (fun v h' H4 locs4 hq y6 hP4 hD4 hS4 hfr4 => ?_)
  obtain ⟨rfl, rfl⟩ := hq
  have hPC : va_P D jp_cl (jw_wld cy (jl_al s.heap.size b a1 a2 a3 0) (jx_ShC, σC)) H4 := (hP2.kept (fun k x hx9 => hfr3 x.1 (by
    have := jl_w jl_lC (by decide) hx9
    omega))).kept (fun k x hx9 => hfr4 x.1 (by
    have := jl_w jl_lC (by decide) hx9
    omega) (by
    have w := jl_w jl_lC (by decide) hx9
    rintro (⟨k', e0, h9⟩ | h9)
    · have := jl_w (n := 1) rfl (by decide) h9
      dsimp only at this
      omega
    · omega))
  show W p l e room_1 s m args below meth c H4 locs4 (0 + 1 + 132 + 1 + 20) (0 + 8 + 3005 + 42 + 2688) Qf (F0 m 15 ls4 (([.ref 0] : List Value).map (jw_ad (jl_al s.heap.size b a1 a2 a3 133))))
  rw [e1]
  refine jl_s1 (L' := [some (.ref jl_scr), some (.ref 0), some (.ref 133), none]) (st' := []) (pc' := 16) rfl hx hb jl_d15 rfl hl4 (And.intro rfl (And.intro rfl rfl)) (fun ls5 _ hl5 => ?_)
  refine jl_s1 (L' := [some (.ref jl_scr), some (.ref 0), some (.ref 133), none]) (st' := [.int 0]) (pc' := 17) rfl hx hb jl_d16 rfl hl5 (And.intro rfl (And.intro rfl rfl)) (fun ls6 _ hl6 => ?_)
  refine jl_s1 (L' := jl_L 0) (st' := []) (pc' := 18) rfl hx hb jl_d17 rfl hl6 (And.intro rfl (And.intro rfl rfl)) (fun ls7 _ hl7 => ?_)
  exact jl_loop Z r0 r1 hend 600 0 (σC, σM) ls7 H4 locs4 (by omega) (by omega) (jl_R0 c1 m1) hl7 ⟨hPC, hP4, hS4, by omega⟩
end JL5
