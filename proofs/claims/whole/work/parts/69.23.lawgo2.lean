/-! ===== the law from its entry to its end ===== -/
section JL6
variable {p : Program} {l : Launch} {e : Env} {s : State} {m : MethodId} {args : Array Value} {below : List Frame} {meth : Method} {c : Code} {H : Heap} {locs : List Loc} {cells slots : Nat} {Qf : State → Prop}
variable {ls : Array Slot} {D : va_G} {cy : Nat → ClassId} {b Ls a1 a2 a3 : Nat} {xs : Nat → Int32} {α : Nat → Nat}
set_option maxHeartbeats 4000000 in
theorem jl_go2 (Z : jl_env p l s m args meth c D cy b Ls a1 a2 a3 xs) (hend : ∀ (ls : Array Slot) (H : Heap) (locs : List Loc), (∀ q ∈ locs, s.heap.size ≤ q.base) → W p l e room_1 s m args below meth c H locs (0 + 1 + 132 + 1 + 20) (0 + 8 + 3005 + 42 + 2688) Qf (F0 m 1944 ls [.int 1])) (hl : lv_has ls 4 (jw_asc (jl_al s.heap.size b a1 a2 a3 0) 0 [some (.ref jl_scr), none, none, none])) : W p l e room_1 s m args below meth c s.heap [] 0 0 Qf (F0 m 0 ls []) := by
  obtain ⟨hx, hb, hml, hown, hts, hp, hK0, hX, hN, hXs, hbl, hLs⟩ := id Z
  obtain ⟨hgood, hns, hcl, hasg, hstr, hysl, hys⟩ := id hp
  have hclT : jw_clok jp_cl lw_tbl := fun ci C T N h => ⟨fun w hw => jl_Tl w ((hcl ci C T N h).1 w hw), (hcl ci C T N h).2⟩
  have hA : ∀ x, s.heap.size ≤ x → (fun y => s.heap.size ≤ y) x := fun _ h => h
  have al : ∀ off j, j < 100000 → jl_al s.heap.size b a1 a2 a3 off j = s.heap.size + off + j := fun off j h => if_pos h
  obtain ⟨σC, c1, _, c2⟩ := jr_chkR_ok jr_chkRC
  obtain ⟨σM, m1, m3, m2⟩ := jr_chkR_ok jr_chkRM
  have r0 : (0 : Nat) + 1 + 132 + 1 + 20 ≤ room_1.cells := Nat.le_of_ble_eq_true rfl
  have r1 : (0 : Nat) + 8 + 3005 + 42 + 2688 ≤ room_1.slots := Nat.le_of_ble_eq_true rfl
  -- the class's object
  refine jo_new2 (α := jl_al s.heap.size b a1 a2 a3 0) (h := ([], jl_z)) (lim := (1, 8)) (kd := jp_kd) (cl := jp_cl) (ci := 12) (idx := 7) (A := fun y => s.heap.size ≤ y) (Ts := lw_tbl) (own := "ShadowSchoolLaw") (st := []) (f := fun a h' => a = 0 ∧ h' = ([.inl (12, jp_kd 12)], jl_z)) hx hb hown hts hclT (C0 := RX12) (T0 := TX12) (N0 := 8) rfl jl_wC5 jl_kd12 jl_d0 hK0 jl_P0 jl_D0 ⟨Nat.le_refl _, fun _ _ _ => rfl, fun l hl => absurd hl List.not_mem_nil⟩ hA (fun mc hmc j h1 h2 => by
    rw [al 0 j (by dsimp only [List.length_nil] at hmc h2; omega)]
    dsimp only [List.length_nil]
    omega) (fun mc ms h1 h2 => by
    have z1 : mc ≤ 1 := by dsimp only [List.length_nil] at h1; omega
    have z2 : ms ≤ 8 := by
      have : 0 + ms ≤ 8 := h2
      omega
    exact ⟨by omega, by omega⟩) (And.intro rfl (congrArg (fun z => (([.inl (12, jp_kd 12)], z) : jw_H)) (jl_lay0 rfl))) (fun a h' H1 locs1 k n hf z1 z2 z3 z4 z5 hP1 hD1 hS1 hfr1 => ?_)
  obtain ⟨rfl, rfl⟩ := hf
  have k1 : k = 1 := by
    have : 1 = 0 + k := z2
    omega
  have n1 : n = 8 := by
    have : jw_sz [.inl (12, jp_kd 12)] = 0 + n := z3
    rw [show jw_sz [.inl (12, jp_kd 12)] = 8 from by decide +kernel] at this
    omega
  subst k1 n1
  refine jl_s1 (L' := [some (.ref jl_scr), none, none, none]) (st' := [.ref 0, .ref 0]) (pc' := 4) rfl hx hb jl_d3 rfl hl (And.intro rfl (And.intro rfl rfl)) (fun ls2 _ hl2 => ?_)
  refine jl_init (nL := 4) (α := jl_al s.heap.size b a1 a2 a3 0) (cl := jp_cl) (A := fun y => s.heap.size ≤ y) (own := "ShadowSchoolLaw") (Ts := lw_tbl) (Tg := jp_Tg) (Ns := jp_Ns) (ys := jp_ys) (h := ([.inl (12, jp_kd 12)], jl_z)) (mid := 109) (d := 8) (mc := 132) (ms := 3005) (nL' := 1) (nm := yX12_init) (cc' := cX12_init) (cs := jc_109) (r := [.ref 0]) (Q := fun v h' => v = none ∧ h' = (jx_ShC, σC)) hx hb hml hown hts jl_Tl hgood hns rfl rfl (by decide +kernel) (by decide +kernel) (by decide) jl_wC1 jl_wC2 jl_wC3 jl_wC4 (Nat.le_of_ble_eq_true rfl) (Nat.le_of_ble_eq_true rfl) jl_d4 hl2.1 ⟨by omega, by omega⟩ (by decide) hK0 hP1 hD1 hS1 hA (hX 0) hN (jw_sound2 hp 8 109 [.ref 0] _ _ (c2 _ ⟨rfl, rfl⟩) _ rfl) (fun j h1 h2 => by
    have q1 : 1 ≤ j := h1
    have q2 : j < 1 + 132 := h2
    rw [al 0 j (by omega), z1]
    show _ = _ + 1 + (j - 1)
    omega) (fun v h' H2 locs2 hq z6 hP2 hD2 hS2 hfr2 => ?_)
  obtain ⟨rfl, rfl⟩ := hq
  refine jl_s1 (L' := [some (.ref jl_scr), some (.ref 0), none, none]) (st := [.ref 0]) (st' := []) (pc' := 8) rfl hx hb jl_d7 rfl hl2 (And.intro rfl (And.intro rfl rfl)) (fun ls3 _ hl3 => ?_)
  -- the reference's object
  refine jo_new2 (α := jl_al s.heap.size b a1 a2 a3 133) (h := ([], jl_z)) (lim := (1, 42)) (kd := jp_kd) (cl := jp_cl) (ci := 13) (idx := 10) (A := fun y => s.heap.size ≤ y) (Ts := lw_tbl) (own := "ShadowSchoolLaw") (st := []) (f := fun a h' => a = 0 ∧ h' = ([.inl (13, jp_kd 13)], jl_z)) hx hb hown hts hclT (C0 := RX13) (T0 := TX13) (N0 := 42) rfl jl_wM5 jl_kd13 jl_d8 hK0 jl_P0 jl_D0 hS2 hA (fun mc hmc j h1 h2 => by
    rw [al 133 j (by dsimp only [List.length_nil] at hmc h2; omega), z6, z1]
    dsimp only [List.length_nil]
    omega) (fun mc ms h1 h2 => by
    have z1 : mc ≤ 1 := by dsimp only [List.length_nil] at h1; omega
    have z2 : ms ≤ 42 := by
      have : 0 + ms ≤ 42 := h2
      omega
    exact ⟨by omega, by omega⟩) (And.intro rfl (congrArg (fun z => (([.inl (13, jp_kd 13)], z) : jw_H)) (jl_lay0 rfl))) (fun a h' H3 locs3 k n hf y1 y2 y3 y4 y5 hP3 hD3 hS3 hfr3 => ?_)
  obtain ⟨rfl, rfl⟩ := hf
  have k1 : k = 1 := by
    have : 1 = 0 + k := y2
    omega
  have n1 : n = 42 := by
    have : jw_sz [.inl (13, jp_kd 13)] = 0 + n := y3
    rw [show jw_sz [.inl (13, jp_kd 13)] = 42 from by decide +kernel] at this
    omega
  subst k1 n1
  have e1 : ([.ref 0] : List Value).map (jw_ad (jl_al s.heap.size b a1 a2 a3 133)) = ([.ref 133] : List Value).map (jw_ad (jl_al s.heap.size b a1 a2 a3 0)) := rfl
  have e2 : ([.ref 133, .ref 133] : List Value).map (jw_ad (jl_al s.heap.size b a1 a2 a3 0)) = ([.ref 0, .ref 0] : List Value).map (jw_ad (jl_al s.heap.size b a1 a2 a3 133)) := rfl
  rw [e1]
  refine jl_s1 (L' := [some (.ref jl_scr), some (.ref 0), none, none]) (st' := [.ref 133, .ref 133]) (pc' := 12) rfl hx hb jl_d11 rfl hl3 (And.intro rfl (And.intro rfl rfl)) (fun ls4 _ hl4 => ?_)
  rw [e2]
  refine jl_init (nL := 4) (α := jl_al s.heap.size b a1 a2 a3 133) (cl := jp_cl) (A := fun y => s.heap.size ≤ y) (own := "ShadowSchoolLaw") (Ts := lw_tbl) (Tg := jp_Tg) (Ns := jp_Ns) (ys := jp_ys) (h := ([.inl (13, jp_kd 13)], jl_z)) (mid := 177) (d := 8) (mc := 20) (ms := 2688) (nL' := 1) (nm := yX13_init) (cc' := cX13_init) (cs := jc_177) (r := [.ref 0]) (Q := fun v h' => v = none ∧ h' = (jx_ShM, σM)) hx hb hml hown hts jl_Tl hgood hns rfl rfl (by decide +kernel) (by decide +kernel) (by decide) jl_wM1 jl_wM2 jl_wM3 jl_wM4 (Nat.le_of_ble_eq_true rfl) (Nat.le_of_ble_eq_true rfl) jl_d12 hl4.1 ⟨by omega, by omega⟩ (by decide) hK0 hP3 hD3 hS3 hA (hX 133) hN (jw_sound2 hp 8 177 [.ref 0] _ _ (m2 _ ⟨rfl, rfl⟩) _ rfl) (fun j h1 h2 => by
    have q1 : 1 ≤ j := h1
    have q2 : j < 1 + 20 := h2
    rw [al 133 j (by omega), y1, z6, z1]
    show _ = _ + 1 + (j - 1)
    omega) (fun v h' H4 locs4 hq y6 hP4 hD4 hS4 hfr4 => ?_)
  obtain ⟨rfl, rfl⟩ := hq
  have hPC : va_P D jp_cl (jw_wld cy (jl_al s.heap.size b a1 a2 a3 0) (jx_ShC, σC)) H4 := (hP2.kept (fun k x hx9 => hfr3 x.1 (by
    have := jl_w jl_lC (by decide) hx9
    omega))).kept (fun k x hx9 => hfr4 x.1 (by
    have := jl_w jl_lC (by decide) hx9
    omega) (by
    have w := jl_w jl_lC (by decide) hx9
    rintro (⟨k', e0, h9⟩ | h9)
    · have := jl_w (n := 1) rfl (by decide) h9
      dsimp only at this
      omega
    · omega))
  show W p l e room_1 s m args below meth c H4 locs4 (0 + 1 + 132 + 1 + 20) (0 + 8 + 3005 + 42 + 2688) Qf (F0 m 15 ls4 (([.ref 0] : List Value).map (jw_ad (jl_al s.heap.size b a1 a2 a3 133))))
  rw [e1]
  refine jl_s1 (L' := [some (.ref jl_scr), some (.ref 0), some (.ref 133), none]) (st' := []) (pc' := 16) rfl hx hb jl_d15 rfl hl4 (And.intro rfl (And.intro rfl rfl)) (fun ls5 _ hl5 => ?_)
  refine jl_s1 (L' := [some (.ref jl_scr), some (.ref 0), some (.ref 133), none]) (st' := [.int 0]) (pc' := 17) rfl hx hb jl_d16 rfl hl5 (And.intro rfl (And.intro rfl rfl)) (fun ls6 _ hl6 => ?_)
  refine jl_s1 (L' := jl_L 0) (st' := []) (pc' := 18) rfl hx hb jl_d17 rfl hl6 (And.intro rfl (And.intro rfl rfl)) (fun ls7 _ hl7 => ?_)
  exact jl_loop Z r0 r1 hend 600 0 (σC, σM) ls7 H4 locs4 (by omega) (by omega) (jl_R1 c1 m1 m3) hl7 ⟨hPC, hP4, hS4, by omega⟩
end JL6
