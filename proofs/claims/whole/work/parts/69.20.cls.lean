/-! ===== classes; what holds at the law's start ===== -/
set_option maxRecDepth 100000 in
theorem ji_0 : (jp_pl lw_tbl (u_ws RX0 TX0 0) [] && (u_ws RX0 TX0 0).all goodWord) = true := by decide +kernel
set_option maxRecDepth 100000 in
theorem ji_1 : (jp_pl lw_tbl (u_ws RX1 TX1 0) [] && (u_ws RX1 TX1 0).all goodWord) = true := by decide +kernel
set_option maxRecDepth 100000 in
theorem ji_2 : (jp_pl lw_tbl (u_ws RX2 TX2 0) [] && (u_ws RX2 TX2 0).all goodWord) = true := by decide +kernel
set_option maxRecDepth 100000 in
theorem ji_3 : (jp_pl lw_tbl (u_ws RX3 TX3 11) [451, 453, 455, 457, 459, 461, 463, 465, 467, 469, 471] && (u_ws RX3 TX3 11).all goodWord) = true := by decide +kernel
set_option maxRecDepth 100000 in
theorem ji_4 : (jp_pl lw_tbl (u_ws RX4 TX4 0) [] && (u_ws RX4 TX4 0).all goodWord) = true := by decide +kernel
set_option maxRecDepth 100000 in
theorem ji_5 : (jp_pl lw_tbl (u_ws RX5 TX5 12) [396, 398, 400, 402, 404, 406, 408, 410, 412, 414, 416, 418] && (u_ws RX5 TX5 12).all goodWord) = true := by decide +kernel
set_option maxRecDepth 100000 in
theorem ji_6 : (jp_pl lw_tbl (u_ws RX6 TX6 5) [203, 205, 207, 209, 211] && (u_ws RX6 TX6 5).all goodWord) = true := by decide +kernel
set_option maxRecDepth 100000 in
theorem ji_7 : (jp_pl lw_tbl (u_ws RX7 TX7 6) [352, 354, 356, 358, 360, 362] && (u_ws RX7 TX7 6).all goodWord) = true := by decide +kernel
set_option maxRecDepth 100000 in
theorem ji_8 : (jp_pl lw_tbl (u_ws RX8 TX8 10) [159, 161, 163, 165, 167, 169, 171, 173, 175, 177] && (u_ws RX8 TX8 10).all goodWord) = true := by decide +kernel
set_option maxRecDepth 100000 in
theorem ji_9 : (jp_pl lw_tbl (u_ws RX9 TX9 19) [295, 297, 299, 301, 303, 305, 307, 309, 311, 313, 315, 317, 319, 321, 323, 325, 327, 329, 331] && (u_ws RX9 TX9 19).all goodWord) = true := by decide +kernel
set_option maxRecDepth 100000 in
theorem ji_10 : (jp_pl lw_tbl (u_ws RX10 TX10 0) [] && (u_ws RX10 TX10 0).all goodWord) = true := by decide +kernel
set_option maxRecDepth 100000 in
theorem ji_11 : (jp_pl lw_tbl (u_ws RX11 TX11 0) [] && (u_ws RX11 TX11 0).all goodWord) = true := by decide +kernel
set_option maxRecDepth 100000 in
theorem ji_12 : (jp_pl lw_tbl (u_ws RX12 TX12 8) [482, 484, 486, 488, 490, 492, 494, 496] && (u_ws RX12 TX12 8).all goodWord) = true := by decide +kernel
set_option maxRecDepth 100000 in
theorem ji_13 : (jp_pl lw_tbl (u_ws RX13 TX13 42) [1346, 1348, 1350, 1352, 1354, 1356, 1358, 1360, 1362, 1364, 1366, 1368, 1370, 1372, 1374, 1376, 1378, 1380, 1382, 1384, 1386, 1388, 1390, 1392, 1394, 1396, 1398, 1400, 1402, 1404, 1406, 1408, 1410, 1412, 1414, 1416, 1418, 1420, 1422, 1424, 1426, 1428] && (u_ws RX13 TX13 42).all goodWord) = true := by decide +kernel
theorem ji_mem {ws : List Cond} {pl : List Nat} (h : (jp_pl lw_tbl ws pl && ws.all goodWord) = true) : ∀ w ∈ ws, w ∈ jp_Tg := fun w hw => by
  rw [Bool.and_eq_true] at h
  exact List.mem_filter.mpr ⟨jp_pl_ok h.1 w hw, List.all_eq_true.mp h.2 w hw⟩
theorem lj_sub : ∀ w ∈ jp_Tg, w ∈ lw_tbl := fun w hw => (List.mem_filter.mp hw).1
theorem jp_clok : jw_clok jp_cl jp_Tg := by
  intro ci C T N h
  match ci, h with
  | 0, h => cases h; exact ⟨ji_mem ji_0, ⟨tyX0, tyX0_ok⟩, nmX0⟩
  | 1, h => cases h; exact ⟨ji_mem ji_1, ⟨tyX1, tyX1_ok⟩, nmX1⟩
  | 2, h => cases h; exact ⟨ji_mem ji_2, ⟨tyX2, tyX2_ok⟩, nmX2⟩
  | 3, h => cases h; exact ⟨ji_mem ji_3, ⟨tyX3, tyX3_ok⟩, nmX3⟩
  | 4, h => cases h; exact ⟨ji_mem ji_4, ⟨tyX4, tyX4_ok⟩, nmX4⟩
  | 5, h => cases h; exact ⟨ji_mem ji_5, ⟨tyX5, tyX5_ok⟩, nmX5⟩
  | 6, h => cases h; exact ⟨ji_mem ji_6, ⟨tyX6, tyX6_ok⟩, nmX6⟩
  | 7, h => cases h; exact ⟨ji_mem ji_7, ⟨tyX7, tyX7_ok⟩, nmX7⟩
  | 8, h => cases h; exact ⟨ji_mem ji_8, ⟨tyX8, tyX8_ok⟩, nmX8⟩
  | 9, h => cases h; exact ⟨ji_mem ji_9, ⟨tyX9, tyX9_ok⟩, nmX9⟩
  | 10, h => cases h; exact ⟨ji_mem ji_10, ⟨tyX10, tyX10_ok⟩, nmX10⟩
  | 11, h => cases h; exact ⟨ji_mem ji_11, ⟨tyX11, tyX11_ok⟩, nmX11⟩
  | 12, h => cases h; exact ⟨ji_mem ji_12, ⟨tyX12, tyX12_ok⟩, nmX12⟩
  | 13, h => cases h; exact ⟨ji_mem ji_13, ⟨tyX13, tyX13_ok⟩, nmX13⟩
  | n + 14, h => exact absurd h (by simp [jp_cl])
theorem jp_nsok : jw_nsok jp_Ns := by
  intro w hw
  simp only [jp_Ns, List.mem_cons, List.not_mem_nil, or_false] at hw
  rcases hw with rfl | rfl | rfl | rfl | rfl | rfl | rfl | rfl | rfl | rfl | rfl | rfl | rfl | rfl | rfl | rfl | rfl | rfl | rfl | rfl | rfl | rfl | rfl | rfl | rfl | rfl | rfl | rfl | rfl | rfl | rfl
  all_goals first | exact Or.inl ⟨_, _, _, _, rfl⟩ | exact Or.inr ⟨_, _, rfl⟩
theorem jp_asg : jw_asg jp_cl jp_Ns := by
  refine ⟨fun r h => by cases h; rfl, fun cj r hc h => ?_⟩
  rcases hc with rfl | rfl | rfl | rfl | rfl | rfl
  · cases h; exact Or.inr (List.mem_of_getElem? (i := 30) rfl)
  · cases h; exact Or.inr (List.mem_of_getElem? (i := 28) rfl)
  · cases h; exact Or.inr (List.mem_of_getElem? (i := 27) rfl)
  · cases h; exact Or.inr (List.mem_of_getElem? (i := 26) rfl)
  · cases h; exact Or.inl rfl
  · cases h; exact Or.inr (List.mem_of_getElem? (i := 29) rfl)
section LJ
variable {s : State} {args : Array Value}
set_option maxRecDepth 100000 in
/-- the classes' numbers and slots -/
theorem lj_cls (hts : ∀ w ∈ lw_tbl, w.before args s = true) : ∃ D : va_G, ∀ (c : Nat) (q : vw_C), jp_cl[c]? = some q → u_Kn s q.1 q.2.1 q.2.2 (D.1 c) (D.2 c) := by
  obtain ⟨c0, i0, k0⟩ := u_known (C := RX0) (T := TX0) (N := 0) (n := 0) hts (fun w hw => lj_sub w (ji_mem ji_0 w hw)) (hts (.instantiable RX0 0) (List.mem_of_getElem? (i := 251) (by decide +kernel)))
  obtain ⟨c1, i1, k1⟩ := u_known (C := RX1) (T := TX1) (N := 0) (n := 0) hts (fun w hw => lj_sub w (ji_mem ji_1 w hw)) (hts (.instantiable RX1 0) (List.mem_of_getElem? (i := 237) (by decide +kernel)))
  obtain ⟨c2, i2, k2⟩ := u_known (C := RX2) (T := TX2) (N := 0) (n := 0) hts (fun w hw => lj_sub w (ji_mem ji_2 w hw)) (hts (.instantiable RX2 0) (List.mem_of_getElem? (i := 230) (by decide +kernel)))
  obtain ⟨c3, i3, k3⟩ := u_known (C := RX3) (T := TX3) (N := 11) (n := 11) hts (fun w hw => lj_sub w (ji_mem ji_3 w hw)) (hts (.instantiable RX3 11) (List.mem_of_getElem? (i := 422) (by decide +kernel)))
  obtain ⟨c4, i4, k4⟩ := u_known (C := RX4) (T := TX4) (N := 0) (n := 0) hts (fun w hw => lj_sub w (ji_mem ji_4 w hw)) (hts (.instantiable RX4 0) (List.mem_of_getElem? (i := 223) (by decide +kernel)))
  obtain ⟨c5, i5, k5⟩ := u_known (C := RX5) (T := TX5) (N := 12) (n := 12) hts (fun w hw => lj_sub w (ji_mem ji_5 w hw)) (hts (.instantiable RX5 12) (List.mem_of_getElem? (i := 366) (by decide +kernel)))
  obtain ⟨c6, i6, k6⟩ := u_known (C := RX6) (T := TX6) (N := 5) (n := 5) hts (fun w hw => lj_sub w (ji_mem ji_6 w hw)) (hts (.instantiable RX6 5) (List.mem_of_getElem? (i := 182) (by decide +kernel)))
  obtain ⟨c7, i7, k7⟩ := u_known (C := RX7) (T := TX7) (N := 6) (n := 6) hts (fun w hw => lj_sub w (ji_mem ji_7 w hw)) (hts (.instantiable RX7 6) (List.mem_of_getElem? (i := 337) (by decide +kernel)))
  obtain ⟨c8, i8, k8⟩ := u_known (C := RX8) (T := TX8) (N := 10) (n := 10) hts (fun w hw => lj_sub w (ji_mem ji_8 w hw)) (hts (.instantiable RX8 10) (List.mem_of_getElem? (i := 141) (by decide +kernel)))
  obtain ⟨c9, i9, k9⟩ := u_known (C := RX9) (T := TX9) (N := 19) (n := 19) hts (fun w hw => lj_sub w (ji_mem ji_9 w hw)) (hts (.instantiable RX9 19) (List.mem_of_getElem? (i := 133) (by decide +kernel)))
  obtain ⟨c10, i10, k10⟩ := u_known (C := RX10) (T := TX10) (N := 0) (n := 0) hts (fun w hw => lj_sub w (ji_mem ji_10 w hw)) (hts (.instantiable RX10 0) (List.mem_of_getElem? (i := 216) (by decide +kernel)))
  obtain ⟨c11, i11, k11⟩ := u_known (C := RX11) (T := TX11) (N := 0) (n := 0) hts (fun w hw => lj_sub w (ji_mem ji_11 w hw)) (hts (.instantiable RX11 0) (List.mem_of_getElem? (i := 244) (by decide +kernel)))
  obtain ⟨c12, i12, k12⟩ := u_known (C := RX12) (T := TX12) (N := 8) (n := 8) hts (fun w hw => lj_sub w (ji_mem ji_12 w hw)) (hts (.instantiable RX12 8) (List.mem_of_getElem? (i := 125) (by decide +kernel)))
  obtain ⟨c13, i13, k13⟩ := u_known (C := RX13) (T := TX13) (N := 42) (n := 42) hts (fun w hw => lj_sub w (ji_mem ji_13 w hw)) (hts (.instantiable RX13 42) (List.mem_of_getElem? (i := 1299) (by decide +kernel)))
  refine ⟨(fun k => match k with | 0 => c0 | 1 => c1 | 2 => c2 | 3 => c3 | 4 => c4 | 5 => c5 | 6 => c6 | 7 => c7 | 8 => c8 | 9 => c9 | 10 => c10 | 11 => c11 | 12 => c12 | _ => c13, fun k => match k with | 0 => i0 | 1 => i1 | 2 => i2 | 3 => i3 | 4 => i4 | 5 => i5 | 6 => i6 | 7 => i7 | 8 => i8 | 9 => i9 | 10 => i10 | 11 => i11 | 12 => i12 | _ => i13), fun c q h => ?_⟩
  match c, h with
  | 0, h => cases h; exact k0
  | 1, h => cases h; exact k1
  | 2, h => cases h; exact k2
  | 3, h => cases h; exact k3
  | 4, h => cases h; exact k4
  | 5, h => cases h; exact k5
  | 6, h => cases h; exact k6
  | 7, h => cases h; exact k7
  | 8, h => cases h; exact k8
  | 9, h => cases h; exact k9
  | 10, h => cases h; exact k10
  | 11, h => cases h; exact k11
  | 12, h => cases h; exact k12
  | 13, h => cases h; exact k13
  | n + 14, h => exact absurd h (by simp [jp_cl])
set_option maxRecDepth 100000 in
/-- the arrays' classes -/
theorem lj_arr (hts : ∀ w ∈ lw_tbl, w.before args s = true) : ∃ cy : Nat → ClassId, ∀ (k : Nat) (q : ClassId × FieldType), (jw_tys cy)[k]? = some q → ArrOfT s q.1 q.2 ∧ va_RA s q.1 q.2 := by
  obtain ⟨c0, k0, m0, a1, a2, a3⟩ := Cond.arrayClass_spec (first := s) (o := none) (idx := []) (hts (.arrayClass .int) (List.mem_of_getElem? (i := 180) (by decide +kernel)))
  obtain ⟨c1, k1, m1, b1, b2, b3⟩ := Cond.arrayClass_spec (first := s) (o := none) (idx := []) (hts (.arrayClass .long) (List.mem_of_getElem? (i := 1431) (by decide +kernel)))
  obtain ⟨m2, c2, k2, d1, d2, d3, d4, d5⟩ := Cond.arrayOver_spec (first := s) (o := none) (idx := []) (hts (.arrayOver (.object "ShadowSchool$Progress")) (List.mem_of_getElem? (i := 372) (by decide +kernel)))
  obtain ⟨m3, c3, k3, e1, e2, e3, e4, e5⟩ := Cond.arrayOver_spec (first := s) (o := none) (idx := []) (hts (.arrayOver (.object "ShadowSchool$Shade")) (List.mem_of_getElem? (i := 215) (by decide +kernel)))
  obtain ⟨m4, c4, k4, f1, f2, f3, f4, f5⟩ := arrayOverA_spec (first := s) (o := none) (idx := []) (hts (.arrayOver (.array .int)) (List.mem_of_getElem? (i := 139) (by decide +kernel)))
  refine ⟨fun k => match k with | 0 => c0 | 1 => c1 | 2 => c2 | 3 => c3 | _ => c4, fun k q h => ?_⟩
  match k, h with
  | 0, h => cases h; exact ⟨fun n z => ⟨(fun k h => by cases h), k0, a2, m0, a3⟩, a1⟩
  | 1, h => cases h; exact ⟨fun n z => ⟨(fun k h => by cases h), k1, b2, m1, b3⟩, b1⟩
  | 2, h => cases h; exact ⟨fun n z => ⟨(fun k h => by cases h), k2, d3, m2, d4⟩, k2, m2, d3, d4, d1, d5⟩
  | 3, h => cases h; exact ⟨fun n z => ⟨(fun k h => by cases h), k3, e3, m3, e4⟩, k3, m3, e3, e4, e1, e5⟩
  | 4, h => cases h; exact ⟨fun n z => ⟨(fun k h => by cases h), k4, f3, m4, f4⟩, f5⟩
  | n + 5, h => exact absurd h (by simp [jw_tys])
theorem lj_K (hts : ∀ w ∈ lw_tbl, w.before args s = true) : ∃ (D : va_G) (cy : Nat → ClassId), va_K D jp_cl (jw_tys cy) s := by
  obtain ⟨D, hD⟩ := lj_cls hts
  obtain ⟨cy, hc⟩ := lj_arr hts
  exact ⟨D, cy, hD, hc⟩
set_option maxRecDepth 100000 in
theorem lj_nsm : jp_pl lw_tbl jp_Ns [134, 142, 183, 217, 224, 227, 231, 234, 238, 241, 245, 248, 252, 255, 335, 338, 343, 367, 373, 423, 574, 782, 831, 872, 996, 1291, 2006, 2007, 2008, 2009, 2010] = true := by decide +kernel
set_option maxRecDepth 100000 in
/-- the words that contracts carry -/
theorem lj_N (hts : ∀ w ∈ lw_tbl, w.before args s = true) : jw_nw jp_Ns s := by
  refine ⟨fun w hw => ?_, va_AO.of (hts (.arrayOver (.object "ShadowSchool$Progress")) (List.mem_of_getElem? (i := 372) (by decide +kernel))), va_AO.of (hts (.arrayOver (.object "ShadowSchool$Shade")) (List.mem_of_getElem? (i := 215) (by decide +kernel))), ?_⟩
  · have h1 := hts w (jp_pl_ok lj_nsm w hw)
    rcases jp_nsok w hw with ⟨a, i, x, k, rfl⟩ | ⟨C, T, rfl⟩
    · exact va_Nw.of rfl h1
    · exact va_Nw.of rfl h1
  · exact over_moved (Vm.Alike.refl s.vm) (hts (.arrayOver (.array .int)) (List.mem_of_getElem? (i := 139) (by decide +kernel)))
set_option maxRecDepth 100000 in
theorem lj_self : ∀ j : Nat, j < 6 → Cond.eq (.elem (Term.static "ShadowSchool" "SELF_AND_ABOVE" "[I") (.int (Int32.ofNat j))) (.int (jw_tab.getD j 0)) ∈ flatC (Jvm.Cond.and given_1 narrow_1) := by decide +kernel
set_option maxRecDepth 100000 in
theorem lj_txt : ∀ j : Nat, j < 103 → Cond.eq (.elem (Term.field (Term.string "ShadowSchool$Reader" 63) "java/lang/String" "value" "[B") (.int (Int32.ofNat j))) (.int (jw_txt.getD j 0)) ∈ flatC (Jvm.Cond.and given_1 narrow_1) := by decide +kernel
set_option maxRecDepth 100000 in
/-- the world's outside at the start -/
theorem lj_X (hts : ∀ w ∈ lw_tbl, w.before args s = true) (hgv : (Jvm.Cond.and given_1 narrow_1).before args s = true) : ∃ aself astr abyt : Nat, ∀ α : Nat → Nat, α jw_self = aself → α jw_str = astr → α (jw_str + 2) = abyt → jw_X α (fun q => s.heap.size ≤ q) s s.heap := by
  have hs := flat_of_before _ hgv
  have hA : ∀ a : Nat, a < s.heap.size → ¬ (fun q => s.heap.size ≤ q) a := fun a h1 h2 => by
    have h2 : s.heap.size ≤ a := h2
    omega
  obtain ⟨t, ht, hT⟩ := va_Tof (tm := (Term.static "ShadowSchool" "SELF_AND_ABOVE" "[I")) (ty := .int) (N := 6) (f := fun j => .int (jw_tab.getD j 0)) (A := fun q => s.heap.size ≤ q) (by decide) (hs (Cond.arrayOf (Term.static "ShadowSchool" "SELF_AND_ABOVE" "[I") .int) (by decide +kernel)) (va_eqt (hs (Cond.eq (.length (Term.static "ShadowSchool" "SELF_AND_ABOVE" "[I")) (.int 6)) (by decide +kernel))) (fun j hj => va_eqt (hs _ (lj_self j hj))) hA
  have hZ := va_Zof (A := fun q => s.heap.size ≤ q) (hts (.laysStatic "ShadowSchool" "SELF_AND_ABOVE" "[I") (List.mem_of_getElem? (i := 578) (by decide +kernel))) (hts (.initialized "ShadowSchool") (List.mem_of_getElem? (i := 102) (by decide +kernel))) ht hA
  obtain ⟨adK, adV, hV, hE⟩ := vk_Sof (args := args) (s := s) (N := 1) (tm := fun _ => Term.string "ShadowSchool$Reader" 63) (len := [103]) (byt := [jw_txt]) (A := fun q => s.heap.size ≤ q)
    (fun i hi => by rw [show i = 0 by omega]; decide) (fun i hi => hs (Cond.exactly (Term.string "ShadowSchool$Reader" 63) "java/lang/String") (by decide +kernel)) (fun i hi => hs (Cond.eq (.field (Term.string "ShadowSchool$Reader" 63) "java/lang/String" "coder" "B") (.int 0)) (by decide +kernel))
    (fun i hi => hs (Cond.arrayOf (Term.field (Term.string "ShadowSchool$Reader" 63) "java/lang/String" "value" "[B") .byte) (by decide +kernel)) (fun i hi => by rw [show i = 0 by omega]; exact hs (Cond.eq (.length (Term.field (Term.string "ShadowSchool$Reader" 63) "java/lang/String" "value" "[B")) (.int 103)) (by decide +kernel)) (fun i hi j hj => by
      have e : i = 0 := by omega
      subst e
      exact hs _ (lj_txt j hj)) (fun i j hi hj hn => absurd (show i = j by omega) hn) hA
  obtain ⟨v1, v2, v3, v4⟩ := hV.1 0 (by omega)
  have hC := va_Zof (A := fun q => s.heap.size ≤ q) (hts (.laysStatic "java/lang/String" "COMPACT_STRINGS" "Z") (List.mem_of_getElem? (i := 727) (by decide +kernel))) (hts (.initialized "java/lang/String") (List.mem_of_getElem? (i := 119) (by decide +kernel))) (va_eqi (hs (Cond.eq (.static "java/lang/String" "COMPACT_STRINGS" "Z") (.int 1)) (by decide +kernel))) hA
  have hF := va_Zqof (A := fun q => s.heap.size ≤ q) (hts (.laysStatic "jdk/internal/util/Preconditions" "SIOOBE_FORMATTER" "Ljava/util/function/BiFunction;") (List.mem_of_getElem? (i := 743) (by decide +kernel))) (hts (.initialized "jdk/internal/util/Preconditions") (List.mem_of_getElem? (i := 121) (by decide +kernel))) (hs (Cond.isRef (.static "jdk/internal/util/Preconditions" "SIOOBE_FORMATTER" "Ljava/util/function/BiFunction;")) (by decide +kernel)) hA
  refine ⟨t, adK 0, adV 0, fun α e1 e2 e3 => ?_⟩
  unfold jw_X jw_XS
  rw [e1, e2, e3]
  exact ⟨⟨vk_R.of (hts (.stringRef "ShadowSchool$Reader" 63 jw_tx) (List.mem_of_getElem? (i := 717) (by decide +kernel))) (hE 0 (by omega)), v1, v2, v3, v4, hC, hF⟩, hZ, hT⟩
end LJ
