/-! ===== the String constant: length and charAt, by contract ===== -/
theorem sx_mem {w cd : Cond} (i : Nat) (h : lw_tbl[i]? = some w) (hg : goodWord w = true) : w ∈ cd :: jp_Tg := List.mem_cons_of_mem _ (List.mem_filter.mpr ⟨List.mem_of_getElem? h, hg⟩)
theorem sx_memT {w : Cond} (i : Nat) (h : lw_tbl[i]? = some w) (hg : goodWord w = true) : w ∈ jp_Tg := List.mem_filter.mpr ⟨List.mem_of_getElem? h, hg⟩
theorem sx_goodT : ∀ w ∈ jp_Tg, goodWord w = true := fun w hw => (List.mem_filter.mp hw).2
/-- what a method of the String constant finds, and leaves -/
def sx_P (α : Nat → Nat) (A : Nat → Prop) (sz : Nat) : State → Prop := fun U => U.heap.size = sz ∧ jw_X α A U U.heap
def sx_Q (v : Option Value) : Array Value → State → Outcome → State → Prop := fun _ st oc t => oc = .returned v ∧ t.heap = st.heap
section SXC
variable {p : Program} {l : Launch} {e : Env} {R : Room} {s : State} {m : MethodId} {args : Array Value} {below : List Frame} {meth : Method} {c : Code} {H : Heap} {cells slots : Nat} {Qf : State → Prop} {ls : Array Slot}
theorem sx_callh {pc : Nat} {rest st0 : List Value} {v : Option Value} {a : Array Value} (hr : va_Run p l e R s m args below meth c H [] cells slots 0 0 (F0 m pc ls st0) rest (sx_Q v a) (fun _ => False))
    (kk : W p l e R s m args below meth c H [] cells slots Qf (F0 m (pc + 3) ls (v.toList ++ rest))) : W p l e R s m args below meth c H [] cells slots Qf (F0 m pc ls st0) := by
  intro T hT X
  obtain ⟨v1, st₀, t, T', L, h0, X', hL, e1, e2, ⟨hv, hh⟩, st⟩ := hr T hT X
  cases hv
  have hTh : T'.heap = H := by rw [e1, hh, h0]
  have hLn : L = [] := List.eq_nil_iff_forall_not_mem.mpr (fun q hq => hL q hq)
  rw [hLn] at X'
  obtain ⟨t2, a1, b1⟩ := kk T' hTh X'
  exact ⟨t2, st t2 a1, b1⟩
end SXC
theorem sx_blind {α : Nat → Nat} {A : Nat → Prop} {sz : Nat} (av : List Value) : FrameBlind (va_Pc av (sx_P α A sz)) := fun a U g mk q => ⟨q.1, q.2.1, jw_X_same (u := U) (U := U.calling g mk a) q.2.2 rfl⟩
def sy_len : MethodName := ⟨"java/lang/String", "length", "()I"⟩
def sc_len : Cond := Cond.code sy_len prog_18_method_54_code 1 (some .int)
theorem sd_len_0 : decode prog_18_method_54_code 0 = .ok (.aload_n 0, 1) := by decide +kernel
theorem sd_len_1 : decode prog_18_method_54_code 1 = .ok (.getfield 9, 3) := by decide +kernel
theorem sd_len_4 : decode prog_18_method_54_code 4 = .ok (.arraylength, 1) := by decide +kernel
theorem sd_len_5 : decode prog_18_method_54_code 5 = .ok (.aload_n 0, 1) := by decide +kernel
theorem sd_len_6 : decode prog_18_method_54_code 6 = .ok (.invokevirtual 335, 3) := by decide +kernel
theorem sd_len_9 : decode prog_18_method_54_code 9 = .ok (.ishr, 1) := by decide +kernel
theorem sd_len_10 : decode prog_18_method_54_code 10 = .ok (.ireturn, 1) := by decide +kernel
def sy_cod : MethodName := ⟨"java/lang/String", "coder", "()B"⟩
def sc_cod : Cond := Cond.code sy_cod prog_18_method_152_code 1 (some .byte)
theorem sd_cod_0 : decode prog_18_method_152_code 0 = .ok (.getstatic 38, 3) := by decide +kernel
theorem sd_cod_3 : decode prog_18_method_152_code 3 = .ok (.ifCond .eq 10, 3) := by decide +kernel
theorem sd_cod_6 : decode prog_18_method_152_code 6 = .ok (.aload_n 0, 1) := by decide +kernel
theorem sd_cod_7 : decode prog_18_method_152_code 7 = .ok (.getfield 15, 3) := by decide +kernel
theorem sd_cod_10 : decode prog_18_method_152_code 10 = .ok (.goto 4, 3) := by decide +kernel
theorem sd_cod_13 : decode prog_18_method_152_code 13 = .ok (.iconst 1, 1) := by decide +kernel
theorem sd_cod_14 : decode prog_18_method_152_code 14 = .ok (.ireturn, 1) := by decide +kernel
def sy_lat : MethodName := ⟨"java/lang/String", "isLatin1", "()Z"⟩
def sc_lat : Cond := Cond.code sy_lat prog_18_method_154_code 1 (some .boolean)
theorem sd_lat_0 : decode prog_18_method_154_code 0 = .ok (.getstatic 38, 3) := by decide +kernel
theorem sd_lat_3 : decode prog_18_method_154_code 3 = .ok (.ifCond .eq 14, 3) := by decide +kernel
theorem sd_lat_6 : decode prog_18_method_154_code 6 = .ok (.aload_n 0, 1) := by decide +kernel
theorem sd_lat_7 : decode prog_18_method_154_code 7 = .ok (.getfield 15, 3) := by decide +kernel
theorem sd_lat_10 : decode prog_18_method_154_code 10 = .ok (.ifCond .ne 7, 3) := by decide +kernel
theorem sd_lat_13 : decode prog_18_method_154_code 13 = .ok (.iconst 1, 1) := by decide +kernel
theorem sd_lat_14 : decode prog_18_method_154_code 14 = .ok (.goto 4, 3) := by decide +kernel
theorem sd_lat_17 : decode prog_18_method_154_code 17 = .ok (.iconst 0, 1) := by decide +kernel
theorem sd_lat_18 : decode prog_18_method_154_code 18 = .ok (.ireturn, 1) := by decide +kernel
def sy_chr : MethodName := ⟨"java/lang/String", "charAt", "(I)C"⟩
def sc_chr : Cond := Cond.code sy_chr prog_18_method_56_code 2 (some .char)
theorem sd_chr_0 : decode prog_18_method_56_code 0 = .ok (.aload_n 0, 1) := by decide +kernel
theorem sd_chr_1 : decode prog_18_method_56_code 1 = .ok (.invokevirtual 492, 3) := by decide +kernel
theorem sd_chr_4 : decode prog_18_method_56_code 4 = .ok (.ifCond .eq 12, 3) := by decide +kernel
theorem sd_chr_7 : decode prog_18_method_56_code 7 = .ok (.aload_n 0, 1) := by decide +kernel
theorem sd_chr_8 : decode prog_18_method_56_code 8 = .ok (.getfield 9, 3) := by decide +kernel
theorem sd_chr_11 : decode prog_18_method_56_code 11 = .ok (.iload_n 1, 1) := by decide +kernel
theorem sd_chr_12 : decode prog_18_method_56_code 12 = .ok (.invokestatic 495, 3) := by decide +kernel
theorem sd_chr_15 : decode prog_18_method_56_code 15 = .ok (.ireturn, 1) := by decide +kernel
theorem sd_chr_16 : decode prog_18_method_56_code 16 = .ok (.aload_n 0, 1) := by decide +kernel
theorem sd_chr_17 : decode prog_18_method_56_code 17 = .ok (.getfield 9, 3) := by decide +kernel
theorem sd_chr_20 : decode prog_18_method_56_code 20 = .ok (.iload_n 1, 1) := by decide +kernel
theorem sd_chr_21 : decode prog_18_method_56_code 21 = .ok (.invokestatic 498, 3) := by decide +kernel
theorem sd_chr_24 : decode prog_18_method_56_code 24 = .ok (.ireturn, 1) := by decide +kernel
def sy_ch1 : MethodName := ⟨"java/lang/StringLatin1", "charAt", "([BI)C"⟩
def sc_ch1 : Cond := Cond.code sy_ch1 prog_19_method_2_code 2 (some .char)
theorem sd_ch1_0 : decode prog_19_method_2_code 0 = .ok (.iload_n 1, 1) := by decide +kernel
theorem sd_ch1_1 : decode prog_19_method_2_code 1 = .ok (.aload_n 0, 1) := by decide +kernel
theorem sd_ch1_2 : decode prog_19_method_2_code 2 = .ok (.arraylength, 1) := by decide +kernel
theorem sd_ch1_3 : decode prog_19_method_2_code 3 = .ok (.invokestatic 9, 3) := by decide +kernel
theorem sd_ch1_6 : decode prog_19_method_2_code 6 = .ok (.aload_n 0, 1) := by decide +kernel
theorem sd_ch1_7 : decode prog_19_method_2_code 7 = .ok (.iload_n 1, 1) := by decide +kernel
theorem sd_ch1_8 : decode prog_19_method_2_code 8 = .ok (.baload, 1) := by decide +kernel
theorem sd_ch1_9 : decode prog_19_method_2_code 9 = .ok (.sipush 255, 3) := by decide +kernel
theorem sd_ch1_12 : decode prog_19_method_2_code 12 = .ok (.iand, 1) := by decide +kernel
theorem sd_ch1_13 : decode prog_19_method_2_code 13 = .ok (.i2c, 1) := by decide +kernel
theorem sd_ch1_14 : decode prog_19_method_2_code 14 = .ok (.ireturn, 1) := by decide +kernel
def sy_chk : MethodName := ⟨"java/lang/String", "checkIndex", "(II)V"⟩
def sc_chk : Cond := Cond.code sy_chk prog_18_method_155_code 2 none
theorem sd_chk_0 : decode prog_18_method_155_code 0 = .ok (.iload_n 0, 1) := by decide +kernel
theorem sd_chk_1 : decode prog_18_method_155_code 1 = .ok (.iload_n 1, 1) := by decide +kernel
theorem sd_chk_2 : decode prog_18_method_155_code 2 = .ok (.getstatic 1053, 3) := by decide +kernel
theorem sd_chk_5 : decode prog_18_method_155_code 5 = .ok (.invokestatic 1059, 3) := by decide +kernel
theorem sd_chk_8 : decode prog_18_method_155_code 8 = .ok (.pop, 1) := by decide +kernel
theorem sd_chk_9 : decode prog_18_method_155_code 9 = .ok (.return_, 1) := by decide +kernel
def sy_prc : MethodName := ⟨"jdk/internal/util/Preconditions", "checkIndex", "(IILjava/util/function/BiFunction;)I"⟩
def sc_prc : Cond := Cond.code sy_prc prog_23_method_11_code 3 (some .int)
theorem sd_prc_0 : decode prog_23_method_11_code 0 = .ok (.iload_n 0, 1) := by decide +kernel
theorem sd_prc_1 : decode prog_23_method_11_code 1 = .ok (.ifCond .lt 8, 3) := by decide +kernel
theorem sd_prc_4 : decode prog_23_method_11_code 4 = .ok (.iload_n 0, 1) := by decide +kernel
theorem sd_prc_5 : decode prog_23_method_11_code 5 = .ok (.iload_n 1, 1) := by decide +kernel
theorem sd_prc_6 : decode prog_23_method_11_code 6 = .ok (.if_icmp .lt 10, 3) := by decide +kernel
theorem sd_prc_9 : decode prog_23_method_11_code 9 = .ok (.aload_n 2, 1) := by decide +kernel
theorem sd_prc_10 : decode prog_23_method_11_code 10 = .ok (.iload_n 0, 1) := by decide +kernel
theorem sd_prc_11 : decode prog_23_method_11_code 11 = .ok (.iload_n 1, 1) := by decide +kernel
theorem sd_prc_12 : decode prog_23_method_11_code 12 = .ok (.invokestatic 95, 3) := by decide +kernel
theorem sd_prc_16 : decode prog_23_method_11_code 16 = .ok (.iload_n 0, 1) := by decide +kernel
theorem sd_prc_17 : decode prog_23_method_11_code 17 = .ok (.ireturn, 1) := by decide +kernel
set_option maxRecDepth 100000 in
theorem sg_cod_335 (cd : Cond) : GoodIn (cd :: jp_Tg) (wsV "java/lang/String" 335 "java/lang/String" sy_cod (sc_cod :: jp_Tg)) := jw_goodIn (fun w hw => List.mem_cons_of_mem _ hw) sx_goodT (fun w hw => by
  rcases List.mem_append.mp hw with q | q
  · simp only [List.mem_cons, List.not_mem_nil, or_false] at q
    rcases q with q | q | q | q
    · rw [q]; exact sx_memT 722 (w := .methodLink "java/lang/String" 335 sy_cod) (by decide +kernel) (by decide +kernel)
    · rw [q]; exact sx_memT 723 (w := .instanceMethod sy_cod) (by decide +kernel) (by decide +kernel)
    · rw [q]; exact sx_memT 724 (w := .selects "java/lang/String" sy_cod sy_cod) (by decide +kernel) (by decide +kernel)
    · rw [q]; exact sx_memT 119 (w := .initialized "java/lang/String") (by decide +kernel) (by decide +kernel)
  · rcases List.mem_cons.mp q with q | q
    · rw [q]; exact sx_memT 725 (w := sc_cod) (by decide +kernel) (by decide +kernel)
    · exact q)
set_option maxRecDepth 100000 in
theorem sg_lat_492 (cd : Cond) : GoodIn (cd :: jp_Tg) (wsV "java/lang/String" 492 "java/lang/String" sy_lat (sc_lat :: jp_Tg)) := jw_goodIn (fun w hw => List.mem_cons_of_mem _ hw) sx_goodT (fun w hw => by
  rcases List.mem_append.mp hw with q | q
  · simp only [List.mem_cons, List.not_mem_nil, or_false] at q
    rcases q with q | q | q | q
    · rw [q]; exact sx_memT 732 (w := .methodLink "java/lang/String" 492 sy_lat) (by decide +kernel) (by decide +kernel)
    · rw [q]; exact sx_memT 733 (w := .instanceMethod sy_lat) (by decide +kernel) (by decide +kernel)
    · rw [q]; exact sx_memT 734 (w := .selects "java/lang/String" sy_lat sy_lat) (by decide +kernel) (by decide +kernel)
    · rw [q]; exact sx_memT 119 (w := .initialized "java/lang/String") (by decide +kernel) (by decide +kernel)
  · rcases List.mem_cons.mp q with q | q
    · rw [q]; exact sx_memT 735 (w := sc_lat) (by decide +kernel) (by decide +kernel)
    · exact q)
set_option maxRecDepth 100000 in
theorem sg_ch1_495 (cd : Cond) : GoodIn (cd :: jp_Tg) (va_wsS "java/lang/String" 495 sy_ch1 (sc_ch1 :: jp_Tg)) := jw_goodIn (fun w hw => List.mem_cons_of_mem _ hw) sx_goodT (fun w hw => by
  rcases List.mem_append.mp hw with q | q
  · simp only [List.mem_cons, List.not_mem_nil, or_false] at q
    rcases q with q | q | q
    · rw [q]; exact sx_memT 736 (w := .methodLink "java/lang/String" 495 sy_ch1) (by decide +kernel) (by decide +kernel)
    · rw [q]; exact sx_memT 737 (w := .static sy_ch1) (by decide +kernel) (by decide +kernel)
    · rw [q]; exact sx_memT 120 (w := .initialized "java/lang/StringLatin1") (by decide +kernel) (by decide +kernel)
  · rcases List.mem_cons.mp q with q | q
    · rw [q]; exact sx_memT 738 (w := sc_ch1) (by decide +kernel) (by decide +kernel)
    · exact q)
set_option maxRecDepth 100000 in
theorem sg_chk_9 (cd : Cond) : GoodIn (cd :: jp_Tg) (va_wsS "java/lang/StringLatin1" 9 sy_chk (sc_chk :: jp_Tg)) := jw_goodIn (fun w hw => List.mem_cons_of_mem _ hw) sx_goodT (fun w hw => by
  rcases List.mem_append.mp hw with q | q
  · simp only [List.mem_cons, List.not_mem_nil, or_false] at q
    rcases q with q | q | q
    · rw [q]; exact sx_memT 739 (w := .methodLink "java/lang/StringLatin1" 9 sy_chk) (by decide +kernel) (by decide +kernel)
    · rw [q]; exact sx_memT 740 (w := .static sy_chk) (by decide +kernel) (by decide +kernel)
    · rw [q]; exact sx_memT 119 (w := .initialized "java/lang/String") (by decide +kernel) (by decide +kernel)
  · rcases List.mem_cons.mp q with q | q
    · rw [q]; exact sx_memT 741 (w := sc_chk) (by decide +kernel) (by decide +kernel)
    · exact q)
set_option maxRecDepth 100000 in
theorem sg_prc_1059 (cd : Cond) : GoodIn (cd :: jp_Tg) (va_wsS "java/lang/String" 1059 sy_prc (sc_prc :: jp_Tg)) := jw_goodIn (fun w hw => List.mem_cons_of_mem _ hw) sx_goodT (fun w hw => by
  rcases List.mem_append.mp hw with q | q
  · simp only [List.mem_cons, List.not_mem_nil, or_false] at q
    rcases q with q | q | q
    · rw [q]; exact sx_memT 744 (w := .methodLink "java/lang/String" 1059 sy_prc) (by decide +kernel) (by decide +kernel)
    · rw [q]; exact sx_memT 745 (w := .static sy_prc) (by decide +kernel) (by decide +kernel)
    · rw [q]; exact sx_memT 121 (w := .initialized "jdk/internal/util/Preconditions") (by decide +kernel) (by decide +kernel)
  · rcases List.mem_cons.mp q with q | q
    · rw [q]; exact sx_memT 746 (w := sc_prc) (by decide +kernel) (by decide +kernel)
    · exact q)
theorem sp_cod : jw_par sy_cod.desc 0 = true := by decide +kernel
theorem sp_lat : jw_par sy_lat.desc 0 = true := by decide +kernel
theorem sp_ch1 : jw_par sy_ch1.desc 2 = true := by decide +kernel
theorem sp_chk : jw_par sy_chk.desc 2 = true := by decide +kernel
theorem sp_prc : jw_par sy_prc.desc 3 = true := by decide +kernel
set_option maxRecDepth 100000 in
theorem sx_cod {l : Launch} {α : Nat → Nat} {A : Nat → Prop} {sz d : Nat} : Met l sy_cod (sc_cod :: jp_Tg) (jw_rm d 0 0) (va_Pc [.ref (α jw_str)] (sx_P α A sz)) (sx_Q (some (.int 0))) 0 0 (fun _ => False) := by
  refine Met.ofW (cc := prog_18_method_152_code) (maxL := 1) (ret := some .byte) (by decide) rfl ?_
  intro p e s m args below meth c s₁ B hml hv
  obtain ⟨rfl, hsz, hX⟩ := hv
  subst hsz
  have hx := B.exec
  have hb := B.bytes
  have hr := B.returns
  have hlk := B.notSynchronized
  have hts := atoms_spec (ws := sc_cod :: jp_Tg) B.pre
  have hown : s.vm.findClass "java/lang/String" = some m.cls := findClass_of_methodNamed B.named
  have hS : va_S A s.heap s.heap [] := va_S.rf
  have hXS := hX.1
  have hl := lv_entry ([.ref (α jw_str)]) (n := 1) (Nat.le_of_ble_eq_true rfl)
  rw [lg_entry_eq]
  generalize (lg_sl ([.ref (α jw_str)]) ++ List.replicate (1 - (lg_sl ([.ref (α jw_str)])).length) Slot.unset).toArray = ls at hl ⊢
  refine va_gets hx hb hXS.2.2.2.2.2.1 hS hown (hts _ (sx_mem 726 (w := .fieldLink "java/lang/String" 38 "java/lang/String" "COMPACT_STRINGS" "Z") (by decide +kernel) (by decide +kernel))) (fun _ h => h) sd_cod_0 ?_
  refine lv_if_eq (tgt := 13) hx hb sd_cod_3 (by decide) (fun z => absurd z (by decide)) (fun _ => ?_)
  refine lv_aload_n hx hb sd_cod_6 rfl (lv_at hl 0 rfl) ?_
  refine vk_getf hx hb hXS.2.2.1 hS hown (hts _ (sx_mem 2012 (w := .fieldLink "java/lang/String" 15 "java/lang/String" "coder" "B") (by decide +kernel) (by decide +kernel))) (fun _ h => h) sd_cod_7 ?_
  refine lv_goto (tgt := 14) hx hb sd_cod_10 (by decide) ?_
  exact W.zret hx hb hr rfl (fun t ht hW => ⟨rfl, ht⟩) (fun q hq => by cases hq) sd_cod_14 hlk
set_option maxRecDepth 100000 in
theorem sx_lat {l : Launch} {α : Nat → Nat} {A : Nat → Prop} {sz d : Nat} : Met l sy_lat (sc_lat :: jp_Tg) (jw_rm d 0 0) (va_Pc [.ref (α jw_str)] (sx_P α A sz)) (sx_Q (some (.int 1))) 0 0 (fun _ => False) := by
  refine Met.ofW (cc := prog_18_method_154_code) (maxL := 1) (ret := some .boolean) (by decide) rfl ?_
  intro p e s m args below meth c s₁ B hml hv
  obtain ⟨rfl, hsz, hX⟩ := hv
  subst hsz
  have hx := B.exec
  have hb := B.bytes
  have hr := B.returns
  have hlk := B.notSynchronized
  have hts := atoms_spec (ws := sc_lat :: jp_Tg) B.pre
  have hown : s.vm.findClass "java/lang/String" = some m.cls := findClass_of_methodNamed B.named
  have hS : va_S A s.heap s.heap [] := va_S.rf
  have hXS := hX.1
  have hl := lv_entry ([.ref (α jw_str)]) (n := 1) (Nat.le_of_ble_eq_true rfl)
  rw [lg_entry_eq]
  generalize (lg_sl ([.ref (α jw_str)]) ++ List.replicate (1 - (lg_sl ([.ref (α jw_str)])).length) Slot.unset).toArray = ls at hl ⊢
  refine va_gets hx hb hXS.2.2.2.2.2.1 hS hown (hts _ (sx_mem 726 (w := .fieldLink "java/lang/String" 38 "java/lang/String" "COMPACT_STRINGS" "Z") (by decide +kernel) (by decide +kernel))) (fun _ h => h) sd_lat_0 ?_
  refine lv_if_eq (tgt := 17) hx hb sd_lat_3 (by decide) (fun z => absurd z (by decide)) (fun _ => ?_)
  refine lv_aload_n hx hb sd_lat_6 rfl (lv_at hl 0 rfl) ?_
  refine vk_getf hx hb hXS.2.2.1 hS hown (hts _ (sx_mem 2012 (w := .fieldLink "java/lang/String" 15 "java/lang/String" "coder" "B") (by decide +kernel) (by decide +kernel))) (fun _ h => h) sd_lat_7 ?_
  refine lv_if_ne (tgt := 17) hx hb sd_lat_10 (by decide) (fun z => absurd rfl z) (fun _ => ?_)
  refine lv_iconst (v := 1) hx hb sd_lat_13 (by decide) ?_
  refine lv_goto (tgt := 18) hx hb sd_lat_14 (by decide) ?_
  exact W.zret hx hb hr rfl (fun t ht hW => ⟨rfl, ht⟩) (fun q hq => by cases hq) sd_lat_18 hlk
set_option maxRecDepth 100000 in
theorem sx_prc {l : Launch} {α : Nat → Nat} {A : Nat → Prop} {sz d : Nat} {i : Int32} {v : Value} (hv0 : v = .null ∨ ∃ t, v = .ref t) (hi : vp_in i 103) : Met l sy_prc (sc_prc :: jp_Tg) (jw_rm d 0 0) (va_Pc [.int i, .int 103, v] (sx_P α A sz)) (sx_Q (some (.int i))) 0 0 (fun _ => False) := by
  refine Met.ofW (cc := prog_23_method_11_code) (maxL := 3) (ret := some .int) (by decide) rfl ?_
  intro p e s m args below meth c s₁ B hml hv
  obtain ⟨rfl, hsz, hX⟩ := hv
  subst hsz
  have hx := B.exec
  have hb := B.bytes
  have hr := B.returns
  have hlk := B.notSynchronized
  have hts := atoms_spec (ws := sc_prc :: jp_Tg) B.pre
  have hown : s.vm.findClass "jdk/internal/util/Preconditions" = some m.cls := findClass_of_methodNamed B.named
  have hS : va_S A s.heap s.heap [] := va_S.rf
  have hXS := hX.1
  have hl := lv_entry ([.int i, .int 103, v]) (n := 3) (by rcases hv0 with rfl | ⟨t, rfl⟩ <;> exact Nat.le_of_ble_eq_true rfl)
  rw [lg_entry_eq]
  generalize (lg_sl ([.int i, .int 103, v]) ++ List.replicate (3 - (lg_sl ([.int i, .int 103, v])).length) Slot.unset).toArray = ls at hl ⊢
  have h0 : ¬ i < 0 := fun q => hi (Or.inl q)
  have h1 : i < 103 := by
    obtain ⟨j, hj, rfl⟩ := vp_in_of hi (by decide)
    exact nI_lt (a := j) (b := 103) hj (by decide)
  refine lv_iload_n hx hb sd_prc_0 rfl (hl.2.2 (0, .int i) (by simp [lv_args])) ?_
  refine lv_if_lt (tgt := 9) hx hb sd_prc_1 (by decide) (fun z => absurd z h0) (fun _ => ?_)
  refine lv_iload_n hx hb sd_prc_4 rfl (hl.2.2 (0, .int i) (by simp [lv_args])) ?_
  refine lv_iload_n hx hb sd_prc_5 rfl (hl.2.2 (1, .int 103) (by simp [lv_args, Value.category])) ?_
  refine lv_icmp_lt (tgt := 16) hx hb sd_prc_6 (by decide) (fun _ => ?_) (fun z => absurd h1 z)
  refine lv_iload_n hx hb sd_prc_16 rfl (hl.2.2 (0, .int i) (by simp [lv_args])) ?_
  exact W.iret hx hb hr (fun t ht hW => ⟨rfl, ht⟩) (fun q hq => by cases hq) sd_prc_17 hlk
set_option maxRecDepth 100000 in
theorem sx_chk {l : Launch} {α : Nat → Nat} {A : Nat → Prop} {sz d : Nat} {i : Int32} (hd : 1 ≤ d) (hi : vp_in i 103) : Met l sy_chk (sc_chk :: jp_Tg) (jw_rm d 0 0) (va_Pc [.int i, .int 103] (sx_P α A sz)) (sx_Q none) 0 0 (fun _ => False) := by
  refine Met.ofW (cc := prog_18_method_155_code) (maxL := 2) (ret := none) (by decide) rfl ?_
  intro p e s m args below meth c s₁ B hml hv
  obtain ⟨rfl, hsz, hX⟩ := hv
  subst hsz
  have hx := B.exec
  have hb := B.bytes
  have hr := B.returns
  have hlk := B.notSynchronized
  have hts := atoms_spec (ws := sc_chk :: jp_Tg) B.pre
  have hown : s.vm.findClass "java/lang/String" = some m.cls := findClass_of_methodNamed B.named
  have hS : va_S A s.heap s.heap [] := va_S.rf
  have hXS := hX.1
  have hl := lv_entry ([.int i, .int 103]) (n := 2) (Nat.le_of_ble_eq_true rfl)
  rw [lg_entry_eq]
  generalize (lg_sl ([.int i, .int 103]) ++ List.replicate (2 - (lg_sl ([.int i, .int 103])).length) Slot.unset).toArray = ls at hl ⊢
  obtain ⟨d, rfl⟩ : ∃ e, d = e + 1 := ⟨d - 1, by omega⟩
  refine lv_iload_n hx hb sd_chk_0 rfl (lv_at hl 0 rfl) ?_
  refine lv_iload_n hx hb sd_chk_1 rfl (lv_at hl 1 rfl) ?_
  have key : ∀ v : Value, (v = .null ∨ ∃ t, v = .ref t) → W p l e (headSpec (sc_chk :: jp_Tg) (jw_rm (d + 1) 0 0)).room s m [Value.int i, Value.int 103].toArray below meth c s.heap [] 0 0 (MQ below (sx_Q none) [Value.int i, Value.int 103].toArray s 0 0 (fun _ => False)) (F0 m 5 ls [v, .int 103, .int i]) := by
    intro v hv0
    refine sx_callh (va_runS (As := [.int i, .int 103, v]) (rest := []) ⟨hx, hb, hml, hown, hts⟩ (sx_prc (α := α) (A := A) (sz := s.heap.size) (d := d) hv0 hi) (va_cwS 3 hts (sg_prc_1059 _) rfl rfl rfl ⟨by decide, by decide, jw_par_ok sp_prc⟩ ⟨Nat.le_refl _, by show 8 + (3 + 11) + 200 * d ≤ 200 * (d + 1); omega⟩) ⟨sx_blind _, (fun U hU hW => ⟨rfl, by rw [hU], jw_X_go hX (vk_R.warm hW hX.1.1) hW.alike (fun a h1 h2 => by rw [hU]) (fun _ h => h)⟩)⟩ rfl rfl hl.1 rfl (lv_room (Nat.le_of_ble_eq_true rfl)) sd_chk_5 ⟨Nat.le_of_ble_eq_true rfl, Nat.le_of_ble_eq_true rfl⟩) ?_
    refine lv_pop hx hb sd_chk_8 rfl ?_
    exact W.vret hx hb hr (fun t ht hW => ⟨rfl, ht⟩) (fun q hq => by cases hq) sd_chk_9 hlk
  rcases hXS.2.2.2.2.2.2 with hz | ⟨t, hz⟩
  · exact va_gets hx hb hz hS hown (hts _ (sx_mem 742 (w := .fieldLink "java/lang/String" 1053 "jdk/internal/util/Preconditions" "SIOOBE_FORMATTER" "Ljava/util/function/BiFunction;") (by decide +kernel) (by decide +kernel))) (fun _ h => h) sd_chk_2 (key _ (Or.inl rfl))
  · exact va_gets hx hb hz hS hown (hts _ (sx_mem 742 (w := .fieldLink "java/lang/String" 1053 "jdk/internal/util/Preconditions" "SIOOBE_FORMATTER" "Ljava/util/function/BiFunction;") (by decide +kernel) (by decide +kernel))) (fun _ h => h) sd_chk_2 (key _ (Or.inr ⟨t, rfl⟩))
theorem sx_txt : ∀ x ∈ jw_txt, ((x &&& 255).toUInt32 % 65536).toInt32 = x ∧ narrow .char (.int x) = .int x := by decide +kernel
theorem sx_chr_ok {i : Int32} (hi : vp_in i 103) : ((jw_chr i &&& 255).toUInt32 % 65536).toInt32 = jw_chr i ∧ narrow .char (.int (jw_chr i)) = .int (jw_chr i) := by
  obtain ⟨j, hj, rfl⟩ := vp_in_of hi (by decide)
  unfold jw_chr
  rw [nI_clamp (by omega)]
  have hj2 : j < jw_txt.length := hj
  rw [List.getD_eq_getElem?_getD, List.getElem?_eq_getElem hj2]
  exact sx_txt _ (List.getElem_mem hj2)
set_option maxRecDepth 100000 in
theorem sx_ch1 {l : Launch} {α : Nat → Nat} {A : Nat → Prop} {sz d : Nat} {i : Int32} (hd : 2 ≤ d) (hi : vp_in i 103) : Met l sy_ch1 (sc_ch1 :: jp_Tg) (jw_rm d 0 0) (va_Pc [.ref (α (jw_str + 2)), .int i] (sx_P α A sz)) (sx_Q (some (.int (jw_chr i)))) 0 0 (fun _ => False) := by
  refine Met.ofW (cc := prog_19_method_2_code) (maxL := 2) (ret := some .char) (by decide) rfl ?_
  intro p e s m args below meth c s₁ B hml hv
  obtain ⟨rfl, hsz, hX⟩ := hv
  subst hsz
  have hx := B.exec
  have hb := B.bytes
  have hr := B.returns
  have hlk := B.notSynchronized
  have hts := atoms_spec (ws := sc_ch1 :: jp_Tg) B.pre
  have hown : s.vm.findClass "java/lang/StringLatin1" = some m.cls := findClass_of_methodNamed B.named
  have hS : va_S A s.heap s.heap [] := va_S.rf
  have hXS := hX.1
  have hl := lv_entry ([.ref (α (jw_str + 2)), .int i]) (n := 2) (Nat.le_of_ble_eq_true rfl)
  rw [lg_entry_eq]
  generalize (lg_sl ([.ref (α (jw_str + 2)), .int i]) ++ List.replicate (2 - (lg_sl ([.ref (α (jw_str + 2)), .int i])).length) Slot.unset).toArray = ls at hl ⊢
  obtain ⟨d, rfl⟩ : ∃ e, d = e + 1 := ⟨d - 1, by omega⟩
  refine lv_iload_n hx hb sd_ch1_0 rfl (lv_at hl 1 rfl) ?_
  refine lv_aload_n hx hb sd_ch1_1 rfl (lv_at hl 0 rfl) ?_
  refine va_tlen hx hb hXS.2.2.2.2.1 hS (v := 103) (by decide) sd_ch1_2 ?_
  refine sx_callh (va_runS (As := [.int i, .int 103]) (rest := []) ⟨hx, hb, hml, hown, hts⟩ (sx_chk (α := α) (A := A) (sz := s.heap.size) (d := d) (by omega) hi) (va_cwS 2 hts (sg_chk_9 _) rfl rfl rfl ⟨by decide, by decide, jw_par_ok sp_chk⟩ ⟨Nat.le_refl _, by show 8 + (2 + 11) + 200 * d ≤ 200 * (d + 1); omega⟩) ⟨sx_blind _, (fun U hU hW => ⟨rfl, by rw [hU], jw_X_go hX (vk_R.warm hW hX.1.1) hW.alike (fun a h1 h2 => by rw [hU]) (fun _ h => h)⟩)⟩ rfl rfl hl.1 rfl (lv_room (Nat.le_of_ble_eq_true rfl)) sd_ch1_3 ⟨Nat.le_of_ble_eq_true rfl, Nat.le_of_ble_eq_true rfl⟩) ?_
  refine lv_aload_n hx hb sd_ch1_6 rfl (lv_at hl 0 rfl) ?_
  refine lv_iload_n hx hb sd_ch1_7 rfl (lv_at hl 1 rfl) ?_
  refine va_tb hx hb hXS.2.2.2.2.1 hS hi (v := .int (jw_chr i)) rfl sd_ch1_8 ?_
  refine lv_sipush (v := 255) hx hb sd_ch1_9 (by decide) ?_
  refine lv_iand hx hb sd_ch1_12 ?_
  refine lv_i2c hx hb sd_ch1_13 (sx_chr_ok hi).1 ?_
  exact W.zret hx hb hr (sx_chr_ok hi).2 (fun t ht hW => ⟨rfl, ht⟩) (fun q hq => by cases hq) sd_ch1_14 hlk
set_option maxRecDepth 100000 in
theorem sx_chr {l : Launch} {α : Nat → Nat} {A : Nat → Prop} {sz d : Nat} {i : Int32} (hd : 3 ≤ d) (hi : vp_in i 103) : Met l sy_chr (sc_chr :: jp_Tg) (jw_rm d 0 0) (va_Pc [.ref (α jw_str), .int i] (sx_P α A sz)) (sx_Q (some (.int (jw_chr i)))) 0 0 (fun _ => False) := by
  refine Met.ofW (cc := prog_18_method_56_code) (maxL := 2) (ret := some .char) (by decide) rfl ?_
  intro p e s m args below meth c s₁ B hml hv
  obtain ⟨rfl, hsz, hX⟩ := hv
  subst hsz
  have hx := B.exec
  have hb := B.bytes
  have hr := B.returns
  have hlk := B.notSynchronized
  have hts := atoms_spec (ws := sc_chr :: jp_Tg) B.pre
  have hown : s.vm.findClass "java/lang/String" = some m.cls := findClass_of_methodNamed B.named
  have hS : va_S A s.heap s.heap [] := va_S.rf
  have hXS := hX.1
  have hl := lv_entry ([.ref (α jw_str), .int i]) (n := 2) (Nat.le_of_ble_eq_true rfl)
  rw [lg_entry_eq]
  generalize (lg_sl ([.ref (α jw_str), .int i]) ++ List.replicate (2 - (lg_sl ([.ref (α jw_str), .int i])).length) Slot.unset).toArray = ls at hl ⊢
  obtain ⟨d, rfl⟩ : ∃ e, d = e + 1 := ⟨d - 1, by omega⟩
  refine lv_aload_n hx hb sd_chr_0 rfl (lv_at hl 0 rfl) ?_
  have hrecv : ∃ cell : Cell, s.heap[α jw_str]? = some cell ∧ cell.vm.isStatics = false ∧ s.vm.findClass "java/lang/String" = some cell.cls := by
    obtain ⟨cell, h1, h2, h3, -⟩ := hXS.2.1
    exact ⟨cell, h1, h2, h3⟩
  refine sx_callh (va_runV (As := []) (rest := []) ⟨hx, hb, hml, hown, hts⟩ (sx_lat (α := α) (A := A) (sz := s.heap.size) (d := d)) (cwV 0 hts (sg_lat_492 _) rfl rfl rfl ⟨rfl, by decide, by decide, jw_par_ok sp_lat⟩ ⟨Nat.le_refl _, by show 8 + (1 + 11) + 200 * d ≤ 200 * (d + 1); omega⟩) ⟨sx_blind _, hrecv, (fun U hU hW => ⟨rfl, by rw [hU], jw_X_go hX (vk_R.warm hW hX.1.1) hW.alike (fun a h1 h2 => by rw [hU]) (fun _ h => h)⟩)⟩ rfl rfl hl.1 rfl (lv_room (Nat.le_of_ble_eq_true rfl)) sd_chr_1 ⟨Nat.le_of_ble_eq_true rfl, Nat.le_of_ble_eq_true rfl⟩) ?_
  refine lv_if_eq (tgt := 16) hx hb sd_chr_4 (by decide) (fun z => absurd z (by decide)) (fun _ => ?_)
  refine lv_aload_n hx hb sd_chr_7 rfl (lv_at hl 0 rfl) ?_
  refine vk_getf hx hb hXS.2.2.2.1 hS hown (hts _ (sx_mem 2011 (w := .fieldLink "java/lang/String" 9 "java/lang/String" "value" "[B") (by decide +kernel) (by decide +kernel))) (fun _ h => h) sd_chr_8 ?_
  refine lv_iload_n hx hb sd_chr_11 rfl (lv_at hl 1 rfl) ?_
  refine sx_callh (va_runS (As := [.ref (α (jw_str + 2)), .int i]) (rest := []) ⟨hx, hb, hml, hown, hts⟩ (sx_ch1 (α := α) (A := A) (sz := s.heap.size) (d := d) (by omega) hi) (va_cwS 2 hts (sg_ch1_495 _) rfl rfl rfl ⟨by decide, by decide, jw_par_ok sp_ch1⟩ ⟨Nat.le_refl _, by show 8 + (2 + 11) + 200 * d ≤ 200 * (d + 1); omega⟩) ⟨sx_blind _, (fun U hU hW => ⟨rfl, by rw [hU], jw_X_go hX (vk_R.warm hW hX.1.1) hW.alike (fun a h1 h2 => by rw [hU]) (fun _ h => h)⟩)⟩ rfl rfl hl.1 rfl (lv_room (Nat.le_of_ble_eq_true rfl)) sd_chr_12 ⟨Nat.le_of_ble_eq_true rfl, Nat.le_of_ble_eq_true rfl⟩) ?_
  exact W.zret hx hb hr (sx_chr_ok hi).2 (fun t ht hW => ⟨rfl, ht⟩) (fun q hq => by cases hq) sd_chr_15 hlk
set_option maxRecDepth 100000 in
theorem sx_len {l : Launch} {α : Nat → Nat} {A : Nat → Prop} {sz d : Nat} (hd : 1 ≤ d) : Met l sy_len (sc_len :: jp_Tg) (jw_rm d 0 0) (va_Pc [.ref (α jw_str)] (sx_P α A sz)) (sx_Q (some (.int 103))) 0 0 (fun _ => False) := by
  refine Met.ofW (cc := prog_18_method_54_code) (maxL := 1) (ret := some .int) (by decide) rfl ?_
  intro p e s m args below meth c s₁ B hml hv
  obtain ⟨rfl, hsz, hX⟩ := hv
  subst hsz
  have hx := B.exec
  have hb := B.bytes
  have hr := B.returns
  have hlk := B.notSynchronized
  have hts := atoms_spec (ws := sc_len :: jp_Tg) B.pre
  have hown : s.vm.findClass "java/lang/String" = some m.cls := findClass_of_methodNamed B.named
  have hS : va_S A s.heap s.heap [] := va_S.rf
  have hXS := hX.1
  have hl := lv_entry ([.ref (α jw_str)]) (n := 1) (Nat.le_of_ble_eq_true rfl)
  rw [lg_entry_eq]
  generalize (lg_sl ([.ref (α jw_str)]) ++ List.replicate (1 - (lg_sl ([.ref (α jw_str)])).length) Slot.unset).toArray = ls at hl ⊢
  obtain ⟨d, rfl⟩ : ∃ e, d = e + 1 := ⟨d - 1, by omega⟩
  refine lv_aload_n hx hb sd_len_0 rfl (lv_at hl 0 rfl) ?_
  refine vk_getf hx hb hXS.2.2.2.1 hS hown (hts _ (sx_mem 2011 (w := .fieldLink "java/lang/String" 9 "java/lang/String" "value" "[B") (by decide +kernel) (by decide +kernel))) (fun _ h => h) sd_len_1 ?_
  refine va_tlen hx hb hXS.2.2.2.2.1 hS (v := 103) (by decide) sd_len_4 ?_
  refine lv_aload_n hx hb sd_len_5 rfl (lv_at hl 0 rfl) ?_
  have hrecv : ∃ cell : Cell, s.heap[α jw_str]? = some cell ∧ cell.vm.isStatics = false ∧ s.vm.findClass "java/lang/String" = some cell.cls := by
    obtain ⟨cell, h1, h2, h3, -⟩ := hXS.2.1
    exact ⟨cell, h1, h2, h3⟩
  refine sx_callh (va_runV (As := []) (rest := [.int 103]) ⟨hx, hb, hml, hown, hts⟩ (sx_cod (α := α) (A := A) (sz := s.heap.size) (d := d)) (cwV 0 hts (sg_cod_335 _) rfl rfl rfl ⟨rfl, by decide, by decide, jw_par_ok sp_cod⟩ ⟨Nat.le_refl _, by show 8 + (1 + 11) + 200 * d ≤ 200 * (d + 1); omega⟩) ⟨sx_blind _, hrecv, (fun U hU hW => ⟨rfl, by rw [hU], jw_X_go hX (vk_R.warm hW hX.1.1) hW.alike (fun a h1 h2 => by rw [hU]) (fun _ h => h)⟩)⟩ rfl rfl hl.1 rfl (lv_room (Nat.le_of_ble_eq_true rfl)) sd_len_6 ⟨Nat.le_of_ble_eq_true rfl, Nat.le_of_ble_eq_true rfl⟩) ?_
  refine lv_ishr hx hb sd_len_9 ?_
  rw [show (103 : Int32) >>> ((0 : Int32) &&& 31) = 103 from by decide]
  exact W.iret hx hb hr (fun t ht hW => ⟨rfl, ht⟩) (fun q hq => by cases hq) sd_len_10 hlk
theorem jw_strok_ok (l : Launch) : jw_strok l jp_Tg := fun α A sz d hd => ⟨sx_len (by omega), fun i hi => sx_chr (by omega) hi⟩
