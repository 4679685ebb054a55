/-! ===== the calls' instructions of the abstract machine ===== -/
def jw_code (y : jw_Y) : Cond := Cond.code y.1 y.2.1 y.2.2.1 y.2.2.2.1
/-- words of a virtual call: kind 0: the receiver's own method; kind 1: of a class X, found in O, by the receiver's class -/
def jw_wcV (own : String) (cl : List vw_C) (ys : List jw_Y) (idx k : Nat) (z : Int × Nat) : List Cond := match cl[z.1.toNat]?, ys[z.2]? with
  | some (C, _, _), some y => bif k % 16 == 0 then [.methodLink own idx y.1, .instanceMethod y.1, .selects C y.1 y.1, .initialized C, jw_code y]
    else (match cl[k / 16 % 16]?, cl[k / 256 % 16]?, ys[k / 4096]? with
    | some (X, _, _), some (O, _, _), some y0 => [.methodLink own idx ⟨X, y.1.name, y.1.desc⟩, .sameMethod X O y.1.name y.1.desc, .instanceMethod ⟨O, y.1.name, y.1.desc⟩, .selects C ⟨X, y.1.name, y.1.desc⟩ y.1, .instanceMethod y.1, .initialized y.1.cls, jw_code y, jw_code y0]
    | _, _, _ => [])
  | _, _ => []
def jw_nh (C : String) : Bool := C != "java/lang/invoke/MethodHandle" && C != "java/lang/invoke/VarHandle"
def jw_par (desc : String) (n : Nat) : Bool := (match parseMethodDescriptor desc with
  | some d => d.parameters.length == n
  | none => false)
def jw_fcV (cl : List vw_C) (ys : List jw_Y) (k n : Nat) (z : Int × Nat) : Bool := match cl[z.1.toNat]?, ys[z.2]? with
  | some (C, _, _), some y => Nat.ble y.2.2.1 100 && (jw_par y.1.desc n && (bif k % 16 == 0 then y.1.cls == C && jw_nh C
    else (match cl[k / 16 % 16]?, cl[k / 256 % 16]?, ys[k / 4096]? with
    | some (_, _, _), some (O, _, _), some y0 => y0.1 == ⟨O, y.1.name, y.1.desc⟩ && jw_nh O
    | _, _, _ => false)))
  | _, _ => false
theorem jw_find_ok {ci mid : Nat} : ∀ {l : List (Int × Nat)}, jw_find ci l = some mid → ((ci : Int), mid) ∈ l
  | [], h => by cases h
  | (a, b) :: l, h => by
    rw [jw_find] at h
    cases hc : (a == (ci : Int)) with
    | true =>
      rw [hc] at h
      have : b = mid := Option.some.inj h
      rw [← this, ← (beq_iff_eq.mp hc)]
      exact List.mem_cons_self
    | false =>
      rw [hc] at h
      exact List.mem_cons_of_mem _ (jw_find_ok h)
theorem jw_goodIn {Ts Tg X : List Cond} (hTs : ∀ w ∈ Tg, w ∈ Ts) (hg : ∀ w ∈ Tg, goodWord w = true) (hX : ∀ w ∈ X, w ∈ Tg) : GoodIn Ts X := fun w hw => ⟨hTs w (hX w hw), good_of_word (hg w (hX w hw))⟩
theorem jw_par_ok {desc : String} {n : Nat} (h : jw_par desc n = true) : (parseMethodDescriptor desc).map (fun d => d.parameters.length) = some n := by
  unfold jw_par at h
  split at h
  · rename_i d hd
    rw [hd]
    simpa using h
  · cases h
theorem jw_nh_ok {C : String} (h : jw_nh C = true) : C ≠ "java/lang/invoke/MethodHandle" ∧ C ≠ "java/lang/invoke/VarHandle" := by
  simpa [jw_nh] using h
theorem jw_take {st r : List Value} {n : Nat} {v : Value} (h : st.drop n = v :: r) : st = st.take n ++ v :: r := by
  rw [← h, List.take_append_drop]
section JWV
variable {p : Program} {l : Launch} {e : Env} {R : Room} {s : State} {m : MethodId} {args : Array Value} {below : List Frame} {meth : Method} {c : Code} {H : Heap} {locs : List Loc} {cells slots : Nat} {Qf : State → Prop}
variable {cc : ByteArray} {ls : Array Slot} {α : Nat → Nat} {nL : Nat} {D : va_G} {cl : List vw_C} {A : Nat → Prop} {cy : Nat → ClassId} {own nm : String} {Ts Tg Ns : List Cond} {h : jw_H} {ys : List jw_Y} {C : Nat → List Value → jw_H → jw_Q → Prop} {lim : Nat × Nat} {st : List Value} {f : List Value → jw_H → Prop}
theorem jw_call_ok {kind n : Nat} {tg : List (Int × Nat)} {bud : Nat → Nat × Nat} (hs : jw_call C bud lim (kind, n, tg) st h f) : ∃ (b : Nat) (r : List Value) (ci : Nat) (ks : List jw_K) (mid : Nat), st = st.take n ++ .ref b :: r ∧ n < st.length ∧ h.1[b]? = some (.inl (ci, ks)) ∧ ((ci : Int), mid) ∈ tg ∧ jw_cat r ≤ 8 ∧ (bud mid = (0, 0) ∨ (h.1.length + (bud mid).1 ≤ lim.1 ∧ jw_sz h.1 + (bud mid).2 ≤ lim.2)) ∧ C mid (.ref b :: (st.take n).reverse) h (fun v h' => f (v.toList ++ r) h') := by
  unfold jw_call at hs
  dsimp only at hs
  split at hs
  · rename_i b r hdr
    split at hs
    · rename_i ci ks hsh
      split at hs
      · rename_i mid hm
        obtain ⟨h1, h2⟩ := jw_bif hs
        simp only [Bool.and_eq_true, Bool.or_eq_true, Nat.blt_eq, Nat.ble_eq, beq_iff_eq] at h1
        exact ⟨b, r, ci, ks, mid, jw_take hdr, h1.1, hsh, jw_find_ok hm, h1.2.1, h1.2.2, h2⟩
      · exact hs.elim
    · exact hs.elim
  · exact hs.elim
set_option maxHeartbeats 4000000 in
theorem jo_virt {pc idx kind n d : Nat} {tg : List (Int × Nat)} (hx : p.tables.exec = Jvm.exec) (hb : c.code = cc) (hml : c.maxLocals = nL) (hown : s.vm.findClass own = some m.cls) (hts : ∀ w ∈ Ts, w.before args s = true) (hTs : ∀ w ∈ Tg, w ∈ Ts) (hgood : ∀ w ∈ Tg, goodWord w = true) (hns : jw_nsok Ns)
    (hw : ∀ z ∈ tg, ∀ w ∈ jw_wcV own cl ys idx kind z, w ∈ Tg) (hwf : ∀ z ∈ tg, jw_fcV cl ys kind n z = true) (hRf : d + 1 ≤ R.frames) (hRl : 200 * d + 200 ≤ R.locals) (hdg : decode cc pc = .ok (.invokevirtual idx, 3)) (hlz : ls.size = nL)
    (hK0 : va_K D cl (jw_tys cy) s) (hP : va_P D cl (jw_wld cy α h) H) (hD : va_D A (jw_wld cy α h)) (hS : va_S A s.heap H locs) (hA : ∀ q, s.heap.size ≤ q → A q) (hX : jw_X α A s s.heap) (hN : jw_nw Ns s)
    (IH : ∀ (mid : Nat) (as : List Value) (Q : jw_Q), C mid as h Q → ∀ y, ys[mid]? = some y → jw_met l D cl cy α Ns Tg d y as h Q)
    (hfut : ∀ mc, h.1.length + mc ≤ lim.1 → jw_fut α h.1.length H.size mc) (hlim : ∀ mc ms, h.1.length + mc ≤ lim.1 → jw_sz h.1 + ms ≤ lim.2 → cells + mc ≤ R.cells ∧ slots + ms ≤ R.slots) (hin : h.1.length ≤ lim.1 ∧ jw_sz h.1 ≤ lim.2)
    (hs : jw_call C (jw_bud ys) lim (kind, n, tg) st h f)
    (hK : ∀ (st' : List Value) (h' : jw_H) (H' : Heap) (locs' : List Loc) (k n : Nat), f st' h' → H'.size = H.size + k → h'.1.length = h.1.length + k → jw_sz h'.1 = jw_sz h.1 + n → h'.1.length ≤ lim.1 → jw_sz h'.1 ≤ lim.2 → va_P D cl (jw_wld cy α h') H' → va_D A (jw_wld cy α h') → va_S A s.heap H' locs' → W p l e R s m args below meth c H' locs' (cells + k) (slots + n) Qf (F0 m (pc + 3) ls (st'.map (jw_ad α)))) :
    W p l e R s m args below meth c H locs cells slots Qf (F0 m pc ls (st.map (jw_ad α))) := by
  obtain ⟨b, r, ci, ks, mid, e1, e2, hsh, htg, hcat, hbud, hC⟩ := jw_call_ok hs
  have hwf1 := hwf _ htg
  have hw1 := hw _ htg
  unfold jw_fcV at hwf1
  unfold jw_wcV at hw1
  dsimp only [Int.toNat_natCast] at hwf1 hw1
  split at hwf1
  · rename_i C0 T0 N0 y hcl hy
    rw [hcl, hy] at hw1
    dsimp only at hw1
    have hb1 : jw_bud ys mid = y.2.2.2.2.1 := by unfold jw_bud; rw [hy]
    have hbd : h.1.length + y.2.2.2.2.1.1 ≤ lim.1 ∧ jw_sz h.1 + y.2.2.2.2.1.2 ≤ lim.2 := by
      rcases hbud with hz | hz
      · rw [hb1] at hz
        rw [hz]
        exact hin
      · rw [hb1] at hz
        exact hz
    have hM := IH _ _ _ hC y hy H.size (hfut _ hbd.1)
    have hroom := hlim _ _ hbd.1 hbd.2
    simp only [Bool.and_eq_true, Nat.ble_eq] at hwf1
    obtain ⟨w1, w2, w3⟩ := hwf1
    have hrecv := va_recv hK0 hP hcl (jw_wld_some hsh)
    have hpre := jw_start (av := ((Value.ref b :: (st.take n).reverse).map (jw_ad α))) hns hK0 hP hD hS hA hX hN rfl
    have hstk : (F0 m pc ls (st.map (jw_ad α))).stack = ((st.take n).reverse.map (jw_ad α)).reverse ++ .ref (α b) :: r.map (jw_ad α) := by
      show st.map (jw_ad α) = _
      rw [← List.map_reverse, List.reverse_reverse]
      conv => lhs; rw [e1]
      rw [List.map_append]
      rfl
    have hlen : ((st.take n).reverse.map (jw_ad α)).length = n := by simp; omega
    have hrm : (jw_rm d y.2.2.2.2.1.1 y.2.2.2.2.1.2).frames + 1 ≤ R.frames ∧ 8 + (y.2.2.1 + 11) + (jw_rm d y.2.2.2.2.1.1 y.2.2.2.2.1.2).locals ≤ R.locals := ⟨hRf, by show 8 + (y.2.2.1 + 11) + 200 * d ≤ R.locals; omega⟩
    have hgo : ∀ (hr : va_Run p l e R s m args below meth c H locs cells slots y.2.2.2.2.1.1 y.2.2.2.2.1.2 (F0 m pc ls (st.map (jw_ad α))) (r.map (jw_ad α)) (jw_Qc D cl cy α h H.size y.2.2.2.2.1.1 y.2.2.2.2.1.2 (fun v h' => f (v.toList ++ r) h') (Value.ref (α b) :: (st.take n).reverse.map (jw_ad α)).toArray) (va_A (jw_wld cy α h) H.size)), W p l e R s m args below meth c H locs cells slots Qf (F0 m pc ls (st.map (jw_ad α))) := fun hr =>
      jo_end (d := d) hS hD hA hr (fun v h' H' locs' hq n1 n2 n3 hP1 hD1 hS1 => hK _ _ _ _ _ _ hq n1 n2 n3 (by rw [n2]; exact hbd.1) (by rw [n3]; exact hbd.2) hP1 hD1 hS1)
    cases hk0 : (kind % 16 == 0) with
    | true =>
      rw [hk0] at w3 hw1
      dsimp only [cond_true] at w3 hw1
      simp only [Bool.and_eq_true, beq_iff_eq] at w3
      have hT : GoodIn Ts (wsV own idx C0 y.1 (Cond.code y.1 y.2.1 y.2.2.1 y.2.2.2.1 :: Tg)) := jw_goodIn hTs hgood (fun w hw => by
        rcases List.mem_append.mp hw with q | q
        · exact hw1 w (by simp only [List.mem_cons, List.not_mem_nil, or_false] at q ⊢; rcases q with q | q | q | q <;> simp [q])
        · rcases List.mem_cons.mp q with q | q
          · exact hw1 w (by rw [q]; simp [jw_code])
          · exact q)
      exact hgo (va_runV ⟨hx, hb, hml, hown, hts⟩ hM (cwV n hts hT rfl rfl rfl ⟨w3.1, by rw [w3.1]; exact (jw_nh_ok w3.2).1, by rw [w3.1]; exact (jw_nh_ok w3.2).2, jw_par_ok w2⟩ hrm) ⟨jw_blind hns, hrecv, hpre⟩ rfl hlen hlz hstk (lv_room (by rw [jw_cat_map]; exact hcat)) hdg hroom)
    | false =>
      rw [hk0] at w3 hw1
      dsimp only [cond_false] at w3 hw1
      split at w3
      · rename_i X0 TX NX O0 TO NO y0 hX0 hO0 hy0
        rw [hX0, hO0, hy0] at hw1
        dsimp only at hw1
        simp only [Bool.and_eq_true, beq_iff_eq] at w3
        have hT : GoodIn Ts (va_wsO own idx C0 O0 ⟨X0, y.1.name, y.1.desc⟩ y.1 (Cond.code y.1 y.2.1 y.2.2.1 y.2.2.2.1 :: Tg)) := jw_goodIn hTs hgood (fun w hw => by
          rcases List.mem_append.mp hw with q | q
          · exact hw1 w (by simp only [List.mem_cons, List.not_mem_nil, or_false] at q ⊢; rcases q with q | q | q | q | q | q <;> simp [q])
          · rcases List.mem_cons.mp q with q | q
            · exact hw1 w (by rw [q]; simp [jw_code])
            · exact q)
        have h00 : Cond.code ⟨O0, y.1.name, y.1.desc⟩ y0.2.1 y0.2.2.1 y0.2.2.2.1 ∈ Ts := hTs _ (hw1 _ (by rw [← w3.1]; simp [jw_code]))
        exact hgo (va_runU ⟨hx, hb, hml, hown, hts⟩ hM (va_cwO n hts hT rfl rfl rfl h00 ⟨(jw_nh_ok w3.2).1, (jw_nh_ok w3.2).2, jw_par_ok w2⟩ hrm) ⟨jw_blind hns, hrecv, hpre⟩ rfl hlen hlz hstk (lv_room (by rw [jw_cat_map]; exact hcat)) hdg hroom)
      · cases w3
  · cases hwf1
/-- the two methods of the String constant -/
def jw_yLen : MethodName := ⟨"java/lang/String", "length", "()I"⟩
def jw_yChr : MethodName := ⟨"java/lang/String", "charAt", "(I)C"⟩
def jw_cLen : Cond := Cond.code jw_yLen prog_18_method_54_code 1 (some .int)
def jw_cChr : Cond := Cond.code jw_yChr prog_18_method_56_code 2 (some .char)
def jw_strok (l : Launch) (Tg : List Cond) : Prop := ∀ (α : Nat → Nat) (A : Nat → Prop) (sz d : Nat), 4 ≤ d →
  Met l jw_yLen (jw_cLen :: Tg) (jw_rm d 0 0) (va_Pc [.ref (α jw_str)] (fun U => U.heap.size = sz ∧ jw_X α A U U.heap)) (fun _ st oc t => oc = .returned (some (.int 103)) ∧ t.heap = st.heap) 0 0 (fun _ => False) ∧
  ∀ i : Int32, vp_in i 103 → Met l jw_yChr (jw_cChr :: Tg) (jw_rm d 0 0) (va_Pc [.ref (α jw_str), .int i] (fun U => U.heap.size = sz ∧ jw_X α A U U.heap)) (fun _ st oc t => oc = .returned (some (.int (jw_chr i))) ∧ t.heap = st.heap) 0 0 (fun _ => False)
def jw_wcT (own : String) (idx k : Nat) : List Cond := bif k == 100000 then [.methodLink own idx jw_yLen, .instanceMethod jw_yLen, .selects "java/lang/String" jw_yLen jw_yLen, .initialized "java/lang/String", jw_cLen] else [.methodLink own idx jw_yChr, .instanceMethod jw_yChr, .selects "java/lang/String" jw_yChr jw_yChr, .initialized "java/lang/String", jw_cChr]
theorem jo_callh {pc : Nat} {rest st0 : List Value} {v : Value} (hr : va_Run p l e R s m args below meth c H locs cells slots 0 0 (F0 m pc ls st0) rest (fun st oc t => oc = .returned (some v) ∧ t.heap = st.heap) (fun _ => False)) (hS : va_S A s.heap H locs)
    (kk : ∀ (locs1 : List Loc), va_S A s.heap H locs1 → W p l e R s m args below meth c H locs1 cells slots Qf (F0 m (pc + 3) ls (v :: rest))) : W p l e R s m args below meth c H locs cells slots Qf (F0 m pc ls st0) := by
  intro T hT X
  obtain ⟨v1, st₀, t, T', L, h0, X', hL, e1, e2, ⟨hv, hh⟩, st⟩ := hr T hT X
  cases hv
  have hTh : T'.heap = H := by rw [e1, hh, h0]
  obtain ⟨t2, a1, b1⟩ := kk (locs ++ L) ⟨hS.1, hS.2.1, fun q hq => by
      rcases List.mem_append.mp hq with h | h
      · exact hS.2.2 q h
      · exact (hL q h).elim⟩ T' hTh X'
  exact ⟨t2, st t2 a1, b1⟩
theorem jw_len_par : jw_par "()I" 0 = true := by decide +kernel
theorem jw_chr_par : jw_par "(I)C" 1 = true := by decide +kernel
set_option maxHeartbeats 4000000 in
theorem jo_str {pc idx n d d' k : Nat} {tg : List (Int × Nat)} {kd : Nat → List jw_K} (hstr : jw_strok l Tg) (hx : p.tables.exec = Jvm.exec) (hb : c.code = cc) (hml : c.maxLocals = nL) (hown : s.vm.findClass own = some m.cls) (hts : ∀ w ∈ Ts, w.before args s = true) (hTs : ∀ w ∈ Tg, w ∈ Ts) (hgood : ∀ w ∈ Tg, goodWord w = true)
    (hw : ∀ w ∈ jw_wcT own idx k, w ∈ Tg) (hRf : d + 1 ≤ R.frames) (hRl : 200 * d + 200 ≤ R.locals) (hdg : decode cc pc = .ok (.invokevirtual idx, 3)) (hlz : ls.size = nL)
    (hS : va_S A s.heap H locs) (hX : jw_X α A s s.heap) (hys : ys.length ≤ 100000) {r : List Value} (hst : st = st.take n ++ .ref jw_str :: r) (hn : n < st.length) (hcat : jw_cat r ≤ 8) (hk : k = 100000 ∨ k = 100001) {Q : jw_Q} (hC : jw_C kd ys d k (.ref jw_str :: (st.take n).reverse) h Q) (hcs : cells + 0 ≤ R.cells ∧ slots + 0 ≤ R.slots)
    (hK : ∀ (v : Int32) (locs' : List Loc), Q (some (.int v)) h → va_S A s.heap H locs' → W p l e R s m args below meth c H locs' cells slots Qf (F0 m (pc + 3) ls (.int v :: r.map (jw_ad α)))) :
    W p l e R s m args below meth c H locs cells slots Qf (F0 m pc ls (st.map (jw_ad α))) := by
  have hkeep : ∀ (U : State), U.heap = H → ∀ a : Nat, a < s.heap.size → ¬ A a → U.heap[a]? = s.heap[a]? := fun U hU a h1 h2 => by rw [hU]; exact hS.2.1 a h1 h2
  have hpre : ∀ (av : List Value) (a : Array Value), a = av.toArray → ∀ U : State, U.heap = H → s.WarmedH U.vm → va_Pc av (fun U => U.heap.size = H.size ∧ jw_X α A U U.heap) a U := fun av a ha U hU hW =>
    ⟨ha, by rw [hU], jw_X_go hX (vk_R.warm hW hX.1.1) hW.alike (hkeep U hU) (fun _ h => h)⟩
  have hbl : ∀ av : List Value, FrameBlind (va_Pc av (fun U => U.heap.size = H.size ∧ jw_X α A U U.heap)) := fun av a U g mk q => ⟨q.1, q.2.1, jw_X_same (u := U) (U := U.calling g mk a) q.2.2 rfl⟩
  have hrecv : ∃ cell : Cell, H[α jw_str]? = some cell ∧ cell.vm.isStatics = false ∧ s.vm.findClass "java/lang/String" = some cell.cls := by
    obtain ⟨cell, h1, h2, h3, -⟩ := hX.1.2.1.kept hS.2.1
    exact ⟨cell, h1, h2, h3⟩
  have hstk : (F0 m pc ls (st.map (jw_ad α))).stack = ((st.take n).reverse.map (jw_ad α)).reverse ++ .ref (α jw_str) :: r.map (jw_ad α) := by
    show st.map (jw_ad α) = _
    rw [← List.map_reverse, List.reverse_reverse]
    conv => lhs; rw [hst]
    rw [List.map_append]
    rfl
  cases d with
  | zero => exact hC.elim
  | succ d =>
    rw [jw_C] at hC
    rw [List.getElem?_eq_none (by rcases hk with rfl | rfl <;> omega)] at hC
    dsimp only at hC
    have hwT := fun w hz => hw w hz
    rcases hC with ⟨rfl, h4, has, hq⟩ | ⟨rfl, h4, i, has, hin, hq⟩
    · have hnil : (st.take n).reverse = [] := by simpa using has
      rw [hnil] at hstk
      have hM := (hstr α A H.size (d + 1) (by omega)).1
      have hT : GoodIn Ts (wsV own idx "java/lang/String" jw_yLen (jw_cLen :: Tg)) := jw_goodIn hTs hgood (fun w hw1 => by
        rcases List.mem_append.mp hw1 with q | q
        · exact hw w (by simp only [jw_wcT, List.mem_cons, List.not_mem_nil, or_false] at q ⊢; rcases q with q | q | q | q <;> simp [q])
        · rcases List.mem_cons.mp q with q | q
          · exact hw w (by rw [q]; simp [jw_wcT])
          · exact q)
      exact jo_callh (va_runV ⟨hx, hb, hml, hown, hts⟩ hM (cwV 0 hts hT rfl rfl rfl ⟨rfl, by decide, by decide, jw_par_ok jw_len_par⟩ ⟨by show d + 1 + 1 ≤ _; omega, by show 8 + (1 + 11) + 200 * (d + 1) ≤ R.locals; omega⟩) ⟨hbl _, hrecv, hpre _ _ rfl⟩ rfl rfl hlz hstk (lv_room (by rw [jw_cat_map]; exact hcat)) hdg hcs) hS (fun locs1 hS1 => hK _ _ hq hS1)
    · have hone : (st.take n).reverse = [.int i] := by simpa using has
      rw [hone] at hstk
      have hM := (hstr α A H.size (d + 1) (by omega)).2 i hin
      have hT : GoodIn Ts (wsV own idx "java/lang/String" jw_yChr (jw_cChr :: Tg)) := jw_goodIn hTs hgood (fun w hw1 => by
        rcases List.mem_append.mp hw1 with q | q
        · exact hw w (by simp only [jw_wcT, List.mem_cons, List.not_mem_nil, or_false] at q ⊢; rcases q with q | q | q | q <;> simp [q])
        · rcases List.mem_cons.mp q with q | q
          · exact hw w (by rw [q]; simp [jw_wcT])
          · exact q)
      exact jo_callh (va_runV ⟨hx, hb, hml, hown, hts⟩ hM (cwV 1 hts hT rfl rfl rfl ⟨rfl, by decide, by decide, jw_par_ok jw_chr_par⟩ ⟨by show d + 1 + 1 ≤ _; omega, by show 8 + (2 + 11) + 200 * (d + 1) ≤ R.locals; omega⟩) ⟨hbl _, hrecv, hpre _ _ rfl⟩ rfl rfl hlz hstk (lv_room (by rw [jw_cat_map]; exact hcat)) hdg hcs) hS (fun locs1 hS1 => hK _ _ hq hS1)
end JWV
