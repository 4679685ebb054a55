/-! ===== the law: calls that tell what they leave alone ===== -/
section JL1
variable {p : Program} {l : Launch} {e : Env} {R : Room} {s : State} {m : MethodId} {args : Array Value} {below : List Frame} {meth : Method} {c : Code} {H : Heap} {locs : List Loc} {cells slots : Nat} {Qf : State → Prop}
variable {cc : ByteArray} {ls : Array Slot} {α : Nat → Nat} {nL : Nat} {D : va_G} {cl : List vw_C} {A : Nat → Prop} {cy : Nat → ClassId} {own nm : String} {Ts Tg Ns : List Cond} {h : jw_H}
theorem jo_callg2 {A0 A1 : Nat → Prop} {H0 : Heap} {pc mc ms : Nat} {rest st0 : List Value} {free : Addr → Prop} {Pv : Option Value → State → Prop} (hr : va_Run p l e R s m args below meth c H locs cells slots mc ms (F0 m pc ls st0) rest (fun st oc t => (∃ v, oc = .returned v ∧ Pv v t) ∧ va_F A1 st t) free) (hS : va_S A0 H0 H locs) (hA : ∀ q, q < H.size → A1 q → A0 q) (hf : ∀ q, free q → A0 q)
    (kk : ∀ (v : Option Value) (t : State) (H1 : Heap) (locs1 : List Loc), t.heap = H1 → Pv v t → va_S A0 H0 H1 locs1 → (∀ q, q < H.size → ¬ A1 q → H1[q]? = H[q]?) → W p l e R s m args below meth c H1 locs1 (cells + mc) (slots + ms) Qf (F0 m (pc + 3) ls (v.toList ++ rest))) : W p l e R s m args below meth c H locs cells slots Qf (F0 m pc ls st0) := by
  intro T hT X
  obtain ⟨v, st₀, t, T', L, h0, X', hL, e1, e2, ⟨⟨r, hv, hp⟩, hz, hk⟩, st⟩ := hr T hT X
  cases hv
  rw [h0] at hz hk
  obtain ⟨t2, a1, b1⟩ := kk v t T'.heap (locs ++ L) e1.symm hp
    ⟨Nat.le_trans hS.1 (by rw [e1]; exact hz), fun q h1 h2 => by rw [e1, hk q (Nat.lt_of_lt_of_le h1 hS.1) (fun z => h2 (hA q (Nat.lt_of_lt_of_le h1 hS.1) z))]; exact hS.2.1 q h1 h2, fun q hq => by
      rcases List.mem_append.mp hq with h | h
      · exact hS.2.2 q h
      · exact hf _ (hL q h)⟩ (fun q h1 h2 => by rw [e1]; exact hk q h1 h2) T' rfl X'
  exact ⟨t2, st t2 a1, b1⟩
theorem jo_end2 {pc d : Nat} {y : jw_Y} {st0 rest : List Value} {Q : jw_Q} {a : Array Value} (hS : va_S A s.heap H locs) (hD : va_D A (jw_wld cy α h)) (hA : ∀ q, s.heap.size ≤ q → A q)
    (hr : va_Run p l e R s m args below meth c H locs cells slots y.2.2.2.2.1.1 y.2.2.2.2.1.2 (F0 m pc ls st0) (rest.map (jw_ad α)) (jw_Qc D cl cy α h H.size y.2.2.2.2.1.1 y.2.2.2.2.1.2 Q a) (va_A (jw_wld cy α h) H.size))
    (hK : ∀ (v : Option Value) (h' : jw_H) (H' : Heap) (locs' : List Loc), Q v h' → H'.size = H.size + y.2.2.2.2.1.1 → h'.1.length = h.1.length + y.2.2.2.2.1.1 → jw_sz h'.1 = jw_sz h.1 + y.2.2.2.2.1.2 → va_P D cl (jw_wld cy α h') H' → va_D A (jw_wld cy α h') → va_S A s.heap H' locs' → (∀ q, q < H.size → ¬ va_A (jw_wld cy α h) H.size q → H'[q]? = H[q]?) → W p l e R s m args below meth c H' locs' (cells + y.2.2.2.2.1.1) (slots + y.2.2.2.2.1.2) Qf (F0 m (pc + 3) ls ((v.toList ++ rest).map (jw_ad α)))) :
    W p l e R s m args below meth c H locs cells slots Qf (F0 m pc ls st0) := by
  have hsub := jw_sub hD hS hA
  refine jo_callg2 (Pv := jw_post D cl cy α h H.size y.2.2.2.2.1.1 y.2.2.2.2.1.2 Q) hr hS (fun q _ h => hsub q h) hsub (fun v t H1 locs1 ht hp hS1 hfr => ?_)
  obtain ⟨r, h', rfl, hq, n1, n2, n3, hP1, hD1⟩ := hp
  subst ht
  have := hK r h' t.heap locs1 hq n3 n1 n2 hP1 (hD1.weaken (fun k q _ hz => hsub q.1 hz)) hS1 hfr
  cases r <;> exact this
end JL1
section JL2
variable {p : Program} {l : Launch} {e : Env} {R : Room} {s : State} {m : MethodId} {args : Array Value} {below : List Frame} {meth : Method} {c : Code} {H : Heap} {locs : List Loc} {cells slots : Nat} {Qf : State → Prop}
variable {cc : ByteArray} {ls : Array Slot} {α : Nat → Nat} {nL : Nat} {D : va_G} {cl : List vw_C} {A : Nat → Prop} {cy : Nat → ClassId} {own nm : String} {Ts Tg Ns : List Cond} {h : jw_H} {ys : List jw_Y} {C : Nat → List Value → jw_H → jw_Q → Prop} {lim : Nat × Nat} {st : List Value} {f : List Value → jw_H → Prop}
set_option maxHeartbeats 4000000 in
theorem jo_virt2 {pc idx kind n d : Nat} {tg : List (Int × Nat)} (hx : p.tables.exec = Jvm.exec) (hb : c.code = cc) (hml : c.maxLocals = nL) (hown : s.vm.findClass own = some m.cls) (hts : ∀ w ∈ Ts, w.before args s = true) (hTs : ∀ w ∈ Tg, w ∈ Ts) (hgood : ∀ w ∈ Tg, goodWord w = true) (hns : jw_nsok Ns)
    (hw : ∀ z ∈ tg, ∀ w ∈ jw_wcV own cl ys idx kind z, w ∈ Tg) (hwf : ∀ z ∈ tg, jw_fcV cl ys kind n z = true) (hRf : d + 1 ≤ R.frames) (hRl : 200 * d + 200 ≤ R.locals) (hdg : decode cc pc = .ok (.invokevirtual idx, 3)) (hlz : ls.size = nL)
    (hK0 : va_K D cl (jw_tys cy) s) (hP : va_P D cl (jw_wld cy α h) H) (hD : va_D A (jw_wld cy α h)) (hS : va_S A s.heap H locs) (hA : ∀ q, s.heap.size ≤ q → A q) (hX : jw_X α A s s.heap) (hN : jw_nw Ns s)
    (IH : ∀ (mid : Nat) (as : List Value) (Q : jw_Q), C mid as h Q → ∀ y, ys[mid]? = some y → jw_met l D cl cy α Ns Tg d y as h Q)
    (hfut : ∀ mc, h.1.length + mc ≤ lim.1 → jw_fut α h.1.length H.size mc) (hlim : ∀ mc ms, h.1.length + mc ≤ lim.1 → jw_sz h.1 + ms ≤ lim.2 → cells + mc ≤ R.cells ∧ slots + ms ≤ R.slots) (hin : h.1.length ≤ lim.1 ∧ jw_sz h.1 ≤ lim.2)
    (hs : jw_call C (jw_bud ys) lim (kind, n, tg) st h f)
    (hK : ∀ (st' : List Value) (h' : jw_H) (H' : Heap) (locs' : List Loc) (k n : Nat), f st' h' → H'.size = H.size + k → h'.1.length = h.1.length + k → jw_sz h'.1 = jw_sz h.1 + n → h'.1.length ≤ lim.1 → jw_sz h'.1 ≤ lim.2 → va_P D cl (jw_wld cy α h') H' → va_D A (jw_wld cy α h') → va_S A s.heap H' locs' → (∀ q, q < H.size → ¬ va_A (jw_wld cy α h) H.size q → H'[q]? = H[q]?) → W p l e R s m args below meth c H' locs' (cells + k) (slots + n) Qf (F0 m (pc + 3) ls (st'.map (jw_ad α)))) :
    W p l e R s m args below meth c H locs cells slots Qf (F0 m pc ls (st.map (jw_ad α))) := by
  obtain ⟨b, r, ci, ks, mid, e1, e2, hsh, htg, hcat, hbud, hC⟩ := jw_call_ok hs
  have hwf1 := hwf _ htg
  have hw1 := hw _ htg
  unfold jw_fcV at hwf1
  unfold jw_wcV at hw1
  dsimp only [Int.toNat_natCast] at hwf1 hw1
  split at hwf1
  · rename_i C0 T0 N0 y hcl hy
    rw [hcl, hy] at hw1
    dsimp only at hw1
    have hb1 : jw_bud ys mid = y.2.2.2.2.1 := by unfold jw_bud; rw [hy]
    have hbd : h.1.length + y.2.2.2.2.1.1 ≤ lim.1 ∧ jw_sz h.1 + y.2.2.2.2.1.2 ≤ lim.2 := by
      rcases hbud with hz | hz
      · rw [hb1] at hz
        rw [hz]
        exact hin
      · rw [hb1] at hz
        exact hz
    have hM := IH _ _ _ hC y hy H.size (hfut _ hbd.1)
    have hroom := hlim _ _ hbd.1 hbd.2
    simp only [Bool.and_eq_true, Nat.ble_eq] at hwf1
    obtain ⟨w1, w2, w3⟩ := hwf1
    have hrecv := va_recv hK0 hP hcl (jw_wld_some hsh)
    have hpre := jw_start (av := ((Value.ref b :: (st.take n).reverse).map (jw_ad α))) hns hK0 hP hD hS hA hX hN rfl
    have hstk : (F0 m pc ls (st.map (jw_ad α))).stack = ((st.take n).reverse.map (jw_ad α)).reverse ++ .ref (α b) :: r.map (jw_ad α) := by
      show st.map (jw_ad α) = _
      rw [← List.map_reverse, List.reverse_reverse]
      conv => lhs; rw [e1]
      rw [List.map_append]
      rfl
    have hlen : ((st.take n).reverse.map (jw_ad α)).length = n := by simp; omega
    have hrm : (jw_rm d y.2.2.2.2.1.1 y.2.2.2.2.1.2).frames + 1 ≤ R.frames ∧ 8 + (y.2.2.1 + 11) + (jw_rm d y.2.2.2.2.1.1 y.2.2.2.2.1.2).locals ≤ R.locals := ⟨hRf, by show 8 + (y.2.2.1 + 11) + 200 * d ≤ R.locals; omega⟩
    have hgo : ∀ (hr : va_Run p l e R s m args below meth c H locs cells slots y.2.2.2.2.1.1 y.2.2.2.2.1.2 (F0 m pc ls (st.map (jw_ad α))) (r.map (jw_ad α)) (jw_Qc D cl cy α h H.size y.2.2.2.2.1.1 y.2.2.2.2.1.2 (fun v h' => f (v.toList ++ r) h') (Value.ref (α b) :: (st.take n).reverse.map (jw_ad α)).toArray) (va_A (jw_wld cy α h) H.size)), W p l e R s m args below meth c H locs cells slots Qf (F0 m pc ls (st.map (jw_ad α))) := fun hr =>
      jo_end2 (d := d) hS hD hA hr (fun v h' H' locs' hq n1 n2 n3 hP1 hD1 hS1 hfr => hK _ _ _ _ _ _ hq n1 n2 n3 (by rw [n2]; exact hbd.1) (by rw [n3]; exact hbd.2) hP1 hD1 hS1 hfr)
    cases hk0 : (kind % 16 == 0) with
    | true =>
      rw [hk0] at w3 hw1
      dsimp only [cond_true] at w3 hw1
      simp only [Bool.and_eq_true, beq_iff_eq] at w3
      have hT : GoodIn Ts (wsV own idx C0 y.1 (Cond.code y.1 y.2.1 y.2.2.1 y.2.2.2.1 :: Tg)) := jw_goodIn hTs hgood (fun w hw => by
        rcases List.mem_append.mp hw with q | q
        · exact hw1 w (by simp only [List.mem_cons, List.not_mem_nil, or_false] at q ⊢; rcases q with q | q | q | q <;> simp [q])
        · rcases List.mem_cons.mp q with q | q
          · exact hw1 w (by rw [q]; simp [jw_code])
          · exact q)
      exact hgo (va_runV ⟨hx, hb, hml, hown, hts⟩ hM (cwV n hts hT rfl rfl rfl ⟨w3.1, by rw [w3.1]; exact (jw_nh_ok w3.2).1, by rw [w3.1]; exact (jw_nh_ok w3.2).2, jw_par_ok w2⟩ hrm) ⟨jw_blind hns, hrecv, hpre⟩ rfl hlen hlz hstk (lv_room (by rw [jw_cat_map]; exact hcat)) hdg hroom)
    | false =>
      rw [hk0] at w3 hw1
      dsimp only [cond_false] at w3 hw1
      split at w3
      · rename_i X0 TX NX O0 TO NO y0 hX0 hO0 hy0
        rw [hX0, hO0, hy0] at hw1
        dsimp only at hw1
        simp only [Bool.and_eq_true, beq_iff_eq] at w3
        have hT : GoodIn Ts (va_wsO own idx C0 O0 ⟨X0, y.1.name, y.1.desc⟩ y.1 (Cond.code y.1 y.2.1 y.2.2.1 y.2.2.2.1 :: Tg)) := jw_goodIn hTs hgood (fun w hw => by
          rcases List.mem_append.mp hw with q | q
          · exact hw1 w (by simp only [List.mem_cons, List.not_mem_nil, or_false] at q ⊢; rcases q with q | q | q | q | q | q <;> simp [q])
          · rcases List.mem_cons.mp q with q | q
            · exact hw1 w (by rw [q]; simp [jw_code])
            · exact q)
        have h00 : Cond.code ⟨O0, y.1.name, y.1.desc⟩ y0.2.1 y0.2.2.1 y0.2.2.2.1 ∈ Ts := hTs _ (hw1 _ (by rw [← w3.1]; simp [jw_code]))
        exact hgo (va_runU ⟨hx, hb, hml, hown, hts⟩ hM (va_cwO n hts hT rfl rfl rfl h00 ⟨(jw_nh_ok w3.2).1, (jw_nh_ok w3.2).2, jw_par_ok w2⟩ hrm) ⟨jw_blind hns, hrecv, hpre⟩ rfl hlen hlz hstk (lv_room (by rw [jw_cat_map]; exact hcat)) hdg hroom)
      · cases w3
  · cases hwf1
set_option maxHeartbeats 4000000 in
theorem jo_spec2 {pc idx kind n d : Nat} {tg : List (Int × Nat)} (hx : p.tables.exec = Jvm.exec) (hb : c.code = cc) (hml : c.maxLocals = nL) (hown : s.vm.findClass own = some m.cls) (hts : ∀ w ∈ Ts, w.before args s = true) (hTs : ∀ w ∈ Tg, w ∈ Ts) (hgood : ∀ w ∈ Tg, goodWord w = true) (hns : jw_nsok Ns)
    (hw : ∀ z ∈ tg, ∀ w ∈ jw_wcP own cl ys idx kind z, w ∈ Tg) (hwn : ∀ z ∈ tg, ∀ w ∈ jw_ncP own ys idx kind z, w ∈ Ns) (hwf : ∀ z ∈ tg, jw_fcP cl ys kind n z = true) (hRf : d + 1 ≤ R.frames) (hRl : 200 * d + 200 ≤ R.locals) (hdg : decode cc pc = .ok (.invokespecial idx, 3)) (hlz : ls.size = nL)
    (hK0 : va_K D cl (jw_tys cy) s) (hP : va_P D cl (jw_wld cy α h) H) (hD : va_D A (jw_wld cy α h)) (hS : va_S A s.heap H locs) (hA : ∀ q, s.heap.size ≤ q → A q) (hX : jw_X α A s s.heap) (hN : jw_nw Ns s)
    (IH : ∀ (mid : Nat) (as : List Value) (Q : jw_Q), C mid as h Q → ∀ y, ys[mid]? = some y → jw_met l D cl cy α Ns Tg d y as h Q)
    (hfut : ∀ mc, h.1.length + mc ≤ lim.1 → jw_fut α h.1.length H.size mc) (hlim : ∀ mc ms, h.1.length + mc ≤ lim.1 → jw_sz h.1 + ms ≤ lim.2 → cells + mc ≤ R.cells ∧ slots + ms ≤ R.slots) (hin : h.1.length ≤ lim.1 ∧ jw_sz h.1 ≤ lim.2)
    (hs : jw_call C (jw_bud ys) lim (kind, n, tg) st h f)
    (hK : ∀ (st' : List Value) (h' : jw_H) (H' : Heap) (locs' : List Loc) (k n : Nat), f st' h' → H'.size = H.size + k → h'.1.length = h.1.length + k → jw_sz h'.1 = jw_sz h.1 + n → h'.1.length ≤ lim.1 → jw_sz h'.1 ≤ lim.2 → va_P D cl (jw_wld cy α h') H' → va_D A (jw_wld cy α h') → va_S A s.heap H' locs' → (∀ q, q < H.size → ¬ va_A (jw_wld cy α h) H.size q → H'[q]? = H[q]?) → W p l e R s m args below meth c H' locs' (cells + k) (slots + n) Qf (F0 m (pc + 3) ls (st'.map (jw_ad α)))) :
    W p l e R s m args below meth c H locs cells slots Qf (F0 m pc ls (st.map (jw_ad α))) := by
  obtain ⟨b, r, ci, ks, mid, e1, e2, hsh, htg, hcat, hbud, hC⟩ := jw_call_ok hs
  have hwf1 := hwf _ htg
  have hw1 := hw _ htg
  have hwn1 := hwn _ htg
  unfold jw_fcP at hwf1
  unfold jw_wcP at hw1
  unfold jw_ncP at hwn1
  dsimp only [Int.toNat_natCast] at hwf1 hw1 hwn1
  split at hwf1
  · rename_i q0 y hcl hy
    obtain ⟨C0, T0, N0⟩ := q0
    rw [hy] at hw1 hwn1
    dsimp only at hw1 hwn1
    have hb1 : jw_bud ys mid = y.2.2.2.2.1 := by unfold jw_bud; rw [hy]
    have hbd : h.1.length + y.2.2.2.2.1.1 ≤ lim.1 ∧ jw_sz h.1 + y.2.2.2.2.1.2 ≤ lim.2 := by
      rcases hbud with hz | hz
      · rw [hb1] at hz
        rw [hz]
        exact hin
      · rw [hb1] at hz
        exact hz
    have hM := IH _ _ _ hC y hy H.size (hfut _ hbd.1)
    have hroom := hlim _ _ hbd.1 hbd.2
    simp only [Bool.and_eq_true, Nat.ble_eq] at hwf1
    obtain ⟨w1, w2, w2', w3⟩ := hwf1
    have hrecv := va_recv hK0 hP hcl (jw_wld_some hsh)
    have hpre := jw_start (av := ((Value.ref b :: (st.take n).reverse).map (jw_ad α))) hns hK0 hP hD hS hA hX hN rfl
    have hstk : (F0 m pc ls (st.map (jw_ad α))).stack = ((st.take n).reverse.map (jw_ad α)).reverse ++ .ref (α b) :: r.map (jw_ad α) := by
      show st.map (jw_ad α) = _
      rw [← List.map_reverse, List.reverse_reverse]
      conv => lhs; rw [e1]
      rw [List.map_append]
      rfl
    have hlen : ((st.take n).reverse.map (jw_ad α)).length = n := by simp; omega
    have hrm : (jw_rm d y.2.2.2.2.1.1 y.2.2.2.2.1.2).frames + 1 ≤ R.frames ∧ 8 + (y.2.2.1 + 11) + (jw_rm d y.2.2.2.2.1.1 y.2.2.2.2.1.2).locals ≤ R.locals := ⟨hRf, by show 8 + (y.2.2.1 + 11) + 200 * d ≤ R.locals; omega⟩
    have hgo : ∀ (hr : va_Run p l e R s m args below meth c H locs cells slots y.2.2.2.2.1.1 y.2.2.2.2.1.2 (F0 m pc ls (st.map (jw_ad α))) (r.map (jw_ad α)) (jw_Qc D cl cy α h H.size y.2.2.2.2.1.1 y.2.2.2.2.1.2 (fun v h' => f (v.toList ++ r) h') (Value.ref (α b) :: (st.take n).reverse.map (jw_ad α)).toArray) (va_A (jw_wld cy α h) H.size)), W p l e R s m args below meth c H locs cells slots Qf (F0 m pc ls (st.map (jw_ad α))) := fun hr =>
      jo_end2 (d := d) hS hD hA hr (fun v h' H' locs' hq n1 n2 n3 hP1 hD1 hS1 hfr => hK _ _ _ _ _ _ hq n1 n2 n3 (by rw [n2]; exact hbd.1) (by rw [n3]; exact hbd.2) hP1 hD1 hS1 hfr)
    have hcd : Cond.code y.1 y.2.1 y.2.2.1 y.2.2.2.1 ∈ Tg := hw1 _ (List.mem_append_left _ (by simp [jw_code]))
    have hini : (Cond.initialized y.1.cls).before args s = true := hts _ (hTs _ (hw1 _ (List.mem_append_left _ (by simp))))
    have hins : (Cond.instanceMethod y.1).before args s = true := hts _ (hTs _ (hw1 _ (List.mem_append_left _ (by simp))))
    have hG : GoodIn Ts (Cond.code y.1 y.2.1 y.2.2.1 y.2.2.2.1 :: Tg) := jw_goodIn hTs hgood (fun w hw => by
      rcases List.mem_cons.mp hw with q | q
      · rw [q]; exact hcd
      · exact q)
    cases hk0 : (kind == 5) with
    | true =>
      rw [hk0] at w3 hw1 hwn1
      dsimp only [cond_true] at w3 hw1 hwn1
      simp only [Bool.and_eq_true, beq_iff_eq] at w3
      have hr0 : y.2.2.2.1 = none := w3.2
      rw [hr0] at hM hG
      have hl : va_Nw (.methodLinkNest own idx y.1 "ShadowSchool") s := hN.1 _ (hwn1 _ (List.mem_singleton.mpr rfl))
      exact hgo (va_runIN ⟨hx, hb, hml, hown, hts⟩ hM ⟨va_cnB n hts hG rfl rfl rfl hl hini ⟨(jw_nh_ok w2').1, (jw_nh_ok w2').2, jw_par_ok w2⟩ hrm, w3.1, hins⟩ ⟨jw_blind hns, hpre⟩ rfl hlen hlz hstk (lv_room (by rw [jw_cat_map]; exact hcat)) hdg hroom)
    | false =>
      rw [hk0] at w3 hw1
      dsimp only [cond_false] at w3 hw1
      simp only [Bool.and_eq_true, bne_iff_ne, ne_eq] at w3
      split at w3
      · rename_i q1 hX0
        obtain ⟨X0, TX, NX⟩ := q1
        rw [hX0] at hw1
        dsimp only at hw1
        have h1 := fun w hz => hts w (hTs w (hw1 w (List.mem_append_right _ (List.mem_append_left _ hz))))
        have hup : X0 = y.1.cls ∨ (Cond.superclass X0 y.1.cls).before args s = true := by
          cases hq : (X0 == y.1.cls) with
          | true => exact Or.inl (by simpa using hq)
          | false => exact Or.inr (hts _ (hTs _ (hw1 _ (List.mem_append_right _ (List.mem_append_right _ (by rw [hq]; simp))))))
        exact hgo (jo_runSU (hK0.1 ci _ hcl).2 ⟨hx, hb, hml, hown, hts⟩ hM hG rfl rfl rfl hrm hini (h1 _ (by simp)) (h1 _ (by simp)) (h1 _ (by simp)) hup hins w3.1 (jw_par_ok w2) ⟨jw_blind hns, hrecv, hpre⟩ rfl hlen hlz hstk (lv_room (by rw [jw_cat_map]; exact hcat)) hdg hroom)
      · exact absurd w3.2 (by decide)
  · cases hwf1
end JL2
