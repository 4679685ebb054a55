/-! ===== the law: new objects, constructors ===== -/
section JL3
variable {p : Program} {l : Launch} {e : Env} {R : Room} {s : State} {m : MethodId} {args : Array Value} {below : List Frame} {meth : Method} {c : Code} {H : Heap} {locs : List Loc} {cells slots : Nat} {Qf : State → Prop}
variable {cc : ByteArray} {ls : Array Slot} {α : Nat → Nat} {nL : Nat} {D : va_G} {cl : List vw_C} {A : Nat → Prop} {cy : Nat → ClassId} {own nm : String} {Ts Tg Ns : List Cond} {h : jw_H} {st : List Value} {kd : Nat → List jw_K} {lim : Nat × Nat}
set_option maxHeartbeats 1000000 in
theorem jo_new2 {pc idx ci : Nat} {f : Nat → jw_H → Prop} (hx : p.tables.exec = Jvm.exec) (hb : c.code = cc) (hown : s.vm.findClass own = some m.cls) (hts : ∀ w ∈ Ts, w.before args s = true) (hcl : jw_clok cl Ts) {C0 : String} {T0 : u_T} {N0 : Nat} (hc : cl[ci]? = some (C0, T0, N0)) (hw : ∀ w ∈ [Cond.classLink own idx C0, .instantiable C0 N0, .initialized C0], w ∈ Ts) (hkd : jw_kdok kd cl ci = true) (hdg : decode cc pc = .ok (.new idx, 3))
    (hK0 : va_K D cl (jw_tys cy) s) (hP : va_P D cl (jw_wld cy α h) H) (hD : va_D A (jw_wld cy α h)) (hS : va_S A s.heap H locs) (hA : ∀ q, s.heap.size ≤ q → A q)
    (hfut : ∀ mc, h.1.length + mc ≤ lim.1 → jw_fut α h.1.length H.size mc) (hlim : ∀ mc ms, h.1.length + mc ≤ lim.1 → jw_sz h.1 + ms ≤ lim.2 → cells + mc ≤ R.cells ∧ slots + ms ≤ R.slots)
    (hs : jw_new h lim ci (kd ci) f)
    (hK : ∀ (a : Nat) (h' : jw_H) (H' : Heap) (locs' : List Loc) (k n : Nat), f a h' → H'.size = H.size + k → h'.1.length = h.1.length + k → jw_sz h'.1 = jw_sz h.1 + n → h'.1.length ≤ lim.1 → jw_sz h'.1 ≤ lim.2 → va_P D cl (jw_wld cy α h') H' → va_D A (jw_wld cy α h') → va_S A s.heap H' locs' → (∀ q, q < H.size → H'[q]? = H[q]?) → W p l e R s m args below meth c H' locs' (cells + k) (slots + n) Qf (F0 m (pc + 3) ls ((.ref a :: st).map (jw_ad α)))) :
    W p l e R s m args below meth c H locs cells slots Qf (F0 m pc ls (st.map (jw_ad α))) := by
  obtain ⟨hl1, hs⟩ := jw_bif hs
  simp only [Bool.and_eq_true, Nat.ble_eq] at hl1
  obtain ⟨c1, ⟨ty0, c2⟩, c3⟩ := hcl _ _ _ _ hc
  obtain ⟨k1, k2⟩ := jw_kd_ok (α := α) hc hkd c2 (jw_lay h.2.1 h.1.length (fun _ => 0), jw_lay h.2.2 h.1.length (fun _ => 0)) h.1.length jw_lay_eq jw_lay_eq
  have hroom := hlim 1 N0 hl1.1 (by rw [k1] at hl1; exact hl1.2)
  have hadr : α h.1.length = H.size := by have := hfut 1 hl1.1 h.1.length (by omega) (by omega); omega
  have hKn := hK0.1 ci _ hc
  refine W.newcK hx hb hown (hts _ (hw _ (by simp))) (hts _ (hw _ (by simp))) (hts _ (hw _ (by simp))) rfl hdg hroom.1 hroom.2 hKn.2.1 rfl fun H1 kC hkC e1 z1 o1 => ?_
  have e2 : jw_wld cy α (h.1 ++ [.inl (ci, kd ci)], jw_lay h.2.1 h.1.length (fun _ => 0), jw_lay h.2.2 h.1.length (fun _ => 0)) = jw_wld cy α h ++ [(H.size, .inr (ci, (kd ci).mapIdx (jw_fld α (jw_lay h.2.1 h.1.length (fun _ => 0), jw_lay h.2.2 h.1.length (fun _ => 0)) h.1.length)))] := by
    rw [jw_wld_app (h := h) (X := [.inl (ci, kd ci)]) rfl (fun i hi => jw_lay_ne (by omega)) (fun i hi => jw_lay_ne (by omega))]
    simp [hadr, jw_cell]
  have hk : ∀ (k : Nat) (x : Nat × va_E), (jw_wld cy α h)[k]? = some x → H1[x.1]? = H[x.1]? := fun k x hx => o1 x.1 ((hP k x hx).lt)
  have := hK h.1.length _ H1 locs 1 N0 hs z1 (by simp) (by rw [jw_sz_app]; simp [jw_sz, jw_ssz, k1]) (by simp; exact hl1.1) (by rw [jw_sz_app]; simp [jw_sz, jw_ssz]; exact hl1.2) (by
      rw [e2]
      refine (hP.kept hk).app (fun k x hx => ?_)
      have hz : k < 1 := (List.getElem?_eq_some_iff.mp hx).1
      rw [show k = 0 by omega] at hx
      cases hx
      exact ⟨_, hc, (u_born ty0 hts c1 hKn hkC e1 c2).to k2⟩) (by
      rw [e2]
      exact hD.push hP rfl (hA _ hS.1)) ⟨Nat.le_trans hS.1 (by omega), fun x h1 h2 => (o1 x (Nat.lt_of_lt_of_le h1 hS.1)).trans (hS.2.1 x h1 h2), hS.2.2⟩ o1
  rw [List.map_cons, jw_ad, hadr] at this
  exact this
end JL3
section JL4
variable {p : Program} {l : Launch} {e : Env} {R : Room} {s : State} {m : MethodId} {args : Array Value} {below : List Frame} {meth : Method} {c : Code} {H : Heap} {locs : List Loc} {cells slots : Nat} {Qf : State → Prop}
variable {cc : ByteArray} {ls : Array Slot} {α : Nat → Nat} {nL : Nat} {D : va_G} {cl : List vw_C} {A : Nat → Prop} {cy : Nat → ClassId} {own nm : String} {Ts Tg Ns : List Cond} {h : jw_H} {ys : List jw_Y} {C : Nat → List Value → jw_H → jw_Q → Prop} {lim : Nat × Nat} {st : List Value} {f : List Value → jw_H → Prop}
set_option maxHeartbeats 4000000 in
theorem jl_init {pc idx mid d mc ms nL' : Nat} {nm : MethodName} {cc' : ByteArray} {cs : List jw_I} {r : List Value} {Q : jw_Q} (hx : p.tables.exec = Jvm.exec) (hb : c.code = cc) (hml : c.maxLocals = nL) (hown : s.vm.findClass own = some m.cls) (hts : ∀ w ∈ Ts, w.before args s = true) (hTs : ∀ w ∈ Tg, w ∈ Ts) (hgood : ∀ w ∈ Tg, goodWord w = true) (hns : jw_nsok Ns)
    (hy : ys[mid]? = some (nm, cc', nL', none, (mc, ms), cs)) (hn1 : nm.name = "<init>") (hnh : jw_nh nm.cls = true) (hpar : jw_par nm.desc 0 = true) (hnl : nL' ≤ 100) (hw1 : Cond.methodLink own idx nm ∈ Tg) (hw2 : Cond.instanceMethod nm ∈ Tg) (hw3 : Cond.initialized nm.cls ∈ Tg) (hw4 : Cond.code nm cc' nL' none ∈ Tg)
    (hRf : d + 1 ≤ R.frames) (hRl : 200 * d + 200 ≤ R.locals) (hdg : decode cc pc = .ok (.invokespecial idx, 3)) (hlz : ls.size = nL) (hroom : cells + mc ≤ R.cells ∧ slots + ms ≤ R.slots) (hcat : jw_cat r ≤ 8)
    (hK0 : va_K D cl (jw_tys cy) s) (hP : va_P D cl (jw_wld cy α h) H) (hD : va_D A (jw_wld cy α h)) (hS : va_S A s.heap H locs) (hA : ∀ q, s.heap.size ≤ q → A q) (hX : jw_X α A s s.heap) (hN : jw_nw Ns s)
    (hM : jw_met l D cl cy α Ns Tg d (nm, cc', nL', none, (mc, ms), cs) [.ref 0] h Q) (hfut : jw_fut α h.1.length H.size mc)
    (hK : ∀ (v : Option Value) (h' : jw_H) (H' : Heap) (locs' : List Loc), Q v h' → H'.size = H.size + mc → va_P D cl (jw_wld cy α h') H' → va_D A (jw_wld cy α h') → va_S A s.heap H' locs' → (∀ q, q < H.size → ¬ va_A (jw_wld cy α h) H.size q → H'[q]? = H[q]?) → W p l e R s m args below meth c H' locs' (cells + mc) (slots + ms) Qf (F0 m (pc + 3) ls ((v.toList ++ r).map (jw_ad α)))) :
    W p l e R s m args below meth c H locs cells slots Qf (F0 m pc ls ((.ref 0 :: r).map (jw_ad α))) := by
  have hM1 := hM H.size hfut
  have hpre := jw_start (av := (([Value.ref 0] : List Value).map (jw_ad α))) hns hK0 hP hD hS hA hX hN rfl
  have hG : GoodIn Ts (Cond.code nm cc' nL' none :: Tg) := jw_goodIn hTs hgood (fun w hw => by
    rcases List.mem_cons.mp hw with q | q
    · rw [q]; exact hw4
    · exact q)
  have hrm : (jw_rm d mc ms).frames + 1 ≤ R.frames ∧ 8 + (nL' + 11) + (jw_rm d mc ms).locals ≤ R.locals := ⟨hRf, by show 8 + (nL' + 11) + 200 * d ≤ R.locals; omega⟩
  have hr := va_runI (e := e) (below := below) (meth := meth) (locs := locs) (As := []) (b := α 0) (rest := r.map (jw_ad α)) (g := F0 m pc ls ((.ref 0 :: r).map (jw_ad α))) ⟨hx, hb, hml, hown, hts⟩ hM1 (cwI 0 hts hG rfl rfl rfl (hts _ (hTs _ hw3)) (hts _ (hTs _ hw1)) (hts _ (hTs _ hw2)) hn1 ⟨(jw_nh_ok hnh).1, (jw_nh_ok hnh).2, jw_par_ok hpar⟩ hrm) ⟨jw_blind hns, hpre⟩ rfl rfl hlz rfl (lv_room (by rw [jw_cat_map]; exact hcat)) hdg hroom
  exact jo_end2 (y := (nm, cc', nL', none, (mc, ms), cs)) (d := d) (Q := Q) (rest := r) hS hD hA hr (fun v h' H' locs' hq n1 n2 n3 hP1 hD1 hS1 hfr => hK v h' H' locs' hq n1 hP1 hD1 hS1 hfr)
end JL4
