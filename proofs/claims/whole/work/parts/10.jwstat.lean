/-! ===== static and special calls ===== -/
def jw_wcS (own : String) (ys : List jw_Y) (idx k : Nat) (z : Int × Nat) : List Cond := match ys[z.2]? with
  | some y => [.static y.1, .initialized y.1.cls, jw_code y] ++ (bif k == 2 then [.methodLink own idx y.1] else [])
  | none => []
def jw_ncS (own : String) (ys : List jw_Y) (idx k : Nat) (z : Int × Nat) : List Cond := match ys[z.2]? with
  | some y => (bif k == 2 then [] else [.methodLinkNest own idx y.1 "ShadowSchool"])
  | none => []
def jw_fcS (ys : List jw_Y) (n : Nat) (z : Int × Nat) : Bool := match ys[z.2]? with
  | some y => Nat.ble y.2.2.1 100 && (jw_par y.1.desc n && jw_nh y.1.cls)
  | none => false
/-- words of invokespecial: kind 5: a constructor of a nest mate; kind 4: a superclass's method, named by X -/
def jw_wcP (own : String) (cl : List vw_C) (ys : List jw_Y) (idx k : Nat) (z : Int × Nat) : List Cond := match ys[z.2]? with
  | some y => [.instanceMethod y.1, .initialized y.1.cls, jw_code y] ++ (bif k == 5 then [] else (match cl[k / 16]? with
    | some (X, _, _) => [.methodLink own idx ⟨X, y.1.name, y.1.desc⟩, .sameMethod X y.1.cls y.1.name y.1.desc, .superclass own X] ++ (bif X == y.1.cls then [] else [.superclass X y.1.cls])
    | none => []))
  | none => []
def jw_ncP (own : String) (ys : List jw_Y) (idx k : Nat) (z : Int × Nat) : List Cond := match ys[z.2]? with
  | some y => (bif k == 5 then [.methodLinkNest own idx y.1 "ShadowSchool"] else [])
  | none => []
def jw_fcP (cl : List vw_C) (ys : List jw_Y) (k n : Nat) (z : Int × Nat) : Bool := match cl[z.1.toNat]?, ys[z.2]? with
  | some _, some y => Nat.ble y.2.2.1 100 && (jw_par y.1.desc n && (jw_nh y.1.cls && (bif k == 5 then y.1.name == "<init>" && y.2.2.2.1 == none else y.1.name != "<init>" && (match cl[k / 16]? with | some _ => true | none => false))))
  | _, _ => false
section JWT
variable {p : Program} {l : Launch} {e : Env} {R : Room} {s : State} {m : MethodId} {args : Array Value} {below : List Frame} {meth : Method} {c : Code} {H : Heap} {locs : List Loc} {cells slots : Nat} {Qf : State → Prop}
variable {cc : ByteArray} {ls : Array Slot} {α : Nat → Nat} {nL : Nat} {D : va_G} {cl : List vw_C} {A : Nat → Prop} {cy : Nat → ClassId} {own nm : String} {Ts Tg Ns : List Cond} {h : jw_H} {ys : List jw_Y} {C : Nat → List Value → jw_H → jw_Q → Prop} {lim : Nat × Nat} {st : List Value} {f : List Value → jw_H → Prop}
/-- super.m(..), the method found in the superclass named or just above it -/
theorem jo_callSU {T : State} {locs : List Loc} {cells slots : Nat} (X : Stand p l e R s m args below meth c T locs cells slots) (hexec : p.tables.exec = Jvm.exec) {own xc : String} {index : Nat} {y : MethodName} {bytes : ByteArray} {maxL : Nat} {ret : Option FieldType}
    (hown : s.vm.findClass own = some m.cls) (hlink : (Cond.methodLink own index ⟨xc, y.name, y.desc⟩).before args s = true) (hsame : (Cond.sameMethod xc y.cls y.name y.desc).before args s = true) (hsup : (Cond.superclass own xc).before args s = true) (hup : xc = y.cls ∨ (Cond.superclass xc y.cls).before args s = true)
    (hinst : (Cond.instanceMethod y).before args s = true) (hcode : (Cond.code y bytes maxL ret).before args s = true) (hno : y.name ≠ "<init>")
    {W : Nat} {Pre : Pt → Array Value → Prop} {Post : Pt → Array Value → Option Value → Pt → Prop} (hK : Back l R p e below s args y 3 W Pre Post)
    {b : Addr} {cellB : Cell} {kB : Class} (hcell : T.heap[b]? = some cellB) (hobj : cellB.vm.isStatics = false) (hkB : s.vm.classes[cellB.cls]? = some kB)
    {g : JFrame} (hg : g.method = m) (hsize : g.locals.size = c.maxLocals) {argsL rest : List Value} (hlen : ∀ sig, parseMethodDescriptor y.desc = some sig → argsL.length = sig.parameters.length)
    (hstack : g.stack = argsL.reverse ++ .ref b :: rest) (hW : 2 * g.monitorRoom + (rest.map fun v => v.category).sum ≤ W) (hdg : decode c.code g.pc = .ok (.invokespecial index, 3))
    (hpre : ∀ vm₁, s.WarmedH vm₁ → Pre ⟨T.setVm vm₁, locs, cells, slots⟩ (Value.ref b :: argsL).toArray) :
    ∃ (v : Option Value) (vm₁ : Vm) (B : Pt), s.WarmedH vm₁ ∧ Stand p l e R s m args below meth c B.U B.locs B.cells B.slots ∧ Post ⟨T.setVm vm₁, locs, cells, slots⟩ (Value.ref b :: argsL).toArray v B ∧
      ∀ target, Steps p.tables e below (B.U.setTop { g with pc := g.pc + 3, stack := v.toList ++ rest }) target → Steps p.tables e below (T.setTop g) target := by
  obtain ⟨mk, methM, hnamed, hmethM, hstM, habM⟩ := Cond.instanceMethod_spec hinst
  obtain ⟨methM', cM, hmethM', -, -, -, -, -, -, hsigM⟩ := Cond.code_spec hnamed hcode
  cases hmethM.symm.trans hmethM'
  obtain ⟨ps, dk, kp, hps, hdk, hkp, hsuper, -, -, hnid⟩ := Cond.superclass_spec hown hsup
  have hn : s.methodNamed? ⟨y.cls, y.name, y.desc⟩ = some mk := hnamed
  have hmc : s.vm.findClass y.cls = some mk.cls := findClass_of_methodNamed hnamed
  have hsub : s.vm.isSubclass ps mk.cls = true := by
    rcases hup with hup | hup
    · rw [hup] at hps
      have hpm : ps = mk.cls := Option.some.inj (hps.symm.trans hmc)
      rw [hpm]; simp [Vm.isSubclass, Vm.isSubclassAux]
    · obtain ⟨ps2, dk2, kp2, hps2, hdk2, hkp2, hsuper2, -, -, -⟩ := Cond.superclass_spec hps hup
      have hpm : ps2 = mk.cls := Option.some.inj (hps2.symm.trans hmc)
      rw [← hpm]
      have hsz : ps < s.vm.classes.size := (Array.getElem?_eq_some_iff.mp hdk2).1
      unfold Vm.isSubclass
      cases hn9 : s.vm.classes.size with
      | zero => rw [hn9] at hsz; exact absurd hsz (Nat.not_lt_zero _)
      | succ n => simp [Vm.isSubclassAux, hdk2, hsuper2]
  obtain ⟨vm₁, X₁, hstep₁⟩ := X.invokespecialUp hexec (x := ⟨xc, y.name, y.desc⟩) (owner := y.cls) hown hlink hsame hn hmethM hstM habM hno hdk hnid hps hsuper hsub (a := b) (cell := cellB) hcell
    (fun z h => by rw [h] at hobj; cases hobj) hkB (g := g) hg (argsL := argsL) (rest := rest) (hlen _ hsigM) hstack hdg
  obtain ⟨v, B, X', hpost, hsteps⟩ := hK m meth c ⟨T.setVm vm₁, locs, cells, slots⟩ { g with stack := rest } (.invokespecial index) mk (Value.ref b :: argsL).toArray X₁ hg hsize hdg hW (X₁.named hnamed) (hpre vm₁ X₁.warmed)
  exact ⟨v, vm₁, B, X₁.warmed, X', hpost, fun target h => hstep₁ _ (by rw [doInvoke_state]; exact hsteps.trans h)⟩
theorem jo_runSU {y : MethodName} {xc : String} {bytes cc : ByteArray} {maxL nL mc ms n index : Nat} {ret : Option FieldType} {ws ws' : List Cond} {rm : Room} {Pc : Array Value → State → Prop} {Qc : Array Value → State → Outcome → State → Prop} {free : Addr → Prop} {Ts : List Cond} {own C : String} {cC : ClassId} {b : Addr} {As rest : List Value} {g : JFrame}
    (hat : ClassAt s C cC) (S : CallFix p m c cc nL s args Ts own) (hM : Met l y ws rm Pc Qc mc ms free) (hG : GoodIn Ts ws) (hwc : ws = Cond.code y bytes maxL ret :: ws') (hrc : rm.cells = mc) (hrs : rm.slots = ms) (hR : rm.frames + 1 ≤ R.frames ∧ 8 + (maxL + 11) + rm.locals ≤ R.locals) (hini : (Cond.initialized y.cls).before args s = true)
    (hl1 : (Cond.methodLink own index ⟨xc, y.name, y.desc⟩).before args s = true) (hl2 : (Cond.sameMethod xc y.cls y.name y.desc).before args s = true) (hl3 : (Cond.superclass own xc).before args s = true) (hup : xc = y.cls ∨ (Cond.superclass xc y.cls).before args s = true) (hl4 : (Cond.instanceMethod y).before args s = true) (hno : y.name ≠ "<init>") (hpar : (parseMethodDescriptor y.desc).map (fun d => d.parameters.length) = some n)
    (hp : PreV s H C b Pc As)
    (hg : g.method = m) (hn : As.length = n) (hsize : g.locals.size = nL) (hstack : g.stack = As.reverse ++ .ref b :: rest) (hW : 2 * g.monitorRoom + (rest.map fun v => v.category).sum ≤ 8) (hdg : decode cc g.pc = .ok (.invokespecial index, 3)) (hf : cells + mc ≤ R.cells ∧ slots + ms ≤ R.slots) :
    va_Run p l e R s m args below meth c H locs cells slots mc ms g rest (Qc (Value.ref b :: As).toArray) (free) := by
  have hcw : Cond.code y bytes maxL ret ∈ ws := by rw [hwc]; exact List.mem_cons_self
  have hts := S.2.2.2.2
  have hcode : (Cond.code y bytes maxL ret).before args s = true := hts _ (hG _ hcw).1
  have hK : Back l R p e below s args y 3 8 (PreOf R mc ms Pc) (PostOf Qc mc ms free) := back_of (bytes := bytes) (maxL := maxL) (ret := ret) hM hp.1 hrc hrs hR.1 hR.2 (pay_in hts hG) hcw (fun a' U hW => word_at hW (Or.inl (by first | rfl | simp [Cond.onTables, Cond.keeps, Cond.steady])) hini)
  have hlen : ∀ sig, parseMethodDescriptor y.desc = some sig → n = sig.parameters.length := fun sig h => by
    rw [h] at hpar
    exact (Option.some.inj hpar).symm
  obtain ⟨hx, hb, hml, ho, -⟩ := S
  obtain ⟨-, ⟨cellB, hcB, hoB, hclB⟩, hPc⟩ := hp
  obtain ⟨hfc, kB, hkB, -⟩ := hat
  cases hfc.symm.trans hclB
  intro T hT X
  obtain ⟨v, vm₁, ⟨U', l2, c2, s2⟩, hW₁, X', ⟨g', mk, t, L, e1, e2, hq, h1, hL, h2, h3⟩, st⟩ := jo_callSU X hx (bytes := bytes) (maxL := maxL) (ret := ret) ho hl1 hl2 hl3 hup hl4 hcode hno hK (by rw [hT]; exact hcB) hoB hkB hg (hsize.trans hml.symm) (argsL := As) (rest := rest) (fun sig h => hn.trans (hlen sig h)) hstack hW (by rw [hb]; exact hdg)
    (fun vm₁ hW₁ => ⟨hf.1, hf.2, hPc (T.setVm vm₁) hT hW₁⟩)
  dsimp only [Pt.U, Pt.locs, Pt.cells, Pt.slots] at X' e1 e2 h1 h2 h3 st
  subst h1; subst h2; subst h3
  exact ⟨v, (T.setVm vm₁).calling g' mk (Value.ref b :: As).toArray, t, U', L, hT, X', hL, e1, e2, hq, st⟩
set_option maxHeartbeats 4000000 in
theorem jo_spec {pc idx kind n d : Nat} {tg : List (Int × Nat)} (hx : p.tables.exec = Jvm.exec) (hb : c.code = cc) (hml : c.maxLocals = nL) (hown : s.vm.findClass own = some m.cls) (hts : ∀ w ∈ Ts, w.before args s = true) (hTs : ∀ w ∈ Tg, w ∈ Ts) (hgood : ∀ w ∈ Tg, goodWord w = true) (hns : jw_nsok Ns)
    (hw : ∀ z ∈ tg, ∀ w ∈ jw_wcP own cl ys idx kind z, w ∈ Tg) (hwn : ∀ z ∈ tg, ∀ w ∈ jw_ncP own ys idx kind z, w ∈ Ns) (hwf : ∀ z ∈ tg, jw_fcP cl ys kind n z = true) (hRf : d + 1 ≤ R.frames) (hRl : 200 * d + 200 ≤ R.locals) (hdg : decode cc pc = .ok (.invokespecial idx, 3)) (hlz : ls.size = nL)
    (hK0 : va_K D cl (jw_tys cy) s) (hP : va_P D cl (jw_wld cy α h) H) (hD : va_D A (jw_wld cy α h)) (hS : va_S A s.heap H locs) (hA : ∀ q, s.heap.size ≤ q → A q) (hX : jw_X α A s s.heap) (hN : jw_nw Ns s)
    (IH : ∀ (mid : Nat) (as : List Value) (Q : jw_Q), C mid as h Q → ∀ y, ys[mid]? = some y → jw_met l D cl cy α Ns Tg d y as h Q)
    (hfut : ∀ mc, h.1.length + mc ≤ lim.1 → jw_fut α h.1.length H.size mc) (hlim : ∀ mc ms, h.1.length + mc ≤ lim.1 → jw_sz h.1 + ms ≤ lim.2 → cells + mc ≤ R.cells ∧ slots + ms ≤ R.slots) (hin : h.1.length ≤ lim.1 ∧ jw_sz h.1 ≤ lim.2)
    (hs : jw_call C (jw_bud ys) lim (kind, n, tg) st h f)
    (hK : ∀ (st' : List Value) (h' : jw_H) (H' : Heap) (locs' : List Loc) (k n : Nat), f st' h' → H'.size = H.size + k → h'.1.length = h.1.length + k → jw_sz h'.1 = jw_sz h.1 + n → h'.1.length ≤ lim.1 → jw_sz h'.1 ≤ lim.2 → va_P D cl (jw_wld cy α h') H' → va_D A (jw_wld cy α h') → va_S A s.heap H' locs' → W p l e R s m args below meth c H' locs' (cells + k) (slots + n) Qf (F0 m (pc + 3) ls (st'.map (jw_ad α)))) :
    W p l e R s m args below meth c H locs cells slots Qf (F0 m pc ls (st.map (jw_ad α))) := by
  obtain ⟨b, r, ci, ks, mid, e1, e2, hsh, htg, hcat, hbud, hC⟩ := jw_call_ok hs
  have hwf1 := hwf _ htg
  have hw1 := hw _ htg
  have hwn1 := hwn _ htg
  unfold jw_fcP at hwf1
  unfold jw_wcP at hw1
  unfold jw_ncP at hwn1
  dsimp only [Int.toNat_natCast] at hwf1 hw1 hwn1
  split at hwf1
  · rename_i q0 y hcl hy
    obtain ⟨C0, T0, N0⟩ := q0
    rw [hy] at hw1 hwn1
    dsimp only at hw1 hwn1
    have hb1 : jw_bud ys mid = y.2.2.2.2.1 := by unfold jw_bud; rw [hy]
    have hbd : h.1.length + y.2.2.2.2.1.1 ≤ lim.1 ∧ jw_sz h.1 + y.2.2.2.2.1.2 ≤ lim.2 := by
      rcases hbud with hz | hz
      · rw [hb1] at hz
        rw [hz]
        exact hin
      · rw [hb1] at hz
        exact hz
    have hM := IH _ _ _ hC y hy H.size (hfut _ hbd.1)
    have hroom := hlim _ _ hbd.1 hbd.2
    simp only [Bool.and_eq_true, Nat.ble_eq] at hwf1
    obtain ⟨w1, w2, w2', w3⟩ := hwf1
    have hrecv := va_recv hK0 hP hcl (jw_wld_some hsh)
    have hpre := jw_start (av := ((Value.ref b :: (st.take n).reverse).map (jw_ad α))) hns hK0 hP hD hS hA hX hN rfl
    have hstk : (F0 m pc ls (st.map (jw_ad α))).stack = ((st.take n).reverse.map (jw_ad α)).reverse ++ .ref (α b) :: r.map (jw_ad α) := by
      show st.map (jw_ad α) = _
      rw [← List.map_reverse, List.reverse_reverse]
      conv => lhs; rw [e1]
      rw [List.map_append]
      rfl
    have hlen : ((st.take n).reverse.map (jw_ad α)).length = n := by simp; omega
    have hrm : (jw_rm d y.2.2.2.2.1.1 y.2.2.2.2.1.2).frames + 1 ≤ R.frames ∧ 8 + (y.2.2.1 + 11) + (jw_rm d y.2.2.2.2.1.1 y.2.2.2.2.1.2).locals ≤ R.locals := ⟨hRf, by show 8 + (y.2.2.1 + 11) + 200 * d ≤ R.locals; omega⟩
    have hgo : ∀ (hr : va_Run p l e R s m args below meth c H locs cells slots y.2.2.2.2.1.1 y.2.2.2.2.1.2 (F0 m pc ls (st.map (jw_ad α))) (r.map (jw_ad α)) (jw_Qc D cl cy α h H.size y.2.2.2.2.1.1 y.2.2.2.2.1.2 (fun v h' => f (v.toList ++ r) h') (Value.ref (α b) :: (st.take n).reverse.map (jw_ad α)).toArray) (va_A (jw_wld cy α h) H.size)), W p l e R s m args below meth c H locs cells slots Qf (F0 m pc ls (st.map (jw_ad α))) := fun hr =>
      jo_end (d := d) hS hD hA hr (fun v h' H' locs' hq n1 n2 n3 hP1 hD1 hS1 => hK _ _ _ _ _ _ hq n1 n2 n3 (by rw [n2]; exact hbd.1) (by rw [n3]; exact hbd.2) hP1 hD1 hS1)
    have hcd : Cond.code y.1 y.2.1 y.2.2.1 y.2.2.2.1 ∈ Tg := hw1 _ (List.mem_append_left _ (by simp [jw_code]))
    have hini : (Cond.initialized y.1.cls).before args s = true := hts _ (hTs _ (hw1 _ (List.mem_append_left _ (by simp))))
    have hins : (Cond.instanceMethod y.1).before args s = true := hts _ (hTs _ (hw1 _ (List.mem_append_left _ (by simp))))
    have hG : GoodIn Ts (Cond.code y.1 y.2.1 y.2.2.1 y.2.2.2.1 :: Tg) := jw_goodIn hTs hgood (fun w hw => by
      rcases List.mem_cons.mp hw with q | q
      · rw [q]; exact hcd
      · exact q)
    cases hk0 : (kind == 5) with
    | true =>
      rw [hk0] at w3 hw1 hwn1
      dsimp only [cond_true] at w3 hw1 hwn1
      simp only [Bool.and_eq_true, beq_iff_eq] at w3
      have hr0 : y.2.2.2.1 = none := w3.2
      rw [hr0] at hM hG
      have hl : va_Nw (.methodLinkNest own idx y.1 "ShadowSchool") s := hN.1 _ (hwn1 _ (List.mem_singleton.mpr rfl))
      exact hgo (va_runIN ⟨hx, hb, hml, hown, hts⟩ hM ⟨va_cnB n hts hG rfl rfl rfl hl hini ⟨(jw_nh_ok w2').1, (jw_nh_ok w2').2, jw_par_ok w2⟩ hrm, w3.1, hins⟩ ⟨jw_blind hns, hpre⟩ rfl hlen hlz hstk (lv_room (by rw [jw_cat_map]; exact hcat)) hdg hroom)
    | false =>
      rw [hk0] at w3 hw1
      dsimp only [cond_false] at w3 hw1
      simp only [Bool.and_eq_true, bne_iff_ne, ne_eq] at w3
      split at w3
      · rename_i q1 hX0
        obtain ⟨X0, TX, NX⟩ := q1
        rw [hX0] at hw1
        dsimp only at hw1
        have h1 := fun w hz => hts w (hTs w (hw1 w (List.mem_append_right _ (List.mem_append_left _ hz))))
        have hup : X0 = y.1.cls ∨ (Cond.superclass X0 y.1.cls).before args s = true := by
          cases hq : (X0 == y.1.cls) with
          | true => exact Or.inl (by simpa using hq)
          | false => exact Or.inr (hts _ (hTs _ (hw1 _ (List.mem_append_right _ (List.mem_append_right _ (by rw [hq]; simp))))))
        exact hgo (jo_runSU (hK0.1 ci _ hcl).2 ⟨hx, hb, hml, hown, hts⟩ hM hG rfl rfl rfl hrm hini (h1 _ (by simp)) (h1 _ (by simp)) (h1 _ (by simp)) hup hins w3.1 (jw_par_ok w2) ⟨jw_blind hns, hrecv, hpre⟩ rfl hlen hlz hstk (lv_room (by rw [jw_cat_map]; exact hcat)) hdg hroom)
      · exact absurd w3.2 (by decide)
  · cases hwf1
theorem jw_callS_ok {kind n : Nat} {tg : List (Int × Nat)} {bud : Nat → Nat × Nat} (hs : jw_callS C bud lim (kind, n, tg) st h f) : ∃ (mid : Nat), n ≤ st.length ∧ ((0 : Int), mid) ∈ tg ∧ jw_cat (st.drop n) ≤ 8 ∧ (bud mid = (0, 0) ∨ (h.1.length + (bud mid).1 ≤ lim.1 ∧ jw_sz h.1 + (bud mid).2 ≤ lim.2)) ∧ C mid (st.take n).reverse h (fun v h' => f (v.toList ++ st.drop n) h') := by
  unfold jw_callS at hs
  dsimp only at hs
  split at hs
  · rename_i mid hm
    obtain ⟨h1, h2⟩ := jw_bif hs
    simp only [Bool.and_eq_true, Bool.or_eq_true, Nat.ble_eq, beq_iff_eq] at h1
    exact ⟨mid, h1.1, by have := jw_find_ok hm; simpa using this, h1.2.1, h1.2.2, h2⟩
  · exact hs.elim
set_option maxHeartbeats 4000000 in
theorem jo_stat {pc idx kind n d : Nat} {tg : List (Int × Nat)} (hx : p.tables.exec = Jvm.exec) (hb : c.code = cc) (hml : c.maxLocals = nL) (hown : s.vm.findClass own = some m.cls) (hts : ∀ w ∈ Ts, w.before args s = true) (hTs : ∀ w ∈ Tg, w ∈ Ts) (hgood : ∀ w ∈ Tg, goodWord w = true) (hns : jw_nsok Ns)
    (hw : ∀ z ∈ tg, ∀ w ∈ jw_wcS own ys idx kind z, w ∈ Tg) (hwn : ∀ z ∈ tg, ∀ w ∈ jw_ncS own ys idx kind z, w ∈ Ns) (hwf : ∀ z ∈ tg, jw_fcS ys n z = true) (hRf : d + 1 ≤ R.frames) (hRl : 200 * d + 200 ≤ R.locals) (hdg : decode cc pc = .ok (.invokestatic idx, 3)) (hlz : ls.size = nL)
    (hK0 : va_K D cl (jw_tys cy) s) (hP : va_P D cl (jw_wld cy α h) H) (hD : va_D A (jw_wld cy α h)) (hS : va_S A s.heap H locs) (hA : ∀ q, s.heap.size ≤ q → A q) (hX : jw_X α A s s.heap) (hN : jw_nw Ns s)
    (IH : ∀ (mid : Nat) (as : List Value) (Q : jw_Q), C mid as h Q → ∀ y, ys[mid]? = some y → jw_met l D cl cy α Ns Tg d y as h Q)
    (hfut : ∀ mc, h.1.length + mc ≤ lim.1 → jw_fut α h.1.length H.size mc) (hlim : ∀ mc ms, h.1.length + mc ≤ lim.1 → jw_sz h.1 + ms ≤ lim.2 → cells + mc ≤ R.cells ∧ slots + ms ≤ R.slots) (hin : h.1.length ≤ lim.1 ∧ jw_sz h.1 ≤ lim.2)
    (hs : jw_callS C (jw_bud ys) lim (kind, n, tg) st h f)
    (hK : ∀ (st' : List Value) (h' : jw_H) (H' : Heap) (locs' : List Loc) (k n : Nat), f st' h' → H'.size = H.size + k → h'.1.length = h.1.length + k → jw_sz h'.1 = jw_sz h.1 + n → h'.1.length ≤ lim.1 → jw_sz h'.1 ≤ lim.2 → va_P D cl (jw_wld cy α h') H' → va_D A (jw_wld cy α h') → va_S A s.heap H' locs' → W p l e R s m args below meth c H' locs' (cells + k) (slots + n) Qf (F0 m (pc + 3) ls (st'.map (jw_ad α)))) :
    W p l e R s m args below meth c H locs cells slots Qf (F0 m pc ls (st.map (jw_ad α))) := by
  obtain ⟨mid, e2, htg, hcat, hbud, hC⟩ := jw_callS_ok hs
  have hwf1 := hwf _ htg
  have hw1 := hw _ htg
  have hwn1 := hwn _ htg
  unfold jw_fcS at hwf1
  unfold jw_wcS at hw1
  unfold jw_ncS at hwn1
  dsimp only at hwf1 hw1 hwn1
  split at hwf1
  · rename_i y hy
    rw [hy] at hw1 hwn1
    dsimp only at hw1 hwn1
    have hb1 : jw_bud ys mid = y.2.2.2.2.1 := by unfold jw_bud; rw [hy]
    have hbd : h.1.length + y.2.2.2.2.1.1 ≤ lim.1 ∧ jw_sz h.1 + y.2.2.2.2.1.2 ≤ lim.2 := by
      rcases hbud with hz | hz
      · rw [hb1] at hz
        rw [hz]
        exact hin
      · rw [hb1] at hz
        exact hz
    have hM := IH _ _ _ hC y hy H.size (hfut _ hbd.1)
    have hroom := hlim _ _ hbd.1 hbd.2
    simp only [Bool.and_eq_true, Nat.ble_eq] at hwf1
    obtain ⟨w1, w2, w2'⟩ := hwf1
    have hpre := jw_start (av := ((st.take n).reverse.map (jw_ad α))) hns hK0 hP hD hS hA hX hN rfl
    have hstk : (F0 m pc ls (st.map (jw_ad α))).stack = ((st.take n).reverse.map (jw_ad α)).reverse ++ (st.drop n).map (jw_ad α) := by
      show st.map (jw_ad α) = _
      rw [← List.map_reverse, List.reverse_reverse, ← List.map_append, List.take_append_drop]
    have hlen : ((st.take n).reverse.map (jw_ad α)).length = n := by simp; omega
    have hrm : (jw_rm d y.2.2.2.2.1.1 y.2.2.2.2.1.2).frames + 1 ≤ R.frames ∧ 8 + (y.2.2.1 + 11) + (jw_rm d y.2.2.2.2.1.1 y.2.2.2.2.1.2).locals ≤ R.locals := ⟨hRf, by show 8 + (y.2.2.1 + 11) + 200 * d ≤ R.locals; omega⟩
    have hgo : ∀ (hr : va_Run p l e R s m args below meth c H locs cells slots y.2.2.2.2.1.1 y.2.2.2.2.1.2 (F0 m pc ls (st.map (jw_ad α))) ((st.drop n).map (jw_ad α)) (jw_Qc D cl cy α h H.size y.2.2.2.2.1.1 y.2.2.2.2.1.2 (fun v h' => f (v.toList ++ st.drop n) h') ((st.take n).reverse.map (jw_ad α)).toArray) (va_A (jw_wld cy α h) H.size)), W p l e R s m args below meth c H locs cells slots Qf (F0 m pc ls (st.map (jw_ad α))) := fun hr =>
      jo_end (d := d) hS hD hA hr (fun v h' H' locs' hq n1 n2 n3 hP1 hD1 hS1 => hK _ _ _ _ _ _ hq n1 n2 n3 (by rw [n2]; exact hbd.1) (by rw [n3]; exact hbd.2) hP1 hD1 hS1)
    have hcd : Cond.code y.1 y.2.1 y.2.2.1 y.2.2.2.1 ∈ Tg := hw1 _ (List.mem_append_left _ (by simp [jw_code]))
    have hini0 : Cond.initialized y.1.cls ∈ Tg := hw1 _ (List.mem_append_left _ (by simp))
    have hini : (Cond.initialized y.1.cls).before args s = true := hts _ (hTs _ hini0)
    have hsta0 : Cond.static y.1 ∈ Tg := hw1 _ (List.mem_append_left _ (by simp))
    have hsta : (Cond.static y.1).before args s = true := hts _ (hTs _ hsta0)
    cases hk0 : (kind == 2) with
    | true =>
      rw [hk0] at hw1
      dsimp only [cond_true] at hw1
      have hml0 : Cond.methodLink own idx y.1 ∈ Tg := hw1 _ (List.mem_append_right _ (List.mem_singleton.mpr rfl))
      have hT : GoodIn Ts (va_wsS own idx y.1 (Cond.code y.1 y.2.1 y.2.2.1 y.2.2.2.1 :: Tg)) := jw_goodIn hTs hgood (fun w hw => by
        rcases List.mem_append.mp hw with q | q
        · simp only [List.mem_cons, List.not_mem_nil, or_false] at q
          rcases q with q | q | q <;> rw [q] <;> assumption
        · rcases List.mem_cons.mp q with q | q
          · rw [q]; exact hcd
          · exact q)
      exact hgo (va_runS ⟨hx, hb, hml, hown, hts⟩ hM (va_cwS n hts hT rfl rfl rfl ⟨(jw_nh_ok w2').1, (jw_nh_ok w2').2, jw_par_ok w2⟩ hrm) ⟨jw_blind hns, hpre⟩ rfl hlen hlz hstk (lv_room (by rw [jw_cat_map]; exact hcat)) hdg hroom)
    | false =>
      rw [hk0] at hwn1
      dsimp only [cond_false] at hwn1
      have hG : GoodIn Ts (Cond.code y.1 y.2.1 y.2.2.1 y.2.2.2.1 :: Tg) := jw_goodIn hTs hgood (fun w hw => by
        rcases List.mem_cons.mp hw with q | q
        · rw [q]; exact hcd
        · exact q)
      have hl : va_Nw (.methodLinkNest own idx y.1 "ShadowSchool") s := hN.1 _ (hwn1 _ (List.mem_singleton.mpr rfl))
      exact hgo (va_runSN ⟨hx, hb, hml, hown, hts⟩ hM ⟨va_cnB n hts hG rfl rfl rfl hl hini ⟨(jw_nh_ok w2').1, (jw_nh_ok w2').2, jw_par_ok w2⟩ hrm, hsta, trivial⟩ ⟨jw_blind hns, hpre⟩ rfl hlen hlz hstk (lv_room (by rw [jw_cat_map]; exact hcat)) hdg hroom)
  · cases hwf1
end JWT
