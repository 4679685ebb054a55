/-! ===== new cells ===== -/
theorem jw_wld_app {cy : Nat → ClassId} {α : Nat → Nat} {h h' : jw_H} {X : List jw_S} (hs : h'.1 = h.1 ++ X) (h1 : ∀ i, i < h.1.length → h'.2.1 i = h.2.1 i) (h2 : ∀ i, i < h.1.length → h'.2.2 i = h.2.2 i) : jw_wld cy α h' = jw_wld cy α h ++ X.mapIdx (fun i sh => (α (h.1.length + i), jw_cell cy α h'.2 (h.1.length + i) sh)) := by
  apply List.ext_getElem?
  intro i
  rw [jw_wld_get, hs]
  by_cases hi : i < h.1.length
  · rw [List.getElem?_append_left hi, List.getElem?_append_left (by rw [jw_wld_length]; exact hi), jw_wld_get, List.getElem?_eq_getElem hi]
    simp [jw_cell_same (h1 i hi) (h2 i hi)]
  · rw [List.getElem?_append_right (by omega), List.getElem?_append_right (by rw [jw_wld_length]; omega), jw_wld_length, List.getElem?_mapIdx]
    have : h.1.length + (i - h.1.length) = i := by omega
    rw [this]
theorem jw_sz_app : ∀ (a b : List jw_S), jw_sz (a ++ b) = jw_sz a + jw_sz b
  | [], b => by simp [jw_sz]
  | x :: a, b => by simp [jw_sz, jw_sz_app a b]; omega
/-- the kinds of a class's fields are its fields' types -/
def jw_kdok (kd : Nat → List jw_K) (cl : List vw_C) (ci : Nat) : Bool := match cl[ci]? with
  | some (_, T, N) => (kd ci).length == N && (List.range N).all (fun k => match parseFieldDescriptor (T k).2.2.1, (kd ci)[k]? with
    | some .int, some (.inl 0) => true
    | some .long, some (.inl 1) => true
    | some .boolean, some (.inl 2) => true
    | some (.object _), some (.inr none) => true
    | some (.array _), some (.inr none) => true
    | _, _ => false)
  | none => false
def jw_wcN (own : String) (cl : List vw_C) (q : jw_I) : List Cond := match q.2.1 with
  | .new idx => (match cl[q.2.2.2.1]? with
    | some (C, _, N) => [.classLink own idx C, .instantiable C N, .initialized C]
    | none => [])
  | .newarray a => [.arrayClass (newarray.typeOf a)]
  | .anewarray idx => [.classLink own idx (bif q.2.2.2.1 == 2 then "ShadowSchool$Progress" else "ShadowSchool$Shade")]
  | .multianewarray idx _ => [.classLink own idx "[[I", .arrayClass .int]
  | _ => []
def jw_fcN (kd : Nat → List jw_K) (cl : List vw_C) (q : jw_I) : Bool := match q.2.1 with
  | .new _ => jw_kdok kd cl q.2.2.2.1
  | .newarray a => (match newarray.typeOf a with
    | .int => q.2.2.2.1 == 0
    | .long => q.2.2.2.1 == 1
    | _ => false)
  | .anewarray _ => q.2.2.2.1 == 2 || q.2.2.2.1 == 3
  | .multianewarray _ n => n == 2
  | _ => true
section JWN
variable {p : Program} {l : Launch} {e : Env} {R : Room} {s : State} {m : MethodId} {args : Array Value} {below : List Frame} {meth : Method} {c : Code} {H : Heap} {locs : List Loc} {cells slots : Nat} {Qf : State → Prop}
variable {cc : ByteArray} {ls : Array Slot} {α : Nat → Nat} {nL : Nat} {D : va_G} {cl : List vw_C} {A : Nat → Prop} {cy : Nat → ClassId} {own nm : String} {Ts Tg Ns : List Cond} {h : jw_H} {st : List Value} {kd : Nat → List jw_K} {lim : Nat × Nat}
theorem jw_kd_ok {ci : Nat} {C : String} {T : u_T} {N : Nat} (hcl : cl[ci]? = some (C, T, N)) (hk : jw_kdok kd cl ci = true) {ty0 : Nat → FieldType} (hty : ∀ k, k < N → parseFieldDescriptor (T k).2.2.1 = some (ty0 k)) (M : jw_M) (i : Nat) (h1 : M.1 i = fun _ => 0) (h2 : M.2 i = fun _ => 0) : (kd ci).length = N ∧ ∀ j, j < N → defaultValue (ty0 j) = vp_V ((kd ci).mapIdx (jw_fld α M i)) j := by
  unfold jw_kdok at hk
  rw [hcl] at hk
  dsimp only at hk
  simp only [Bool.and_eq_true, beq_iff_eq] at hk
  obtain ⟨k1, k2⟩ := hk
  refine ⟨k1, fun j hj => ?_⟩
  have k3 := List.all_eq_true.mp k2 j (List.mem_range.mpr hj)
  rw [hty j hj] at k3
  have hg : (kd ci)[j]? = some (kd ci)[j] := List.getElem?_eq_getElem (by omega)
  rw [hg] at k3
  have e : vp_V ((kd ci).mapIdx (jw_fld α M i)) j = jw_fld α M i j (kd ci)[j] := by
    unfold vp_V
    rw [List.getD_eq_getElem?_getD, List.getElem?_mapIdx, hg]
    rfl
  rw [e]
  generalize (kd ci)[j] = kk at k3
  generalize ty0 j = tt at k3
  split at k3
  · rename_i a b
    cases a; cases b
    simp [jw_fld, h1, defaultValue]
  · rename_i a b
    cases a; cases b
    simp [jw_fld, h2, defaultValue]
  · rename_i a b
    cases a; cases b
    simp [jw_fld, h1, defaultValue]
  · rename_i a b
    cases a; cases b
    simp [jw_fld, va_rf, defaultValue]
  · rename_i a b
    cases a; cases b
    simp [jw_fld, va_rf, defaultValue]
  · cases k3
set_option maxHeartbeats 1000000 in
theorem jo_new {pc idx ci : Nat} {f : Nat → jw_H → Prop} (hx : p.tables.exec = Jvm.exec) (hb : c.code = cc) (hown : s.vm.findClass own = some m.cls) (hts : ∀ w ∈ Ts, w.before args s = true) (hcl : jw_clok cl Ts) {C0 : String} {T0 : u_T} {N0 : Nat} (hc : cl[ci]? = some (C0, T0, N0)) (hw : ∀ w ∈ [Cond.classLink own idx C0, .instantiable C0 N0, .initialized C0], w ∈ Ts) (hkd : jw_kdok kd cl ci = true) (hdg : decode cc pc = .ok (.new idx, 3))
    (hK0 : va_K D cl (jw_tys cy) s) (hP : va_P D cl (jw_wld cy α h) H) (hD : va_D A (jw_wld cy α h)) (hS : va_S A s.heap H locs) (hA : ∀ q, s.heap.size ≤ q → A q)
    (hfut : ∀ mc, h.1.length + mc ≤ lim.1 → jw_fut α h.1.length H.size mc) (hlim : ∀ mc ms, h.1.length + mc ≤ lim.1 → jw_sz h.1 + ms ≤ lim.2 → cells + mc ≤ R.cells ∧ slots + ms ≤ R.slots)
    (hs : jw_new h lim ci (kd ci) f)
    (hK : ∀ (a : Nat) (h' : jw_H) (H' : Heap) (locs' : List Loc) (k n : Nat), f a h' → H'.size = H.size + k → h'.1.length = h.1.length + k → jw_sz h'.1 = jw_sz h.1 + n → h'.1.length ≤ lim.1 → jw_sz h'.1 ≤ lim.2 → va_P D cl (jw_wld cy α h') H' → va_D A (jw_wld cy α h') → va_S A s.heap H' locs' → W p l e R s m args below meth c H' locs' (cells + k) (slots + n) Qf (F0 m (pc + 3) ls ((.ref a :: st).map (jw_ad α)))) :
    W p l e R s m args below meth c H locs cells slots Qf (F0 m pc ls (st.map (jw_ad α))) := by
  obtain ⟨hl1, hs⟩ := jw_bif hs
  simp only [Bool.and_eq_true, Nat.ble_eq] at hl1
  obtain ⟨c1, ⟨ty0, c2⟩, c3⟩ := hcl _ _ _ _ hc
  obtain ⟨k1, k2⟩ := jw_kd_ok (α := α) hc hkd c2 (jw_lay h.2.1 h.1.length (fun _ => 0), jw_lay h.2.2 h.1.length (fun _ => 0)) h.1.length jw_lay_eq jw_lay_eq
  have hroom := hlim 1 N0 hl1.1 (by rw [k1] at hl1; exact hl1.2)
  have hadr : α h.1.length = H.size := by have := hfut 1 hl1.1 h.1.length (by omega) (by omega); omega
  have hKn := hK0.1 ci _ hc
  refine W.newcK hx hb hown (hts _ (hw _ (by simp))) (hts _ (hw _ (by simp))) (hts _ (hw _ (by simp))) rfl hdg hroom.1 hroom.2 hKn.2.1 rfl fun H1 kC hkC e1 z1 o1 => ?_
  have e2 : jw_wld cy α (h.1 ++ [.inl (ci, kd ci)], jw_lay h.2.1 h.1.length (fun _ => 0), jw_lay h.2.2 h.1.length (fun _ => 0)) = jw_wld cy α h ++ [(H.size, .inr (ci, (kd ci).mapIdx (jw_fld α (jw_lay h.2.1 h.1.length (fun _ => 0), jw_lay h.2.2 h.1.length (fun _ => 0)) h.1.length)))] := by
    rw [jw_wld_app (h := h) (X := [.inl (ci, kd ci)]) rfl (fun i hi => jw_lay_ne (by omega)) (fun i hi => jw_lay_ne (by omega))]
    simp [hadr, jw_cell]
  have hk : ∀ (k : Nat) (x : Nat × va_E), (jw_wld cy α h)[k]? = some x → H1[x.1]? = H[x.1]? := fun k x hx => o1 x.1 ((hP k x hx).lt)
  have := hK h.1.length _ H1 locs 1 N0 hs z1 (by simp) (by rw [jw_sz_app]; simp [jw_sz, jw_ssz, k1]) (by simp; exact hl1.1) (by rw [jw_sz_app]; simp [jw_sz, jw_ssz]; exact hl1.2) (by
      rw [e2]
      refine (hP.kept hk).app (fun k x hx => ?_)
      have hz : k < 1 := (List.getElem?_eq_some_iff.mp hx).1
      rw [show k = 0 by omega] at hx
      cases hx
      exact ⟨_, hc, (u_born ty0 hts c1 hKn hkC e1 c2).to k2⟩) (by
      rw [e2]
      exact hD.push hP rfl (hA _ hS.1)) ⟨Nat.le_trans hS.1 (by omega), fun x h1 h2 => (o1 x (Nat.lt_of_lt_of_le h1 hS.1)).trans (hS.2.1 x h1 h2), hS.2.2⟩
  rw [List.map_cons, jw_ad, hadr] at this
  exact this
/-- what all new cells need -/
theorem jo_newx {pc' : Nat} {e0 : va_E} {sh : jw_S} {f : Nat → jw_H → Prop} {H1 : Heap} {n : Nat} {r : List Value} {M1 : jw_M} (hsh : jw_ssz sh = n) (hM1 : ∀ i, i < h.1.length → M1.1 i = h.2.1 i) (hM2 : ∀ i, i < h.1.length → M1.2 i = h.2.2 i) (hadr : α h.1.length = H.size) (hc : jw_cell cy α M1 h.1.length sh = e0) (hat : va_at D cl (H.size, e0) H1) (z1 : H1.size = H.size + 1) (o1 : ∀ q, q < H.size → H1[q]? = H[q]?)
    (hP : va_P D cl (jw_wld cy α h) H) (hD : va_D A (jw_wld cy α h)) (hS : va_S A s.heap H locs) (hA : ∀ q, s.heap.size ≤ q → A q) (hl1 : h.1.length + 1 ≤ lim.1) (hl2 : jw_sz h.1 + n ≤ lim.2) (hs : f h.1.length (h.1 ++ [sh], M1))
    (hK : ∀ (a : Nat) (h' : jw_H) (H' : Heap) (locs' : List Loc) (k n : Nat), f a h' → H'.size = H.size + k → h'.1.length = h.1.length + k → jw_sz h'.1 = jw_sz h.1 + n → h'.1.length ≤ lim.1 → jw_sz h'.1 ≤ lim.2 → va_P D cl (jw_wld cy α h') H' → va_D A (jw_wld cy α h') → va_S A s.heap H' locs' → W p l e R s m args below meth c H' locs' (cells + k) (slots + n) Qf (F0 m pc' ls ((.ref a :: r).map (jw_ad α)))) :
    W p l e R s m args below meth c H1 locs (cells + 1) (slots + n) Qf (F0 m pc' ls (.ref H.size :: r.map (jw_ad α))) := by
  have e2 : jw_wld cy α (h.1 ++ [sh], M1) = jw_wld cy α h ++ [(H.size, e0)] := by
    rw [jw_wld_app (h := h) (X := [sh]) rfl hM1 hM2]
    simp [hadr, hc]
  have hk : ∀ (k : Nat) (x : Nat × va_E), (jw_wld cy α h)[k]? = some x → H1[x.1]? = H[x.1]? := fun k x hx => o1 x.1 ((hP k x hx).lt)
  have := hK h.1.length _ H1 locs 1 n hs z1 (by simp) (by rw [jw_sz_app]; simp [jw_sz, hsh]) (by simp; exact hl1) (by rw [jw_sz_app]; simp [jw_sz, hsh]; exact hl2) (by
      rw [e2]
      refine (hP.kept hk).app (fun k x hx => ?_)
      have hz : k < 1 := (List.getElem?_eq_some_iff.mp hx).1
      rw [show k = 0 by omega] at hx
      cases hx
      exact hat) (by
      rw [e2]
      exact hD.push hP rfl (hA _ hS.1)) ⟨Nat.le_trans hS.1 (by omega), fun x h1 h2 => (o1 x (Nat.lt_of_lt_of_le h1 hS.1)).trans (hS.2.1 x h1 h2), hS.2.2⟩
  rw [List.map_cons, jw_ad, hadr] at this
  exact this
set_option maxHeartbeats 1000000 in
theorem jo_newa {pc t : Nat} {a : ArrayType} {f : Nat → jw_H → Prop} {x : Int32} (hx : p.tables.exec = Jvm.exec) (hb : c.code = cc) (hts : ∀ w ∈ Ts, w.before args s = true) (hw : Cond.arrayClass (newarray.typeOf a) ∈ Ts) (ht : (newarray.typeOf a = .int ∧ t = 0) ∨ (newarray.typeOf a = .long ∧ t = 1)) (hdg : decode cc pc = .ok (.newarray a, 2))
    (hK0 : va_K D cl (jw_tys cy) s) (hP : va_P D cl (jw_wld cy α h) H) (hD : va_D A (jw_wld cy α h)) (hS : va_S A s.heap H locs) (hA : ∀ q, s.heap.size ≤ q → A q)
    (hfut : ∀ mc, h.1.length + mc ≤ lim.1 → jw_fut α h.1.length H.size mc) (hlim : ∀ mc ms, h.1.length + mc ≤ lim.1 → jw_sz h.1 + ms ≤ lim.2 → cells + mc ≤ R.cells ∧ slots + ms ≤ R.slots) (hx0 : ¬ x < 0)
    (hs : jw_newa h lim t x.toNatClampNeg f)
    (hK : ∀ (a : Nat) (h' : jw_H) (H' : Heap) (locs' : List Loc) (k n : Nat), f a h' → H'.size = H.size + k → h'.1.length = h.1.length + k → jw_sz h'.1 = jw_sz h.1 + n → h'.1.length ≤ lim.1 → jw_sz h'.1 ≤ lim.2 → va_P D cl (jw_wld cy α h') H' → va_D A (jw_wld cy α h') → va_S A s.heap H' locs' → W p l e R s m args below meth c H' locs' (cells + k) (slots + n) Qf (F0 m (pc + 2) ls ((.ref a :: st).map (jw_ad α)))) :
    W p l e R s m args below meth c H locs cells slots Qf (F0 m pc ls (.int x :: st.map (jw_ad α))) := by
  obtain ⟨hl1, hs⟩ := jw_bif hs
  simp only [Bool.and_eq_true, Nat.ble_eq] at hl1
  obtain ⟨l1, l2, l3⟩ := hl1
  have hroom := hlim 1 x.toNatClampNeg l1 l2
  have hadr : α h.1.length = H.size := by have := hfut 1 l1 h.1.length (by omega) (by omega); omega
  rcases ht with ⟨t1, rfl⟩ | ⟨t1, rfl⟩
  · refine va_newaK hx hb (hts _ hw) (g := F0 m pc ls (.int x :: st.map (jw_ad α))) rfl hdg rfl hx0 rfl (by rw [t1]; show x.toNatClampNeg * 4 ≤ _; omega) hroom.1 hroom.2 rfl fun H1 cA e1 z1 o1 hAr hNm => ?_
    have hcy : cA = cy 0 := by
      have h2 : s.vm.findClass ("[" ++ (FieldType.int).toString) = some (cy 0) := (hK0.2 0 _ rfl).2
      rw [t1] at hNm
      exact Option.some.inj (hNm.symm.trans h2)
    subst hcy
    refine jo_newx (sh := .inr (0, x.toNatClampNeg, [])) (M1 := (jw_lay h.2.1 h.1.length (fun _ => 0), jw_lay h.2.2 h.1.length (fun _ => 0))) rfl (fun i hi => jw_lay_ne (by omega)) (fun i hi => jw_lay_ne (by omega)) hadr rfl ?_ z1 o1 hP hD hS hA l1 l2 hs hK
    show H1[H.size]? = some (vp_cell _ _)
    rw [e1, t1, vp_cell_i]
    congr 2
    funext j
    show _ = Value.int (jw_lay _ _ _ _ _)
    rw [jw_lay_eq]
    rfl
  · refine va_newaK hx hb (hts _ hw) (g := F0 m pc ls (.int x :: st.map (jw_ad α))) rfl hdg rfl hx0 rfl (by rw [t1]; show x.toNatClampNeg * 8 ≤ _; omega) hroom.1 hroom.2 rfl fun H1 cA e1 z1 o1 hAr hNm => ?_
    have hcy : cA = cy 1 := by
      have h2 : s.vm.findClass ("[" ++ (FieldType.long).toString) = some (cy 1) := (hK0.2 1 _ rfl).2
      rw [t1] at hNm
      exact Option.some.inj (hNm.symm.trans h2)
    subst hcy
    refine jo_newx (sh := .inr (1, x.toNatClampNeg, [])) (M1 := (jw_lay h.2.1 h.1.length (fun _ => 0), jw_lay h.2.2 h.1.length (fun _ => 0))) rfl (fun i hi => jw_lay_ne (by omega)) (fun i hi => jw_lay_ne (by omega)) hadr rfl ?_ z1 o1 hP hD hS hA l1 l2 hs hK
    show H1[H.size]? = some (vp_cell _ _)
    rw [e1, t1, vp_cell_l]
    congr 2
    funext j
    show _ = Value.long (jw_lay _ _ _ _ _)
    rw [jw_lay_eq]
    rfl
set_option maxHeartbeats 1000000 in
theorem jo_anew {pc t idx : Nat} {C0 : String} {f : Nat → jw_H → Prop} {x : Int32} (hx : p.tables.exec = Jvm.exec) (hb : c.code = cc) (hown : s.vm.findClass own = some m.cls) (hts : ∀ w ∈ Ts, w.before args s = true) (hw : Cond.classLink own idx C0 ∈ Ts) (hao : va_AO C0 s) (ht : (jw_tys cy)[t + 2]? = some (cy (t + 2), .object C0)) (hdg : decode cc pc = .ok (.anewarray idx, 3))
    (hK0 : va_K D cl (jw_tys cy) s) (hP : va_P D cl (jw_wld cy α h) H) (hD : va_D A (jw_wld cy α h)) (hS : va_S A s.heap H locs) (hA : ∀ q, s.heap.size ≤ q → A q)
    (hfut : ∀ mc, h.1.length + mc ≤ lim.1 → jw_fut α h.1.length H.size mc) (hlim : ∀ mc ms, h.1.length + mc ≤ lim.1 → jw_sz h.1 + ms ≤ lim.2 → cells + mc ≤ R.cells ∧ slots + ms ≤ R.slots) (hx0 : ¬ x < 0)
    (hs : jw_newa h lim (t + 2) x.toNatClampNeg f)
    (hK : ∀ (a : Nat) (h' : jw_H) (H' : Heap) (locs' : List Loc) (k n : Nat), f a h' → H'.size = H.size + k → h'.1.length = h.1.length + k → jw_sz h'.1 = jw_sz h.1 + n → h'.1.length ≤ lim.1 → jw_sz h'.1 ≤ lim.2 → va_P D cl (jw_wld cy α h') H' → va_D A (jw_wld cy α h') → va_S A s.heap H' locs' → W p l e R s m args below meth c H' locs' (cells + k) (slots + n) Qf (F0 m (pc + 3) ls ((.ref a :: st).map (jw_ad α)))) :
    W p l e R s m args below meth c H locs cells slots Qf (F0 m pc ls (.int x :: st.map (jw_ad α))) := by
  obtain ⟨hl1, hs⟩ := jw_bif hs
  simp only [Bool.and_eq_true, Nat.ble_eq] at hl1
  obtain ⟨l1, l2, l3⟩ := hl1
  have hroom := hlim 1 x.toNatClampNeg l1 l2
  have hadr : α h.1.length = H.size := by have := hfut 1 l1 h.1.length (by omega) (by omega); omega
  refine W.anew hx hb hown (hts _ hw) (va_AO.use hao) (g := F0 m pc ls (.int x :: st.map (jw_ad α))) rfl hdg rfl hx0 (by omega) hroom.1 hroom.2 fun cA kA comp f1 f2 f3 f4 => ?_
  have hcy : cA = cy (t + 2) := by
    obtain ⟨_, _, -, -, -, g4⟩ := (hK0.2 (t + 2) _ ht).2
    exact Option.some.inj (f1.symm.trans g4)
  subst hcy
  generalize hH1 : H.push ({ cls := cy (t + 2), slots := Array.replicate x.toNatClampNeg .null, vm := .none } : Cell) = H1
  have z1 : H1.size = H.size + 1 := by rw [← hH1, Array.size_push]
  have e1 : H1[H.size]? = some (arrV (cy (t + 2)) x.toNatClampNeg (fun _ => .null)) := by rw [← hH1, Array.getElem?_push_size, ← arrV_new]
  have o1 : ∀ q : Nat, q < H.size → H1[q]? = H[q]? := fun q hq => by rw [← hH1, Array.getElem?_push, if_neg (Nat.ne_of_lt hq)]
  refine jo_newx (sh := .inr (t + 2, x.toNatClampNeg, List.replicate x.toNatClampNeg none)) (M1 := (jw_lay h.2.1 h.1.length (fun _ => 0), jw_lay h.2.2 h.1.length (fun _ => 0))) rfl (fun i hi => jw_lay_ne (by omega)) (fun i hi => jw_lay_ne (by omega)) hadr rfl ?_ z1 o1 hP hD hS hA l1 l2 hs hK
  show H1[H.size]? = some (vp_cell _ _)
  rw [e1, vp_cell_q]
  congr 2
  funext j
  have : (List.replicate x.toNatClampNeg (none : Option Nat)).getD j none = none := by
    rw [List.getD_eq_getElem?_getD, List.getElem?_replicate]
    split <;> rfl
  rw [this]
  rfl
end JWN
