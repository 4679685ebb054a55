/-! ===== storing references into arrays; new int[n][k] ===== -/
theorem vr_outer (c : ClassId) (N h0 : Nat) : ∀ i : Nat, Jvm.Free.Multi.outerC c N h0 i = arrV c N (fun j => va_rf (if j < i then some (h0 + 1 + j) else none))
  | 0 => by
    show ({ cls := c, slots := Array.replicate N .null, vm := .none } : Cell) = _
    rw [arrV_new]
    refine congrArg (arrV c N) (funext fun j => ?_)
    simp [va_rf]
  | i + 1 => by
    show (Jvm.Free.Multi.outerC c N h0 i).setSlot i (.ref (h0 + 1 + i)) = _
    rw [vr_outer c N h0 i, arrV_store]
    refine congrArg (arrV c N) (funext fun j => ?_)
    by_cases e : j = i
    · subst e
      simp [updV, va_rf]
    · by_cases h : j < i
      · simp [updV, e, h, Nat.lt_succ_of_lt h]
      · simp [updV, e, h, show ¬ j < i + 1 by omega]
theorem jw_D_app {A : Nat → Prop} {w X : va_W} {z : Nat} (hD : va_D A w) (hlt : ∀ (k : Nat) (q : Nat × va_E), w[k]? = some q → q.1 < z) (hX : ∀ (i : Nat) (q : Nat × va_E), X[i]? = some q → q.1 = z + i) (hA : ∀ q, z ≤ q → A q) : va_D A (w ++ X) := by
  refine ⟨fun i j x y hi hj hxy => ?_, fun k x hx => ?_⟩
  · by_cases h1 : i < w.length <;> by_cases h2 : j < w.length
    · rw [List.getElem?_append_left h1] at hi
      rw [List.getElem?_append_left h2] at hj
      exact hD.1 i j x y hi hj hxy
    · rw [List.getElem?_append_left h1] at hi
      rw [List.getElem?_append_right (by omega)] at hj
      have := hlt _ _ hi
      have := hX _ _ hj
      omega
    · rw [List.getElem?_append_right (by omega)] at hi
      rw [List.getElem?_append_left h2] at hj
      have := hlt _ _ hj
      have := hX _ _ hi
      omega
    · rw [List.getElem?_append_right (by omega)] at hi hj
      have := hX _ _ hi
      have := hX _ _ hj
      omega
  · by_cases h1 : k < w.length
    · rw [List.getElem?_append_left h1] at hx
      exact hD.2 k x hx
    · rw [List.getElem?_append_right (by omega)] at hx
      have := hX _ _ hx
      exact hA _ (by omega)
theorem jw_sz_rep (N K : Nat) : jw_sz (List.replicate N (.inr (0, K, []))) = N * K := by
  induction N with
  | zero => simp [jw_sz]
  | succ N ih => rw [List.replicate_succ, jw_sz, ih, Nat.succ_mul]; rfl
section JWR
variable {p : Program} {l : Launch} {e : Env} {R : Room} {s : State} {m : MethodId} {args : Array Value} {below : List Frame} {meth : Method} {c : Code} {H : Heap} {locs : List Loc} {cells slots : Nat} {Qf : State → Prop}
variable {cc : ByteArray} {ls : Array Slot} {α : Nat → Nat} {nL : Nat} {D : va_G} {cl : List vw_C} {A : Nat → Prop} {cy : Nat → ClassId} {own nm : String} {Ts Tg Ns : List Cond} {h : jw_H} {st : List Value} {kd : Nat → List jw_K} {lim : Nat × Nat}
/-- which classes' objects go into an array of references -/
def jw_asg (cl : List vw_C) (Ns : List Cond) : Prop := (∀ r, cl[6]? = some r → r.1 = "ShadowSchool$Progress") ∧ ∀ cj r, (cj = 0 ∨ cj = 1 ∨ cj = 2 ∨ cj = 4 ∨ cj = 10 ∨ cj = 11) → cl[cj]? = some r → r.1 = "ShadowSchool$Shade" ∨ Cond.castable r.1 "ShadowSchool$Shade" ∈ Ns
theorem jo_ast1 {pc : Nat} {rest : List Value} {tys : List (ClassId × FieldType)} {ws : va_W} {H0 : Heap} {a : Nat} (hexec : p.tables.exec = Jvm.exec) (hb : c.code = cc) (hK : va_K D cl tys s) (hP : va_P D cl ws H) (hD : va_D A ws) (hS : va_S A H0 H locs) {q0 t0 : Nat} {E : String} {cA : ClassId} {n v : Nat} {f : Nat → Option Nat} (ha : ws[q0]? = some (a, .inl (cA, n, .inr (.inr (.inr (.inr f)))))) (ht : tys[t0]? = some (cA, .object E)) (hr : va_Any E s H v) {i : Int32} (hin : vp_in i n) (hdg : decode cc pc = .ok (.aastore, 1))
    (kk : ∀ (H1 : Heap) (locs1 : List Loc), H1.size = H.size → va_P D cl (ws.set q0 (a, .inl (cA, n, .inr (.inr (.inr (.inr (va_up f i.toNatClampNeg (some v)))))))) H1 → va_D A (ws.set q0 (a, .inl (cA, n, .inr (.inr (.inr (.inr (va_up f i.toNatClampNeg (some v)))))))) → va_S A H0 H1 locs1 → W p l e R s m args below meth c H1 locs1 cells slots Qf (F0 m (pc + 1) ls rest)) : W p l e R s m args below meth c H locs cells slots Qf (F0 m pc ls (.ref v :: .int i :: .ref a :: rest)) := by
  have hlt : i.toNatClampNeg < n := Nat.not_le.mp fun q => hin (Or.inr q)
  have h0 : ¬ i < 0 := fun q => hin (Or.inl q)
  obtain ⟨cellV, g1, g3, ⟨kC, hkC⟩, hasg⟩ := hr
  obtain ⟨kA, comp, k1, k2, k3, -⟩ := (hK.2 t0 _ ht).2
  obtain ⟨kE, hkE, -⟩ := Vm.findClass_spec k3
  refine W.aast hexec hb (hP q0 _ ha) (fun q h => by cases h) (fun h => by cases h) k1 k2 rfl hkE ⟨h0, by show _ < (arrV _ _ _).slots.size; rw [arrV_size]; exact hlt⟩ g1 (fun q h => by rw [h] at g3; cases g3) hkC (hasg _ k3) rfl rfl hdg fun H1 e z oq => ?_
  refine kk H1 _ z (hP.set hD ha ?_ oq) (hD.set ha) (hS.put z oq (hD.2 q0 _ ha))
  show H1[a]? = some (vp_cell _ _)
  rw [e]
  rw [vp_cell_q, vp_cell_q, arrV_store]
  congr 2
  funext q
  by_cases hq : q = i.toNatClampNeg
  · subst hq
    simp [updV, va_up, va_rf]
  · simp [updV, va_up, hq]
set_option maxHeartbeats 1000000 in
theorem jo_aast {pc : Nat} {f : List Value → jw_H → Prop} (hx : p.tables.exec = Jvm.exec) (hb : c.code = cc) (hasg : jw_asg cl Ns) (hcl : ∀ (i : Nat) (sh : Nat × List jw_K), h.1[i]? = some (.inl sh) → ∃ r, cl[sh.1]? = some r) (hdg : decode cc pc = .ok (.aastore, 1))
    (hK0 : va_K D cl (jw_tys cy) s) (hP : va_P D cl (jw_wld cy α h) H) (hD : va_D A (jw_wld cy α h)) (hS : va_S A s.heap H locs) (hN : jw_nw Ns s)
    (hs : jw_aast h st f)
    (hK : ∀ (st' : List Value) (h' : jw_H) (H' : Heap) (locs' : List Loc), f st' h' → H'.size = H.size → h'.1.length = h.1.length → jw_sz h'.1 = jw_sz h.1 → va_P D cl (jw_wld cy α h') H' → va_D A (jw_wld cy α h') → va_S A s.heap H' locs' → W p l e R s m args below meth c H' locs' cells slots Qf (F0 m (pc + 1) ls (st'.map (jw_ad α)))) :
    W p l e R s m args below meth c H locs cells slots Qf (F0 m pc ls (st.map (jw_ad α))) := by
  unfold jw_aast at hs
  split at hs
  · rename_i j i a r
    split at hs
    · rename_i t n rs cj ks ha hj
      obtain ⟨hin, hs⟩ := hs
      obtain ⟨hc, hs⟩ := jw_bif hs
      simp only [Bool.and_eq_true, Bool.or_eq_true, beq_iff_eq, Nat.blt_eq] at hc
      obtain ⟨hc, hlt⟩ := hc
      obtain ⟨rc, hrc⟩ := hcl j _ hj
      have hE : ∃ E, (jw_tys cy)[t + 2]? = some (cy (t + 2), .object E) ∧ va_Any E s H (α j) := by
        rcases hc with ⟨rfl, rfl⟩ | ⟨rfl, hc⟩
        · refine ⟨_, rfl, va_rAny hK0 hP (jw_wld_some hj) hrc (fun comp c0 f1 f2 => ?_)⟩
          rw [hasg.1 _ hrc] at f2
          cases f1.symm.trans f2
          exact va_assign (hK0.1 _ _ hrc).2 |> fun z => by
            have := (hK0.1 _ _ hrc).2.1
            rw [hasg.1 _ hrc] at this
            cases this.symm.trans f1
            exact z
        · refine ⟨_, rfl, va_rAny hK0 hP (jw_wld_some hj) hrc (fun comp c0 f1 f2 => ?_)⟩
          rcases hasg.2 cj rc (by rcases hc with ((((hc | hc) | hc) | hc) | hc) | hc <;> simp [hc]) hrc with h9 | h9
          · rw [h9] at f2
            cases f1.symm.trans f2
            exact va_assign (hK0.1 _ _ hrc).2 |> fun z => by
              have := (hK0.1 _ _ hrc).2.1
              rw [h9] at this
              cases this.symm.trans f1
              exact z
          · exact vb_asgC (hN.1 _ h9) comp c0 f1 f2
      obtain ⟨E, hE1, hE2⟩ := hE
      refine jo_ast1 hx hb hK0 hP hD hS (jw_wld_some ha) hE1 hE2 hin hdg (fun H1 locs1 z hP1 hD1 hS1 => ?_)
      have e2 : jw_wld cy α (h.1.set a (.inr (t + 2, n, rs.set i.toNatClampNeg (some j))), h.2) = (jw_wld cy α h).set a (α a, .inl (cy (t + 2), n, .inr (.inr (.inr (.inr (va_up (fun k => (rs.getD k none).map α) i.toNatClampNeg (some (α j)))))))) := by
        rw [jw_wld_set (h := h) (h' := (h.1.set a (.inr (t + 2, n, rs.set i.toNatClampNeg (some j))), h.2)) ha rfl (fun _ _ => rfl) (fun _ _ => rfl)]
        congr 3
        refine congrArg (fun g => (Sum.inl (cy (t + 2), n, Sum.inr (Sum.inr (Sum.inr (Sum.inr g)))) : va_E)) ?_
        funext k
        unfold va_up
        rw [List.getD_eq_getElem?_getD, List.getElem?_set]
        by_cases e : i.toNatClampNeg = k
        · subst e
          simp [hlt]
        · rw [if_neg e, if_neg (fun q => e q.symm), ← List.getD_eq_getElem?_getD]
      rw [← e2] at hP1 hD1
      exact hK _ _ _ _ hs z (by simp) (jw_sz_set ha (by simp [jw_ssz])) hP1 hD1 hS1
    · exact hs.elim
  · exact hs.elim
set_option maxHeartbeats 1000000 in
theorem jo_mna {pc idx : Nat} {f : Nat → jw_H → Prop} {n k : Int32} (hx : p.tables.exec = Jvm.exec) (hb : c.code = cc) (hown : s.vm.findClass own = some m.cls) (hts : ∀ w ∈ Ts, w.before args s = true) (hw1 : Cond.classLink own idx "[[I" ∈ Ts) (hw2 : Cond.arrayClass .int ∈ Ts) (hao : (Cond.arrayOver (.array .int)).before args s = true) (hdg : decode cc pc = .ok (.multianewarray idx 2, 4))
    (hK0 : va_K D cl (jw_tys cy) s) (hP : va_P D cl (jw_wld cy α h) H) (hD : va_D A (jw_wld cy α h)) (hS : va_S A s.heap H locs) (hA : ∀ q, s.heap.size ≤ q → A q)
    (hfut : ∀ mc, h.1.length + mc ≤ lim.1 → jw_fut α h.1.length H.size mc) (hlim : ∀ mc ms, h.1.length + mc ≤ lim.1 → jw_sz h.1 + ms ≤ lim.2 → cells + mc ≤ R.cells ∧ slots + ms ≤ R.slots) (hn0 : ¬ n < 0) (hk0 : ¬ k < 0)
    (hs : jw_mna h lim n.toNatClampNeg k.toNatClampNeg f)
    (hK : ∀ (a : Nat) (h' : jw_H) (H' : Heap) (locs' : List Loc) (k n : Nat), f a h' → H'.size = H.size + k → h'.1.length = h.1.length + k → jw_sz h'.1 = jw_sz h.1 + n → h'.1.length ≤ lim.1 → jw_sz h'.1 ≤ lim.2 → va_P D cl (jw_wld cy α h') H' → va_D A (jw_wld cy α h') → va_S A s.heap H' locs' → W p l e R s m args below meth c H' locs' (cells + k) (slots + n) Qf (F0 m (pc + 4) ls ((.ref a :: st).map (jw_ad α)))) :
    W p l e R s m args below meth c H locs cells slots Qf (F0 m pc ls (.int k :: .int n :: st.map (jw_ad α))) := by
  obtain ⟨hl1, hs⟩ := jw_bif hs
  simp only [Bool.and_eq_true, Nat.ble_eq] at hl1
  obtain ⟨l1, l2, l3, l4⟩ := hl1
  generalize hN : n.toNatClampNeg = N at *
  generalize hKK : k.toNatClampNeg = K at *
  have hroom := hlim (1 + N) (N + N * K) l1 l2
  have hadr : ∀ i, i < 1 + N → α (h.1.length + i) = H.size + i := fun i hi => by have := hfut (1 + N) l1 (h.1.length + i) (by omega) (by omega); omega
  intro T hT Xs
  obtain ⟨vm₁, cA, comp, -, fA, fC, hO, -, X', step⟩ := Xs.multianewarray2F hx hown (hts _ hw1) hao (hts _ hw2) (g := F0 m pc ls (.int k :: .int n :: st.map (jw_ad α))) rfl (by rw [hb]; exact hdg) rfl hn0 hk0 (by omega) (by rw [hKK]; show K * 4 ≤ _; omega) (by omega) rfl rfl (by rw [hN]; exact hroom.1) (by rw [hN, hKK]; exact hroom.2)
  rw [hN, hKK] at X' step
  have e4 : cA = cy 4 := Option.some.inj (fA.symm.trans (hK0.2 4 _ rfl).2)
  have e0 : comp = cy 0 := Option.some.inj (fC.symm.trans (hK0.2 0 _ rfl).2)
  subst e4
  subst e0
  generalize hF : Jvm.Free.Multi.fill (T.setVm vm₁) (cy 4) (cy 0) N K (defaultValue .int) N = F at X' step
  have hTh : (T.setVm vm₁).heap = H := hT
  obtain ⟨f1, f2, -, -⟩ := Jvm.Free.Multi.fill_facts (T.setVm vm₁) (cy 4) (cy 0) N K (defaultValue .int) N
  rw [hF, hTh] at f1 f2
  have hold : ∀ x : Nat, x < H.size → F.heap[x]? = H[x]? := fun x hx => by
    have := Jvm.Free.Multi.fill_old (T.setVm vm₁) (cy 4) (cy 0) N K (defaultValue .int) (a := x) (by rw [hTh]; exact hx) N
    rw [hF, hTh] at this
    exact this
  have hz : ∀ c : ClassId, Jvm.Free.Multi.innerC c K (defaultValue .int) = vp_cell c (K, .inl (fun _ => 0)) := fun c => by
    show ({ cls := c, slots := Array.replicate K (.int 0), vm := .none } : Cell) = _
    rw [vp_cell_i, arrV_new]
  have hrow : ∀ j : Nat, j < N → F.heap[H.size + 1 + j]? = some (vp_cell (cy 0) (K, .inl (fun _ => 0))) := fun j hj => by
    have := Jvm.Free.Multi.fill_inner (T.setVm vm₁) (cy 4) (cy 0) N K (defaultValue .int) N j hj
    rw [hF, hTh, hz] at this
    exact this
  rw [vr_outer] at f2
  generalize hX : (Sum.inr (4, N, (List.range N).map (fun i => some (h.1.length + 1 + i))) :: List.replicate N (Sum.inr (0, K, [])) : List jw_S) = X at hs
  have hXl : X.length = 1 + N := by rw [← hX]; simp; omega
  have hXs : jw_sz X = N + N * K := by rw [← hX, jw_sz, jw_sz_rep]; simp [jw_ssz]; omega
  have e2 := jw_wld_app (cy := cy) (α := α) (h := h) (h' := (h.1 ++ X, jw_zero 0 h.2.1 h.1.length, jw_zero 0 h.2.2 h.1.length)) (X := X) rfl (fun i hi => if_pos hi) (fun i hi => if_pos hi)
  have hXa : ∀ (i : Nat) (q : Nat × va_E), (X.mapIdx (fun i sh => (α (h.1.length + i), jw_cell cy α (jw_zero 0 h.2.1 h.1.length, jw_zero 0 h.2.2 h.1.length) (h.1.length + i) sh)))[i]? = some q → q.1 = H.size + i := by
    intro i q hq
    rw [List.getElem?_mapIdx] at hq
    cases hi : X[i]? with
    | none => rw [hi] at hq; cases hq
    | some sh =>
      rw [hi] at hq
      have hil : i < X.length := (List.getElem?_eq_some_iff.mp hi).1
      have := Option.some.inj hq
      rw [← this]
      exact hadr i (by omega)
  obtain ⟨t, a1, b1⟩ := hK h.1.length _ F.heap locs (1 + N) (N + N * K) hs (by rw [f1]; omega) (by simp [hXl]) (by rw [jw_sz_app, hXs]) (by simp [hXl]; exact l1) (by rw [jw_sz_app, hXs]; exact l2) (by
      rw [e2]
      refine (hP.kept (fun k x hx => hold x.1 ((hP k x hx).lt))).app (fun i q hq => ?_)
      have hq1 := hXa i q hq
      rw [List.getElem?_mapIdx] at hq
      cases hi : X[i]? with
      | none => rw [hi] at hq; cases hq
      | some sh =>
        rw [hi] at hq
        have hq2 := Option.some.inj hq
        rw [← hX] at hi
        cases i with
        | zero =>
          simp at hi
          subst hi
          rw [← hq2]
          show F.heap[α (h.1.length + 0)]? = some (vp_cell _ _)
          rw [hadr 0 (by omega), vp_cell_q]
          refine f2.trans (congrArg some (congrArg (arrV (cy 4) N) (funext fun j => ?_)))
          rw [List.getD_eq_getElem?_getD, List.getElem?_map]
          by_cases hj : j < N
          · rw [if_pos hj, List.getElem?_range hj]
            simp only [Option.map_some, Option.getD_some]
            rw [show h.1.length + 1 + j = h.1.length + (1 + j) by omega, hadr (1 + j) (by omega), show H.size + (1 + j) = H.size + 1 + j by omega]
          · rw [if_neg hj, List.getElem?_eq_none (by rw [List.length_range]; omega)]
            rfl
        | succ i =>
          rw [List.getElem?_cons_succ, List.getElem?_replicate] at hi
          split at hi
          · rename_i hlt
            cases hi
            rw [← hq2]
            show F.heap[α (h.1.length + (i + 1))]? = some (vp_cell _ _)
            rw [hadr (i + 1) (by omega), show H.size + (i + 1) = H.size + 1 + i by omega, hrow i hlt]
            refine congrArg (fun g => some (vp_cell (cy 0) (K, .inl g))) (funext fun j => ?_)
            show _ = jw_zero 0 h.2.1 h.1.length (h.1.length + (i + 1)) j
            unfold jw_zero
            rw [if_neg (by omega)]
          · cases hi) (by
      rw [e2]
      exact jw_D_app hD (fun k q hq => (hP k q hq).lt) hXa (fun q hq => hA q (Nat.le_trans hS.1 hq))) ⟨by rw [f1]; have := hS.1; omega, fun x h1 h2 => (hold x (Nat.lt_of_lt_of_le h1 hS.1)).trans (hS.2.1 x h1 h2), hS.2.2⟩ F rfl (by
      have e9 : cells + (1 + N) = cells + 1 + N := by omega
      have e8 : slots + (N + N * K) = slots + N + N * K := by omega
      rw [e9, e8]
      exact X')
  refine ⟨t, step t ?_, b1⟩
  have e9 : T.heap.size = H.size := by rw [hT]
  rw [e9]
  rw [List.map_cons, jw_ad, show α h.1.length = H.size from hadr 0 (by omega)] at a1
  exact a1
end JWR
