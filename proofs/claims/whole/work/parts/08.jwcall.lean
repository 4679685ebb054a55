/-! ===== contracts of the abstract machine's methods, and calls ===== -/
def jw_rm (d mc ms : Nat) : Room := { frames := d, cells := mc, slots := ms, locals := 200 * d }
/-- words that are carried in a contract's start: of nest mates, of casts, of arrays' classes -/
def jw_nw (Ns : List Cond) (U : State) : Prop := (∀ w ∈ Ns, va_Nw w U) ∧ va_AO "ShadowSchool$Progress" U ∧ va_AO "ShadowSchool$Shade" U ∧ (Cond.arrayOver (.array .int)).before #[] U = true
def jw_nsok (Ns : List Cond) : Prop := ∀ w ∈ Ns, (∃ a i x h, w = Cond.methodLinkNest a i x h) ∨ ∃ C T, w = Cond.castable C T
def jw_pre (D : va_G) (cl : List vw_C) (cy : Nat → ClassId) (α : Nat → Nat) (Ns : List Cond) (h : jw_H) (sz : Nat) : State → Prop := fun U => U.heap.size = sz ∧ va_P D cl (jw_wld cy α h) U.heap ∧ va_K D cl (jw_tys cy) U ∧ va_D (fun _ => True) (jw_wld cy α h) ∧ jw_X α (va_A (jw_wld cy α h) sz) U U.heap ∧ jw_nw Ns U
def jw_post (D : va_G) (cl : List vw_C) (cy : Nat → ClassId) (α : Nat → Nat) (h : jw_H) (sz mc ms : Nat) (Q : jw_Q) : Option Value → State → Prop := fun v t => ∃ (r : Option Value) (h' : jw_H), v = r.map (jw_ad α) ∧ Q r h' ∧ h'.1.length = h.1.length + mc ∧ jw_sz h'.1 = jw_sz h.1 + ms ∧ t.heap.size = sz + mc ∧ va_P D cl (jw_wld cy α h') t.heap ∧ va_D (va_A (jw_wld cy α h) sz) (jw_wld cy α h')
def jw_Qc (D : va_G) (cl : List vw_C) (cy : Nat → ClassId) (α : Nat → Nat) (h : jw_H) (sz mc ms : Nat) (Q : jw_Q) : Array Value → State → Outcome → State → Prop := fun _ st oc t => (∃ v, oc = .returned v ∧ jw_post D cl cy α h sz mc ms Q v t) ∧ va_F (va_A (jw_wld cy α h) sz) st t
def jw_fut (α : Nat → Nat) (n sz mc : Nat) : Prop := ∀ j, n ≤ j → j < n + mc → α j = sz + (j - n)
def jw_met (l : Launch) (D : va_G) (cl : List vw_C) (cy : Nat → ClassId) (α : Nat → Nat) (Ns Tg : List Cond) (d : Nat) (y : jw_Y) (as : List Value) (h : jw_H) (Q : jw_Q) : Prop :=
  ∀ sz : Nat, jw_fut α h.1.length sz y.2.2.2.2.1.1 → Met l y.1 (Cond.code y.1 y.2.1 y.2.2.1 y.2.2.2.1 :: Tg) (jw_rm d y.2.2.2.2.1.1 y.2.2.2.2.1.2) (va_Pc (as.map (jw_ad α)) (jw_pre D cl cy α Ns h sz)) (jw_Qc D cl cy α h sz y.2.2.2.2.1.1 y.2.2.2.2.1.2 Q) y.2.2.2.2.1.1 y.2.2.2.2.1.2 (va_A (jw_wld cy α h) sz)
theorem jw_nw_same {Ns : List Cond} (hn : jw_nsok Ns) {u U : State} (h : u.vm = U.vm) (hz : jw_nw Ns u) : jw_nw Ns U := by
  refine ⟨fun w hw => ?_, va_AO.moved (h ▸ Vm.Alike.refl u.vm) hz.2.1, va_AO.moved (h ▸ Vm.Alike.refl u.vm) hz.2.2.1, over_moved (h ▸ Vm.Alike.refl u.vm) hz.2.2.2⟩
  rcases hn w hw with ⟨a, i, x, k, rfl⟩ | ⟨C, T, rfl⟩
  · exact va_Nw.same rfl h (hz.1 _ hw)
  · exact va_Nw.same rfl h (hz.1 _ hw)
theorem jw_nw_warm {Ns : List Cond} (hn : jw_nsok Ns) {s U : State} (hW : s.WarmedH U.vm) (hz : jw_nw Ns s) : jw_nw Ns U := by
  refine ⟨fun w hw => ?_, va_AO.moved hW.alike hz.2.1, va_AO.moved hW.alike hz.2.2.1, over_moved hW.alike hz.2.2.2⟩
  rcases hn w hw with ⟨a, i, x, k, rfl⟩ | ⟨C, T, rfl⟩
  · exact va_Nw.warmM hW (hz.1 _ hw)
  · exact va_Nw.warmC hW (hz.1 _ hw)
theorem jw_X_go {α : Nat → Nat} {A B : Nat → Prop} {u U : State} {H H1 : Heap} (h : jw_X α A u H) (hR : vk_R "ShadowSchool$Reader" 63 jw_tx (α jw_str) U) (hvm : u.vm.Alike U.vm) (hq : ∀ a : Nat, a < H.size → ¬ A a → H1[a]? = H[a]?) (hAB : ∀ q, B q → A q) : jw_X α B U H1 := by
  obtain ⟨⟨-, h2, h3, h4, h5, h6, h7⟩, h8, h9⟩ := h
  refine ⟨⟨hR, ((va_O.moved hvm h2).kept hq).narrow hAB, ((va_OF.moved hvm h3).kept hq).narrow hAB, ((va_OF.moved hvm h4).kept hq).narrow hAB, ((va_T.moved hvm h5).kept hq).narrow hAB, ((va_Z.moved hvm h6).kept hq).narrow hAB, ?_⟩, ((va_Z.moved hvm h8).kept hq).narrow hAB, ((va_T.moved hvm h9).kept hq).narrow hAB⟩
  have h7' := (va_Zq.moved hvm h7).kept hq
  rcases h7' with h7' | ⟨t, h7'⟩
  · exact Or.inl (h7'.narrow hAB)
  · exact Or.inr ⟨t, h7'.narrow hAB⟩
theorem jw_X_same {α : Nat → Nat} {A : Nat → Prop} {u U : State} {H : Heap} (h : jw_X α A u H) (hvm : u.vm = U.vm) : jw_X α A U H := jw_X_go h (vk_R.same hvm.symm h.1.1) (hvm ▸ Vm.Alike.refl u.vm) (fun _ _ _ => rfl) (fun _ h => h)
theorem jw_blind {D : va_G} {cl : List vw_C} {cy : Nat → ClassId} {α : Nat → Nat} {Ns : List Cond} (hn : jw_nsok Ns) {h : jw_H} {sz : Nat} {av : List Value} : FrameBlind (va_Pc av (jw_pre D cl cy α Ns h sz)) := by
  intro a U g mk q
  obtain ⟨q0, q1, qP, qK, qD, qX, qN⟩ := q
  exact ⟨q0, q1, qP, va_K.moved (u := U) (U := U.calling g mk a) (Vm.Alike.refl U.vm) qK, qD, jw_X_same (u := U) (U := U.calling g mk a) qX rfl, jw_nw_same hn (u := U) rfl qN⟩
section JWC
variable {p : Program} {l : Launch} {e : Env} {R : Room} {s : State} {m : MethodId} {args : Array Value} {below : List Frame} {meth : Method} {c : Code} {H : Heap} {locs : List Loc} {cells slots : Nat} {Qf : State → Prop}
variable {cc : ByteArray} {ls : Array Slot} {α : Nat → Nat} {nL : Nat} {D : va_G} {cl : List vw_C} {A : Nat → Prop} {cy : Nat → ClassId} {own nm : String} {Ts Tg Ns : List Cond} {h : jw_H}
theorem jo_callg {A0 A1 : Nat → Prop} {H0 : Heap} {pc mc ms : Nat} {rest st0 : List Value} {free : Addr → Prop} {Pv : Option Value → State → Prop} (hr : va_Run p l e R s m args below meth c H locs cells slots mc ms (F0 m pc ls st0) rest (fun st oc t => (∃ v, oc = .returned v ∧ Pv v t) ∧ va_F A1 st t) free) (hS : va_S A0 H0 H locs) (hA : ∀ q, q < H.size → A1 q → A0 q) (hf : ∀ q, free q → A0 q)
    (kk : ∀ (v : Option Value) (t : State) (H1 : Heap) (locs1 : List Loc), t.heap = H1 → Pv v t → va_S A0 H0 H1 locs1 → W p l e R s m args below meth c H1 locs1 (cells + mc) (slots + ms) Qf (F0 m (pc + 3) ls (v.toList ++ rest))) : W p l e R s m args below meth c H locs cells slots Qf (F0 m pc ls st0) := by
  intro T hT X
  obtain ⟨v, st₀, t, T', L, h0, X', hL, e1, e2, ⟨⟨r, hv, hp⟩, hz, hk⟩, st⟩ := hr T hT X
  cases hv
  rw [h0] at hz hk
  obtain ⟨t2, a1, b1⟩ := kk v t T'.heap (locs ++ L) e1.symm hp
    ⟨Nat.le_trans hS.1 (by rw [e1]; exact hz), fun q h1 h2 => by rw [e1, hk q (Nat.lt_of_lt_of_le h1 hS.1) (fun z => h2 (hA q (Nat.lt_of_lt_of_le h1 hS.1) z))]; exact hS.2.1 q h1 h2, fun q hq => by
      rcases List.mem_append.mp hq with h | h
      · exact hS.2.2 q h
      · exact hf _ (hL q h)⟩ T' rfl X'
  exact ⟨t2, st t2 a1, b1⟩
/-- the callee's cells are the caller's -/
theorem jw_sub (hD : va_D A (jw_wld cy α h)) (hS : va_S A s.heap H locs) (hA : ∀ q, s.heap.size ≤ q → A q) : ∀ q, va_A (jw_wld cy α h) H.size q → A q := by
  intro q hq
  rcases hq with ⟨k, e0, hk⟩ | hq
  · exact hD.2 k _ hk
  · exact hA q (Nat.le_trans hS.1 hq)
theorem jw_start (hns : jw_nsok Ns) (hK0 : va_K D cl (jw_tys cy) s) (hP : va_P D cl (jw_wld cy α h) H) (hD : va_D A (jw_wld cy α h)) (hS : va_S A s.heap H locs) (hA : ∀ q, s.heap.size ≤ q → A q) (hX : jw_X α A s s.heap) (hN : jw_nw Ns s) {av : List Value} {a : Array Value} (ha : a = av.toArray) : ∀ U : State, U.heap = H → s.WarmedH U.vm → va_Pc av (jw_pre D cl cy α Ns h H.size) a U := by
  intro U hU hW
  have hsub := jw_sub hD hS hA
  have hkeep : ∀ a : Nat, a < s.heap.size → ¬ A a → U.heap[a]? = s.heap[a]? := fun a h1 h2 => by rw [hU]; exact hS.2.1 a h1 h2
  refine ⟨ha, by rw [hU], by rw [hU]; exact hP, va_K.moved hW.alike hK0, hD.weaken (fun _ _ _ _ => trivial), jw_X_go hX (vk_R.warm hW hX.1.1) hW.alike hkeep hsub, jw_nw_warm hns hW hN⟩
/-- a call's end, whichever instruction made it -/
theorem jo_end {pc d : Nat} {y : jw_Y} {st0 rest : List Value} {Q : jw_Q} {a : Array Value} (hS : va_S A s.heap H locs) (hD : va_D A (jw_wld cy α h)) (hA : ∀ q, s.heap.size ≤ q → A q)
    (hr : va_Run p l e R s m args below meth c H locs cells slots y.2.2.2.2.1.1 y.2.2.2.2.1.2 (F0 m pc ls st0) (rest.map (jw_ad α)) (jw_Qc D cl cy α h H.size y.2.2.2.2.1.1 y.2.2.2.2.1.2 Q a) (va_A (jw_wld cy α h) H.size))
    (hK : ∀ (v : Option Value) (h' : jw_H) (H' : Heap) (locs' : List Loc), Q v h' → H'.size = H.size + y.2.2.2.2.1.1 → h'.1.length = h.1.length + y.2.2.2.2.1.1 → jw_sz h'.1 = jw_sz h.1 + y.2.2.2.2.1.2 → va_P D cl (jw_wld cy α h') H' → va_D A (jw_wld cy α h') → va_S A s.heap H' locs' → W p l e R s m args below meth c H' locs' (cells + y.2.2.2.2.1.1) (slots + y.2.2.2.2.1.2) Qf (F0 m (pc + 3) ls ((v.toList ++ rest).map (jw_ad α)))) :
    W p l e R s m args below meth c H locs cells slots Qf (F0 m pc ls st0) := by
  have hsub := jw_sub hD hS hA
  refine jo_callg (Pv := jw_post D cl cy α h H.size y.2.2.2.2.1.1 y.2.2.2.2.1.2 Q) hr hS (fun q _ h => hsub q h) hsub (fun v t H1 locs1 ht hp hS1 => ?_)
  obtain ⟨r, h', rfl, hq, n1, n2, n3, hP1, hD1⟩ := hp
  subst ht
  have := hK r h' t.heap locs1 hq n3 n1 n2 hP1 (hD1.weaken (fun k q _ hz => hsub q.1 hz)) hS1
  cases r <;> exact this
end JWC
