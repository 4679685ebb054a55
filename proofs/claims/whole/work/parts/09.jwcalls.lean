/-! ===== the calls' instructions of the abstract machine ===== -/
def jw_code (y : jw_Y) : Cond := Cond.code y.1 y.2.1 y.2.2.1 y.2.2.2.1
/-- words of a virtual call: kind 0: the receiver's own method; kind 1: of a class X, found in O, by the receiver's class -/
def jw_wcV (own : String) (cl : List vw_C) (ys : List jw_Y) (idx k : Nat) (z : Int × Nat) : List Cond := match cl[z.1.toNat]?, ys[z.2]? with
  | some (C, _, _), some y => bif k % 16 == 0 then [.methodLink own idx y.1, .instanceMethod y.1, .selects C y.1 y.1, .initialized C, jw_code y]
    else (match cl[k / 16 % 16]?, cl[k / 256 % 16]?, ys[k / 4096]? with
    | some (X, _, _), some (O, _, _), some y0 => [.methodLink own idx ⟨X, y.1.name, y.1.desc⟩, .sameMethod X O y.1.name y.1.desc, .instanceMethod ⟨O, y.1.name, y.1.desc⟩, .selects C ⟨X, y.1.name, y.1.desc⟩ y.1, .instanceMethod y.1, .initialized y.1.cls, jw_code y, jw_code y0]
    | _, _, _ => [])
  | _, _ => []
def jw_nh (C : String) : Bool := C != "java/lang/invoke/MethodHandle" && C != "java/lang/invoke/VarHandle"
def jw_par (desc : String) (n : Nat) : Bool := (match parseMethodDescriptor desc with
  | some d => d.parameters.length == n
  | none => false)
def jw_fcV (cl : List vw_C) (ys : List jw_Y) (k n : Nat) (z : Int × Nat) : Bool := match cl[z.1.toNat]?, ys[z.2]? with
  | some (C, _, _), some y => Nat.ble y.2.2.1 100 && (jw_par y.1.desc n && (bif k % 16 == 0 then y.1.cls == C && jw_nh C
    else (match cl[k / 16 % 16]?, cl[k / 256 % 16]?, ys[k / 4096]? with
    | some (_, _, _), some (O, _, _), some y0 => y0.1 == ⟨O, y.1.name, y.1.desc⟩ && jw_nh O
    | _, _, _ => false)))
  | _, _ => false
theorem jw_find_ok {ci mid : Nat} : ∀ {l : List (Int × Nat)}, jw_find ci l = some mid → ((ci : Int), mid) ∈ l
  | [], h => by cases h
  | (a, b) :: l, h => by
    rw [jw_find] at h
    cases hc : (a == (ci : Int)) with
    | true =>
      rw [hc] at h
      have : b = mid := Option.some.inj h
      rw [← this, ← (beq_iff_eq.mp hc)]
      exact List.mem_cons_self
    | false =>
      rw [hc] at h
      exact List.mem_cons_of_mem _ (jw_find_ok h)
theorem jw_goodIn {Ts Tg X : List Cond} (hTs : ∀ w ∈ Tg, w ∈ Ts) (hg : ∀ w ∈ Tg, goodWord w = true) (hX : ∀ w ∈ X, w ∈ Tg) : GoodIn Ts X := fun w hw => ⟨hTs w (hX w hw), good_of_word (hg w (hX w hw))⟩
theorem jw_par_ok {desc : String} {n : Nat} (h : jw_par desc n = true) : (parseMethodDescriptor desc).map (fun d => d.parameters.length) = some n := by
  unfold jw_par at h
  split at h
  · rename_i d hd
    rw [hd]
    simpa using h
  · cases h
theorem jw_nh_ok {C : String} (h : jw_nh C = true) : C ≠ "java/lang/invoke/MethodHandle" ∧ C ≠ "java/lang/invoke/VarHandle" := by
  simpa [jw_nh] using h
theorem jw_take {st r : List Value} {n : Nat} {v : Value} (h : st.drop n = v :: r) : st = st.take n ++ v :: r := by
  rw [← h, List.take_append_drop]
section JWV
variable {p : Program} {l : Launch} {e : Env} {R : Room} {s : State} {m : MethodId} {args : Array Value} {below : List Frame} {meth : Method} {c : Code} {H : Heap} {locs : List Loc} {cells slots : Nat} {Qf : State → Prop}
variable {cc : ByteArray} {ls : Array Slot} {α : Nat → Nat} {nL : Nat} {D : va_G} {cl : List vw_C} {A : Nat → Prop} {cy : Nat → ClassId} {own nm : String} {Ts Tg Ns : List Cond} {h : jw_H} {ys : List jw_Y} {C : Nat → List Value → jw_H → jw_Q → Prop} {lim : Nat × Nat} {st : List Value} {f : List Value → jw_H → Prop}
theorem jw_call_ok {kind n : Nat} {tg : List (Int × Nat)} {bud : Nat → Nat × Nat} (hs : jw_call C bud lim (kind, n, tg) st h f) : ∃ (b : Nat) (r : List Value) (ci : Nat) (ks : List jw_K) (mid : Nat), st = st.take n ++ .ref b :: r ∧ n < st.length ∧ h.1[b]? = some (.inl (ci, ks)) ∧ ((ci : Int), mid) ∈ tg ∧ jw_cat r ≤ 8 ∧ (bud mid = (0, 0) ∨ (h.1.length + (bud mid).1 ≤ lim.1 ∧ jw_sz h.1 + (bud mid).2 ≤ lim.2)) ∧ C mid (.ref b :: (st.take n).reverse) h (fun v h' => f (v.toList ++ r) h') := by
  unfold jw_call at hs
  dsimp only at hs
  split at hs
  · rename_i b r hdr
    split at hs
    · rename_i ci ks hsh
      split at hs
      · rename_i mid hm
        obtain ⟨h1, h2⟩ := jw_bif hs
        simp only [Bool.and_eq_true, Bool.or_eq_true, Nat.blt_eq, Nat.ble_eq, beq_iff_eq] at h1
        exact ⟨b, r, ci, ks, mid, jw_take hdr, h1.1, hsh, jw_find_ok hm, h1.2.1, h1.2.2, h2⟩
      · exact hs.elim
    · exact hs.elim
  · exact hs.elim
set_option maxHeartbeats 4000000 in
theorem jo_virt {pc idx kind n d : Nat} {tg : List (Int × Nat)} (hx : p.tables.exec = Jvm.exec) (hb : c.code = cc) (hml : c.maxLocals = nL) (hown : s.vm.findClass own = some m.cls) (hts : ∀ w ∈ Ts, w.before args s = true) (hTs : ∀ w ∈ Tg, w ∈ Ts) (hgood : ∀ w ∈ Tg, goodWord w = true) (hns : jw_nsok Ns)
    (hw : ∀ z ∈ tg, ∀ w ∈ jw_wcV own cl ys idx kind z, w ∈ Tg) (hwf : ∀ z ∈ tg, jw_fcV cl ys kind n z = true) (hRf : d + 1 ≤ R.frames) (hRl : 200 * d + 200 ≤ R.locals) (hdg : decode cc pc = .ok (.invokevirtual idx, 3)) (hlz : ls.size = nL)
    (hK0 : va_K D cl (jw_tys cy) s) (hP : va_P D cl (jw_wld cy α h) H) (hD : va_D A (jw_wld cy α h)) (hS : va_S A s.heap H locs) (hA : ∀ q, s.heap.size ≤ q → A q) (hX : jw_X α A s s.heap) (hN : jw_nw Ns s)
    (IH : ∀ (mid : Nat) (as : List Value) (Q : jw_Q), C mid as h Q → ∀ y, ys[mid]? = some y → jw_met l D cl cy α Ns Tg d y as h Q)
    (hfut : ∀ mc, h.1.length + mc ≤ lim.1 → jw_fut α h.1.length H.size mc) (hlim : ∀ mc ms, h.1.length + mc ≤ lim.1 → jw_sz h.1 + ms ≤ lim.2 → cells + mc ≤ R.cells ∧ slots + ms ≤ R.slots) (hin : h.1.length ≤ lim.1 ∧ jw_sz h.1 ≤ lim.2)
    (hs : jw_call C (jw_bud ys) lim (kind, n, tg) st h f)
    (hK : ∀ (st' : List Value) (h' : jw_H) (H' : Heap) (locs' : List Loc) (k n : Nat), f st' h' → H'.size = H.size + k → h'.1.length = h.1.length + k → jw_sz h'.1 = jw_sz h.1 + n → h'.1.length ≤ lim.1 → jw_sz h'.1 ≤ lim.2 → va_P D cl (jw_wld cy α h') H' → va_D A (jw_wld cy α h') → va_S A s.heap H' locs' → W p l e R s m args below meth c H' locs' (cells + k) (slots + n) Qf (F0 m (pc + 3) ls (st'.map (jw_ad α)))) :
    W p l e R s m args below meth c H locs cells slots Qf (F0 m pc ls (st.map (jw_ad α))) := by
  obtain ⟨b, r, ci, ks, mid, e1, e2, hsh, htg, hcat, hbud, hC⟩ := jw_call_ok hs
  have hwf1 := hwf _ htg
  have hw1 := hw _ htg
  unfold jw_fcV at hwf1
  unfold jw_wcV at hw1
  dsimp only [Int.toNat_natCast] at hwf1 hw1
  split at hwf1
  · rename_i C0 T0 N0 y hcl hy
    rw [hcl, hy] at hw1
    dsimp only at hw1
    have hb1 : jw_bud ys mid = y.2.2.2.2.1 := by unfold jw_bud; rw [hy]
    have hbd : h.1.length + y.2.2.2.2.1.1 ≤ lim.1 ∧ jw_sz h.1 + y.2.2.2.2.1.2 ≤ lim.2 := by
      rcases hbud with hz | hz
      · rw [hb1] at hz
        rw [hz]
        exact hin
      · rw [hb1] at hz
        exact hz
    have hM := IH _ _ _ hC y hy H.size (hfut _ hbd.1)
    have hroom := hlim _ _ hbd.1 hbd.2
    simp only [Bool.and_eq_true, Nat.ble_eq] at hwf1
    obtain ⟨w1, w2, w3⟩ := hwf1
    have hrecv := va_recv hK0 hP hcl (jw_wld_some hsh)
    have hpre := jw_start (av := ((Value.ref b :: (st.take n).reverse).map (jw_ad α))) hns hK0 hP hD hS hA hX hN rfl
    have hstk : (F0 m pc ls (st.map (jw_ad α))).stack = ((st.take n).reverse.map (jw_ad α)).reverse ++ .ref (α b) :: r.map (jw_ad α) := by
      show st.map (jw_ad α) = _
      rw [← List.map_reverse, List.reverse_reverse]
      conv => lhs; rw [e1]
      rw [List.map_append]
      rfl
    have hlen : ((st.take n).reverse.map (jw_ad α)).length = n := by simp; omega
    have hrm : (jw_rm d y.2.2.2.2.1.1 y.2.2.2.2.1.2).frames + 1 ≤ R.frames ∧ 8 + (y.2.2.1 + 11) + (jw_rm d y.2.2.2.2.1.1 y.2.2.2.2.1.2).locals ≤ R.locals := ⟨hRf, by show 8 + (y.2.2.1 + 11) + 200 * d ≤ R.locals; omega⟩
    have hgo : ∀ (hr : va_Run p l e R s m args below meth c H locs cells slots y.2.2.2.2.1.1 y.2.2.2.2.1.2 (F0 m pc ls (st.map (jw_ad α))) (r.map (jw_ad α)) (jw_Qc D cl cy α h H.size y.2.2.2.2.1.1 y.2.2.2.2.1.2 (fun v h' => f (v.toList ++ r) h') (Value.ref (α b) :: (st.take n).reverse.map (jw_ad α)).toArray) (va_A (jw_wld cy α h) H.size)), W p l e R s m args below meth c H locs cells slots Qf (F0 m pc ls (st.map (jw_ad α))) := fun hr =>
      jo_end (d := d) hS hD hA hr (fun v h' H' locs' hq n1 n2 n3 hP1 hD1 hS1 => hK _ _ _ _ _ _ hq n1 n2 n3 (by rw [n2]; exact hbd.1) (by rw [n3]; exact hbd.2) hP1 hD1 hS1)
    cases hk0 : (kind % 16 == 0) with
    | true =>
      rw [hk0] at w3 hw1
      dsimp only [cond_true] at w3 hw1
      simp only [Bool.and_eq_true, beq_iff_eq] at w3
      have hT : GoodIn Ts (wsV own idx C0 y.1 (Cond.code y.1 y.2.1 y.2.2.1 y.2.2.2.1 :: Tg)) := jw_goodIn hTs hgood (fun w hw => by
        rcases List.mem_append.mp hw with q | q
        · exact hw1 w (by simp only [List.mem_cons, List.not_mem_nil, or_false] at q ⊢; rcases q with q | q | q | q <;> simp [q])
        · rcases List.mem_cons.mp q with q | q
          · exact hw1 w (by rw [q]; simp [jw_code])
          · exact q)
      exact hgo (va_runV ⟨hx, hb, hml, hown, hts⟩ hM (cwV n hts hT rfl rfl rfl ⟨w3.1, by rw [w3.1]; exact (jw_nh_ok w3.2).1, by rw [w3.1]; exact (jw_nh_ok w3.2).2, jw_par_ok w2⟩ hrm) ⟨jw_blind hns, hrecv, hpre⟩ rfl hlen hlz hstk (lv_room (by rw [jw_cat_map]; exact hcat)) hdg hroom)
    | false =>
      rw [hk0] at w3 hw1
      dsimp only [cond_false] at w3 hw1
      split at w3
      · rename_i X0 TX NX O0 TO NO y0 hX0 hO0 hy0
        rw [hX0, hO0, hy0] at hw1
        dsimp only at hw1
        simp only [Bool.and_eq_true, beq_iff_eq] at w3
        have hT : GoodIn Ts (va_wsO own idx C0 O0 ⟨X0, y.1.name, y.1.desc⟩ y.1 (Cond.code y.1 y.2.1 y.2.2.1 y.2.2.2.1 :: Tg)) := jw_goodIn hTs hgood (fun w hw => by
          rcases List.mem_append.mp hw with q | q
          · exact hw1 w (by simp only [List.mem_cons, List.not_mem_nil, or_false] at q ⊢; rcases q with q | q | q | q | q | q <;> simp [q])
          · rcases List.mem_cons.mp q with q | q
            · exact hw1 w (by rw [q]; simp [jw_code])
            · exact q)
        have h00 : Cond.code ⟨O0, y.1.name, y.1.desc⟩ y0.2.1 y0.2.2.1 y0.2.2.2.1 ∈ Ts := hTs _ (hw1 _ (by rw [← w3.1]; simp [jw_code]))
        exact hgo (va_runU ⟨hx, hb, hml, hown, hts⟩ hM (va_cwO n hts hT rfl rfl rfl h00 ⟨(jw_nh_ok w3.2).1, (jw_nh_ok w3.2).2, jw_par_ok w2⟩ hrm) ⟨jw_blind hns, hrecv, hpre⟩ rfl hlen hlz hstk (lv_room (by rw [jw_cat_map]; exact hcat)) hdg hroom)
      · cases w3
  · cases hwf1
end JWV
