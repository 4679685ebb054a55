/-! ===== a method's entry where its class bears natives beside it (Math): by its own name ===== -/
theorem jo_ofWF {l : Launch} {y : MethodName} {ws ws' : List Cond} {rm : Room} {Pc : Array Value → State → Prop} {Qc : Array Value → State → Outcome → State → Prop} {mc ms : Nat} {free : Addr → Prop} {cc : ByteArray} {maxL : Nat} {ret : Option FieldType}
    (hy : plainFor y = true) (hw : ws = Cond.code y cc maxL ret :: ws')
    (body : ∀ p e s m args below meth c s₁, BodyLoose p l y (headSpec ws rm) cc maxL ret e s m args below meth c s₁ → c.maxLocals = maxL → Pc args s →
      W p l e (headSpec ws rm).room s m args below meth c s.heap [] 0 0 (MQ below Qc args s mc ms free) (entryFrame m args maxL)) : Met l y ws rm Pc Qc mc ms free := by
  refine MetFree.of_bodySF (code := cc) (maxLocals := maxL) (ret := ret) hy ?_ ?_
  · intro args s m h hn
    obtain ⟨meth, c, h1, h2, h3, h4, h5, h6, -, -⟩ := Cond.code_spec hn (atoms_spec (ws := ws) h _ (by rw [hw]; exact List.mem_cons_self))
    exact ⟨meth, c, h1, h2, h3, h4, h5, h6⟩
  · intro p e s m args below meth c s₁ B hml hP _
    have hh0 : s₁.heap = s.heap := by rw [B.state]; rfl
    obtain ⟨t, a1, o, b1, b2, b3⟩ := body p e s m args below meth c s₁ B hml hP s₁ hh0 (Stand.of_body B)
    exact ⟨t, o, a1, b1, b2, ⟨b3.1, b3.2⟩⟩
def jw_prog2 (l : Launch) (kd : Nat → List jw_K) (cl : List vw_C) (ys : List jw_Y) (Tg Ns : List Cond) : Prop := (∀ w ∈ Tg, goodWord w = true) ∧ jw_nsok Ns ∧ jw_clok cl Tg ∧ jw_asg cl Ns ∧ jw_strok l Tg ∧ ys.length ≤ 100000 ∧ ∀ y ∈ ys, plainFor y.1 = true ∧ ∀ q ∈ y.2.2.2.2.2, jw_okI y.1.cls y.1.name kd cl ys Tg Ns y.2.1 q
set_option maxHeartbeats 1000000 in
/-- THE ABSTRACT MACHINE IS THE MACHINE -/
theorem jw_sound2 {l : Launch} {D : va_G} {cl : List vw_C} {cy : Nat → ClassId} {α : Nat → Nat} {kd : Nat → List jw_K} {ys : List jw_Y} {Tg Ns : List Cond} (hp : jw_prog2 l kd cl ys Tg Ns) : ∀ (d mid : Nat) (as : List Value) (h : jw_H) (Q : jw_Q), jw_C kd ys d mid as h Q → ∀ y, ys[mid]? = some y → jw_met l D cl cy α Ns Tg d y as h Q := by
  obtain ⟨hgood, hns, hcl, hasg, hstr, hysl, hys⟩ := hp
  intro d
  induction d with
  | zero => intro mid as h Q hC; exact hC.elim
  | succ d ih =>
    intro mid as h Q hC y hy sz hfut
    rw [jw_C, hy] at hC
    dsimp only at hC
    obtain ⟨hc1, n, hwp⟩ := jw_bif hC
    simp only [Bool.and_eq_true, Nat.ble_eq] at hc1
    obtain ⟨hpl, hq⟩ := hys y (List.mem_of_getElem? hy)
    refine jo_ofWF (cc := y.2.1) (maxL := y.2.2.1) (ret := y.2.2.2.1) hpl rfl ?_
    intro p e s m args below meth c s₁ B hml hv
    obtain ⟨rfl, hsz, hP, hK, hD0, hX, hN⟩ := hv
    subst hsz
    have hts := atoms_spec (ws := Cond.code y.1 y.2.1 y.2.2.1 y.2.2.2.1 :: Tg) B.pre
    have hown : s.vm.findClass y.1.cls = some m.cls := findClass_of_methodNamed B.named
    have hnm : meth.name = y.1.name := (name_of_methodNamed B.named B.method).1
    obtain ⟨ea, el⟩ := jw_entry_args (α := α) as 0 hc1.2
    have hl := lv_entry (as.map (jw_ad α)) (n := y.2.2.1) (by rw [el]; exact hc1.1)
    rw [lg_entry_eq]
    have hl2 : lv_has ((lg_sl (as.map (jw_ad α)) ++ List.replicate (y.2.2.1 - (lg_sl (as.map (jw_ad α))).length) Slot.unset).toArray) y.2.2.1 (jw_asc α 0 (jw_entry as y.2.2.1)) := by
      unfold jw_entry
      rw [jw_asc_app, jw_asc_rep, List.append_nil, ea]
      exact hl
    have := jw_sound_wp (e := e) (R := (headSpec (Cond.code y.1 y.2.1 y.2.2.1 y.2.2.2.1 :: Tg) (jw_rm (d + 1) y.2.2.2.2.1.1 y.2.2.2.2.1.2)).room) (Ts := Cond.code y.1 y.2.1 y.2.2.1 y.2.2.2.1 :: Tg) (cs := y.2.2.2.2.2) (d := d) (mc := y.2.2.2.2.1.1) (ms := y.2.2.2.2.1.2) (Q := Q) (h0 := h) (below := below) (args := ((as.map (jw_ad α)).toArray)) B.exec B.bytes hml B.returns B.notSynchronized hown hnm hts (fun w hw => List.mem_cons_of_mem _ hw) hgood hns hcl hasg hstr hysl hq (Nat.le_refl _) (by show 200 * d + 200 ≤ 200 * (d + 1); omega) rfl rfl hK hX hN (fun q hq => Or.inr hq) rfl hfut (fun mid as h Q hC y hy => ih mid as h Q hC y hy) n 0 (jw_entry as y.2.2.1) [] h s.heap [] 0 0 _ hwp (by unfold jw_entry; simp; omega) hl2 (by omega) (by omega) (by omega) (by omega) (by omega) hP hD0.self va_S.rf
    exact this

/-! ===== the check of the program, by a table cut into short rows ===== -/
def jp_cut : Nat → List Cond → List (List Cond)
  | 0, _ => []
  | n + 1, l => l.take 48 :: jp_cut n (l.drop 48)
def jp_tc : List (List Cond) := jp_cut 48 lw_tbl
theorem jp_cut_ok : ∀ {n : Nat} {l c : List Cond} {w : Cond}, c ∈ jp_cut n l → w ∈ c → w ∈ l
  | 0, _, _, _, h, _ => by cases h
  | n + 1, l, c, w, h, hw => by
    rw [jp_cut] at h
    rcases List.mem_cons.mp h with e | e
    · rw [e] at hw
      exact List.mem_of_mem_take hw
    · exact List.mem_of_mem_drop (jp_cut_ok e hw)
def jp_at (i : Nat) : Option Cond := match jp_tc[i / 48]? with
  | some c => c[i % 48]?
  | none => none
theorem jp_at_ok {i : Nat} {w : Cond} (h : jp_at i = some w) : w ∈ lw_tbl := by
  unfold jp_at at h
  split at h
  · rename_i c hc
    exact jp_cut_ok (List.mem_of_getElem? hc) (List.mem_of_getElem? h)
  · cases h
def jp_pl2 : List Cond → List Nat → Bool
  | [], [] => true
  | w :: ws, i :: pl => (match jp_at i with
    | some v => goodWord v && decide (v = w)
    | none => false) && jp_pl2 ws pl
  | _, _ => false
theorem jp_pl2_ok : ∀ {ws : List Cond} {pl : List Nat}, jp_pl2 ws pl = true → ∀ w ∈ ws, w ∈ jp_Tg
  | [], _, _, w, h => by cases h
  | x :: ws, [], h, _, _ => by cases h
  | x :: ws, i :: pl, h, w, hw => by
    rw [jp_pl2] at h
    simp only [Bool.and_eq_true] at h
    rcases List.mem_cons.mp hw with e | e
    · have h1 := h.1
      split at h1
      · rename_i v hv
        simp only [Bool.and_eq_true] at h1
        rw [e, ← of_decide_eq_true h1.2]
        exact List.mem_filter.mpr ⟨jp_at_ok hv, h1.1⟩
      · cases h1
    · exact jp_pl2_ok h.2 w e
def jp_chkI2 (own nm : String) (cc : ByteArray) (q : jw_I) (pl : List Nat × List Nat) : Bool :=
  decide (decode cc q.1 = .ok (q.2.1, q.2.2.1)) && ((jw_len q.2.1 == 0 || q.2.2.1 == jw_len q.2.1) && (jw_stat q && ((jw_len q.2.1 == 1 || (jw_isS q.2.1 || (jw_isH q.2.1 || jw_isC q.2.1))) && (jp_pl2 (jw_wd own jp_cl q ++ jw_wc own jp_cl jp_ys q) pl.1 && (jw_wf own nm jp_cl q && (jp_pl jp_Ns (jw_nc own jp_ys q) pl.2 && jw_fc jp_kd jp_cl jp_ys q))))))
def jp_chkL2 (own nm : String) (cc : ByteArray) : List jw_I → List (List Nat × List Nat) → Bool
  | [], [] => true
  | q :: cs, p :: pl => jp_chkI2 own nm cc q p && jp_chkL2 own nm cc cs pl
  | _, _ => false
def jp_chkY2 (y : jw_Y) (pl : List (List Nat × List Nat)) : Bool := plainFor y.1 && jp_chkL2 y.1.cls y.1.name y.2.1 y.2.2.2.2.2 pl
def jp_chkYs : List jw_Y → List (List (List Nat × List Nat)) → Bool
  | [], [] => true
  | y :: ys, p :: ps => jp_chkY2 y p && jp_chkYs ys ps
  | _, _ => false
theorem jp_chkI2_ok {own nm : String} {cc : ByteArray} {q : jw_I} {pl : List Nat × List Nat} (h : jp_chkI2 own nm cc q pl = true) : jw_okI own nm jp_kd jp_cl jp_ys jp_Tg jp_Ns cc q := by
  unfold jp_chkI2 at h
  simp only [Bool.and_eq_true, Bool.or_eq_true, beq_iff_eq] at h
  obtain ⟨h1, h2, h3, h4, h5, h7, h8, h9⟩ := h
  have hT : ∀ w ∈ jw_wd own jp_cl q ++ jw_wc own jp_cl jp_ys q, w ∈ jp_Tg := jp_pl2_ok h5
  exact ⟨⟨of_decide_eq_true h1, h2, h3⟩, by rcases h4 with h | h | h | h <;> simp [h], fun w hw => hT w (List.mem_append_left _ hw), h7, fun w hw => hT w (List.mem_append_right _ hw), jp_pl_ok h8, h9⟩
theorem jp_chkL2_ok {own nm : String} {cc : ByteArray} : ∀ {cs : List jw_I} {pl : List (List Nat × List Nat)}, jp_chkL2 own nm cc cs pl = true → ∀ q ∈ cs, jw_okI own nm jp_kd jp_cl jp_ys jp_Tg jp_Ns cc q
  | [], _, _, q, h => by cases h
  | x :: cs, [], h, _, _ => by cases h
  | x :: cs, p :: pl, h, q, hq => by
    rw [jp_chkL2] at h
    simp only [Bool.and_eq_true] at h
    rcases List.mem_cons.mp hq with e | e
    · rw [e]; exact jp_chkI2_ok h.1
    · exact jp_chkL2_ok h.2 q e
def jp_yok (y : jw_Y) : Prop := plainFor y.1 = true ∧ ∀ q ∈ y.2.2.2.2.2, jw_okI y.1.cls y.1.name jp_kd jp_cl jp_ys jp_Tg jp_Ns y.2.1 q
theorem jp_chkYs_ok : ∀ {ys : List jw_Y} {ps : List (List (List Nat × List Nat))}, jp_chkYs ys ps = true → ∀ y ∈ ys, jp_yok y
  | [], _, _, q, h => by cases h
  | x :: cs, [], h, _, _ => by cases h
  | x :: cs, p :: pl, h, q, hq => by
    rw [jp_chkYs] at h
    simp only [Bool.and_eq_true] at h
    rcases List.mem_cons.mp hq with e | e
    · rw [e]
      have h1 := h.1
      unfold jp_chkY2 at h1
      simp only [Bool.and_eq_true] at h1
      exact ⟨h1.1, jp_chkL2_ok h1.2⟩
    · exact jp_chkYs_ok h.2 q e
