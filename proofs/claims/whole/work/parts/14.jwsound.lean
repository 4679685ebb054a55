/-! ===== the abstract machine is the machine: a method's contract out of its walk ===== -/
def jw_isC : Instr → Bool
  | .invokevirtual _ | .invokespecial _ | .invokestatic _ | .aastore | .new _ | .newarray _ | .anewarray _ | .multianewarray _ _ => true
  | _ => false
def jw_isR : Instr → Bool
  | .ireturn | .lreturn | .areturn | .return_ => true
  | _ => false
/-- words of a call or a new cell -/
def jw_wc (own : String) (cl : List vw_C) (ys : List jw_Y) (q : jw_I) : List Cond := match q.2.1 with
  | .invokevirtual idx => bif q.2.2.2.1 == 100000 || q.2.2.2.1 == 100001 then jw_wcT own idx q.2.2.2.1 else q.2.2.2.2.2.flatMap (jw_wcV own cl ys idx q.2.2.2.1)
  | .invokespecial idx => bif q.2.2.2.1 == 7 then jw_wcO own idx else q.2.2.2.2.2.flatMap (jw_wcP own cl ys idx q.2.2.2.1)
  | .invokestatic idx => bif q.2.2.2.1 == 8 then jw_wcA own idx else q.2.2.2.2.2.flatMap (jw_wcS own ys idx q.2.2.2.1)
  | _ => jw_wcN own cl q
def jw_nc (own : String) (ys : List jw_Y) (q : jw_I) : List Cond := match q.2.1 with
  | .invokespecial idx => bif q.2.2.2.1 == 7 then [] else q.2.2.2.2.2.flatMap (jw_ncP own ys idx q.2.2.2.1)
  | .invokestatic idx => bif q.2.2.2.1 == 8 then [] else q.2.2.2.2.2.flatMap (jw_ncS own ys idx q.2.2.2.1)
  | _ => []
def jw_fc (kd : Nat → List jw_K) (cl : List vw_C) (ys : List jw_Y) (q : jw_I) : Bool := match q.2.1 with
  | .invokevirtual _ => ((q.2.2.2.1 == 100000 || q.2.2.2.1 == 100001) && q.2.2.2.2.2 == []) || (!(q.2.2.2.1 == 100000 || q.2.2.2.1 == 100001) && q.2.2.2.2.2.all (jw_fcV cl ys q.2.2.2.1 q.2.2.2.2.1))
  | .invokespecial _ => q.2.2.2.1 == 7 || q.2.2.2.2.2.all (jw_fcP cl ys q.2.2.2.1 q.2.2.2.2.1)
  | .invokestatic _ => q.2.2.2.1 == 8 || q.2.2.2.2.2.all (jw_fcS ys q.2.2.2.2.1)
  | .multianewarray _ n => n == 2
  | _ => jw_fcN kd cl q
/-- all that an instruction needs of the tables -/
def jw_okI (own nm : String) (kd : Nat → List jw_K) (cl : List vw_C) (ys : List jw_Y) (Tg Ns : List Cond) (cc : ByteArray) (q : jw_I) : Prop :=
  jw_okd cc q ∧ (jw_len q.2.1 = 1 ∨ jw_isS q.2.1 = true ∨ jw_isH q.2.1 = true ∨ jw_isC q.2.1 = true) ∧ (∀ w ∈ jw_wd own cl q, w ∈ Tg) ∧ jw_wf own nm cl q = true ∧ (∀ w ∈ jw_wc own cl ys q, w ∈ Tg) ∧ (∀ w ∈ jw_nc own ys q, w ∈ Ns) ∧ jw_fc kd cl ys q = true
def jw_shok (cl : List vw_C) (h : jw_H) : Prop := ∀ (i : Nat) (sh : Nat × List jw_K), h.1[i]? = some (.inl sh) → ∃ r, cl[sh.1]? = some r
section JWZ
variable {p : Program} {l : Launch} {e : Env} {R : Room} {s : State} {m : MethodId} {args : Array Value} {below : List Frame} {meth : Method} {c : Code}
variable {cc : ByteArray} {α : Nat → Nat} {nL : Nat} {D : va_G} {cl : List vw_C} {A : Nat → Prop} {cy : Nat → ClassId} {own nm : String} {Ts Tg Ns : List Cond} {kd : Nat → List jw_K} {lim : Nat × Nat} {ys : List jw_Y} {ret : Option FieldType} {cs : List jw_I}
theorem jw_at_ok {pc : Nat} {q : jw_I} : ∀ {cs : List jw_I}, jw_at pc cs = some q → q ∈ cs ∧ q.1 = pc
  | [], h => by cases h
  | x :: cs, h => by
    rw [jw_at] at h
    cases hc : (x.1 == pc) with
    | true =>
      rw [hc] at h
      have : x = q := Option.some.inj h
      subst this
      exact ⟨List.mem_cons_self, by simpa using hc⟩
    | false =>
      rw [hc] at h
      exact ⟨List.mem_cons_of_mem _ (jw_at_ok h).1, (jw_at_ok h).2⟩
set_option maxHeartbeats 4000000 in
set_option maxRecDepth 100000 in
theorem jw_sound_wp {d mc ms : Nat} {Q : jw_Q} {h0 : jw_H} (hx : p.tables.exec = Jvm.exec) (hb : c.code = cc) (hml : c.maxLocals = nL) (hr : meth.sig.returnType = ret) (hlocks : meth.locks = false) (hown : s.vm.findClass own = some m.cls) (hnm : meth.name = nm) (hts : ∀ w ∈ Ts, w.before args s = true) (hTs : ∀ w ∈ Tg, w ∈ Ts) (hgood : ∀ w ∈ Tg, goodWord w = true) (hns : jw_nsok Ns) (hcl : jw_clok cl Tg) (hasg : jw_asg cl Ns) (hstr : jw_strok l Tg) (hysl : ys.length ≤ 100000) (hok : ∀ q ∈ cs, jw_okI own nm kd cl ys Tg Ns cc q)
    (hRf : d + 1 ≤ R.frames) (hRl : 200 * d + 200 ≤ R.locals) (hRc : R.cells = mc) (hRs : R.slots = ms)
    (hK0 : va_K D cl (jw_tys cy) s) (hX : jw_X α A s s.heap) (hN : jw_nw Ns s) (hA : ∀ q, s.heap.size ≤ q → A q) (hAe : A = va_A (jw_wld cy α h0) s.heap.size) (hfut : jw_fut α h0.1.length s.heap.size mc)
    (IH : ∀ (mid : Nat) (as : List Value) (h : jw_H) (Q : jw_Q), jw_C kd ys d mid as h Q → ∀ y, ys[mid]? = some y → jw_met l D cl cy α Ns Tg d y as h Q) :
    ∀ (n pc : Nat) (L : jw_L) (st : List Value) (h : jw_H) (H : Heap) (locs : List Loc) (cells slots : Nat) (ls : Array Slot), jw_wp kd (jw_C kd ys d) (jw_bud ys) (h0.1.length + mc, jw_sz h0.1 + ms) ret cs (fun v h' => Q v h' ∧ h'.1.length = h0.1.length + mc ∧ jw_sz h'.1 = jw_sz h0.1 + ms) n pc L st h → L.length = nL → lv_has ls nL (jw_asc α 0 L) → cells + h0.1.length = h.1.length → slots + jw_sz h0.1 = jw_sz h.1 → H.size + h0.1.length = s.heap.size + h.1.length → h.1.length ≤ h0.1.length + mc → jw_sz h.1 ≤ jw_sz h0.1 + ms → va_P D cl (jw_wld cy α h) H → va_D A (jw_wld cy α h) → va_S A s.heap H locs →
      W p l e R s m args below meth c H locs cells slots (MQ below (jw_Qc D cl cy α h0 s.heap.size mc ms Q) args s mc ms A) (F0 m pc ls (st.map (jw_ad α))) := by
  have hclT : jw_clok cl Ts := fun ci C T N h => ⟨fun w hw => hTs w ((hcl ci C T N h).1 w hw), (hcl ci C T N h).2⟩
  intro n
  induction n with
  | zero => intro pc L st h H locs cells slots ls hs; exact hs.elim
  | succ n ih =>
    intro pc L st h H locs cells slots ls hs hn hl hc1 hc2 hz hb1 hb2 hP hD hS
    rw [jw_wp] at hs
    cases hq : jw_at pc cs with
    | none => rw [hq] at hs; exact hs.elim
    | some q =>
      rw [hq] at hs
      dsimp only at hs
      obtain ⟨hqm, hqp⟩ := jw_at_ok hq
      obtain ⟨k1, k2, k3, k4, k5, k6, k7⟩ := hok q hqm
      obtain ⟨pc1, ins, len, res⟩ := q
      dsimp only at hqp k2
      subst hqp
      have hfut' : ∀ mc', h.1.length + mc' ≤ h0.1.length + mc → jw_fut α h.1.length H.size mc' := fun mc' h9 j h1 h2 => by
        have := hfut j (by omega) (by omega)
        omega
      have hlim' : ∀ mc' ms', h.1.length + mc' ≤ h0.1.length + mc → jw_sz h.1 + ms' ≤ jw_sz h0.1 + ms → cells + mc' ≤ R.cells ∧ slots + ms' ≤ R.slots := fun mc' ms' h9 h8 => ⟨by omega, by omega⟩
      have hdg := k1.1
      dsimp only at hdg
      have hlen' : ∀ k, jw_len ins = k + 1 → len = k + 1 := fun k hk => by
        rcases k1.2.1 with h9 | h9
        · dsimp only at h9; omega
        · dsimp only at h9; omega
      have hfin : ∀ (t : State) (v : Option Value), t.heap = H → Q v h → h.1.length = h0.1.length + mc → jw_sz h.1 = jw_sz h0.1 + ms → jw_Qc D cl cy α h0 s.heap.size mc ms Q args s (.returned (v.map (jw_ad α))) t := fun t v ht hq9 hz1 hz2 =>
        ⟨⟨_, rfl, v, h, rfl, hq9, hz1, hz2, by rw [ht]; omega, by rw [ht]; exact hP, by rw [← hAe]; exact hD⟩, by rw [← hAe]; exact hS.F ht⟩
      by_cases hS1 : jw_isS ins = true
      · exact jo_simple hS1 hx hb k1 hl hn hs (fun pc' L' st' ls' hk hn' hl' => ih pc' L' st' h H locs cells slots ls' hk hn' hl' hc1 hc2 hz hb1 hb2 hP hD hS)
      by_cases hH1 : jw_isH ins = true
      · exact jo_heap hH1 hx hb k1 (fun w hw => hTs w (k3 w hw)) k4 hts hclT hown hnm hK0 hP hD hS hX hs (fun pc' st' h' H' locs' hk z1 z2 z3 hP1 hD1 hS1 => ih pc' L st' h' H' locs' cells slots ls hk hn hl (by omega) (by omega) (by omega) (by omega) (by omega) hP1 hD1 hS1)
      by_cases hC1 : jw_isC ins = true
      · cases ins <;> first | (exact Bool.noConfusion hC1) | skip
        case invokevirtual idx =>
          have := hlen' 2 rfl; subst this
          unfold jw_wc at k5
          unfold jw_fc at k7
          dsimp only at k5 k7
          replace hs : jw_callV (jw_C kd ys d) (jw_bud ys) (h0.1.length + mc, jw_sz h0.1 + ms) res st h fun st h => jw_wp kd (jw_C kd ys d) (jw_bud ys) (h0.1.length + mc, jw_sz h0.1 + ms) ret cs (fun v h' => Q v h' ∧ h'.1.length = h0.1.length + mc ∧ jw_sz h'.1 = jw_sz h0.1 + ms) n (pc1 + 3) L st h := hs
          unfold jw_callV at hs
          split at hs
          · rename_i b r hdr
            split at hs
            · obtain ⟨g1, hs⟩ := jw_bif hs
              simp only [Bool.and_eq_true, Bool.or_eq_true, beq_iff_eq, Nat.blt_eq, Nat.ble_eq] at g1
              obtain ⟨rfl, g2, g3, g4⟩ := g1
              have hkk : (res.1 == 100000 || res.1 == 100001) = true := by simpa using g4
              rw [hkk] at k5
              exact jo_str (ys := ys) (kd := kd) (d' := 0) (tg := res.2.2) hstr hx hb hml hown hts hTs hgood k5 hRf hRl hdg hl.1 hS hX hysl (jw_take hdr) g2 g3 g4 hs (by omega) (fun v locs' hq9 hS1 => ih _ L (.int v :: r) h H locs' cells slots ls hq9 hn hl hc1 hc2 hz hb1 hb2 hP hD hS1)
            · have hkk : (res.1 == 100000 || res.1 == 100001) = true ∨ (res.1 == 100000 || res.1 == 100001) = false := by cases (res.1 == 100000 || res.1 == 100001) <;> simp
              rcases hkk with hkk | hkk
              · exfalso
                obtain ⟨b2, r2, ci2, ks2, mid2, -, -, -, htg2, -⟩ := jw_call_ok (kind := res.1) (n := res.2.1) (tg := res.2.2) hs
                rw [hkk] at k7
                simp only [Bool.true_and] at k7
                have : res.2.2 = [] := by simpa using k7
                rw [this] at htg2
                cases htg2
              · rw [hkk] at k5 k7
                simp only [Bool.not_false, Bool.false_and, Bool.false_or, Bool.true_and] at k7
                exact jo_virt (kind := res.1) (n := res.2.1) (tg := res.2.2) hx hb hml hown hts hTs hgood hns (fun z hz1 w hw => k5 w (List.mem_flatMap.mpr ⟨z, hz1, hw⟩)) (fun z hz1 => List.all_eq_true.mp k7 z hz1) hRf hRl hdg hl.1 hK0 hP hD hS hA hX hN (fun mid as Q h9 => IH mid as h Q h9) hfut' hlim' ⟨hb1, hb2⟩ hs (fun st' h' H' locs' k n9 hk z1 z2 z3 z4 z5 hP1 hD1 hS1 => ih _ L st' h' H' locs' (cells + k) (slots + n9) ls hk hn hl (by omega) (by omega) (by omega) z4 z5 hP1 hD1 hS1)
          · exact hs.elim
        case invokespecial idx =>
          have := hlen' 2 rfl; subst this
          unfold jw_wc at k5
          unfold jw_nc at k6
          unfold jw_fc at k7
          dsimp only at k5 k6 k7
          replace hs : bif res.1 == 7 then jw_r1 st fun _ r => (bif Nat.ble (jw_cat r) 8 then jw_wp kd (jw_C kd ys d) (jw_bud ys) (h0.1.length + mc, jw_sz h0.1 + ms) ret cs (fun v h' => Q v h' ∧ h'.1.length = h0.1.length + mc ∧ jw_sz h'.1 = jw_sz h0.1 + ms) n (pc1 + 3) L r h else False) else jw_call (jw_C kd ys d) (jw_bud ys) (h0.1.length + mc, jw_sz h0.1 + ms) res st h fun st h => jw_wp kd (jw_C kd ys d) (jw_bud ys) (h0.1.length + mc, jw_sz h0.1 + ms) ret cs (fun v h' => Q v h' ∧ h'.1.length = h0.1.length + mc ∧ jw_sz h'.1 = jw_sz h0.1 + ms) n (pc1 + 3) L st h := hs
          cases h7 : (res.1 == 7) with
          | true =>
            rw [h7] at hs k5
            dsimp only [cond_true] at hs k5
            obtain ⟨a, r, rfl, hs⟩ := jw_r1_ok hs
            obtain ⟨hcat, hs⟩ := jw_bif hs
            have hcat : jw_cat r ≤ 8 := by simpa using hcat
            have hw := fun w hz => hts w (hTs w (k5 w hz))
            exact W.objInit hx hb hown (hw _ (by simp [jw_wcO])) (hw _ (by simp [jw_wcO])) (hw _ (by simp [jw_wcO])) (g := F0 m pc1 ls ((.ref a :: r).map (jw_ad α))) rfl (hl.1.trans hml.symm) rfl hdg (by omega) (by show 2 * 0 + _ + 12 ≤ _; rw [jw_cat_map]; omega) (ih _ L r h H locs cells slots ls hs hn hl hc1 hc2 hz hb1 hb2 hP hD hS)
          | false =>
            rw [h7] at hs k5 k6 k7
            dsimp only [cond_false] at hs k5 k6 k7
            rw [Bool.false_or] at k7
            refine jo_spec (kind := res.1) (n := res.2.1) (tg := res.2.2) hx hb hml hown hts hTs hgood hns (fun z hz1 w hw => k5 w (List.mem_flatMap.mpr ⟨z, hz1, hw⟩)) (fun z hz1 w hw => k6 w (List.mem_flatMap.mpr ⟨z, hz1, hw⟩)) (fun z hz1 => List.all_eq_true.mp k7 z hz1) hRf hRl hdg hl.1 hK0 hP hD hS hA hX hN (fun mid as Q h9 => IH mid as h Q h9) hfut' hlim' ⟨hb1, hb2⟩ hs (fun st' h' H' locs' k n9 hk z1 z2 z3 z4 z5 hP1 hD1 hS1 => ih _ L st' h' H' locs' (cells + k) (slots + n9) ls hk hn hl (by omega) (by omega) (by omega) z4 z5 hP1 hD1 hS1)
        case invokestatic idx =>
          have := hlen' 2 rfl; subst this
          unfold jw_wc at k5
          unfold jw_nc at k6
          unfold jw_fc at k7
          dsimp only at k5 k6 k7
          replace hs : bif res.1 == 8 then jw_copy h st fun r h => jw_wp kd (jw_C kd ys d) (jw_bud ys) (h0.1.length + mc, jw_sz h0.1 + ms) ret cs (fun v h' => Q v h' ∧ h'.1.length = h0.1.length + mc ∧ jw_sz h'.1 = jw_sz h0.1 + ms) n (pc1 + 3) L r h else jw_callS (jw_C kd ys d) (jw_bud ys) (h0.1.length + mc, jw_sz h0.1 + ms) res st h fun st h => jw_wp kd (jw_C kd ys d) (jw_bud ys) (h0.1.length + mc, jw_sz h0.1 + ms) ret cs (fun v h' => Q v h' ∧ h'.1.length = h0.1.length + mc ∧ jw_sz h'.1 = jw_sz h0.1 + ms) n (pc1 + 3) L st h := hs
          cases h7 : (res.1 == 8) with
          | true =>
            rw [h7] at hs k5
            dsimp only [cond_true] at hs k5
            exact jo_copy hx hb hml hl.1 hown hts (fun w hz => hTs w (k5 w hz)) (by omega) (by omega) hdg hK0 hP hD hS hs (fun st' h' H' locs' hk z1 z2 z3 hP1 hD1 hS1 => ih _ L st' h' H' locs' cells slots ls hk hn hl (by omega) (by omega) (by omega) (by omega) (by omega) hP1 hD1 hS1)
          | false =>
            rw [h7] at hs k5 k6 k7
            dsimp only [cond_false] at hs k5 k6 k7
            rw [Bool.false_or] at k7
            refine jo_stat (kind := res.1) (n := res.2.1) (tg := res.2.2) hx hb hml hown hts hTs hgood hns (fun z hz1 w hw => k5 w (List.mem_flatMap.mpr ⟨z, hz1, hw⟩)) (fun z hz1 w hw => k6 w (List.mem_flatMap.mpr ⟨z, hz1, hw⟩)) (fun z hz1 => List.all_eq_true.mp k7 z hz1) hRf hRl hdg hl.1 hK0 hP hD hS hA hX hN (fun mid as Q h9 => IH mid as h Q h9) hfut' hlim' ⟨hb1, hb2⟩ hs (fun st' h' H' locs' k n9 hk z1 z2 z3 z4 z5 hP1 hD1 hS1 => ih _ L st' h' H' locs' (cells + k) (slots + n9) ls hk hn hl (by omega) (by omega) (by omega) z4 z5 hP1 hD1 hS1)
        case aastore =>
          have := hlen' 0 rfl; subst this
          refine jo_aast hx hb hasg (fun i sh hi => ?_) hdg hK0 hP hD hS hN hs (fun st' h' H' locs' hk z1 z2 z3 hP1 hD1 hS1 => ih _ L st' h' H' locs' cells slots ls hk hn hl (by omega) (by omega) (by omega) (by omega) (by omega) hP1 hD1 hS1)
          obtain ⟨r, hr1, -⟩ := hP i _ (jw_wld_some hi)
          exact ⟨r, hr1⟩
        case new idx =>
          have := hlen' 2 rfl; subst this
          have hkd : jw_kdok kd cl res.1 = true := k7
          have hex : ∃ r, cl[res.1]? = some r := by
            unfold jw_kdok at hkd
            split at hkd
            · exact ⟨_, by assumption⟩
            · cases hkd
          obtain ⟨⟨C0, T0, N0⟩, hc0⟩ := hex
          unfold jw_step at hs
          dsimp only at hs
          refine jo_new (lim := (h0.1.length + mc, jw_sz h0.1 + ms)) hx hb hown hts hclT hc0 (fun w hw => hTs w (k5 w ?_)) hkd hdg hK0 hP hD hS hA hfut' hlim' hs (fun a h' H' locs' k n9 hk z1 z2 z3 z4 z5 hP1 hD1 hS1 => ih _ L _ h' H' locs' (cells + k) (slots + n9) ls hk hn hl (by omega) (by omega) (by omega) z4 z5 hP1 hD1 hS1)
          unfold jw_wc jw_wcN
          dsimp only
          rw [hc0]
          exact hw
        case newarray a =>
          have := hlen' 1 rfl; subst this
          obtain ⟨x, r, rfl, hx0, hs⟩ := jw_i1_ok hs
          have ht : (newarray.typeOf a = .int ∧ res.1 = 0) ∨ (newarray.typeOf a = .long ∧ res.1 = 1) := by
            unfold jw_fc jw_fcN at k7
            dsimp only at k7
            split at k7
            · exact Or.inl ⟨by assumption, by simpa using k7⟩
            · exact Or.inr ⟨by assumption, by simpa using k7⟩
            · cases k7
          exact jo_newa hx hb hts (hTs _ (k5 _ (List.mem_singleton.mpr rfl))) ht hdg hK0 hP hD hS hA hfut' hlim' hx0 hs (fun a h' H' locs' k n9 hk z1 z2 z3 z4 z5 hP1 hD1 hS1 => ih _ L _ h' H' locs' (cells + k) (slots + n9) ls hk hn hl (by omega) (by omega) (by omega) z4 z5 hP1 hD1 hS1)
        case anewarray idx =>
          have := hlen' 2 rfl; subst this
          obtain ⟨x, r, rfl, hx0, hs⟩ := jw_i1_ok hs
          have k7 : (res.1 == 2 || res.1 == 3) = true := k7
          simp only [Bool.or_eq_true, beq_iff_eq] at k7
          dsimp only at hs
          rcases k7 with k7 | k7
          · rw [k7] at hs
            exact jo_anew (t := 0) (C0 := "ShadowSchool$Progress") hx hb hown hts (hTs _ (k5 _ (by unfold jw_wc jw_wcN; dsimp only; rw [k7]; exact List.mem_singleton.mpr rfl))) hN.2.1 rfl hdg hK0 hP hD hS hA hfut' hlim' hx0 hs (fun a h' H' locs' k n9 hk z1 z2 z3 z4 z5 hP1 hD1 hS1 => ih _ L _ h' H' locs' (cells + k) (slots + n9) ls hk hn hl (by omega) (by omega) (by omega) z4 z5 hP1 hD1 hS1)
          · rw [k7] at hs
            exact jo_anew (t := 1) (C0 := "ShadowSchool$Shade") hx hb hown hts (hTs _ (k5 _ (by unfold jw_wc jw_wcN; dsimp only; rw [k7]; exact List.mem_singleton.mpr rfl))) hN.2.2.1 rfl hdg hK0 hP hD hS hA hfut' hlim' hx0 hs (fun a h' H' locs' k n9 hk z1 z2 z3 z4 z5 hP1 hD1 hS1 => ih _ L _ h' H' locs' (cells + k) (slots + n9) ls hk hn hl (by omega) (by omega) (by omega) z4 z5 hP1 hD1 hS1)
        case multianewarray idx dim =>
          have := hlen' 3 rfl; subst this
          have k7 : (dim == 2) = true := k7
          have k7 : dim = 2 := by simpa using k7
          subst k7
          unfold jw_step at hs
          dsimp only at hs
          split at hs
          · rename_i k9 n9 r
            exact jo_mna (lim := (h0.1.length + mc, jw_sz h0.1 + ms)) hx hb hown hts (hTs _ (k5 _ (by simp [jw_wc, jw_wcN]))) (hTs _ (k5 _ (by simp [jw_wc, jw_wcN]))) (over_moved (Vm.Alike.refl s.vm) hN.2.2.2) hdg hK0 hP hD hS hA hfut' hlim' hs.1 hs.2.1 hs.2.2 (fun a h' H' locs' k n9 hk z1 z2 z3 z4 z5 hP1 hD1 hS1 => ih _ L _ h' H' locs' (cells + k) (slots + n9) ls hk hn hl (by omega) (by omega) (by omega) z4 z5 hP1 hD1 hS1)
          · exact hs.elim
      · cases ins <;> first | (exact absurd rfl hS1) | (exact absurd rfl hH1) | (exact absurd rfl hC1) | (exact hs.elim) | skip
        case ireturn =>
          have := hlen' 0 rfl; subst this
          unfold jw_step at hs
          dsimp only at hs
          split at hs
          · rename_i x
            have hn1 : ∃ ty, ret = some ty ∧ narrow ty (.int x) = .int x ∧ Q (some (.int x)) h ∧ h.1.length = h0.1.length + mc ∧ jw_sz h.1 = jw_sz h0.1 + ms := by
              unfold jw_ok at hs
              split at hs
              · exact ⟨.int, rfl, rfl, hs⟩
              · exact ⟨.boolean, rfl, by rcases hs.1 with h9 | h9 <;> rw [h9] <;> rfl, hs.2⟩
              · exact hs.elim
            obtain ⟨ty, t1, t2, t3, t4, t5⟩ := hn1
            have e1 : cells = mc := by omega
            have e2 : slots = ms := by omega
            subst e1; subst e2
            exact W.zret hx hb (hr.trans t1) t2 (fun t ht hW => hfin t (some (.int x)) ht t3 t4 t5) hS.2.2 hdg hlocks
          · exact hs.elim
        case lreturn =>
          have := hlen' 0 rfl; subst this
          unfold jw_step at hs
          dsimp only at hs
          split at hs
          · rename_i x
            obtain ⟨t1, t3, t4, t5⟩ := jw_bif hs
            have e1 : cells = mc := by omega
            have e2 : slots = ms := by omega
            subst e1; subst e2
            exact W.lret hx hb (hr.trans (by simpa using t1)) (fun t ht hW => hfin t (some (.long x)) ht t3 t4 t5) hS.2.2 hdg hlocks
          · exact hs.elim
        case areturn =>
          have := hlen' 0 rfl; subst this
          unfold jw_step at hs
          dsimp only at hs
          split at hs
          · rename_i x
            split at hs
            · obtain ⟨t3, t4, t5⟩ := hs
              have e1 : cells = mc := by omega
              have e2 : slots = ms := by omega
              subst e1; subst e2
              exact W.aret hx hb hr (Or.inl ⟨_, rfl⟩) (Or.inr ⟨_, rfl⟩) (fun t ht hW => hfin t (some (.ref x)) ht t3 t4 t5) hS.2.2 hdg hlocks
            · exact hs.elim
          · exact hs.elim
        case return_ =>
          have := hlen' 0 rfl; subst this
          unfold jw_step at hs
          dsimp only at hs
          split at hs
          · obtain ⟨t1, t3, t4, t5⟩ := jw_bif hs
            have e1 : cells = mc := by omega
            have e2 : slots = ms := by omega
            subst e1; subst e2
            exact W.vret hx hb (hr.trans (by simpa using t1)) (fun t ht hW => hfin t none ht t3 t4 t5) hS.2.2 hdg hlocks
          · exact hs.elim
end JWZ
/-! the entry -/
theorem jw_entry_args {α : Nat → Nat} : ∀ (as : List Value) (k : Nat), jw_nod as = true → jw_asc α k (jw_args as) = lv_args k (as.map (jw_ad α)) ∧ (lg_sl (as.map (jw_ad α))).length = (jw_args as).length
  | [], k, _ => ⟨rfl, rfl⟩
  | v :: as, k, h => by
    cases v <;> first | (exact Bool.noConfusion h) | skip
    all_goals (obtain ⟨h1, h2⟩ := jw_entry_args (α := α) as (k + 1) h; obtain ⟨h3, h4⟩ := jw_entry_args (α := α) as (k + 2) h)
    all_goals (refine ⟨?_, ?_⟩)
    all_goals first | (simp [jw_args, jw_asc, lv_args, jw_ad, Value.category, h1, h3]; done) | (simp [jw_args, lg_sl, jw_ad, Value.category] at h2 ⊢; omega)
theorem jw_asc_rep {α : Nat → Nat} : ∀ (n k : Nat), jw_asc α k (List.replicate n none) = []
  | 0, _ => rfl
  | n + 1, k => by rw [List.replicate_succ, jw_asc, jw_asc_rep]
theorem jw_asc_app {α : Nat → Nat} : ∀ (L L' : jw_L) (k : Nat), jw_asc α k (L ++ L') = jw_asc α k L ++ jw_asc α (k + L.length) L'
  | [], L', k => by simp [jw_asc]
  | none :: L, L', k => by simp [jw_asc, jw_asc_app L L' (k + 1)]; congr 1; omega
  | some v :: L, L', k => by simp [jw_asc, jw_asc_app L L' (k + 1)]; congr 1; omega
/-- what must hold of the program's tables -/
def jw_prog (l : Launch) (kd : Nat → List jw_K) (cl : List vw_C) (ys : List jw_Y) (Tg Ns : List Cond) : Prop := (∀ w ∈ Tg, goodWord w = true) ∧ jw_nsok Ns ∧ jw_clok cl Tg ∧ jw_asg cl Ns ∧ jw_strok l Tg ∧ ys.length ≤ 100000 ∧ ∀ y ∈ ys, plainName y.1.cls = true ∧ ∀ q ∈ y.2.2.2.2.2, jw_okI y.1.cls y.1.name kd cl ys Tg Ns y.2.1 q
set_option maxHeartbeats 1000000 in
/-- THE ABSTRACT MACHINE IS THE MACHINE -/
theorem jw_sound {l : Launch} {D : va_G} {cl : List vw_C} {cy : Nat → ClassId} {α : Nat → Nat} {kd : Nat → List jw_K} {ys : List jw_Y} {Tg Ns : List Cond} (hp : jw_prog l kd cl ys Tg Ns) : ∀ (d mid : Nat) (as : List Value) (h : jw_H) (Q : jw_Q), jw_C kd ys d mid as h Q → ∀ y, ys[mid]? = some y → jw_met l D cl cy α Ns Tg d y as h Q := by
  obtain ⟨hgood, hns, hcl, hasg, hstr, hysl, hys⟩ := hp
  intro d
  induction d with
  | zero => intro mid as h Q hC; exact hC.elim
  | succ d ih =>
    intro mid as h Q hC y hy sz hfut
    rw [jw_C, hy] at hC
    dsimp only at hC
    obtain ⟨hc1, n, hwp⟩ := jw_bif hC
    simp only [Bool.and_eq_true, Nat.ble_eq] at hc1
    obtain ⟨hpl, hq⟩ := hys y (List.mem_of_getElem? hy)
    refine Met.ofW (cc := y.2.1) (maxL := y.2.2.1) (ret := y.2.2.2.1) hpl rfl ?_
    intro p e s m args below meth c s₁ B hml hv
    obtain ⟨rfl, hsz, hP, hK, hD0, hX, hN⟩ := hv
    subst hsz
    have hts := atoms_spec (ws := Cond.code y.1 y.2.1 y.2.2.1 y.2.2.2.1 :: Tg) B.pre
    have hown : s.vm.findClass y.1.cls = some m.cls := findClass_of_methodNamed B.named
    have hnm : meth.name = y.1.name := (name_of_methodNamed B.named B.method).1
    obtain ⟨ea, el⟩ := jw_entry_args (α := α) as 0 hc1.2
    have hl := lv_entry (as.map (jw_ad α)) (n := y.2.2.1) (by rw [el]; exact hc1.1)
    rw [lg_entry_eq]
    have hl2 : lv_has ((lg_sl (as.map (jw_ad α)) ++ List.replicate (y.2.2.1 - (lg_sl (as.map (jw_ad α))).length) Slot.unset).toArray) y.2.2.1 (jw_asc α 0 (jw_entry as y.2.2.1)) := by
      unfold jw_entry
      rw [jw_asc_app, jw_asc_rep, List.append_nil, ea]
      exact hl
    have := jw_sound_wp (e := e) (R := (headSpec (Cond.code y.1 y.2.1 y.2.2.1 y.2.2.2.1 :: Tg) (jw_rm (d + 1) y.2.2.2.2.1.1 y.2.2.2.2.1.2)).room) (Ts := Cond.code y.1 y.2.1 y.2.2.1 y.2.2.2.1 :: Tg) (cs := y.2.2.2.2.2) (d := d) (mc := y.2.2.2.2.1.1) (ms := y.2.2.2.2.1.2) (Q := Q) (h0 := h) (below := below) (args := ((as.map (jw_ad α)).toArray)) B.exec B.bytes hml B.returns B.notSynchronized hown hnm hts (fun w hw => List.mem_cons_of_mem _ hw) hgood hns hcl hasg hstr hysl hq (Nat.le_refl _) (by show 200 * d + 200 ≤ 200 * (d + 1); omega) rfl rfl hK hX hN (fun q hq => Or.inr hq) rfl hfut (fun mid as h Q hC y hy => ih mid as h Q hC y hy) n 0 (jw_entry as y.2.2.1) [] h s.heap [] 0 0 _ hwp (by unfold jw_entry; simp; omega) hl2 (by omega) (by omega) (by omega) (by omega) (by omega) hP hD0.self va_S.rf
    exact this

