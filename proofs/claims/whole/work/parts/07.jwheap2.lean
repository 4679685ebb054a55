/-! ===== the heap's instructions of the abstract machine ===== -/
/-- the type that a field's kind stands for -/
def jw_fty (code : Nat) (ty : FieldType) : Bool := match code, ty with
  | 0, .int => true
  | 1, .long => true
  | 2, .boolean => true
  | 3, .object _ => true
  | 3, .array _ => true
  | _, _ => false
/-- words of the tables that an instruction needs (calls apart) -/
def jw_wd (own : String) (cl : List vw_C) (q : jw_I) : List Cond := match q.2.1 with
  | .getfield idx | .putfield idx => (match cl[q.2.2.2.1]? with
    | some (_, T, _) => [.fieldLink own idx (T q.2.2.2.2.1).1 (T q.2.2.2.2.1).2.1 (T q.2.2.2.2.1).2.2.1]
    | none => [])
  | .ldc idx => (match q.2.2.2.2.2 with
    | [(v, _)] => bif q.2.2.2.1 == 0 then [.constant own idx (Int32.ofInt v)] else []
    | _ => [])
  | .ldc_w idx => (match q.2.2.2.2.2 with
    | [(v, _)] => [.constant own idx (Int32.ofInt v)]
    | _ => [])
  | .ldc2_w idx => (match q.2.2.2.2.2 with
    | [(v, _)] => [.constantLong own idx (Int64.ofInt v)]
    | _ => [])
  | .getstatic idx => [.fieldLink own idx "ShadowSchool" "SELF_AND_ABOVE" "[I"]
  | _ => []
/-- what else must be so of it -/
def jw_wf (own nm : String) (cl : List vw_C) (q : jw_I) : Bool := match q.2.1 with
  | .getfield _ => (match cl[q.2.2.2.1]? with
    | some (_, _, N) => Nat.blt q.2.2.2.2.1 N
    | none => false)
  | .putfield _ => (match cl[q.2.2.2.1]?, q.2.2.2.2.2 with
    | some (_, T, N), [(_, code)] => Nat.blt q.2.2.2.2.1 N && ((match parseFieldDescriptor (T q.2.2.2.2.1).2.2.1 with | some ty => jw_fty code ty | none => false) && (!(T q.2.2.2.2.1).2.2.2 || (nm == "<init>" && (T q.2.2.2.2.1).1 == own)))
    | _, _ => false)
  | .ldc idx => q.2.2.2.1 == 0 || (own == "ShadowSchool$Reader" && idx == 63)
  | _ => true
/-- the classes' tables -/
def jw_clok (cl : List vw_C) (Ts : List Cond) : Prop := ∀ (ci : Nat) (C : String) (T : u_T) (N : Nat), cl[ci]? = some (C, T, N) → (∀ w ∈ u_ws C T N, w ∈ Ts) ∧ (∃ ty0 : Nat → FieldType, ∀ k, k < N → parseFieldDescriptor (T k).2.2.1 = some (ty0 k)) ∧ ∀ a, a < N → ∀ b, b < N → a ≠ b → (T a).2.1 ≠ (T b).2.1
def jw_isH : Instr → Bool
  | .getfield _ | .putfield _ | .ldc _ | .ldc_w _ | .ldc2_w _ | .getstatic _ | .iaload | .laload | .aaload | .iastore | .lastore | .arraylength => true
  | _ => false
def jw_tx : String := "shadow joined gifted coloured slow borrowed last easy play if or and not hour learnt quick tall number "
/-- the String constant: its object, its bytes, the statics that its methods read -/
def jw_XS (α : Nat → Nat) (A : Nat → Prop) (U : State) (H : Heap) : Prop := vk_R "ShadowSchool$Reader" 63 jw_tx (α jw_str) U ∧ va_O "java/lang/String" (α jw_str) A U H ∧ va_OF "java/lang/String" "coder" "B" (.int 0) (α jw_str) A U H ∧ va_OF "java/lang/String" "value" "[B" (.ref (α (jw_str + 2))) (α jw_str) A U H ∧ va_T .byte (α (jw_str + 2)) 103 (fun j => .int (jw_txt.getD j 0)) A U H ∧ va_Z "java/lang/String" "COMPACT_STRINGS" "Z" (.int 1) A U H ∧ va_Zq "jdk/internal/util/Preconditions" "SIOOBE_FORMATTER" "Ljava/util/function/BiFunction;" A U H
/-- what the world's outside holds: the static row, the String constant -/
def jw_X (α : Nat → Nat) (A : Nat → Prop) (U : State) (H : Heap) : Prop := jw_XS α A U H ∧ va_Z "ShadowSchool" "SELF_AND_ABOVE" "[I" (.ref (α jw_self)) A U H ∧ va_T .int (α jw_self) 6 (fun j => .int (jw_tab.getD j 0)) A U H
theorem jw_sz_set {a b : jw_S} : ∀ {l : List jw_S} {i : Nat}, l[i]? = some a → jw_ssz b = jw_ssz a → jw_sz (l.set i b) = jw_sz l
  | [], i, h, _ => by simp at h
  | x :: l, 0, h, e => by
    simp at h
    subst h
    simp [jw_sz, e]
  | x :: l, i + 1, h, e => by
    simp at h
    simp [jw_sz, jw_sz_set (l := l) (i := i) h e]
theorem jw_tys_get (cy : Nat → ClassId) {t : Nat} (h : t < 5) : ∃ ty, (jw_tys cy)[t]? = some (cy t, ty) ∧ (2 ≤ t → ty.isReference = true) := by
  match t, h with
  | 0, _ => exact ⟨_, rfl, fun q => by omega⟩
  | 1, _ => exact ⟨_, rfl, fun q => by omega⟩
  | 2, _ => exact ⟨_, rfl, fun _ => rfl⟩
  | 3, _ => exact ⟨_, rfl, fun _ => rfl⟩
  | 4, _ => exact ⟨_, rfl, fun _ => rfl⟩
section JWH2
variable {p : Program} {l : Launch} {e : Env} {R : Room} {s : State} {m : MethodId} {args : Array Value} {below : List Frame} {meth : Method} {c : Code} {H : Heap} {locs : List Loc} {cells slots : Nat} {Qf : State → Prop}
variable {cc : ByteArray} {ls : Array Slot} {kd : Nat → List jw_K} {C : Nat → List Value → jw_H → jw_Q → Prop} {bud : Nat → Nat × Nat} {lim : Nat × Nat} {ret : Option FieldType} {L : jw_L} {st : List Value} {h : jw_H} {Q : jw_Q} {K : Nat → jw_L → List Value → jw_H → Prop} {α : Nat → Nat} {nL : Nat}
variable {D : va_G} {cl : List vw_C} {A : Nat → Prop} {cy : Nat → ClassId} {own nm : String} {Ts : List Cond}
theorem jw_get_ok {ci k i : Nat} {f : Value → Prop} (hs : jw_get h ci k i f) : ∃ ks kd0, h.1[i]? = some (.inl (ci, ks)) ∧ ks[k]? = some kd0 ∧ ∀ α : Nat → Nat, ∃ v, f v ∧ jw_ad α v = jw_fld α h.2 i k kd0 := by
  unfold jw_get at hs
  split at hs
  · rename_i cj ks hsh
    obtain ⟨h1, h2⟩ := jw_bif hs
    have h1 : cj = ci := by simpa using h1
    subst h1
    split at h2
    · rename_i hk
      exact ⟨ks, _, hsh, hk, fun α => ⟨_, h2, rfl⟩⟩
    · rename_i n hn1 hk
      refine ⟨ks, _, hsh, hk, fun α => ⟨_, h2, ?_⟩⟩
      unfold jw_fld
      split
      · rename_i h9
        cases h9
        exact absurd rfl hn1
      · rfl
      · rename_i h9
        cases h9
    · rename_i o hk
      exact ⟨ks, _, hsh, hk, fun α => ⟨_, h2, jw_ad_rf α o⟩⟩
    · exact h2.elim
  · exact hs.elim
set_option maxHeartbeats 4000000 in
set_option maxRecDepth 100000 in
theorem jo_heap {pc len : Nat} {ins : Instr} {res : jw_R} (hS0 : jw_isH ins = true) (hx : p.tables.exec = Jvm.exec) (hb : c.code = cc) (hd : jw_okd cc (pc, ins, len, res)) (hw : ∀ w ∈ jw_wd own cl (pc, ins, len, res), w ∈ Ts) (hwf : jw_wf own nm cl (pc, ins, len, res) = true) (hts : ∀ w ∈ Ts, w.before args s = true) (hcl : jw_clok cl Ts) (hown : s.vm.findClass own = some m.cls) (hnm : meth.name = nm)
    (hK0 : va_K D cl (jw_tys cy) s) (hP : va_P D cl (jw_wld cy α h) H) (hD : va_D A (jw_wld cy α h)) (hS : va_S A s.heap H locs) (hX : jw_X α A s s.heap)
    (hs : jw_step kd C bud lim ret (pc, ins, len, res) L st h Q K)
    (hK : ∀ (pc' : Nat) (st' : List Value) (h' : jw_H) (H' : Heap) (locs' : List Loc), K pc' L st' h' → H'.size = H.size → h'.1.length = h.1.length → jw_sz h'.1 = jw_sz h.1 → va_P D cl (jw_wld cy α h') H' → va_D A (jw_wld cy α h') → va_S A s.heap H' locs' → W p l e R s m args below meth c H' locs' cells slots Qf (F0 m pc' ls (st'.map (jw_ad α)))) :
    W p l e R s m args below meth c H locs cells slots Qf (F0 m pc ls (st.map (jw_ad α))) := by
  obtain ⟨hdg, hlen, hst⟩ := hd
  dsimp only at hdg hlen
  have hlen' : ∀ k, jw_len ins = k + 1 → len = k + 1 := fun k hk => by
    rcases hlen with h0 | h0
    · omega
    · omega
  have hK1 : ∀ (pc' : Nat) (st' : List Value), K pc' L st' h → W p l e R s m args below meth c H locs cells slots Qf (F0 m pc' ls (st'.map (jw_ad α))) := fun pc' st' hk => hK pc' st' h H locs hk rfl rfl rfl hP hD hS
  cases ins <;> first | (exact Bool.noConfusion hS0) | skip
  case getfield idx =>
    have := hlen' 2 rfl; subst this
    obtain ⟨i, r, rfl, h2⟩ := jw_r1_ok hs
    obtain ⟨ks, kd0, g1, g2, g3⟩ := jw_get_ok h2
    obtain ⟨v, g4, g5⟩ := g3 α
    unfold jw_wf at hwf
    dsimp only at hwf
    split at hwf
    · rename_i C0 T0 N0 hcl0
      have hkN : res.2.1 < N0 := by simpa [Nat.blt_eq] using hwf
      refine va_get hx hb hts (hcl _ _ _ _ hcl0).1 hown hK0 hP i (jw_wld_some g1) hcl0 res.2.1 hkN (hts _ (hw _ ?_)) (fun _ h => h) (v := jw_ad α v) ?_ hdg (hK1 _ _ g4)
      · unfold jw_wd
        dsimp only
        rw [hcl0]
        exact List.mem_singleton.mpr rfl
      · rw [g5, List.getElem?_mapIdx, g2]
        rfl
    · cases hwf
  case putfield idx =>
    have := hlen' 2 rfl; subst this
    unfold jw_wf at hwf
    dsimp only at hwf
    split at hwf
    · rename_i C0 T0 N0 v0 code hcl0 hres
      simp only [Bool.and_eq_true] at hwf
      obtain ⟨w1, w2, w3⟩ := hwf
      have hkN : res.2.1 < N0 := by simpa [Nat.blt_eq] using w1
      obtain ⟨c1, ⟨ty0, c2⟩, c3⟩ := hcl _ _ _ _ hcl0
      have hlink := hts _ (hw (.fieldLink own idx (T0 res.2.1).1 (T0 res.2.1).2.1 (T0 res.2.1).2.2.1) (by
        unfold jw_wd
        dsimp only
        rw [hcl0]
        exact List.mem_singleton.mpr rfl))
      have hfin : (T0 res.2.1).2.2.2 = false ∨ (meth.name = "<init>" ∧ (T0 res.2.1).1 = own) := by
        simp only [Bool.or_eq_true, Bool.not_eq_true', Bool.and_eq_true, beq_iff_eq] at w3
        rcases w3 with w3 | w3
        · exact Or.inl w3
        · exact Or.inr ⟨hnm.trans w3.1, w3.2⟩
      have hty : ∃ ty, parseFieldDescriptor (T0 res.2.1).2.2.1 = some ty ∧ jw_fty code ty = true := by
        split at w2
        · exact ⟨_, by assumption, w2⟩
        · cases w2
      obtain ⟨ty, hp1, hp2⟩ := hty
      replace hs : jw_put h res.1 res.2.1 res.2.2 st fun r h => K (pc + 3) L r h := hs
      rw [hres] at hs
      unfold jw_put at hs
      split at hs
      · rename_i x i r q0
        cases q0
        split at hs
        · rename_i cj ks hsh
          obtain ⟨h1, h2⟩ := jw_bif hs
          have h1 : cj = res.1 := by simpa using h1
          subst h1
          split at h2
          · rename_i hk
            have e1 : ty = .int := by cases ty <;> first | rfl | exact Bool.noConfusion hp2
            subst e1
            refine jo_put hx hb hts c1 ty0 c2 c3 hown hK0 hP hD hS (jw_wld_some hsh) hcl0 hkN hlink hfin hp1 (v := .int x) rfl rfl (by rw [List.length_mapIdx]; exact (List.getElem?_eq_some_iff.mp hk).1) hdg (fun H1 locs1 z hP1 hD1 hS1 => ?_)
            have e2 : jw_wld cy α (h.1, jw_up h.2.1 i res.2.1 x, h.2.2) = (jw_wld cy α h).set i (α i, .inr (res.1, (ks.mapIdx (jw_fld α h.2 i)).set res.2.1 (.int x))) := by
              rw [jw_wld_keep (h := h) (h' := (h.1, jw_up h.2.1 i res.2.1 x, h.2.2)) hsh rfl (fun j hj => jw_up_ne hj) (fun _ _ => rfl)]
              congr 3
              show Sum.inr (res.1, ks.mapIdx _) = Sum.inr (res.1, _)
              rw [← jw_flds_up (M := h.2) (M' := (jw_up h.2.1 i res.2.1 x, h.2.2)) (kd' := .inl 0) hk (by show Value.int (jw_up _ _ _ _ _ _) = _; rw [jw_up_eq, va_up, if_pos rfl]) (fun j hj => ⟨by show jw_up _ _ _ _ _ _ = _; rw [jw_up_eq, va_up, if_neg hj], rfl⟩), jw_list_set hk]
            rw [← e2] at hP1 hD1
            exact hK _ _ _ _ _ h2 z rfl rfl hP1 hD1 hS1
          · exact h2.elim
        · exact hs.elim
      · rename_i x i r q0
        cases q0
        split at hs
        · rename_i cj ks hsh
          obtain ⟨h1, h2⟩ := jw_bif hs
          have h1 : cj = res.1 := by simpa using h1
          subst h1
          split at h2
          · rename_i hk
            obtain ⟨hx01, h2⟩ := h2
            have e1 : ty = .boolean := by cases ty <;> first | rfl | exact Bool.noConfusion hp2
            subst e1
            refine jo_put hx hb hts c1 ty0 c2 c3 hown hK0 hP hD hS (jw_wld_some hsh) hcl0 hkN hlink hfin hp1 (v := .int x) (by rcases hx01 with rfl | rfl <;> rfl) (by rcases hx01 with rfl | rfl <;> rfl) (by rw [List.length_mapIdx]; exact (List.getElem?_eq_some_iff.mp hk).1) hdg (fun H1 locs1 z hP1 hD1 hS1 => ?_)
            have e2 : jw_wld cy α (h.1, jw_up h.2.1 i res.2.1 x, h.2.2) = (jw_wld cy α h).set i (α i, .inr (res.1, (ks.mapIdx (jw_fld α h.2 i)).set res.2.1 (.int x))) := by
              rw [jw_wld_keep (h := h) (h' := (h.1, jw_up h.2.1 i res.2.1 x, h.2.2)) hsh rfl (fun j hj => jw_up_ne hj) (fun _ _ => rfl)]
              congr 3
              show Sum.inr (res.1, ks.mapIdx _) = Sum.inr (res.1, _)
              rw [← jw_flds_up (M := h.2) (M' := (jw_up h.2.1 i res.2.1 x, h.2.2)) (kd' := .inl 2) hk (by show Value.int (jw_up _ _ _ _ _ _) = _; rw [jw_up_eq, va_up, if_pos rfl]) (fun j hj => ⟨by show jw_up _ _ _ _ _ _ = _; rw [jw_up_eq, va_up, if_neg hj], rfl⟩), jw_list_set hk]
            rw [← e2] at hP1 hD1
            exact hK _ _ _ _ _ h2 z rfl rfl hP1 hD1 hS1
          · exact h2.elim
        · exact hs.elim
      · rename_i x i r q0
        cases q0
        split at hs
        · rename_i cj ks hsh
          obtain ⟨h1, h2⟩ := jw_bif hs
          have h1 : cj = res.1 := by simpa using h1
          subst h1
          split at h2
          · rename_i hk
            have e1 : ty = .long := by cases ty <;> first | rfl | exact Bool.noConfusion hp2
            subst e1
            refine jo_put hx hb hts c1 ty0 c2 c3 hown hK0 hP hD hS (jw_wld_some hsh) hcl0 hkN hlink hfin hp1 (v := .long x) rfl rfl (by rw [List.length_mapIdx]; exact (List.getElem?_eq_some_iff.mp hk).1) hdg (fun H1 locs1 z hP1 hD1 hS1 => ?_)
            have e2 : jw_wld cy α (h.1, h.2.1, jw_up h.2.2 i res.2.1 x) = (jw_wld cy α h).set i (α i, .inr (res.1, (ks.mapIdx (jw_fld α h.2 i)).set res.2.1 (.long x))) := by
              rw [jw_wld_keep (h := h) (h' := (h.1, h.2.1, jw_up h.2.2 i res.2.1 x)) hsh rfl (fun _ _ => rfl) (fun j hj => jw_up_ne hj)]
              congr 3
              show Sum.inr (res.1, ks.mapIdx _) = Sum.inr (res.1, _)
              rw [← jw_flds_up (M := h.2) (M' := (h.2.1, jw_up h.2.2 i res.2.1 x)) (kd' := .inl 1) hk (by show Value.long (jw_up _ _ _ _ _ _) = _; rw [jw_up_eq, va_up, if_pos rfl]) (fun j hj => ⟨rfl, by show jw_up _ _ _ _ _ _ = _; rw [jw_up_eq, va_up, if_neg hj]⟩), jw_list_set hk]
            rw [← e2] at hP1 hD1
            exact hK _ _ _ _ _ h2 z rfl rfl hP1 hD1 hS1
          · exact h2.elim
        · exact hs.elim
      · rename_i j i r q0
        cases q0
        split at hs
        · rename_i cj ks hsh
          obtain ⟨h1, h2⟩ := jw_bif hs
          have h1 : cj = res.1 := by simpa using h1
          subst h1
          split at h2
          · rename_i o hk
            have e1 : (∃ n, ty = .object n) ∨ ∃ t, ty = .array t := by cases ty <;> first | exact Or.inl ⟨_, rfl⟩ | exact Or.inr ⟨_, rfl⟩ | exact Bool.noConfusion hp2
            refine jo_put hx hb hts c1 ty0 c2 c3 hown hK0 hP hD hS (jw_wld_some hsh) hcl0 hkN hlink hfin hp1 (v := .ref (α j)) (by rcases e1 with ⟨n, rfl⟩ | ⟨t, rfl⟩ <;> rfl) (by rcases e1 with ⟨n, rfl⟩ | ⟨t, rfl⟩ <;> rfl) (by rw [List.length_mapIdx]; exact (List.getElem?_eq_some_iff.mp hk).1) hdg (fun H1 locs1 z hP1 hD1 hS1 => ?_)
            have e2 : jw_wld cy α (h.1.set i (.inl (res.1, ks.set res.2.1 (.inr (some j)))), h.2) = (jw_wld cy α h).set i (α i, .inr (res.1, (ks.mapIdx (jw_fld α h.2 i)).set res.2.1 (.ref (α j)))) := by
              rw [jw_wld_set (h := h) (h' := (h.1.set i (.inl (res.1, ks.set res.2.1 (.inr (some j)))), h.2)) hsh rfl (fun _ _ => rfl) (fun _ _ => rfl)]
              congr 3
              show Sum.inr (res.1, (ks.set _ _).mapIdx _) = Sum.inr (res.1, _)
              rw [jw_flds_up (M := h.2) (M' := h.2) (kd' := .inr (some j)) (v := .ref (α j)) hk rfl (fun _ _ => ⟨rfl, rfl⟩)]
            rw [← e2] at hP1 hD1
            exact hK _ _ _ _ _ h2 z (by simp) (jw_sz_set hsh (by simp [jw_ssz])) hP1 hD1 hS1
          · exact h2.elim
        · exact hs.elim
      · exact hs.elim
    · cases hwf
  case ldc idx =>
    have := hlen' 1 rfl; subst this
    unfold jw_step at hs
    dsimp only at hs
    split at hs
    · rename_i v z hv
      cases hk0 : (res.1 == 0) with
      | true =>
        rw [hk0] at hs
        refine lv_ldc hx hb hown (hts _ (hw (.constant own idx (Int32.ofInt v)) ?_)) hdg (hK1 _ _ hs)
        unfold jw_wd
        dsimp only
        rw [hv]
        dsimp only
        rw [hk0]
        exact List.mem_singleton.mpr rfl
      | false =>
        rw [hk0] at hs
        unfold jw_wf at hwf
        dsimp only at hwf
        rw [hk0, Bool.false_or] at hwf
        simp only [Bool.and_eq_true, beq_iff_eq] at hwf
        obtain ⟨rfl, rfl⟩ := hwf
        exact va_ldcS hx hb hown hX.1.1 hdg (hK1 _ _ hs)
    · exact hs.elim
  case ldc_w idx =>
    have := hlen' 2 rfl; subst this
    unfold jw_step at hs
    dsimp only at hs
    split at hs
    · rename_i v z hv
      refine lv_ldcw hx hb hown (hts _ (hw (.constant own idx (Int32.ofInt v)) ?_)) hdg (hK1 _ _ hs)
      unfold jw_wd
      dsimp only
      rw [hv]
      exact List.mem_singleton.mpr rfl
    · exact hs.elim
  case ldc2_w idx =>
    have := hlen' 2 rfl; subst this
    unfold jw_step at hs
    dsimp only at hs
    split at hs
    · rename_i v z hv
      refine lv_ldc2 hx hb hown (hts _ (hw (.constantLong own idx (Int64.ofInt v)) ?_)) hdg (hK1 _ _ hs)
      unfold jw_wd
      dsimp only
      rw [hv]
      exact List.mem_singleton.mpr rfl
    · exact hs.elim
  case getstatic idx =>
    have := hlen' 2 rfl; subst this
    exact va_gets hx hb hX.2.1 hS hown (hts _ (hw (.fieldLink own idx "ShadowSchool" "SELF_AND_ABOVE" "[I") (List.mem_singleton.mpr rfl))) (fun _ h => h) hdg (hK1 _ _ hs)
  case iaload =>
    have := hlen' 0 rfl; subst this
    obtain ⟨i, a, r, rfl, h2⟩ := jw_ix_ok hs
    unfold jw_iald at h2
    split at h2
    · rename_i n rs hsh
      exact va_iald hx hb hK0 hP a 0 (jw_wld_some hsh) rfl h2.1 hdg (hK1 _ _ h2.2)
    · exact h2.elim
    · obtain ⟨rfl, h3, h4⟩ := h2
      exact va_ti hx hb hX.2.2 hS h3 rfl hdg (hK1 _ _ h4)
  case laload =>
    have := hlen' 0 rfl; subst this
    obtain ⟨i, a, r, rfl, h2⟩ := jw_ix_ok hs
    unfold jw_lald at h2
    split at h2
    · rename_i n rs hsh
      exact va_lald hx hb hK0 hP a 1 (jw_wld_some hsh) rfl h2.1 hdg (hK1 _ _ h2.2)
    · exact h2.elim
  case aaload =>
    have := hlen' 0 rfl; subst this
    obtain ⟨i, a, r, rfl, h2⟩ := jw_ix_ok hs
    unfold jw_aald at h2
    split at h2
    · rename_i t n rs hsh
      obtain ⟨h3, h4, h5⟩ := jw_bif h2
      have h3 : t < 3 := by simpa [Nat.blt_eq] using h3
      obtain ⟨ty, t1, t2⟩ := jw_tys_get cy (t := t + 2) (by omega)
      refine jo_aald hx hb hK0 hP (jw_wld_some hsh) t1 (t2 (by omega)) h4 hdg ?_
      have := hK1 _ _ h5
      rw [List.map_cons, jw_ad_rf] at this
      exact this
    · exact h2.elim
  case iastore =>
    have := hlen' 0 rfl; subst this
    replace hs : jw_iast h st fun r h => K (pc + 1) L r h := hs
    unfold jw_iast at hs
    split at hs
    · rename_i x i a r
      split at hs
      · rename_i n rs hsh
        refine jo_iast hx hb hK0 hP hD hS (t0 := 0) (jw_wld_some hsh) rfl hs.1 hdg (fun H1 locs1 z hP1 hD1 hS1 => ?_)
        have e2 : jw_wld cy α (h.1, jw_up h.2.1 a i.toNatClampNeg x, h.2.2) = (jw_wld cy α h).set a (α a, .inl (cy 0, n, .inl (va_up (h.2.1 a) i.toNatClampNeg x))) := by
          rw [jw_wld_keep (h := h) (h' := (h.1, jw_up h.2.1 a i.toNatClampNeg x, h.2.2)) hsh rfl (fun j hj => jw_up_ne hj) (fun _ _ => rfl)]
          congr 3
          show Sum.inl (cy 0, n, Sum.inl (jw_up _ _ _ _ _)) = _
          rw [jw_up_eq]
        rw [← e2] at hP1 hD1
        exact hK _ _ _ _ _ hs.2 z rfl rfl hP1 hD1 hS1
      · exact hs.elim
    · exact hs.elim
  case lastore =>
    have := hlen' 0 rfl; subst this
    replace hs : jw_last h st fun r h => K (pc + 1) L r h := hs
    unfold jw_last at hs
    split at hs
    · rename_i x i a r
      split at hs
      · rename_i n rs hsh
        refine jo_last hx hb hK0 hP hD hS (t0 := 1) (jw_wld_some hsh) rfl hs.1 hdg (fun H1 locs1 z hP1 hD1 hS1 => ?_)
        have e2 : jw_wld cy α (h.1, h.2.1, jw_up h.2.2 a i.toNatClampNeg x) = (jw_wld cy α h).set a (α a, .inl (cy 1, n, .inr (.inl (va_up (h.2.2 a) i.toNatClampNeg x)))) := by
          rw [jw_wld_keep (h := h) (h' := (h.1, h.2.1, jw_up h.2.2 a i.toNatClampNeg x)) hsh rfl (fun _ _ => rfl) (fun j hj => jw_up_ne hj)]
          congr 3
          show Sum.inl (cy 1, n, Sum.inr (Sum.inl (jw_up _ _ _ _ _))) = _
          rw [jw_up_eq]
        rw [← e2] at hP1 hD1
        exact hK _ _ _ _ _ hs.2 z rfl rfl hP1 hD1 hS1
      · exact hs.elim
    · exact hs.elim
  case arraylength =>
    have := hlen' 0 rfl; subst this
    obtain ⟨a, r, rfl, h2⟩ := jw_r1_ok hs
    unfold jw_alen at h2
    split at h2
    · rename_i t n rs hsh
      obtain ⟨h3, h4⟩ := jw_bif h2
      have h3 : t < 5 := by simpa [Nat.blt_eq] using h3
      obtain ⟨ty, t1, -⟩ := jw_tys_get cy h3
      have hg := jw_wld_some (cy := cy) (α := α) hsh
      match t, t1, hg with
      | 0, t1, hg => exact va_alen hx hb hK0 hP a 0 hg t1 rfl hdg (hK1 _ _ h4)
      | 1, t1, hg => exact va_alen hx hb hK0 hP a 1 hg t1 rfl hdg (hK1 _ _ h4)
      | t + 2, t1, hg => exact va_alen hx hb hK0 hP a (t + 2) hg t1 rfl hdg (hK1 _ _ h4)
    · exact h2.elim
end JWH2
