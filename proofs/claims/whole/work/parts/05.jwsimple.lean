/-! ===== one instruction of the abstract machine is one of the machine: stack, locals, branches ===== -/
/-- an instruction's length, where it is fixed -/
def jw_len : Instr → Nat
  | .bipush _ | .ldc _ | .iload _ | .lload _ | .aload _ | .istore _ | .lstore _ | .astore _ | .newarray _ => 2
  | .sipush _ | .ldc_w _ | .ldc2_w _ | .iinc _ _ | .goto _ | .ifCond _ _ | .if_icmp _ _ | .getfield _ | .putfield _ | .getstatic _ | .new _ | .anewarray _ | .invokevirtual _ | .invokespecial _ | .invokestatic _ => 3
  | .tableswitch _ _ _ _ | .lookupswitch _ _ => 0
  | .multianewarray _ _ => 4
  | _ => 1
/-- what a branch's offsets and a switch's tables must say -/
def jw_stat (q : jw_I) : Bool := match q.2.1 with
  | .goto off | .ifCond _ off | .if_icmp _ off => decide ((q.1 : Int) + off = (q.2.2.2.1 : Int))
  | .tableswitch d lo hi offs => decide ((q.1 : Int) + d = (q.2.2.2.1 : Int)) && (decide (q.2.2.2.2.2.map (fun z => ((z.2 : Int) - (q.1 : Int))) = offs.toList) && (decide (q.2.2.2.2.2.map (fun z => z.1) = (List.range q.2.2.2.2.2.length).map (fun (i : Nat) => lo + (i : Int))) && (decide (hi + 1 = lo + (q.2.2.2.2.2.length : Int)) && (decide (-2147483648 ≤ lo) && decide (hi < 2147483648)))))
  | .lookupswitch d ps => decide ((q.1 : Int) + d = (q.2.2.2.1 : Int)) && (decide (q.2.2.2.2.2.map (fun z => (z.1, (z.2 : Int) - (q.1 : Int))) = ps.toList) && (((ps.toList.zip (ps.toList.drop 1)).all (fun (a, next) => a.1 < next.1)) && q.2.2.2.2.2.all (fun z => decide (-2147483648 ≤ z.1) && decide (z.1 < 2147483648))))
  | _ => true
def jw_okd (cc : ByteArray) (q : jw_I) : Prop := decode cc q.1 = .ok (q.2.1, q.2.2.1) ∧ (jw_len q.2.1 = 0 ∨ q.2.2.1 = jw_len q.2.1) ∧ jw_stat q = true
theorem jw_ofInt {k : Int} (h1 : -2147483648 ≤ k) (h2 : k < 2147483648) : (Int32.ofInt k).toInt = k := Int32.toInt_ofInt_of_le h1 (by omega)
theorem jw_sw_in {x : Int32} {d : Nat} {K : Nat → Prop} : ∀ {l : List (Int × Nat)}, jw_swt x l d K → ∀ {i : Nat} {k : Int} {t : Nat}, l[i]? = some (k, t) → x = Int32.ofInt k → (∀ j, j < i → ∀ z, l[j]? = some z → ¬ x = Int32.ofInt z.1) → K t
  | [], _, i, k, t, h, _, _ => by simp at h
  | (k0, t0) :: l, hs, i, k, t, h, hx, hj => by
    cases i with
    | zero =>
      simp at h
      obtain ⟨rfl, rfl⟩ := h
      exact hs.1 hx
    | succ i =>
      have h0 : ¬ x = Int32.ofInt k0 := hj 0 (by omega) (k0, t0) rfl
      exact jw_sw_in (hs.2 h0) (by simpa using h) hx (fun j hj1 z hz => hj (j + 1) (by omega) z (by simpa using hz))
theorem jw_sw_out {x : Int32} {d : Nat} {K : Nat → Prop} : ∀ {l : List (Int × Nat)}, jw_swt x l d K → (∀ z ∈ l, ¬ x = Int32.ofInt z.1) → K d
  | [], hs, _ => hs
  | (k0, t0) :: l, hs, h => jw_sw_out (hs.2 (h (k0, t0) List.mem_cons_self)) (fun z hz => h z (List.mem_cons_of_mem _ hz))
theorem jw_lsw {x : Int} {d : Int} : ∀ {l : List (Int × Int)}, (Op.lookupswitch.offset l d x = d ∧ ∀ z ∈ l, ¬ x = z.1) ∨ ∃ (i : Nat) (z : Int × Int), l[i]? = some z ∧ x = z.1 ∧ Op.lookupswitch.offset l d x = z.2 ∧ ∀ (j : Nat), j < i → ∀ (y : Int × Int), l[j]? = some y → ¬ x = y.1
  | [] => Or.inl ⟨rfl, by simp⟩
  | (k, o) :: l => by
    by_cases e : k = x
    · right
      exact ⟨0, (k, o), rfl, e.symm, by simp [Op.lookupswitch.offset, e], fun j hj => by omega⟩
    · have e2 : ¬ x = k := fun q => e q.symm
      rcases jw_lsw (x := x) (d := d) (l := l) with ⟨h1, h2⟩ | ⟨i, z, h1, h2, h3, h4⟩
      · left
        refine ⟨by simp [Op.lookupswitch.offset, e, e2] at h1 ⊢; exact h1, fun z hz => ?_⟩
        rcases List.mem_cons.mp hz with rfl | hz
        · exact e2
        · exact h2 z hz
      · right
        refine ⟨i + 1, z, by simpa using h1, h2, by simp [Op.lookupswitch.offset, e, e2] at h3 ⊢; exact h3, fun j hj y hy => ?_⟩
        cases j with
        | zero => simp at hy; rw [← hy]; exact e2
        | succ j => exact h4 j (by omega) y (by simpa using hy)
section JWS
variable {p : Program} {l : Launch} {e : Env} {R : Room} {s : State} {m : MethodId} {args : Array Value} {below : List Frame} {meth : Method} {c : Code} {H : Heap} {locs : List Loc} {cells slots : Nat} {Qf : State → Prop}
variable {cc : ByteArray} {ls : Array Slot} {kd : Nat → List jw_K} {C : Nat → List Value → jw_H → jw_Q → Prop} {bud : Nat → Nat × Nat} {lim : Nat × Nat} {ret : Option FieldType} {L : jw_L} {st : List Value} {h : jw_H} {Q : jw_Q} {K : Nat → jw_L → List Value → jw_H → Prop} {α : Nat → Nat} {nL : Nat}
/-- the instructions that touch neither heap nor tables -/
def jw_isS : Instr → Bool
  | .iconst _ | .bipush _ | .sipush _ | .lconst _ | .iload_n _ | .iload _ | .lload_n _ | .lload _ | .aload_n _ | .aload _ | .istore_n _ | .istore _ | .lstore_n _ | .lstore _ | .astore_n _ | .astore _ | .iinc _ _ => true
  | .iadd | .isub | .imul | .iand | .ior | .ixor | .idiv | .irem | .ishl | .ishr | .iushr | .ladd | .lsub | .lmul | .land | .lor | .lshl | .lshr | .lcmp | .i2l | .l2i | .i2b | .i2s | .dup | .dup_x1 | .dup2 | .pop | .ineg => true
  | .goto _ | .ifCond _ _ | .if_icmp _ _ | .tableswitch _ _ _ _ | .lookupswitch _ _ => true
  | _ => false
theorem jw_bif {b : Bool} {P : Prop} (h : bif b then P else False) : b = true ∧ P := by
  cases b
  · exact h.elim
  · exact ⟨rfl, h⟩
theorem jw_sto_ok {k : Nat} {v : Value} {f : jw_L → Prop} (h : jw_sto L k v f) : k < L.length ∧ ((jw_cl1 L k).set k (some v)).length = L.length ∧ f ((jw_cl1 L k).set k (some v)) := by
  obtain ⟨h1, h2⟩ := jw_bif h
  exact ⟨by simpa [Nat.blt_eq] using h1, by rw [List.length_set, jw_cl1_len], h2⟩
theorem jw_stl_ok {k : Nat} {x : Int64} {f : jw_L → Prop} (h : jw_stl L k x f) : k + 1 < L.length ∧ (((jw_cl1 L k).set k (some (.long x))).set (k + 1) none).length = L.length ∧ f (((jw_cl1 L k).set k (some (.long x))).set (k + 1) none) := by
  obtain ⟨h1, h2⟩ := jw_bif h
  exact ⟨by simpa [Nat.blt_eq] using h1, by rw [List.length_set, List.length_set, jw_cl1_len], h2⟩
theorem jw_ldi_ok {k : Nat} {f : Int32 → Prop} (h : jw_ldi L k f) : ∃ x, L[k]? = some (some (.int x)) ∧ f x := by
  unfold jw_ldi at h
  split at h
  · exact ⟨_, by assumption, h⟩
  · exact h.elim
theorem jw_ldl_ok {k : Nat} {f : Int64 → Prop} (h : jw_ldl L k f) : ∃ x, L[k]? = some (some (.long x)) ∧ f x := by
  unfold jw_ldl at h
  split at h
  · exact ⟨_, by assumption, h⟩
  · exact h.elim
theorem jw_lda_ok {k : Nat} {f : Nat → Prop} (h : jw_lda L k f) : ∃ x, L[k]? = some (some (.ref x)) ∧ f x := by
  unfold jw_lda at h
  split at h
  · exact ⟨_, by assumption, h⟩
  · exact h.elim
theorem jw_i1_ok {f : Int32 → List Value → Prop} (h : jw_i1 st f) : ∃ x r, st = .int x :: r ∧ f x r := by
  unfold jw_i1 at h
  split at h
  · exact ⟨_, _, rfl, h⟩
  · exact h.elim
theorem jw_i2_ok {f : Int32 → Int32 → List Value → Prop} (h : jw_i2 st f) : ∃ x y r, st = .int y :: .int x :: r ∧ f x y r := by
  unfold jw_i2 at h
  split at h
  · exact ⟨_, _, _, rfl, h⟩
  · exact h.elim
theorem jw_l1_ok {f : Int64 → List Value → Prop} (h : jw_l1 st f) : ∃ x r, st = .long x :: r ∧ f x r := by
  unfold jw_l1 at h
  split at h
  · exact ⟨_, _, rfl, h⟩
  · exact h.elim
theorem jw_l2_ok {f : Int64 → Int64 → List Value → Prop} (h : jw_l2 st f) : ∃ x y r, st = .long y :: .long x :: r ∧ f x y r := by
  unfold jw_l2 at h
  split at h
  · exact ⟨_, _, _, rfl, h⟩
  · exact h.elim
theorem jw_li_ok {f : Int64 → Int32 → List Value → Prop} (h : jw_li st f) : ∃ x y r, st = .int y :: .long x :: r ∧ f x y r := by
  unfold jw_li at h
  split at h
  · exact ⟨_, _, _, rfl, h⟩
  · exact h.elim
theorem jw_r1_ok {f : Nat → List Value → Prop} (h : jw_r1 st f) : ∃ x r, st = .ref x :: r ∧ f x r := by
  unfold jw_r1 at h
  split at h
  · exact ⟨_, _, rfl, h⟩
  · exact h.elim
theorem jw_ix_ok {f : Int32 → Nat → List Value → Prop} (h : jw_ix st f) : ∃ i a r, st = .int i :: .ref a :: r ∧ f i a r := by
  unfold jw_ix at h
  split at h
  · exact ⟨_, _, _, rfl, h⟩
  · exact h.elim
set_option maxHeartbeats 4000000 in
set_option maxRecDepth 100000 in
theorem jo_simple {pc len : Nat} {ins : Instr} {res : jw_R} (hS : jw_isS ins = true) (hx : p.tables.exec = Jvm.exec) (hb : c.code = cc) (hd : jw_okd cc (pc, ins, len, res)) (hl : lv_has ls nL (jw_asc α 0 L)) (hn : L.length = nL)
    (hs : jw_step kd C bud lim ret (pc, ins, len, res) L st h Q K)
    (hK : ∀ (pc' : Nat) (L' : jw_L) (st' : List Value) (ls' : Array Slot), K pc' L' st' h → L'.length = nL → lv_has ls' nL (jw_asc α 0 L') → W p l e R s m args below meth c H locs cells slots Qf (F0 m pc' ls' (st'.map (jw_ad α)))) :
    W p l e R s m args below meth c H locs cells slots Qf (F0 m pc ls (st.map (jw_ad α))) := by
  obtain ⟨hdg, hlen, hst⟩ := hd
  dsimp only at hdg hlen
  have hlen' : ∀ k, jw_len ins = k + 1 → len = k + 1 := fun k hk => by
    rcases hlen with h0 | h0
    · omega
    · omega
  cases ins <;> first | (exact Bool.noConfusion hS) | skip
  case iconst i =>
    have := hlen' 0 rfl; subst this
    exact lv_iconst hx hb hdg rfl (hK _ _ _ _ hs hn hl)
  case bipush i =>
    have := hlen' 1 rfl; subst this
    exact lv_bipush hx hb hdg rfl (hK _ _ _ _ hs hn hl)
  case sipush i =>
    have := hlen' 2 rfl; subst this
    exact lv_sipush hx hb hdg rfl (hK _ _ _ _ hs hn hl)
  case lconst i =>
    have := hlen' 0 rfl; subst this
    exact lv_lconst hx hb hdg rfl (hK _ _ _ _ hs hn hl)
  case iload_n k =>
    have := hlen' 0 rfl; subst this
    obtain ⟨x, h1, h2⟩ := jw_ldi_ok hs
    exact lv_iload_n hx hb hdg rfl (jw_loc hl h1) (hK _ _ _ _ h2 hn hl)
  case iload k =>
    have := hlen' 1 rfl; subst this
    obtain ⟨x, h1, h2⟩ := jw_ldi_ok hs
    exact lv_iload hx hb hdg (jw_loc hl h1) (hK _ _ _ _ h2 hn hl)
  case lload_n k =>
    have := hlen' 0 rfl; subst this
    obtain ⟨x, h1, h2⟩ := jw_ldl_ok hs
    exact lv_lload_n hx hb hdg rfl (jw_loc hl h1) (hK _ _ _ _ h2 hn hl)
  case lload k =>
    have := hlen' 1 rfl; subst this
    obtain ⟨x, h1, h2⟩ := jw_ldl_ok hs
    exact lv_lload hx hb hdg (jw_loc hl h1) (hK _ _ _ _ h2 hn hl)
  case aload_n k =>
    have := hlen' 0 rfl; subst this
    obtain ⟨x, h1, h2⟩ := jw_lda_ok hs
    exact lv_aload_n hx hb hdg rfl (jw_loc hl h1) (hK _ _ _ _ h2 hn hl)
  case aload k =>
    have := hlen' 1 rfl; subst this
    obtain ⟨x, h1, h2⟩ := jw_lda_ok hs
    exact lv_aload hx hb hdg (jw_loc hl h1) (hK _ _ _ _ h2 hn hl)
  case istore_n k =>
    have := hlen' 0 rfl; subst this
    obtain ⟨x, r, rfl, h2⟩ := jw_i1_ok hs
    obtain ⟨h3, h4, h5⟩ := jw_sto_ok h2
    exact lv_istore_n hx hb hdg rfl hl (by omega) rfl (fun ls' hl' => hK _ _ _ _ h5 (h4.trans hn) (jw_sto1 (v := .int x) hl' h3))
  case istore k =>
    have := hlen' 1 rfl; subst this
    obtain ⟨x, r, rfl, h2⟩ := jw_i1_ok hs
    obtain ⟨h3, h4, h5⟩ := jw_sto_ok h2
    exact lv_istore hx hb hdg hl (by omega) rfl (fun ls' hl' => hK _ _ _ _ h5 (h4.trans hn) (jw_sto1 (v := .int x) hl' h3))
  case lstore_n k =>
    have := hlen' 0 rfl; subst this
    obtain ⟨x, r, rfl, h2⟩ := jw_l1_ok hs
    obtain ⟨h3, h4, h5⟩ := jw_stl_ok h2
    exact lv_lstore_n hx hb hdg rfl hl (by omega) rfl (fun ls' hl' => hK _ _ _ _ h5 (h4.trans hn) (jw_stol hl' h3))
  case lstore k =>
    have := hlen' 1 rfl; subst this
    obtain ⟨x, r, rfl, h2⟩ := jw_l1_ok hs
    obtain ⟨h3, h4, h5⟩ := jw_stl_ok h2
    exact lv_lstore hx hb hdg hl (by omega) rfl (fun ls' hl' => hK _ _ _ _ h5 (h4.trans hn) (jw_stol hl' h3))
  case astore_n k =>
    have := hlen' 0 rfl; subst this
    obtain ⟨x, r, rfl, h2⟩ := jw_r1_ok hs
    obtain ⟨h3, h4, h5⟩ := jw_sto_ok h2
    exact lv_astore_n hx hb hdg rfl hl (by omega) rfl (fun ls' hl' => hK _ _ _ _ h5 (h4.trans hn) (jw_sto1 (v := .ref x) hl' h3))
  case astore k =>
    have := hlen' 1 rfl; subst this
    obtain ⟨x, r, rfl, h2⟩ := jw_r1_ok hs
    obtain ⟨h3, h4, h5⟩ := jw_sto_ok h2
    exact lv_astore hx hb hdg hl (by omega) rfl (fun ls' hl' => hK _ _ _ _ h5 (h4.trans hn) (jw_sto1 (v := .ref x) hl' h3))
  case iinc k n =>
    have := hlen' 2 rfl; subst this
    obtain ⟨x, h1, h2⟩ := jw_ldi_ok hs
    obtain ⟨h3, h4, h5⟩ := jw_sto_ok h2
    obtain ⟨j, hj⟩ := List.getElem?_of_mem (jw_asc_mem (α := α) (k := 0) (q := (k, .int x)).mpr ⟨k, .int x, h1, by simp [jw_ad]⟩)
    exact lv_iinc hx hb hdg hl hj rfl (by omega) rfl (fun ls' hl' => hK _ _ _ _ h5 (h4.trans hn) (jw_sto1 (v := .int (x + Int32.ofInt n)) hl' h3))
  case iadd =>
    have := hlen' 0 rfl; subst this
    obtain ⟨x, y, r, rfl, h2⟩ := jw_i2_ok hs
    exact lv_iadd hx hb hdg (hK _ _ _ _ h2 hn hl)
  case isub =>
    have := hlen' 0 rfl; subst this
    obtain ⟨x, y, r, rfl, h2⟩ := jw_i2_ok hs
    exact lv_isub hx hb hdg (hK _ _ _ _ h2 hn hl)
  case imul =>
    have := hlen' 0 rfl; subst this
    obtain ⟨x, y, r, rfl, h2⟩ := jw_i2_ok hs
    exact lv_imul hx hb hdg (hK _ _ _ _ h2 hn hl)
  case iand =>
    have := hlen' 0 rfl; subst this
    obtain ⟨x, y, r, rfl, h2⟩ := jw_i2_ok hs
    exact lv_iand hx hb hdg (hK _ _ _ _ h2 hn hl)
  case ior =>
    have := hlen' 0 rfl; subst this
    obtain ⟨x, y, r, rfl, h2⟩ := jw_i2_ok hs
    exact lv_ior hx hb hdg (hK _ _ _ _ h2 hn hl)
  case ixor =>
    have := hlen' 0 rfl; subst this
    obtain ⟨x, y, r, rfl, h2⟩ := jw_i2_ok hs
    exact lv_ixor hx hb hdg (hK _ _ _ _ h2 hn hl)
  case ishl =>
    have := hlen' 0 rfl; subst this
    obtain ⟨x, y, r, rfl, h2⟩ := jw_i2_ok hs
    exact lv_ishl hx hb hdg (hK _ _ _ _ h2 hn hl)
  case ishr =>
    have := hlen' 0 rfl; subst this
    obtain ⟨x, y, r, rfl, h2⟩ := jw_i2_ok hs
    exact lv_ishr hx hb hdg (hK _ _ _ _ h2 hn hl)
  case iushr =>
    have := hlen' 0 rfl; subst this
    obtain ⟨x, y, r, rfl, h2⟩ := jw_i2_ok hs
    exact lv_iushr hx hb hdg rfl (hK _ _ _ _ h2 hn hl)
  case idiv =>
    have := hlen' 0 rfl; subst this
    obtain ⟨x, y, r, rfl, h2⟩ := jw_i2_ok hs
    exact lv_idiv hx hb hdg h2.1 (hK _ _ _ _ h2.2 hn hl)
  case irem =>
    have := hlen' 0 rfl; subst this
    obtain ⟨x, y, r, rfl, h2⟩ := jw_i2_ok hs
    exact lv_irem hx hb hdg h2.1 (hK _ _ _ _ h2.2 hn hl)
  case ladd =>
    have := hlen' 0 rfl; subst this
    obtain ⟨x, y, r, rfl, h2⟩ := jw_l2_ok hs
    exact lv_ladd hx hb hdg (hK _ _ _ _ h2 hn hl)
  case lsub =>
    have := hlen' 0 rfl; subst this
    obtain ⟨x, y, r, rfl, h2⟩ := jw_l2_ok hs
    exact lv_lsub hx hb hdg (hK _ _ _ _ h2 hn hl)
  case lmul =>
    have := hlen' 0 rfl; subst this
    obtain ⟨x, y, r, rfl, h2⟩ := jw_l2_ok hs
    exact lv_lmul hx hb hdg (hK _ _ _ _ h2 hn hl)
  case land =>
    have := hlen' 0 rfl; subst this
    obtain ⟨x, y, r, rfl, h2⟩ := jw_l2_ok hs
    exact lv_land hx hb hdg (hK _ _ _ _ h2 hn hl)
  case lor =>
    have := hlen' 0 rfl; subst this
    obtain ⟨x, y, r, rfl, h2⟩ := jw_l2_ok hs
    exact lv_lor hx hb hdg (hK _ _ _ _ h2 hn hl)
  case lshl =>
    have := hlen' 0 rfl; subst this
    obtain ⟨x, y, r, rfl, h2⟩ := jw_li_ok hs
    exact lv_lshl hx hb hdg rfl (hK _ _ _ _ h2 hn hl)
  case lshr =>
    have := hlen' 0 rfl; subst this
    obtain ⟨x, y, r, rfl, h2⟩ := jw_li_ok hs
    exact lv_lshr hx hb hdg rfl (hK _ _ _ _ h2 hn hl)
  case i2l =>
    have := hlen' 0 rfl; subst this
    obtain ⟨x, r, rfl, h2⟩ := jw_i1_ok hs
    exact lv_i2l hx hb hdg rfl (hK _ _ _ _ h2 hn hl)
  case l2i =>
    have := hlen' 0 rfl; subst this
    obtain ⟨x, r, rfl, h2⟩ := jw_l1_ok hs
    exact lv_l2i hx hb hdg rfl (hK _ _ _ _ h2 hn hl)
  case i2b =>
    have := hlen' 0 rfl; subst this
    obtain ⟨x, r, rfl, h2⟩ := jw_i1_ok hs
    exact lv_i2b hx hb hdg rfl (hK _ _ _ _ h2 hn hl)
  case i2s =>
    have := hlen' 0 rfl; subst this
    obtain ⟨x, r, rfl, h2⟩ := jw_i1_ok hs
    exact lv_i2s hx hb hdg rfl (hK _ _ _ _ h2 hn hl)
  case ineg =>
    have := hlen' 0 rfl; subst this
    obtain ⟨x, r, rfl, h2⟩ := jw_i1_ok hs
    exact lv_ineg hx hb hdg (hK _ _ _ _ h2 hn hl)
  case lcmp =>
    have := hlen' 0 rfl; subst this
    obtain ⟨x, y, r, rfl, h2⟩ := jw_l2_ok hs
    exact W.lcmp hx hb hdg (hK _ _ _ _ h2 hn hl)
  case dup =>
    have := hlen' 0 rfl; subst this
    unfold jw_step at hs
    dsimp only at hs
    split at hs
    · exact lv_dup hx hb hdg rfl (hK _ _ _ _ hs hn hl)
    · exact lv_dup hx hb hdg rfl (hK _ _ _ _ hs hn hl)
    · exact hs.elim
  case dup_x1 =>
    have := hlen' 0 rfl; subst this
    unfold jw_step at hs
    dsimp only at hs
    split at hs
    · exact lv_dup_x1 hx hb hdg rfl rfl (hK _ _ _ _ hs hn hl)
    · exact lv_dup_x1 hx hb hdg rfl rfl (hK _ _ _ _ hs hn hl)
    · exact hs.elim
  case dup2 =>
    have := hlen' 0 rfl; subst this
    unfold jw_step at hs
    dsimp only at hs
    split at hs
    · exact lv_dup2_11 hx hb hdg rfl rfl (hK _ _ _ _ hs hn hl)
    · exact hs.elim
  case pop =>
    have := hlen' 0 rfl; subst this
    unfold jw_step at hs
    dsimp only at hs
    split at hs
    · exact lv_pop (va := .int _) hx hb hdg rfl (hK _ _ _ _ hs hn hl)
    · exact lv_pop (va := .ref _) hx hb hdg rfl (hK _ _ _ _ hs hn hl)
    · exact hs.elim
  case goto off =>
    have := hlen' 2 rfl; subst this
    exact lv_goto hx hb hdg (of_decide_eq_true hst) (hK _ _ _ _ hs hn hl)
  case ifCond cnd off =>
    have := hlen' 2 rfl; subst this
    have ht := of_decide_eq_true hst
    cases cnd
    case eq =>
      obtain ⟨x, r, rfl, h2⟩ := jw_i1_ok hs
      exact lv_if_eq hx hb hdg ht (fun z => hK _ _ _ _ (h2.1 z) hn hl) (fun z => hK _ _ _ _ (h2.2 z) hn hl)
    case ne =>
      obtain ⟨x, r, rfl, h2⟩ := jw_i1_ok hs
      exact lv_if_ne hx hb hdg ht (fun z => hK _ _ _ _ (h2.1 z) hn hl) (fun z => hK _ _ _ _ (h2.2 z) hn hl)
    case lt =>
      obtain ⟨x, r, rfl, h2⟩ := jw_i1_ok hs
      exact lv_if_lt hx hb hdg ht (fun z => hK _ _ _ _ (h2.1 z) hn hl) (fun z => hK _ _ _ _ (h2.2 z) hn hl)
    case ge =>
      obtain ⟨x, r, rfl, h2⟩ := jw_i1_ok hs
      exact lv_if_ge hx hb hdg ht (fun z => hK _ _ _ _ (h2.1 z) hn hl) (fun z => hK _ _ _ _ (h2.2 z) hn hl)
    case gt =>
      obtain ⟨x, r, rfl, h2⟩ := jw_i1_ok hs
      exact lv_if_gt hx hb hdg ht (fun z => hK _ _ _ _ (h2.1 z) hn hl) (fun z => hK _ _ _ _ (h2.2 z) hn hl)
    case le =>
      obtain ⟨x, r, rfl, h2⟩ := jw_i1_ok hs
      exact lv_if_le hx hb hdg ht (fun z => hK _ _ _ _ (h2.1 z) hn hl) (fun z => hK _ _ _ _ (h2.2 z) hn hl)
  case if_icmp cnd off =>
    have := hlen' 2 rfl; subst this
    have ht := of_decide_eq_true hst
    cases cnd
    case eq =>
      obtain ⟨x, y, r, rfl, h2⟩ := jw_i2_ok hs
      exact lv_icmp_eq hx hb hdg ht (fun z => hK _ _ _ _ (h2.1 z) hn hl) (fun z => hK _ _ _ _ (h2.2 z) hn hl)
    case ne =>
      obtain ⟨x, y, r, rfl, h2⟩ := jw_i2_ok hs
      exact lv_icmp_ne hx hb hdg ht (fun z => hK _ _ _ _ (h2.1 z) hn hl) (fun z => hK _ _ _ _ (h2.2 z) hn hl)
    case lt =>
      obtain ⟨x, y, r, rfl, h2⟩ := jw_i2_ok hs
      exact lv_icmp_lt hx hb hdg ht (fun z => hK _ _ _ _ (h2.1 z) hn hl) (fun z => hK _ _ _ _ (h2.2 z) hn hl)
    case ge =>
      obtain ⟨x, y, r, rfl, h2⟩ := jw_i2_ok hs
      exact lv_icmp_ge hx hb hdg ht (fun z => hK _ _ _ _ (h2.1 z) hn hl) (fun z => hK _ _ _ _ (h2.2 z) hn hl)
    case gt =>
      obtain ⟨x, y, r, rfl, h2⟩ := jw_i2_ok hs
      exact lv_icmp_gt hx hb hdg ht (fun z => hK _ _ _ _ (h2.1 z) hn hl) (fun z => hK _ _ _ _ (h2.2 z) hn hl)
    case le =>
      obtain ⟨x, y, r, rfl, h2⟩ := jw_i2_ok hs
      exact lv_icmp_le hx hb hdg ht (fun z => hK _ _ _ _ (h2.1 z) hn hl) (fun z => hK _ _ _ _ (h2.2 z) hn hl)
  case tableswitch d lo hi offs =>
    obtain ⟨x, r, rfl, h2⟩ := jw_i1_ok hs
    simp only [jw_stat, Bool.and_eq_true, decide_eq_true_eq] at hst
    obtain ⟨t1, t2, t3, t4, t5, t6⟩ := hst
    by_cases hi1 : x.toInt < lo ∨ hi < x.toInt
    · refine lv_tableOut hx hb hdg hi1 t1 (hK _ _ _ _ (jw_sw_out h2 fun z hz hxz => ?_) hn hl)
      have hz1 : z.1 ∈ res.2.2.map (fun z => z.1) := List.mem_map.mpr ⟨z, hz, rfl⟩
      rw [t3] at hz1
      obtain ⟨i, hi2, hi3⟩ := List.mem_map.mp hz1
      have := List.mem_range.mp hi2
      have h9 : x.toInt = z.1 := by rw [hxz]; exact jw_ofInt (by omega) (by omega)
      omega
    · have hlo : ¬ x.toInt < lo := fun q => hi1 (Or.inl q)
      have hhi : ¬ hi < x.toInt := fun q => hi1 (Or.inr q)
      have hlt : (x.toInt - lo).toNat < res.2.2.length := by omega
      have ho : offs[(x.toInt - lo).toNat]? = some (((res.2.2[(x.toInt - lo).toNat]).2 : Int) - (pc : Int)) := by
        rw [← Array.getElem?_toList, ← t2, List.getElem?_map, List.getElem?_eq_getElem hlt]
        rfl
      have key : ∀ (j : Nat) (z : Int × Nat), res.2.2[j]? = some z → z.1 = lo + (j : Int) := by
        intro j z hz
        have h8 : (res.2.2.map (fun z => z.1))[j]? = some z.1 := by rw [List.getElem?_map, hz]; rfl
        rw [t3, List.getElem?_map] at h8
        have hj : j < res.2.2.length := (List.getElem?_eq_some_iff.mp hz).1
        rw [List.getElem?_range hj] at h8
        have := Option.some.inj h8
        dsimp only at this
        omega
      refine lv_tableIn hx hb hdg hlo hhi ho (by omega) (hK _ _ _ _ (jw_sw_in h2 (i := (x.toInt - lo).toNat) (k := (res.2.2[(x.toInt - lo).toNat]).1) (t := (res.2.2[(x.toInt - lo).toNat]).2) (List.getElem?_eq_getElem hlt) ?_ ?_) hn hl)
      · have h7 := key _ _ (List.getElem?_eq_getElem hlt)
        apply Int32.toInt_inj.mp
        rw [h7, jw_ofInt (by omega) (by omega)]
        omega
      · intro j hj z hz hxz
        have h7 := key _ _ hz
        have hj2 : j < res.2.2.length := (List.getElem?_eq_some_iff.mp hz).1
        have h9 : x.toInt = z.1 := by rw [hxz]; exact jw_ofInt (by omega) (by omega)
        omega
  case lookupswitch d ps =>
    obtain ⟨x, r, rfl, h2⟩ := jw_i1_ok hs
    simp only [jw_stat, Bool.and_eq_true, decide_eq_true_eq] at hst
    obtain ⟨t1, t2, t3, t4⟩ := hst
    have hb4 : ∀ z ∈ res.2.2, -2147483648 ≤ z.1 ∧ z.1 < 2147483648 := fun z hz => by
      have := List.all_eq_true.mp t4 z hz
      simpa using this
    have hlist : ∀ (j : Nat) (z : Int × Nat), res.2.2[j]? = some z → ps.toList[j]? = some (z.1, (z.2 : Int) - (pc : Int)) := fun j z hz => by
      rw [← t2, List.getElem?_map, hz]
      rfl
    have hlist2 : ∀ (j : Nat) (z : Int × Int), ps.toList[j]? = some z → ∃ w, res.2.2[j]? = some w ∧ z = (w.1, (w.2 : Int) - (pc : Int)) := fun j z hz => by
      rw [← t2, List.getElem?_map] at hz
      cases hw : res.2.2[j]? with
      | none => rw [hw] at hz; cases hz
      | some w => rw [hw] at hz; exact ⟨w, rfl, (Option.some.inj hz).symm⟩
    rcases jw_lsw (x := x.toInt) (d := d) (l := ps.toList) with ⟨o1, o2⟩ | ⟨i, z, z1, z2, z3, z4⟩
    · refine lv_lookup hx hb hdg t3 o1 t1 (hK _ _ _ _ (jw_sw_out h2 fun z hz hxz => ?_) hn hl)
      obtain ⟨j, hj⟩ := List.getElem?_of_mem hz
      have h9 : x.toInt = z.1 := by rw [hxz]; exact jw_ofInt (hb4 z hz).1 (hb4 z hz).2
      exact o2 _ (List.mem_of_getElem? (hlist j z hj)) h9
    · obtain ⟨w, hw, rfl⟩ := hlist2 i z z1
      refine lv_lookup hx hb hdg t3 z3 (tgt := w.2) (by dsimp only; omega) (hK _ _ _ _ (jw_sw_in h2 (i := i) (k := w.1) (t := w.2) hw ?_ ?_) hn hl)
      · apply Int32.toInt_inj.mp
        have hm := hb4 w (List.mem_of_getElem? hw)
        rw [jw_ofInt hm.1 hm.2]
        exact z2
      · intro j hj y hy hxy
        have hm := hb4 y (List.mem_of_getElem? hy)
        have h9 : x.toInt = y.1 := by rw [hxy]; exact jw_ofInt hm.1 hm.2
        exact z4 j hj _ (hlist j y hy) h9
end JWS
