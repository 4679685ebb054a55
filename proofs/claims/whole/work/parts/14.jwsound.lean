/-! ===== the abstract machine is the machine: a method's contract out of its walk ===== -/
def jw_isC : Instr → Bool
  | .invokevirtual _ | .invokespecial _ | .invokestatic _ | .aastore | .new _ | .newarray _ | .anewarray _ | .multianewarray _ _ => true
  | _ => false
def jw_isR : Instr → Bool
  | .ireturn | .lreturn | .areturn | .return_ => true
  | _ => false
/-- words of a call or a new cell -/
def jw_wc (own : String) (cl : List vw_C) (ys : List jw_Y) (q : jw_I) : List Cond := match q.2.1 with
  | .invokevirtual idx => q.2.2.2.2.2.flatMap (jw_wcV own cl ys idx q.2.2.2.1)
  | .invokespecial idx => bif q.2.2.2.1 == 7 then jw_wcO own idx else q.2.2.2.2.2.flatMap (jw_wcP own cl ys idx q.2.2.2.1)
  | .invokestatic idx => bif q.2.2.2.1 == 8 then jw_wcA own idx else q.2.2.2.2.2.flatMap (jw_wcS own ys idx q.2.2.2.1)
  | _ => jw_wcN own cl q
def jw_nc (own : String) (ys : List jw_Y) (q : jw_I) : List Cond := match q.2.1 with
  | .invokespecial idx => bif q.2.2.2.1 == 7 then [] else q.2.2.2.2.2.flatMap (jw_ncP own ys idx q.2.2.2.1)
  | .invokestatic idx => bif q.2.2.2.1 == 8 then [] else q.2.2.2.2.2.flatMap (jw_ncS own ys idx q.2.2.2.1)
  | _ => []
def jw_fc (kd : Nat → List jw_K) (cl : List vw_C) (ys : List jw_Y) (q : jw_I) : Bool := match q.2.1 with
  | .invokevirtual _ => q.2.2.2.2.2.all (jw_fcV cl ys q.2.2.2.1 q.2.2.2.2.1)
  | .invokespecial _ => q.2.2.2.1 == 7 || q.2.2.2.2.2.all (jw_fcP cl ys q.2.2.2.1 q.2.2.2.2.1)
  | .invokestatic _ => q.2.2.2.1 == 8 || q.2.2.2.2.2.all (jw_fcS ys q.2.2.2.2.1)
  | .multianewarray _ n => n == 2
  | _ => jw_fcN kd cl q
/-- all that an instruction needs of the tables -/
def jw_okI (own nm : String) (kd : Nat → List jw_K) (cl : List vw_C) (ys : List jw_Y) (Tg Ns : List Cond) (cc : ByteArray) (q : jw_I) : Prop :=
  jw_okd cc q ∧ (jw_len q.2.1 = 1 ∨ jw_isS q.2.1 = true ∨ jw_isH q.2.1 = true ∨ jw_isC q.2.1 = true) ∧ (∀ w ∈ jw_wd own cl q, w ∈ Tg) ∧ jw_wf own nm cl q = true ∧ (∀ w ∈ jw_wc own cl ys q, w ∈ Tg) ∧ (∀ w ∈ jw_nc own ys q, w ∈ Ns) ∧ jw_fc kd cl ys q = true
def jw_shok (cl : List vw_C) (h : jw_H) : Prop := ∀ (i : Nat) (sh : Nat × List jw_K), h.1[i]? = some (.inl sh) → ∃ r, cl[sh.1]? = some r
section JWZ
variable {p : Program} {l : Launch} {e : Env} {R : Room} {s : State} {m : MethodId} {args : Array Value} {below : List Frame} {meth : Method} {c : Code}
variable {cc : ByteArray} {α : Nat → Nat} {nL : Nat} {D : va_G} {cl : List vw_C} {A : Nat → Prop} {cy : Nat → ClassId} {own nm : String} {Ts Tg Ns : List Cond} {kd : Nat → List jw_K} {lim : Nat × Nat} {ys : List jw_Y} {ret : Option FieldType} {cs : List jw_I}
theorem jw_at_ok {pc : Nat} {q : jw_I} : ∀ {cs : List jw_I}, jw_at pc cs = some q → q ∈ cs ∧ q.1 = pc
  | [], h => by cases h
  | x :: cs, h => by
    rw [jw_at] at h
    cases hc : (x.1 == pc) with
    | true =>
      rw [hc] at h
      have : x = q := Option.some.inj h
      subst this
      exact ⟨List.mem_cons_self, by simpa using hc⟩
    | false =>
      rw [hc] at h
      exact ⟨List.mem_cons_of_mem _ (jw_at_ok h).1, (jw_at_ok h).2⟩
end JWZ
