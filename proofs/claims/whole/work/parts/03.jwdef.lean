/-! ===== the abstract machine: memory as two functions (ints, longs) over a shape; instructions as Prop transformers (goal first) ===== -/
/-- a field's kind: inl 0 int, inl 1 long, inl 2 boolean; inr: a reference -/
abbrev jw_K : Type := Nat ⊕ Option Nat
/-- a cell's shape: an object (class, fields' kinds) or an array (type: 0 int, 1 long, else references; length; references) -/
abbrev jw_S : Type := (Nat × List jw_K) ⊕ (Nat × Nat × List (Option Nat))
abbrev jw_M : Type := (Nat → Nat → Int32) × (Nat → Nat → Int64)
abbrev jw_H : Type := List jw_S × jw_M
abbrev jw_L : Type := List (Option Value)
/-- resolution of an instruction: a kind or class or target, a number, a list -/
abbrev jw_R : Type := Nat × Nat × List (Int × Nat)
abbrev jw_I : Type := Nat × Instr × Nat × jw_R
abbrev jw_Q : Type := Option Value → jw_H → Prop
abbrev jw_Y : Type := MethodName × ByteArray × Nat × Option FieldType × (Nat × Nat) × List jw_I
def jw_up {α : Type} (M : Nat → Nat → α) (c k : Nat) (v : α) : Nat → Nat → α := fun c' => if c' = c then va_up (M c) k v else M c'
/-- a whole array laid into a cell -/
def jw_lay {α : Type} (M : Nat → Nat → α) (c : Nat) (f : Nat → α) : Nat → Nat → α := fun c' => if c' = c then f else M c'
def jw_self : Nat := 1000001
def jw_str : Nat := 1000000
def jw_tab : List Int32 := [1, 3, 5, 13, 17, 49]
def jw_txt : List Int32 := [115, 104, 97, 100, 111, 119, 32, 106, 111, 105, 110, 101, 100, 32, 103, 105, 102, 116, 101, 100, 32, 99, 111, 108, 111, 117, 114, 101, 100, 32, 115, 108, 111, 119, 32, 98, 111, 114, 114, 111, 119, 101, 100, 32, 108, 97, 115, 116, 32, 101, 97, 115, 121, 32, 112, 108, 97, 121, 32, 105, 102, 32, 111, 114, 32, 97, 110, 100, 32, 110, 111, 116, 32, 104, 111, 117, 114, 32, 108, 101, 97, 114, 110, 116, 32, 113, 117, 105, 99, 107, 32, 116, 97, 108, 108, 32, 110, 117, 109, 98, 101, 114, 32]
def jw_chr (i : Int32) : Int32 := jw_txt.getD i.toNatClampNeg 0
def jw_ssz : jw_S → Nat
  | .inl (_, ks) => ks.length
  | .inr (_, n, _) => n
def jw_sz : List jw_S → Nat
  | [] => 0
  | a :: l => jw_sz l + jw_ssz a
def jw_cat : List Value → Nat
  | [] => 0
  | v :: l => v.category + jw_cat l
/-- a value of two slots that is cut by a store behind it is gone -/
def jw_clr : Option Value → Option Value
  | some (.long _) => none
  | some (.double _) => none
  | u => u
def jw_cl1 (L : jw_L) : Nat → jw_L
  | 0 => L
  | k + 1 => match L[k]? with
    | some u => L.set k (jw_clr u)
    | none => L
def jw_find (ci : Nat) : List (Int × Nat) → Option Nat
  | [] => none
  | (a, b) :: l => bif a == (ci : Int) then some b else jw_find ci l
def jw_swt (x : Int32) : List (Int × Nat) → Nat → (Nat → Prop) → Prop
  | [], d, K => K d
  | (k, t) :: r, d, K => (x = Int32.ofInt k → K t) ∧ (¬ x = Int32.ofInt k → jw_swt x r d K)
def jw_k1 (st : List Value) (f : Int32 → Prop) : Prop := match st with
  | .int x :: _ => f x
  | _ => False
def jw_i1 (st : List Value) (f : Int32 → List Value → Prop) : Prop := match st with
  | .int x :: r => f x r
  | _ => False
def jw_i2 (st : List Value) (f : Int32 → Int32 → List Value → Prop) : Prop := match st with
  | .int y :: .int x :: r => f x y r
  | _ => False
def jw_l1 (st : List Value) (f : Int64 → List Value → Prop) : Prop := match st with
  | .long x :: r => f x r
  | _ => False
def jw_l2 (st : List Value) (f : Int64 → Int64 → List Value → Prop) : Prop := match st with
  | .long y :: .long x :: r => f x y r
  | _ => False
def jw_li (st : List Value) (f : Int64 → Int32 → List Value → Prop) : Prop := match st with
  | .int y :: .long x :: r => f x y r
  | _ => False
def jw_r1 (st : List Value) (f : Nat → List Value → Prop) : Prop := match st with
  | .ref x :: r => f x r
  | _ => False
/-- an array's place: index over reference -/
def jw_ix (st : List Value) (f : Int32 → Nat → List Value → Prop) : Prop := match st with
  | .int i :: .ref a :: r => f i a r
  | _ => False
def jw_ld (L : jw_L) (k : Nat) (f : Value → Prop) : Prop := match L[k]? with
  | some (some v) => f v
  | _ => False
def jw_ldi (L : jw_L) (k : Nat) (f : Int32 → Prop) : Prop := match L[k]? with
  | some (some (.int x)) => f x
  | _ => False
def jw_ldl (L : jw_L) (k : Nat) (f : Int64 → Prop) : Prop := match L[k]? with
  | some (some (.long x)) => f x
  | _ => False
def jw_lda (L : jw_L) (k : Nat) (f : Nat → Prop) : Prop := match L[k]? with
  | some (some (.ref x)) => f x
  | _ => False
/-- storing a value of one slot -/
def jw_sto (L : jw_L) (k : Nat) (v : Value) (f : jw_L → Prop) : Prop := bif Nat.blt k L.length then f ((jw_cl1 L k).set k (some v)) else False
def jw_stl (L : jw_L) (k : Nat) (x : Int64) (f : jw_L → Prop) : Prop := bif Nat.blt (k + 1) L.length then f (((jw_cl1 L k).set k (some (.long x))).set (k + 1) none) else False
def jw_get (h : jw_H) (ci k i : Nat) (f : Value → Prop) : Prop := match h.1[i]? with
  | some (.inl (cj, ks)) => bif cj == ci then (match ks[k]? with
    | some (.inl 1) => f (.long (h.2.2 i k))
    | some (.inl _) => f (.int (h.2.1 i k))
    | some (.inr o) => f (va_rf o)
    | none => False) else False
  | _ => False
def jw_put (h : jw_H) (ci k : Nat) (code : List (Int × Nat)) (st : List Value) (f : List Value → jw_H → Prop) : Prop := match code, st with
  | [(_, 0)], .int x :: .ref i :: r => (match h.1[i]? with
    | some (.inl (cj, ks)) => bif cj == ci then (match ks[k]? with
      | some (.inl 0) => f r (h.1, jw_up h.2.1 i k x, h.2.2)
      | _ => False) else False
    | _ => False)
  | [(_, 2)], .int x :: .ref i :: r => (match h.1[i]? with
    | some (.inl (cj, ks)) => bif cj == ci then (match ks[k]? with
      | some (.inl 2) => (x = 0 ∨ x = 1) ∧ f r (h.1, jw_up h.2.1 i k x, h.2.2)
      | _ => False) else False
    | _ => False)
  | [(_, 1)], .long x :: .ref i :: r => (match h.1[i]? with
    | some (.inl (cj, ks)) => bif cj == ci then (match ks[k]? with
      | some (.inl 1) => f r (h.1, h.2.1, jw_up h.2.2 i k x)
      | _ => False) else False
    | _ => False)
  | [(_, 3)], .ref j :: .ref i :: r => (match h.1[i]? with
    | some (.inl (cj, ks)) => bif cj == ci then (match ks[k]? with
      | some (.inr _) => f r (h.1.set i (.inl (cj, ks.set k (.inr (some j)))), h.2)
      | _ => False) else False
    | _ => False)
  | _, _ => False
def jw_iald (h : jw_H) (i : Int32) (a : Nat) (f : Int32 → Prop) : Prop := match h.1[a]? with
  | some (.inr (0, n, _)) => vp_in i n ∧ f (h.2.1 a i.toNatClampNeg)
  | some _ => False
  | none => a = jw_self ∧ vp_in i 6 ∧ f (jw_tab.getD i.toNatClampNeg 0)
def jw_lald (h : jw_H) (i : Int32) (a : Nat) (f : Int64 → Prop) : Prop := match h.1[a]? with
  | some (.inr (1, n, _)) => vp_in i n ∧ f (h.2.2 a i.toNatClampNeg)
  | _ => False
def jw_aald (h : jw_H) (i : Int32) (a : Nat) (f : Value → Prop) : Prop := match h.1[a]? with
  | some (.inr (t + 2, n, rs)) => bif Nat.blt t 3 then vp_in i n ∧ f (va_rf (rs.getD i.toNatClampNeg none)) else False
  | _ => False
def jw_iast (h : jw_H) (st : List Value) (f : List Value → jw_H → Prop) : Prop := match st with
  | .int x :: .int i :: .ref a :: r => (match h.1[a]? with
    | some (.inr (0, n, _)) => vp_in i n ∧ f r (h.1, jw_up h.2.1 a i.toNatClampNeg x, h.2.2)
    | _ => False)
  | _ => False
def jw_last (h : jw_H) (st : List Value) (f : List Value → jw_H → Prop) : Prop := match st with
  | .long x :: .int i :: .ref a :: r => (match h.1[a]? with
    | some (.inr (1, n, _)) => vp_in i n ∧ f r (h.1, h.2.1, jw_up h.2.2 a i.toNatClampNeg x)
    | _ => False)
  | _ => False
/-- storing a reference into an array of references: only at places that are numbers already, of objects of the array's class -/
def jw_aast (h : jw_H) (st : List Value) (f : List Value → jw_H → Prop) : Prop := match st with
  | .ref j :: .int i :: .ref a :: r => (match h.1[a]?, h.1[j]? with
    | some (.inr (t + 2, n, rs)), some (.inl (cj, _)) => vp_in i n ∧ (bif ((t == 0 && cj == 6) || (t == 1 && (cj == 0 || cj == 1 || cj == 2 || cj == 4 || cj == 10 || cj == 11))) && Nat.blt i.toNatClampNeg rs.length then f r (h.1.set a (.inr (t + 2, n, rs.set i.toNatClampNeg (some j))), h.2) else False)
    | _, _ => False)
  | _ => False
def jw_alen (h : jw_H) (a : Nat) (f : Int32 → Prop) : Prop := match h.1[a]? with
  | some (.inr (t, n, _)) => bif Nat.blt t 5 then f (Int32.ofNat n) else False
  | _ => False
/-- the cell that 'new' makes: kinds by class -/
def jw_new (h : jw_H) (lim : Nat × Nat) (ci : Nat) (ks : List jw_K) (f : Nat → jw_H → Prop) : Prop :=
  bif Nat.ble (h.1.length + 1) lim.1 && Nat.ble (jw_sz h.1 + ks.length) lim.2 then f h.1.length (h.1 ++ [.inl (ci, ks)], jw_lay h.2.1 h.1.length (fun _ => 0), jw_lay h.2.2 h.1.length (fun _ => 0)) else False
def jw_newa (h : jw_H) (lim : Nat × Nat) (t n : Nat) (f : Nat → jw_H → Prop) : Prop :=
  bif Nat.ble (h.1.length + 1) lim.1 && (Nat.ble (jw_sz h.1 + n) lim.2 && Nat.ble n 100000) then f h.1.length (h.1 ++ [.inr (t, n, bif Nat.blt t 2 then [] else List.replicate n none)], jw_lay h.2.1 h.1.length (fun _ => 0), jw_lay h.2.2 h.1.length (fun _ => 0)) else False
def jw_zero {α : Type} (z : α) (M : Nat → Nat → α) (n : Nat) : Nat → Nat → α := fun c => if c < n then M c else fun _ => z
/-- new int[n][k] -/
def jw_mna (h : jw_H) (lim : Nat × Nat) (n k : Nat) (f : Nat → jw_H → Prop) : Prop :=
  bif Nat.ble (h.1.length + (1 + n)) lim.1 && (Nat.ble (jw_sz h.1 + (n + n * k)) lim.2 && (Nat.ble n 1000 && Nat.ble k 1000)) then f h.1.length (h.1 ++ (.inr (4, n, (List.range n).map (fun i => some (h.1.length + 1 + i))) :: List.replicate n (.inr (0, k, []))), jw_zero 0 h.2.1 h.1.length, jw_zero 0 h.2.2 h.1.length) else False
def jw_ok (ret : Option FieldType) (x : Int32) (P : Prop) : Prop := match ret with
  | some .int => P
  | some .boolean => (x = 0 ∨ x = 1) ∧ P
  | _ => False
/-- a call: the arguments off the stack, the method by the receiver's class -/
def jw_call (C : Nat → List Value → jw_H → jw_Q → Prop) (bud : Nat → Nat × Nat) (lim : Nat × Nat) (res : jw_R) (st : List Value) (h : jw_H) (f : List Value → jw_H → Prop) : Prop :=
  match st.drop res.2.1 with
  | .ref b :: r => (match h.1[b]? with
    | some (.inl (ci, _)) => (match jw_find ci res.2.2 with
      | some mid => bif Nat.blt res.2.1 st.length && (Nat.ble (jw_cat r) 8 && ((bud mid == (0, 0)) || (Nat.ble (h.1.length + (bud mid).1) lim.1 && Nat.ble (jw_sz h.1 + (bud mid).2) lim.2))) then C mid (.ref b :: (st.take res.2.1).reverse) h (fun v h' => f (v.toList ++ r) h') else False
      | none => False)
    | _ => False)
  | _ => False
/-- a virtual call: of an object of the world, or of the String constant -/
def jw_callV (C : Nat → List Value → jw_H → jw_Q → Prop) (bud : Nat → Nat × Nat) (lim : Nat × Nat) (res : jw_R) (st : List Value) (h : jw_H) (f : List Value → jw_H → Prop) : Prop :=
  match st.drop res.2.1 with
  | .ref b :: r => (match h.1[b]? with
    | none => bif b == jw_str && (Nat.blt res.2.1 st.length && (Nat.ble (jw_cat r) 8 && (res.1 == 100000 || res.1 == 100001))) then C res.1 (.ref b :: (st.take res.2.1).reverse) h (fun v h' => f (v.toList ++ r) h') else False
    | some _ => jw_call C bud lim res st h f)
  | _ => False
def jw_callS (C : Nat → List Value → jw_H → jw_Q → Prop) (bud : Nat → Nat × Nat) (lim : Nat × Nat) (res : jw_R) (st : List Value) (h : jw_H) (f : List Value → jw_H → Prop) : Prop :=
  match jw_find 0 res.2.2 with
  | some mid => bif Nat.ble res.2.1 st.length && (Nat.ble (jw_cat (st.drop res.2.1)) 8 && ((bud mid == (0, 0)) || (Nat.ble (h.1.length + (bud mid).1) lim.1 && Nat.ble (jw_sz h.1 + (bud mid).2) lim.2))) then C mid (st.take res.2.1).reverse h (fun v h' => f (v.toList ++ st.drop res.2.1) h') else False
  | none => False
/-- System.arraycopy of ints -/
def jw_copy (h : jw_H) (st : List Value) (f : List Value → jw_H → Prop) : Prop := match st with
  | .int n :: .int dp :: .ref a :: .int sp :: .ref a0 :: r => (match h.1[a]?, h.1[a0]? with
    | some (.inr (0, n1, _)), some (.inr (0, n0, _)) => (¬ sp < 0 ∧ ¬ dp < 0 ∧ ¬ n < 0 ∧ sp.toNatClampNeg + n.toNatClampNeg ≤ n0 ∧ dp.toNatClampNeg + n.toNatClampNeg ≤ n1) ∧ (bif Nat.ble (jw_cat r) 8 then f r (h.1, jw_lay h.2.1 a (va_cpy (h.2.1 a0) (h.2.1 a) sp.toNatClampNeg dp.toNatClampNeg n.toNatClampNeg), h.2.2) else False)
    | _, _ => False)
  | _ => False
/-- one instruction: what must hold that the machine comes to Q; K: the rest -/
def jw_step (kd : Nat → List jw_K) (C : Nat → List Value → jw_H → jw_Q → Prop) (bud : Nat → Nat × Nat) (lim : Nat × Nat) (ret : Option FieldType) (q : jw_I) (L : jw_L) (st : List Value) (h : jw_H) (Q : jw_Q) (K : Nat → jw_L → List Value → jw_H → Prop) : Prop :=
  match q.2.1 with
  | .iconst i => K (q.1 + 1) L (.int (Int32.ofInt i) :: st) h
  | .bipush i => K (q.1 + 2) L (.int (Int8.ofInt i).toInt32 :: st) h
  | .sipush i => K (q.1 + 3) L (.int (Int16.ofInt i).toInt32 :: st) h
  | .lconst i => K (q.1 + 1) L (.long (Int64.ofNat (i : Nat)) :: st) h
  | .ldc _ => match q.2.2.2.2.2 with
    | [(v, _)] => bif q.2.2.2.1 == 0 then K (q.1 + 2) L (.int (Int32.ofInt v) :: st) h else K (q.1 + 2) L (.ref jw_str :: st) h
    | _ => False
  | .ldc_w _ => match q.2.2.2.2.2 with
    | [(v, _)] => K (q.1 + 3) L (.int (Int32.ofInt v) :: st) h
    | _ => False
  | .ldc2_w _ => match q.2.2.2.2.2 with
    | [(v, _)] => K (q.1 + 3) L (.long (Int64.ofInt v) :: st) h
    | _ => False
  | .iload_n k => jw_ldi L k fun x => K (q.1 + 1) L (.int x :: st) h
  | .iload k => jw_ldi L k fun x => K (q.1 + 2) L (.int x :: st) h
  | .lload_n k => jw_ldl L k fun x => K (q.1 + 1) L (.long x :: st) h
  | .lload k => jw_ldl L k fun x => K (q.1 + 2) L (.long x :: st) h
  | .aload_n k => jw_lda L k fun x => K (q.1 + 1) L (.ref x :: st) h
  | .aload k => jw_lda L k fun x => K (q.1 + 2) L (.ref x :: st) h
  | .istore_n k => jw_i1 st fun x r => jw_sto L k (.int x) fun L => K (q.1 + 1) L r h
  | .istore k => jw_i1 st fun x r => jw_sto L k (.int x) fun L => K (q.1 + 2) L r h
  | .lstore_n k => jw_l1 st fun x r => jw_stl L k x fun L => K (q.1 + 1) L r h
  | .lstore k => jw_l1 st fun x r => jw_stl L k x fun L => K (q.1 + 2) L r h
  | .astore_n k => jw_r1 st fun x r => jw_sto L k (.ref x) fun L => K (q.1 + 1) L r h
  | .astore k => jw_r1 st fun x r => jw_sto L k (.ref x) fun L => K (q.1 + 2) L r h
  | .iinc k n => jw_ldi L k fun x => jw_sto L k (.int (x + Int32.ofInt n)) fun L => K (q.1 + 3) L st h
  | .iadd => jw_i2 st fun x y r => K (q.1 + 1) L (.int (x + y) :: r) h
  | .isub => jw_i2 st fun x y r => K (q.1 + 1) L (.int (x - y) :: r) h
  | .imul => jw_i2 st fun x y r => K (q.1 + 1) L (.int (x * y) :: r) h
  | .iand => jw_i2 st fun x y r => K (q.1 + 1) L (.int (x &&& y) :: r) h
  | .ior => jw_i2 st fun x y r => K (q.1 + 1) L (.int (x ||| y) :: r) h
  | .ixor => jw_i2 st fun x y r => K (q.1 + 1) L (.int (x ^^^ y) :: r) h
  | .idiv => jw_i2 st fun x y r => ¬ y = 0 ∧ K (q.1 + 1) L (.int (x / y) :: r) h
  | .irem => jw_i2 st fun x y r => ¬ y = 0 ∧ K (q.1 + 1) L (.int (x - x / y * y) :: r) h
  | .ishl => jw_i2 st fun x y r => K (q.1 + 1) L (.int (x <<< (y &&& 31)) :: r) h
  | .ishr => jw_i2 st fun x y r => K (q.1 + 1) L (.int (x >>> (y &&& 31)) :: r) h
  | .iushr => jw_i2 st fun x y r => K (q.1 + 1) L (.int (x.toUInt32 >>> (y.toUInt32 &&& Int32.toUInt32 31)).toInt32 :: r) h
  | .ineg => jw_i1 st fun x r => K (q.1 + 1) L (.int (-x) :: r) h
  | .ladd => jw_l2 st fun x y r => K (q.1 + 1) L (.long (x + y) :: r) h
  | .lsub => jw_l2 st fun x y r => K (q.1 + 1) L (.long (x - y) :: r) h
  | .lmul => jw_l2 st fun x y r => K (q.1 + 1) L (.long (x * y) :: r) h
  | .land => jw_l2 st fun x y r => K (q.1 + 1) L (.long (x &&& y) :: r) h
  | .lor => jw_l2 st fun x y r => K (q.1 + 1) L (.long (x ||| y) :: r) h
  | .lshl => jw_li st fun x y r => K (q.1 + 1) L (.long (x <<< (y.toInt64 &&& 63)) :: r) h
  | .lshr => jw_li st fun x y r => K (q.1 + 1) L (.long (x >>> (y.toInt64 &&& 63)) :: r) h
  | .lcmp => jw_l2 st fun x y r => K (q.1 + 1) L (.int (lg_cmp x y) :: r) h
  | .i2l => jw_i1 st fun x r => K (q.1 + 1) L (.long x.toInt64 :: r) h
  | .l2i => jw_l1 st fun x r => K (q.1 + 1) L (.int x.toInt32 :: r) h
  | .i2b => jw_i1 st fun x r => K (q.1 + 1) L (.int x.toInt8.toInt32 :: r) h
  | .i2s => jw_i1 st fun x r => K (q.1 + 1) L (.int x.toInt16.toInt32 :: r) h
  | .dup => match st with
    | .int x :: r => K (q.1 + 1) L (.int x :: .int x :: r) h
    | .ref x :: r => K (q.1 + 1) L (.ref x :: .ref x :: r) h
    | _ => False
  | .dup_x1 => match st with
    | .int x :: .ref y :: r => K (q.1 + 1) L (.int x :: .ref y :: .int x :: r) h
    | .int x :: .int y :: r => K (q.1 + 1) L (.int x :: .int y :: .int x :: r) h
    | _ => False
  | .dup2 => match st with
    | .int x :: .ref y :: r => K (q.1 + 1) L (.int x :: .ref y :: .int x :: .ref y :: r) h
    | _ => False
  | .pop => match st with
    | .int _ :: r => K (q.1 + 1) L r h
    | .ref _ :: r => K (q.1 + 1) L r h
    | _ => False
  | .goto _ => K q.2.2.2.1 L st h
  | .ifCond .eq _ => jw_i1 st fun x r => (x = 0 → K q.2.2.2.1 L r h) ∧ (¬ x = 0 → K (q.1 + 3) L r h)
  | .ifCond .ne _ => jw_i1 st fun x r => (¬ x = 0 → K q.2.2.2.1 L r h) ∧ (x = 0 → K (q.1 + 3) L r h)
  | .ifCond .lt _ => jw_i1 st fun x r => (x < 0 → K q.2.2.2.1 L r h) ∧ (¬ x < 0 → K (q.1 + 3) L r h)
  | .ifCond .ge _ => jw_i1 st fun x r => (0 ≤ x → K q.2.2.2.1 L r h) ∧ (¬ 0 ≤ x → K (q.1 + 3) L r h)
  | .ifCond .gt _ => jw_i1 st fun x r => (0 < x → K q.2.2.2.1 L r h) ∧ (¬ 0 < x → K (q.1 + 3) L r h)
  | .ifCond .le _ => jw_i1 st fun x r => (x ≤ 0 → K q.2.2.2.1 L r h) ∧ (¬ x ≤ 0 → K (q.1 + 3) L r h)
  | .if_icmp .eq _ => jw_i2 st fun x y r => (x = y → K q.2.2.2.1 L r h) ∧ (¬ x = y → K (q.1 + 3) L r h)
  | .if_icmp .ne _ => jw_i2 st fun x y r => (¬ x = y → K q.2.2.2.1 L r h) ∧ (x = y → K (q.1 + 3) L r h)
  | .if_icmp .lt _ => jw_i2 st fun x y r => (x < y → K q.2.2.2.1 L r h) ∧ (¬ x < y → K (q.1 + 3) L r h)
  | .if_icmp .ge _ => jw_i2 st fun x y r => (y ≤ x → K q.2.2.2.1 L r h) ∧ (¬ y ≤ x → K (q.1 + 3) L r h)
  | .if_icmp .gt _ => jw_i2 st fun x y r => (y < x → K q.2.2.2.1 L r h) ∧ (¬ y < x → K (q.1 + 3) L r h)
  | .if_icmp .le _ => jw_i2 st fun x y r => (x ≤ y → K q.2.2.2.1 L r h) ∧ (¬ x ≤ y → K (q.1 + 3) L r h)
  | .tableswitch _ _ _ _ => jw_i1 st fun x r => jw_swt x q.2.2.2.2.2 q.2.2.2.1 fun t => K t L r h
  | .lookupswitch _ _ => jw_i1 st fun x r => jw_swt x q.2.2.2.2.2 q.2.2.2.1 fun t => K t L r h
  | .getfield _ => jw_r1 st fun i r => jw_get h q.2.2.2.1 q.2.2.2.2.1 i fun v => K (q.1 + 3) L (v :: r) h
  | .putfield _ => jw_put h q.2.2.2.1 q.2.2.2.2.1 q.2.2.2.2.2 st fun r h => K (q.1 + 3) L r h
  | .getstatic _ => K (q.1 + 3) L (.ref jw_self :: st) h
  | .iaload => jw_ix st fun i a r => jw_iald h i a fun x => K (q.1 + 1) L (.int x :: r) h
  | .laload => jw_ix st fun i a r => jw_lald h i a fun x => K (q.1 + 1) L (.long x :: r) h
  | .aaload => jw_ix st fun i a r => jw_aald h i a fun v => K (q.1 + 1) L (v :: r) h
  | .iastore => jw_iast h st fun r h => K (q.1 + 1) L r h
  | .lastore => jw_last h st fun r h => K (q.1 + 1) L r h
  | .aastore => jw_aast h st fun r h => K (q.1 + 1) L r h
  | .arraylength => jw_r1 st fun a r => jw_alen h a fun x => K (q.1 + 1) L (.int x :: r) h
  | .new _ => jw_new h lim q.2.2.2.1 (kd q.2.2.2.1) fun a h => K (q.1 + 3) L (.ref a :: st) h
  | .newarray _ => jw_i1 st fun x r => ¬ x < 0 ∧ jw_newa h lim q.2.2.2.1 x.toNatClampNeg fun a h => K (q.1 + 2) L (.ref a :: r) h
  | .anewarray _ => jw_i1 st fun x r => ¬ x < 0 ∧ jw_newa h lim q.2.2.2.1 x.toNatClampNeg fun a h => K (q.1 + 3) L (.ref a :: r) h
  | .multianewarray _ _ => match st with
    | .int k :: .int n :: r => ¬ n < 0 ∧ ¬ k < 0 ∧ jw_mna h lim n.toNatClampNeg k.toNatClampNeg fun a h => K (q.1 + 4) L (.ref a :: r) h
    | _ => False
  | .invokevirtual _ => jw_callV C bud lim q.2.2.2 st h fun st h => K (q.1 + 3) L st h
  | .invokespecial _ => bif q.2.2.2.1 == 7 then jw_r1 st fun _ r => (bif Nat.ble (jw_cat r) 8 then K (q.1 + 3) L r h else False) else jw_call C bud lim q.2.2.2 st h fun st h => K (q.1 + 3) L st h
  | .invokestatic _ => bif q.2.2.2.1 == 8 then jw_copy h st fun r h => K (q.1 + 3) L r h else jw_callS C bud lim q.2.2.2 st h fun st h => K (q.1 + 3) L st h
  | .ireturn => match st with
    | [.int x] => jw_ok ret x (Q (some (.int x)) h)
    | _ => False
  | .lreturn => match st with
    | [.long x] => (bif ret == some .long then Q (some (.long x)) h else False)
    | _ => False
  | .areturn => match st with
    | [.ref x] => (match ret with | some (.object _) => Q (some (.ref x)) h | _ => False)
    | _ => False
  | .return_ => match st with
    | [] => (bif ret == none then Q none h else False)
    | _ => False
  | _ => False
def jw_at (pc : Nat) : List jw_I → Option jw_I
  | [] => none
  | q :: l => bif q.1 == pc then some q else jw_at pc l
/-- n instructions at most -/
def jw_wp (kd : Nat → List jw_K) (C : Nat → List Value → jw_H → jw_Q → Prop) (bud : Nat → Nat × Nat) (lim : Nat × Nat) (ret : Option FieldType) (cs : List jw_I) (Q : jw_Q) : Nat → Nat → jw_L → List Value → jw_H → Prop
  | 0, _, _, _, _ => False
  | n + 1, pc, L, st, h => match jw_at pc cs with
    | some q => jw_step kd C bud lim ret q L st h Q (jw_wp kd C bud lim ret cs Q n)
    | none => False
def jw_args : List Value → jw_L
  | [] => []
  | .long x :: l => some (.long x) :: none :: jw_args l
  | v :: l => some v :: jw_args l
def jw_entry (as : List Value) (nL : Nat) : jw_L := jw_args as ++ List.replicate (nL - (jw_args as).length) none
def jw_bud (ys : List jw_Y) (mid : Nat) : Nat × Nat := match ys[mid]? with
  | some y => y.2.2.2.2.1
  | none => (0, 0)
def jw_nod : List Value → Bool
  | [] => true
  | .double _ :: _ => false
  | .retAddr _ :: _ => false
  | _ :: l => jw_nod l
/-- a method, called with so many frames left below it -/
def jw_C (kd : Nat → List jw_K) (ys : List jw_Y) : Nat → Nat → List Value → jw_H → jw_Q → Prop
  | 0, _, _, _, _ => False
  | d + 1, mid, as, h, Q => match ys[mid]? with
    | some y => bif Nat.ble (jw_args as).length y.2.2.1 && jw_nod as then ∃ n, jw_wp kd (jw_C kd ys d) (jw_bud ys) (h.1.length + y.2.2.2.2.1.1, jw_sz h.1 + y.2.2.2.2.1.2) y.2.2.2.1 y.2.2.2.2.2 (fun v h' => Q v h' ∧ h'.1.length = h.1.length + y.2.2.2.2.1.1 ∧ jw_sz h'.1 = jw_sz h.1 + y.2.2.2.2.1.2) n 0 (jw_entry as y.2.2.1) [] h else False
    | none => (mid = 100000 ∧ 4 ≤ d ∧ as = [.ref jw_str] ∧ Q (some (.int 103)) h) ∨ (mid = 100001 ∧ 4 ≤ d ∧ ∃ i, as = [.ref jw_str, .int i] ∧ vp_in i 103 ∧ Q (some (.int (jw_chr i))) h)
