/-! ===== constructors: the abstract machine run as a function (straight code) ===== -/
abbrev jr_T : Type := (Nat × jw_L × List Value × jw_H) ⊕ (Option Value × jw_H)
def jr_put (h : jw_H) (ci k : Nat) (code : List (Int × Nat)) (st : List Value) : Option (List Value × jw_H) := match code, st with
  | [(_, 0)], .int x :: .ref i :: r => (match h.1[i]? with
    | some (.inl (cj, ks)) => (match cj == ci, ks[k]? with
      | true, some (.inl 0) => some (r, (h.1, jw_up h.2.1 i k x, h.2.2))
      | _, _ => none)
    | _ => none)
  | [(_, 3)], .ref j :: .ref i :: r => (match h.1[i]? with
    | some (.inl (cj, ks)) => (match cj == ci, ks[k]? with
      | true, some (.inr _) => some (r, (h.1.set i (.inl (cj, ks.set k (.inr (some j)))), h.2))
      | _, _ => none)
    | _ => none)
  | _, _ => none
theorem jr_put_ok {h : jw_H} {ci k : Nat} {code : List (Int × Nat)} {st r : List Value} {h' : jw_H} {f : List Value → jw_H → Prop} (e : jr_put h ci k code st = some (r, h')) (hf : f r h') : jw_put h ci k code st f := by
  unfold jr_put at e
  split at e
  · rename_i z x i r0
    split at e
    · rename_i cj ks hsh
      split at e
      · rename_i hb hk
        cases e
        show (match h.1[i]? with
          | some (.inl (cj, ks)) => bif cj == ci then (match ks[k]? with
            | some (.inl 0) => f r (h.1, jw_up h.2.1 i k x, h.2.2)
            | _ => False) else False
          | _ => False)
        rw [hsh]
        dsimp only
        rw [hb, hk]
        exact hf
      · cases e
    · cases e
  · rename_i z j i r0
    split at e
    · rename_i cj ks hsh
      split at e
      · rename_i o hb hk
        cases e
        show (match h.1[i]? with
          | some (.inl (cj, ks)) => bif cj == ci then (match ks[k]? with
            | some (.inr _) => f r (h.1.set i (.inl (cj, ks.set k (.inr (some j)))), h.2)
            | _ => False) else False
          | _ => False)
        rw [hsh]
        dsimp only
        rw [hb, hk]
        exact hf
      · cases e
    · cases e
  · cases e
def jr_get (h : jw_H) (ci k i : Nat) : Option Value := match h.1[i]? with
  | some (.inl (cj, ks)) => (match cj == ci, ks[k]? with
    | true, some (.inr o) => some (va_rf o)
    | _, _ => none)
  | _ => none
theorem jr_get_ok {h : jw_H} {ci k i : Nat} {v : Value} {f : Value → Prop} (e : jr_get h ci k i = some v) (hf : f v) : jw_get h ci k i f := by
  unfold jr_get at e
  split at e
  · rename_i cj ks hsh
    split at e
    · rename_i o hb hk
      cases e
      unfold jw_get
      rw [hsh]
      dsimp only
      rw [hb, hk]
      exact hf
    · cases e
  · cases e
def jr_in (i : Int32) (n : Nat) : Bool := decide (¬ (i < 0 ∨ n ≤ i.toNatClampNeg))
theorem jr_in_ok {i : Int32} {n : Nat} (h : jr_in i n = true) : vp_in i n := by
  unfold vp_in
  exact of_decide_eq_true h
def jr_iast (h : jw_H) (st : List Value) : Option (List Value × jw_H) := match st with
  | .int x :: .int i :: .ref a :: r => (match h.1[a]? with
    | some (.inr (0, n, _)) => bif jr_in i n then some (r, (h.1, jw_up h.2.1 a i.toNatClampNeg x, h.2.2)) else none
    | _ => none)
  | _ => none
theorem jr_iast_ok {h : jw_H} {st r : List Value} {h' : jw_H} {f : List Value → jw_H → Prop} (e : jr_iast h st = some (r, h')) (hf : f r h') : jw_iast h st f := by
  unfold jr_iast at e
  split at e
  · rename_i x i a r0
    split at e
    · rename_i n rs hsh
      cases hi : jr_in i n with
      | false => rw [hi] at e; cases e
      | true =>
        rw [hi] at e
        cases e
        unfold jw_iast
        dsimp only
        rw [hsh]
        exact ⟨jr_in_ok hi, hf⟩
    · cases e
  · cases e
def jr_aast (h : jw_H) (st : List Value) : Option (List Value × jw_H) := match st with
  | .ref j :: .int i :: .ref a :: r => (match h.1[a]?, h.1[j]? with
    | some (.inr (t + 2, n, rs)), some (.inl (cj, _)) => bif jr_in i n && (((t == 0 && cj == 6) || (t == 1 && (cj == 0 || cj == 1 || cj == 2 || cj == 4 || cj == 10 || cj == 11))) && Nat.blt i.toNatClampNeg rs.length) then some (r, (h.1.set a (.inr (t + 2, n, rs.set i.toNatClampNeg (some j))), h.2)) else none
    | _, _ => none)
  | _ => none
theorem jr_aast_ok {h : jw_H} {st r : List Value} {h' : jw_H} {f : List Value → jw_H → Prop} (e : jr_aast h st = some (r, h')) (hf : f r h') : jw_aast h st f := by
  unfold jr_aast at e
  split at e
  · rename_i j i a r0
    split at e
    · rename_i t n rs cj ks ha hj
      cases hi : (jr_in i n && (((t == 0 && cj == 6) || (t == 1 && (cj == 0 || cj == 1 || cj == 2 || cj == 4 || cj == 10 || cj == 11))) && Nat.blt i.toNatClampNeg rs.length)) with
      | false => rw [hi] at e; cases e
      | true =>
        rw [hi] at e
        cases e
        rw [Bool.and_eq_true] at hi
        unfold jw_aast
        dsimp only
        rw [ha, hj]
        dsimp only
        rw [hi.2]
        exact ⟨jr_in_ok hi.1, hf⟩
    · cases e
  · cases e
def jr_new (h : jw_H) (lim : Nat × Nat) (ci : Nat) (ks : List jw_K) : Option (Nat × jw_H) :=
  bif Nat.ble (h.1.length + 1) lim.1 && Nat.ble (jw_sz h.1 + ks.length) lim.2 then some (h.1.length, (h.1 ++ [.inl (ci, ks)], jw_lay h.2.1 h.1.length (fun _ => 0), jw_lay h.2.2 h.1.length (fun _ => 0))) else none
theorem jr_new_ok {h : jw_H} {lim : Nat × Nat} {ci : Nat} {ks : List jw_K} {a : Nat} {h' : jw_H} {f : Nat → jw_H → Prop} (e : jr_new h lim ci ks = some (a, h')) (hf : f a h') : jw_new h lim ci ks f := by
  unfold jr_new at e
  unfold jw_new
  cases hb : (Nat.ble (h.1.length + 1) lim.1 && Nat.ble (jw_sz h.1 + ks.length) lim.2) with
  | false => rw [hb] at e; cases e
  | true => rw [hb] at e; cases e; exact hf
def jr_newa (h : jw_H) (lim : Nat × Nat) (t n : Nat) : Option (Nat × jw_H) :=
  bif Nat.ble (h.1.length + 1) lim.1 && (Nat.ble (jw_sz h.1 + n) lim.2 && Nat.ble n 100000) then some (h.1.length, (h.1 ++ [.inr (t, n, bif Nat.blt t 2 then [] else List.replicate n none)], jw_lay h.2.1 h.1.length (fun _ => 0), jw_lay h.2.2 h.1.length (fun _ => 0))) else none
theorem jr_newa_ok {h : jw_H} {lim : Nat × Nat} {t n : Nat} {a : Nat} {h' : jw_H} {f : Nat → jw_H → Prop} (e : jr_newa h lim t n = some (a, h')) (hf : f a h') : jw_newa h lim t n f := by
  unfold jr_newa at e
  unfold jw_newa
  cases hb : (Nat.ble (h.1.length + 1) lim.1 && (Nat.ble (jw_sz h.1 + n) lim.2 && Nat.ble n 100000)) with
  | false => rw [hb] at e; cases e
  | true => rw [hb] at e; cases e; exact hf
def jr_mna (h : jw_H) (lim : Nat × Nat) (n k : Nat) : Option (Nat × jw_H) :=
  bif Nat.ble (h.1.length + (1 + n)) lim.1 && (Nat.ble (jw_sz h.1 + (n + n * k)) lim.2 && (Nat.ble n 1000 && Nat.ble k 1000)) then some (h.1.length, (h.1 ++ (.inr (4, n, (List.range n).map (fun i => some (h.1.length + 1 + i))) :: List.replicate n (.inr (0, k, []))), jw_zero 0 h.2.1 h.1.length, jw_zero 0 h.2.2 h.1.length)) else none
theorem jr_mna_ok {h : jw_H} {lim : Nat × Nat} {n k : Nat} {a : Nat} {h' : jw_H} {f : Nat → jw_H → Prop} (e : jr_mna h lim n k = some (a, h')) (hf : f a h') : jw_mna h lim n k f := by
  unfold jr_mna at e
  unfold jw_mna
  cases hb : (Nat.ble (h.1.length + (1 + n)) lim.1 && (Nat.ble (jw_sz h.1 + (n + n * k)) lim.2 && (Nat.ble n 1000 && Nat.ble k 1000))) with
  | false => rw [hb] at e; cases e
  | true => rw [hb] at e; cases e; exact hf
def jr_call (C : Nat → List Value → jw_H → Option (Option Value × jw_H)) (bud : Nat → Nat × Nat) (lim : Nat × Nat) (res : jw_R) (st : List Value) (h : jw_H) : Option (List Value × jw_H) :=
  match st.drop res.2.1 with
  | .ref b :: r => (match h.1[b]? with
    | some (.inl (ci, _)) => (match jw_find ci res.2.2 with
      | some mid => bif Nat.blt res.2.1 st.length && (Nat.ble (jw_cat r) 8 && ((bud mid == (0, 0)) || (Nat.ble (h.1.length + (bud mid).1) lim.1 && Nat.ble (jw_sz h.1 + (bud mid).2) lim.2))) then (match C mid (.ref b :: (st.take res.2.1).reverse) h with
        | some (v, h') => some (v.toList ++ r, h')
        | none => none) else none
      | none => none)
    | _ => none)
  | _ => none
theorem jr_call_ok {C : Nat → List Value → jw_H → Option (Option Value × jw_H)} {C' : Nat → List Value → jw_H → jw_Q → Prop} (hC : ∀ mid as h v h', C mid as h = some (v, h') → ∀ Q : jw_Q, Q v h' → C' mid as h Q) {bud : Nat → Nat × Nat} {lim : Nat × Nat} {res : jw_R} {st r : List Value} {h h' : jw_H} {f : List Value → jw_H → Prop} (e : jr_call C bud lim res st h = some (r, h')) (hf : f r h') : jw_call C' bud lim res st h f := by
  unfold jr_call at e
  split at e
  · rename_i b r0 hdr
    split at e
    · rename_i ci ks hsh
      split at e
      · rename_i mid hm
        cases hb : (Nat.blt res.2.1 st.length && (Nat.ble (jw_cat r0) 8 && ((bud mid == (0, 0)) || (Nat.ble (h.1.length + (bud mid).1) lim.1 && Nat.ble (jw_sz h.1 + (bud mid).2) lim.2)))) with
        | false => rw [hb] at e; cases e
        | true =>
          rw [hb, cond_true] at e
          split at e
          · rename_i v h1 hv
            cases e
            unfold jw_call
            rw [hdr]
            dsimp only
            rw [hsh]
            dsimp only
            rw [hm]
            dsimp only
            rw [hb]
            exact hC _ _ _ _ _ hv _ hf
          · cases e
      · cases e
    · cases e
  · cases e
def jr_step (kd : Nat → List jw_K) (C : Nat → List Value → jw_H → Option (Option Value × jw_H)) (bud : Nat → Nat × Nat) (lim : Nat × Nat) (ret : Option FieldType) (q : jw_I) (L : jw_L) (st : List Value) (h : jw_H) : Option jr_T :=
  match q.2.1 with
  | .iconst i => some (.inl (q.1 + 1, L, .int (Int32.ofInt i) :: st, h))
  | .bipush i => some (.inl (q.1 + 2, L, .int (Int8.ofInt i).toInt32 :: st, h))
  | .sipush i => some (.inl (q.1 + 3, L, .int (Int16.ofInt i).toInt32 :: st, h))
  | .aload_n k => (match L[(k : Nat)]? with
    | some (some (.ref x)) => some (.inl (q.1 + 1, L, .ref x :: st, h))
    | _ => none)
  | .dup => (match st with
    | .ref x :: r => some (.inl (q.1 + 1, L, .ref x :: .ref x :: r, h))
    | _ => none)
  | .getfield _ => (match st with
    | .ref i :: r => (match jr_get h q.2.2.2.1 q.2.2.2.2.1 i with
      | some v => some (.inl (q.1 + 3, L, v :: r, h))
      | none => none)
    | _ => none)
  | .putfield _ => (match jr_put h q.2.2.2.1 q.2.2.2.2.1 q.2.2.2.2.2 st with
    | some (r, h') => some (.inl (q.1 + 3, L, r, h'))
    | none => none)
  | .iastore => (match jr_iast h st with
    | some (r, h') => some (.inl (q.1 + 1, L, r, h'))
    | none => none)
  | .aastore => (match jr_aast h st with
    | some (r, h') => some (.inl (q.1 + 1, L, r, h'))
    | none => none)
  | .new _ => (match jr_new h lim q.2.2.2.1 (kd q.2.2.2.1) with
    | some (a, h') => some (.inl (q.1 + 3, L, .ref a :: st, h'))
    | none => none)
  | .newarray _ => (match st with
    | .int x :: r => bif decide (¬ x < 0) then (match jr_newa h lim q.2.2.2.1 x.toNatClampNeg with
      | some (a, h') => some (.inl (q.1 + 2, L, .ref a :: r, h'))
      | none => none) else none
    | _ => none)
  | .anewarray _ => (match st with
    | .int x :: r => bif decide (¬ x < 0) then (match jr_newa h lim q.2.2.2.1 x.toNatClampNeg with
      | some (a, h') => some (.inl (q.1 + 3, L, .ref a :: r, h'))
      | none => none) else none
    | _ => none)
  | .multianewarray _ _ => (match st with
    | .int k :: .int n :: r => bif decide (¬ n < 0) && decide (¬ k < 0) then (match jr_mna h lim n.toNatClampNeg k.toNatClampNeg with
      | some (a, h') => some (.inl (q.1 + 4, L, .ref a :: r, h'))
      | none => none) else none
    | _ => none)
  | .invokespecial _ => bif q.2.2.2.1 == 7 then (match st with
      | .ref _ :: r => bif Nat.ble (jw_cat r) 8 then some (.inl (q.1 + 3, L, r, h)) else none
      | _ => none)
    else (match jr_call C bud lim q.2.2.2 st h with
      | some (r, h') => some (.inl (q.1 + 3, L, r, h'))
      | none => none)
  | .return_ => (match st with
    | [] => bif ret == none then some (.inr (none, h)) else none
    | _ => none)
  | _ => none
def jr_post (Q : jw_Q) (K : Nat → jw_L → List Value → jw_H → Prop) : jr_T → Prop
  | .inl (pc, L, st, h) => K pc L st h
  | .inr (v, h) => Q v h
set_option maxHeartbeats 2000000 in
theorem jr_step_ok {kd : Nat → List jw_K} {C : Nat → List Value → jw_H → Option (Option Value × jw_H)} {C' : Nat → List Value → jw_H → jw_Q → Prop} (hC : ∀ mid as h v h', C mid as h = some (v, h') → ∀ Q : jw_Q, Q v h' → C' mid as h Q) {bud : Nat → Nat × Nat} {lim : Nat × Nat} {ret : Option FieldType} {q : jw_I} {L : jw_L} {st : List Value} {h : jw_H} {Q : jw_Q} {K : Nat → jw_L → List Value → jw_H → Prop} {r : jr_T} (e : jr_step kd C bud lim ret q L st h = some r) (hr : jr_post Q K r) : jw_step kd C' bud lim ret q L st h Q K := by
  obtain ⟨pc, ins, len, res⟩ := q
  cases ins <;> first | (have e2 : (none : Option jr_T) = some r := e; cases e2; done) | skip
  case iconst i => cases e; exact hr
  case bipush i => cases e; exact hr
  case sipush i => cases e; exact hr
  case aload_n k =>
    unfold jr_step at e
    dsimp only at e
    split at e
    · rename_i x hx
      cases e
      show jw_lda L k _
      unfold jw_lda
      rw [hx]
      exact hr
    · cases e
  case dup =>
    unfold jr_step at e
    dsimp only at e
    split at e
    · cases e; exact hr
    · cases e
  case getfield idx =>
    unfold jr_step at e
    dsimp only at e
    split at e
    · rename_i i r0
      split at e
      · rename_i v hv
        cases e
        exact jr_get_ok (f := fun v => K (pc + 3) L (v :: r0) h) hv hr
      · cases e
    · cases e
  case putfield idx =>
    unfold jr_step at e
    dsimp only at e
    split at e
    · rename_i r0 h0 hv
      cases e
      exact jr_put_ok hv hr
    · cases e
  case iastore =>
    unfold jr_step at e
    dsimp only at e
    split at e
    · rename_i r0 h0 hv
      cases e
      exact jr_iast_ok hv hr
    · cases e
  case aastore =>
    unfold jr_step at e
    dsimp only at e
    split at e
    · rename_i r0 h0 hv
      cases e
      exact jr_aast_ok hv hr
    · cases e
  case new idx =>
    unfold jr_step at e
    dsimp only at e
    split at e
    · rename_i r0 h0 hv
      cases e
      exact jr_new_ok (f := fun a h' => K (pc + 3) L (.ref a :: st) h') hv hr
    · cases e
  case newarray a =>
    unfold jr_step at e
    dsimp only at e
    split at e
    · rename_i x r0
      cases hb : decide (¬ x < 0) with
      | false => rw [hb] at e; cases e
      | true =>
        rw [hb, cond_true] at e
        split at e
        · rename_i a0 h0 hv
          cases e
          exact And.intro (of_decide_eq_true hb) (jr_newa_ok hv hr)
        · cases e
    · cases e
  case anewarray a =>
    unfold jr_step at e
    dsimp only at e
    split at e
    · rename_i x r0
      cases hb : decide (¬ x < 0) with
      | false => rw [hb] at e; cases e
      | true =>
        rw [hb, cond_true] at e
        split at e
        · rename_i a0 h0 hv
          cases e
          exact And.intro (of_decide_eq_true hb) (jr_newa_ok hv hr)
        · cases e
    · cases e
  case multianewarray a b =>
    unfold jr_step at e
    dsimp only at e
    split at e
    · rename_i k n r0
      cases hb : (decide (¬ n < 0) && decide (¬ k < 0)) with
      | false => rw [hb] at e; cases e
      | true =>
        rw [hb, cond_true] at e
        rw [Bool.and_eq_true] at hb
        split at e
        · rename_i a0 h0 hv
          cases e
          exact And.intro (of_decide_eq_true hb.1) (And.intro (of_decide_eq_true hb.2) (jr_mna_ok hv hr))
        · cases e
    · cases e
  case invokespecial idx =>
    unfold jr_step at e
    dsimp only at e
    show bif res.1 == 7 then jw_r1 st fun _ r => (bif Nat.ble (jw_cat r) 8 then K (pc + 3) L r h else False) else jw_call C' bud lim res st h fun st h => K (pc + 3) L st h
    cases h7 : (res.1 == 7) with
    | true =>
      rw [h7, cond_true] at e
      split at e
      · rename_i x r0
        cases hb : Nat.ble (jw_cat r0) 8 with
        | false => rw [hb] at e; cases e
        | true =>
          rw [hb, cond_true] at e
          cases e
          show bif Nat.ble (jw_cat r0) 8 then K (pc + 3) L r0 h else False
          rw [hb]
          exact hr
      · cases e
    | false =>
      rw [h7, cond_false] at e
      split at e
      · rename_i r0 h0 hv
        cases e
        exact jr_call_ok hC hv hr
      · cases e
  case return_ =>
    unfold jr_step at e
    dsimp only at e
    split at e
    · cases hb : (ret == none) with
      | false => rw [hb] at e; cases e
      | true =>
        rw [hb, cond_true] at e
        cases e
        show bif ret == none then Q none h else False
        rw [hb]
        exact hr
    · cases e
def jr_wp (kd : Nat → List jw_K) (C : Nat → List Value → jw_H → Option (Option Value × jw_H)) (bud : Nat → Nat × Nat) (lim : Nat × Nat) (ret : Option FieldType) (cs : List jw_I) : Nat → Nat → jw_L → List Value → jw_H → Option (Option Value × jw_H)
  | 0, _, _, _, _ => none
  | n + 1, pc, L, st, h => match jw_at pc cs with
    | some q => (match jr_step kd C bud lim ret q L st h with
      | some (.inl (pc', L', st', h')) => jr_wp kd C bud lim ret cs n pc' L' st' h'
      | some (.inr r) => some r
      | none => none)
    | none => none
theorem jr_wp_ok {kd : Nat → List jw_K} {C : Nat → List Value → jw_H → Option (Option Value × jw_H)} {C' : Nat → List Value → jw_H → jw_Q → Prop} (hC : ∀ mid as h v h', C mid as h = some (v, h') → ∀ Q : jw_Q, Q v h' → C' mid as h Q) {bud : Nat → Nat × Nat} {lim : Nat × Nat} {ret : Option FieldType} {cs : List jw_I} {Q : jw_Q} {v : Option Value} {hz : jw_H} (hQ : Q v hz) : ∀ (n pc : Nat) (L : jw_L) (st : List Value) (h : jw_H), jr_wp kd C bud lim ret cs n pc L st h = some (v, hz) → jw_wp kd C' bud lim ret cs Q n pc L st h
  | 0, _, _, _, _, e => by cases e
  | n + 1, pc, L, st, h, e => by
    rw [jr_wp] at e
    rw [jw_wp]
    split at e
    · rename_i q hq
      rw [hq]
      dsimp only
      split at e
      · rename_i pc' L' st' h' hs
        exact jr_step_ok hC hs (jr_wp_ok hC hQ n pc' L' st' h' e)
      · rename_i r hs
        cases e
        exact jr_step_ok hC hs hQ
      · cases e
    · cases e
def jr_C (kd : Nat → List jw_K) (ys : List jw_Y) : Nat → Nat → List Value → jw_H → Option (Option Value × jw_H)
  | 0, _, _, _ => none
  | d + 1, mid, as, h => match ys[mid]? with
    | some y => bif Nat.ble (jw_args as).length y.2.2.1 && jw_nod as then (match jr_wp kd (jr_C kd ys d) (jw_bud ys) (h.1.length + y.2.2.2.2.1.1, jw_sz h.1 + y.2.2.2.2.1.2) y.2.2.2.1 y.2.2.2.2.2 200 0 (jw_entry as y.2.2.1) [] h with
      | some (v, h') => bif Nat.beq h'.1.length (h.1.length + y.2.2.2.2.1.1) && Nat.beq (jw_sz h'.1) (jw_sz h.1 + y.2.2.2.2.1.2) then some (v, h') else none
      | none => none) else none
    | none => none
theorem jr_C_ok {kd : Nat → List jw_K} {ys : List jw_Y} : ∀ (d mid : Nat) (as : List Value) (h : jw_H) (v : Option Value) (h' : jw_H), jr_C kd ys d mid as h = some (v, h') → ∀ Q : jw_Q, Q v h' → jw_C kd ys d mid as h Q
  | 0, _, _, _, _, _, e, _, _ => by cases e
  | d + 1, mid, as, h, v, h', e, Q, hQ => by
    rw [jr_C] at e
    rw [jw_C]
    split at e
    · rename_i y hy
      rw [hy]
      dsimp only
      cases hb : (Nat.ble (jw_args as).length y.2.2.1 && jw_nod as) with
      | false => rw [hb] at e; cases e
      | true =>
        rw [hb, cond_true] at e
        rw [cond_true]
        split at e
        · rename_i v1 h1 hw
          cases hc : (Nat.beq h1.1.length (h.1.length + y.2.2.2.2.1.1) && Nat.beq (jw_sz h1.1) (jw_sz h.1 + y.2.2.2.2.1.2)) with
          | false => rw [hc] at e; cases e
          | true =>
            rw [hc, cond_true] at e
            cases e
            rw [Bool.and_eq_true] at hc
            exact ⟨200, jr_wp_ok (fun mid as h v h' e Q hq => jr_C_ok d mid as h v h' e Q hq) (Q := fun v h' => Q v h' ∧ h'.1.length = h.1.length + y.2.2.2.2.1.1 ∧ jw_sz h'.1 = jw_sz h.1 + y.2.2.2.2.1.2) ⟨hQ, Nat.eq_of_beq_eq_true hc.1, Nat.eq_of_beq_eq_true hc.2⟩ _ _ _ _ _ hw⟩
        · cases e
    · cases e
