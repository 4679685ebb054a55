/-! ===== the program fits the tables ===== -/
def jp_pl (T : List Cond) : List Cond → List Nat → Bool
  | [], [] => true
  | w :: ws, i :: pl => (match T[i]? with
    | some v => decide (v = w)
    | none => false) && jp_pl T ws pl
  | _, _ => false
def jp_chkI (own nm : String) (cc : ByteArray) (q : jw_I) (pl : List Nat × List Nat) : Bool :=
  decide (decode cc q.1 = .ok (q.2.1, q.2.2.1)) && ((jw_len q.2.1 == 0 || q.2.2.1 == jw_len q.2.1) && (jw_stat q && ((jw_len q.2.1 == 1 || (jw_isS q.2.1 || (jw_isH q.2.1 || jw_isC q.2.1))) && (jp_pl lw_tbl (jw_wd own jp_cl q ++ jw_wc own jp_cl jp_ys q) pl.1 && ((jw_wd own jp_cl q ++ jw_wc own jp_cl jp_ys q).all goodWord && (jw_wf own nm jp_cl q && (jp_pl jp_Ns (jw_nc own jp_ys q) pl.2 && jw_fc jp_kd jp_cl jp_ys q)))))))
def jp_chkL (own nm : String) (cc : ByteArray) : List jw_I → List (List Nat × List Nat) → Bool
  | [], [] => true
  | q :: cs, p :: pl => jp_chkI own nm cc q p && jp_chkL own nm cc cs pl
  | _, _ => false
def jp_chkY (y : jw_Y) (pl : List (List Nat × List Nat)) : Bool := plainName y.1.cls && jp_chkL y.1.cls y.1.name y.2.1 y.2.2.2.2.2 pl
theorem jp_pl_ok {T : List Cond} : ∀ {ws : List Cond} {pl : List Nat}, jp_pl T ws pl = true → ∀ w ∈ ws, w ∈ T
  | [], _, _, w, h => by cases h
  | x :: ws, [], h, _, _ => by cases h
  | x :: ws, i :: pl, h, w, hw => by
    rw [jp_pl] at h
    simp only [Bool.and_eq_true] at h
    rcases List.mem_cons.mp hw with e | e
    · have h1 := h.1
      split at h1
      · rename_i v hv
        rw [e, ← of_decide_eq_true h1]
        exact List.mem_of_getElem? hv
      · cases h1
    · exact jp_pl_ok h.2 w e
theorem jp_chkI_ok {own nm : String} {cc : ByteArray} {q : jw_I} {pl : List Nat × List Nat} (h : jp_chkI own nm cc q pl = true) : jw_okI own nm jp_kd jp_cl jp_ys jp_Tg jp_Ns cc q := by
  unfold jp_chkI at h
  simp only [Bool.and_eq_true, Bool.or_eq_true, beq_iff_eq] at h
  obtain ⟨h1, h2, h3, h4, h5, h6, h7, h8, h9⟩ := h
  have hT : ∀ w ∈ jw_wd own jp_cl q ++ jw_wc own jp_cl jp_ys q, w ∈ jp_Tg := fun w hw => List.mem_filter.mpr ⟨jp_pl_ok h5 w hw, List.all_eq_true.mp h6 w hw⟩
  exact ⟨⟨of_decide_eq_true h1, h2, h3⟩, by rcases h4 with h | h | h | h <;> simp [h], fun w hw => hT w (List.mem_append_left _ hw), h7, fun w hw => hT w (List.mem_append_right _ hw), jp_pl_ok h8, h9⟩
theorem jp_chkL_ok {own nm : String} {cc : ByteArray} : ∀ {cs : List jw_I} {pl : List (List Nat × List Nat)}, jp_chkL own nm cc cs pl = true → ∀ q ∈ cs, jw_okI own nm jp_kd jp_cl jp_ys jp_Tg jp_Ns cc q
  | [], _, _, q, h => by cases h
  | x :: cs, [], h, _, _ => by cases h
  | x :: cs, p :: pl, h, q, hq => by
    rw [jp_chkL] at h
    simp only [Bool.and_eq_true] at h
    rcases List.mem_cons.mp hq with e | e
    · rw [e]; exact jp_chkI_ok h.1
    · exact jp_chkL_ok h.2 q e
theorem jp_chkY_ok {y : jw_Y} {pl : List (List Nat × List Nat)} (h : jp_chkY y pl = true) : plainName y.1.cls = true ∧ ∀ q ∈ y.2.2.2.2.2, jw_okI y.1.cls y.1.name jp_kd jp_cl jp_ys jp_Tg jp_Ns y.2.1 q := by
  unfold jp_chkY at h
  simp only [Bool.and_eq_true] at h
  exact ⟨h.1, jp_chkL_ok h.2⟩
