/-! ===== from the law's entry, given that the program fits the tables ===== -/
section JZ
variable {sz b a1 a2 a3 off : Nat}
theorem jz_al0 : jl_al sz b a1 a2 a3 off jl_scr = b := by
  unfold jl_al
  rw [if_neg (by decide), if_neg (by decide), if_neg (by decide), if_neg (by decide)]
theorem jz_al1 : jl_al sz b a1 a2 a3 off jw_str = a1 := by
  unfold jl_al
  rw [if_neg (by decide), if_pos rfl]
theorem jz_al2 : jl_al sz b a1 a2 a3 off jw_self = a2 := by
  unfold jl_al
  rw [if_neg (by decide), if_neg (by decide), if_pos rfl]
theorem jz_al3 : jl_al sz b a1 a2 a3 off (jw_str + 2) = a3 := by
  unfold jl_al
  rw [if_neg (by decide), if_neg (by decide), if_neg (by decide), if_pos rfl]
end JZ
set_option maxRecDepth 100000 in
theorem jz_d : decode code 1944 = .ok (.ireturn, 1) := by decide +kernel
set_option maxHeartbeats 4000000 in
theorem jz_start {p : Program} {e : Env} {s : State} {m : MethodId} {below : List Frame} {meth : Method} {c : Code} (l : Launch) (hp : jw_prog2 l jp_kd jp_cl jp_ys jp_Tg jp_Ns) {b L : Nat} {xs : Nat → Int32} (hL : L ≤ 3072) (C0 : lw_At p s m meth c b L xs) : W p l e room_1 s m #[Value.ref b] below meth c s.heap [] 0 0 (lw_Z below #[Value.ref b] s) (entryFrame m ([Value.ref b] : List Value).toArray 4) := by
  obtain ⟨hx, hb, hr, hml, hown, hts, hXs, hbl, hlocks, hgv⟩ := C0
  obtain ⟨D, cy, hK0⟩ := lj_K hts
  obtain ⟨aself, astr, abyt, hX⟩ := lj_X hts hgv
  have Z : jl_env p l s m #[Value.ref b] meth c D cy b L astr aself abyt xs := ⟨hx, hb, hml, hown, hts, hp, hK0, fun off => hX _ (jz_al2) (jz_al1) (jz_al3), lj_N hts, hXs, hbl, hL⟩
  have hl : lv_has ((lg_sl [Value.ref b] ++ List.replicate (4 - (lg_sl [Value.ref b]).length) Slot.unset).toArray) 4 [(0, Value.ref b)] := lv_entry [Value.ref b] (n := 4) (by show 1 ≤ 4; omega)
  rw [lg_entry_eq]
  refine jl_go2 (a1 := astr) (a2 := aself) (a3 := abyt) Z (fun ls H locs hf => va_forget hf (W.widen (k := 600000) (n := 7302250) (Nat.le_of_ble_eq_true rfl) (Nat.le_of_ble_eq_true rfl) (lw_ret hx hb hr hlocks jz_d))) ?_
  have e : jw_asc (jl_al s.heap.size b astr aself abyt 0) 0 [some (.ref jl_scr), none, none, none] = [(0, Value.ref b)] := by
    show [(0, Value.ref (jl_al s.heap.size b astr aself abyt 0 jl_scr))] = _
    rw [jz_al0]
  rw [e]
  exact hl
