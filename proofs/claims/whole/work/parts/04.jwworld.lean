/-! ===== the abstract machine's world as the kit's: addresses by α, array classes by cy ===== -/
def jw_ad (α : Nat → Nat) : Value → Value
  | .ref i => .ref (α i)
  | v => v
theorem jw_ad_cat (α : Nat → Nat) (v : Value) : (jw_ad α v).category = v.category := by cases v <;> rfl
theorem jw_ad_rf (α : Nat → Nat) (o : Option Nat) : jw_ad α (va_rf o) = va_rf (o.map α) := by cases o <;> rfl
def jw_fld (α : Nat → Nat) (M : jw_M) (i k : Nat) : jw_K → Value
  | .inl 1 => .long (M.2 i k)
  | .inl _ => .int (M.1 i k)
  | .inr o => va_rf (o.map α)
def jw_cell (cy : Nat → ClassId) (α : Nat → Nat) (M : jw_M) (i : Nat) : jw_S → va_E
  | .inl (ci, ks) => .inr (ci, ks.mapIdx (jw_fld α M i))
  | .inr (0, n, _) => .inl (cy 0, n, .inl (M.1 i))
  | .inr (1, n, _) => .inl (cy 1, n, .inr (.inl (M.2 i)))
  | .inr (t + 2, n, rs) => .inl (cy (t + 2), n, .inr (.inr (.inr (.inr (fun k => (rs.getD k none).map α)))))
def jw_wld (cy : Nat → ClassId) (α : Nat → Nat) (h : jw_H) : va_W := h.1.mapIdx (fun i sh => (α i, jw_cell cy α h.2 i sh))
theorem jw_wld_get (cy : Nat → ClassId) (α : Nat → Nat) (h : jw_H) (i : Nat) : (jw_wld cy α h)[i]? = (h.1[i]?).map (fun sh => (α i, jw_cell cy α h.2 i sh)) := by
  simp [jw_wld, List.getElem?_mapIdx]
theorem jw_wld_some {cy : Nat → ClassId} {α : Nat → Nat} {h : jw_H} {i : Nat} {sh : jw_S} (hi : h.1[i]? = some sh) : (jw_wld cy α h)[i]? = some (α i, jw_cell cy α h.2 i sh) := by
  rw [jw_wld_get, hi]; rfl
theorem jw_wld_length (cy : Nat → ClassId) (α : Nat → Nat) (h : jw_H) : (jw_wld cy α h).length = h.1.length := by simp [jw_wld]
theorem jw_up_ne {α : Type} {M : Nat → Nat → α} {c k : Nat} {v : α} {i : Nat} (h : i ≠ c) : jw_up M c k v i = M i := if_neg h
theorem jw_up_eq {α : Type} {M : Nat → Nat → α} {c k : Nat} {v : α} : jw_up M c k v c = va_up (M c) k v := if_pos rfl
theorem jw_lay_ne {α : Type} {M : Nat → Nat → α} {c : Nat} {f : Nat → α} {i : Nat} (h : i ≠ c) : jw_lay M c f i = M i := if_neg h
theorem jw_lay_eq {α : Type} {M : Nat → Nat → α} {c : Nat} {f : Nat → α} : jw_lay M c f c = f := if_pos rfl
theorem jw_fld_same {α : Nat → Nat} {M M' : jw_M} {i k : Nat} (h1 : M'.1 i k = M.1 i k) (h2 : M'.2 i k = M.2 i k) (kd : jw_K) : jw_fld α M' i k kd = jw_fld α M i k kd := by
  unfold jw_fld
  split
  · rw [h2]
  · rw [h1]
  · rfl
theorem jw_cell_same {cy : Nat → ClassId} {α : Nat → Nat} {M M' : jw_M} {i : Nat} (h1 : M'.1 i = M.1 i) (h2 : M'.2 i = M.2 i) (sh : jw_S) : jw_cell cy α M' i sh = jw_cell cy α M i sh := by
  unfold jw_cell
  split
  · congr 3
    funext k kd
    exact jw_fld_same (by rw [h1]) (by rw [h2]) kd
  · rw [h1]
  · rw [h2]
  · rfl
/-- the world with one cell changed -/
theorem jw_wld_set {cy : Nat → ClassId} {α : Nat → Nat} {h h' : jw_H} {a : Nat} {sh sh' : jw_S} (ha : h.1[a]? = some sh) (hs : h'.1 = h.1.set a sh') (h1 : ∀ i, i ≠ a → h'.2.1 i = h.2.1 i) (h2 : ∀ i, i ≠ a → h'.2.2 i = h.2.2 i) : jw_wld cy α h' = (jw_wld cy α h).set a (α a, jw_cell cy α h'.2 a sh') := by
  apply List.ext_getElem?
  intro i
  have hal : a < h.1.length := (List.getElem?_eq_some_iff.mp ha).1
  rw [jw_wld_get, hs, List.getElem?_set, List.getElem?_set, jw_wld_get, jw_wld_length]
  by_cases e : a = i
  · subst e
    simp [hal]
  · rw [if_neg e, if_neg e]
    cases hi : h.1[i]? with
    | none => rfl
    | some s0 => simp [jw_cell_same (h1 i (fun q => e q.symm)) (h2 i (fun q => e q.symm)) s0]
theorem jw_list_set {α : Type} {l : List α} {a : Nat} {x : α} (h : l[a]? = some x) : l.set a x = l := by
  apply List.ext_getElem?
  intro i
  rw [List.getElem?_set]
  by_cases e : a = i
  · subst e
    rw [if_pos rfl, if_pos (List.getElem?_eq_some_iff.mp h).1, h]
  · rw [if_neg e]
theorem jw_wld_keep {cy : Nat → ClassId} {α : Nat → Nat} {h h' : jw_H} {a : Nat} {sh : jw_S} (ha : h.1[a]? = some sh) (hs : h'.1 = h.1) (h1 : ∀ i, i ≠ a → h'.2.1 i = h.2.1 i) (h2 : ∀ i, i ≠ a → h'.2.2 i = h.2.2 i) : jw_wld cy α h' = (jw_wld cy α h).set a (α a, jw_cell cy α h'.2 a sh) :=
  jw_wld_set ha (by rw [hs, jw_list_set ha]) h1 h2
/-- an object's cell with one field changed -/
theorem jw_flds_up {α : Nat → Nat} {M M' : jw_M} {i k : Nat} {ks : List jw_K} {kd kd' : jw_K} {v : Value} (hk : ks[k]? = some kd) (hv : jw_fld α M' i k kd' = v) (h : ∀ j, j ≠ k → M'.1 i j = M.1 i j ∧ M'.2 i j = M.2 i j) : (ks.set k kd').mapIdx (jw_fld α M' i) = (ks.mapIdx (jw_fld α M i)).set k v := by
  apply List.ext_getElem?
  intro j
  have hl := (List.getElem?_eq_some_iff.mp hk).1
  rw [List.getElem?_mapIdx, List.getElem?_set, List.getElem?_set, List.getElem?_mapIdx, List.length_mapIdx]
  by_cases e : k = j
  · subst e
    simp [hl, hv]
  · rw [if_neg e, if_neg e]
    cases hj : ks[j]? with
    | none => rfl
    | some q => simp [jw_fld_same (h j (fun z => e z.symm)).1 (h j (fun z => e z.symm)).2 q]
/-! the locals -/
def jw_asc (α : Nat → Nat) : Nat → jw_L → List (Nat × Value)
  | _, [] => []
  | k, none :: l => jw_asc α (k + 1) l
  | k, some v :: l => (k, jw_ad α v) :: jw_asc α (k + 1) l
theorem jw_asc_mem {α : Nat → Nat} {q : Nat × Value} : ∀ {L : jw_L} {k : Nat}, q ∈ jw_asc α k L ↔ ∃ (j : Nat) (v : Value), L[j]? = some (some v) ∧ q = (k + j, jw_ad α v)
  | [], k => by simp [jw_asc]
  | none :: l, k => by
    rw [jw_asc, jw_asc_mem]
    constructor
    · rintro ⟨j, v, h1, h2⟩
      exact ⟨j + 1, v, by simpa using h1, by rw [h2]; congr 1; omega⟩
    · rintro ⟨j, v, h1, h2⟩
      cases j with
      | zero => simp at h1
      | succ j => exact ⟨j, v, by simpa using h1, by rw [h2]; congr 1; omega⟩
  | some u :: l, k => by
    rw [jw_asc, List.mem_cons, jw_asc_mem]
    constructor
    · rintro (h | ⟨j, v, h1, h2⟩)
      · exact ⟨0, u, rfl, by rw [h]; rfl⟩
      · exact ⟨j + 1, v, by simpa using h1, by rw [h2]; congr 1; omega⟩
    · rintro ⟨j, v, h1, h2⟩
      cases j with
      | zero =>
        left
        simp at h1
        rw [h2, h1]
        rfl
      | succ j => exact Or.inr ⟨j, v, by simpa using h1, by rw [h2]; congr 1; omega⟩
theorem jw_loc {α : Nat → Nat} {ls : Array Slot} {nL k : Nat} {L : jw_L} {v : Value} (hl : lv_has ls nL (jw_asc α 0 L)) (hk : L[k]? = some (some v)) : ls[k]? = some (.val (jw_ad α v)) :=
  hl.2.2 (k, jw_ad α v) (jw_asc_mem.mpr ⟨k, v, hk, by simp⟩)
theorem jw_cl1_len (L : jw_L) : ∀ k, (jw_cl1 L k).length = L.length
  | 0 => rfl
  | k + 1 => by
    rw [jw_cl1]
    split
    · rw [List.length_set]
    · rfl
theorem jw_cl1_get {L : jw_L} {j : Nat} {u : Value} : ∀ {k : Nat}, (jw_cl1 L k)[j]? = some (some u) → L[j]? = some (some u) ∧ (j + 1 = k → u.category = 1)
  | 0, h => ⟨h, fun q => by omega⟩
  | k + 1, h => by
    rw [jw_cl1] at h
    split at h
    · rename_i w hw
      rw [List.getElem?_set] at h
      by_cases e : k = j
      · subst e
        rw [if_pos rfl, if_pos (List.getElem?_eq_some_iff.mp hw).1] at h
        have h2 : jw_clr w = some u := Option.some.inj h
        unfold jw_clr at h2
        split at h2
        · cases h2
        · cases h2
        · rename_i n1 n2
          rw [h2] at n1 n2 hw
          refine ⟨hw, fun _ => ?_⟩
          cases u with
          | long v => exact (n1 v rfl).elim
          | double v => exact (n2 v rfl).elim
          | _ => rfl
      · rw [if_neg e] at h
        exact ⟨h, fun q => by omega⟩
    · rename_i hw
      refine ⟨h, fun q => ?_⟩
      have : j = k := by omega
      subst this
      rw [hw] at h
      cases h
theorem jw_sto1 {α : Nat → Nat} {ls : Array Slot} {nL k : Nat} {L : jw_L} {v : Value} (h : lv_has ls nL ((k, jw_ad α v) :: (jw_asc α 0 L).filter (fun q => !(q.1 == k) && !(q.1 + 1 == k && q.2.category == 2)))) (hk : k < L.length) : lv_has ls nL (jw_asc α 0 ((jw_cl1 L k).set k (some v))) := by
  refine ⟨h.1, h.2.1, fun q hq => h.2.2 q ?_⟩
  obtain ⟨j, u, hj, rfl⟩ := jw_asc_mem.mp hq
  rw [List.getElem?_set, jw_cl1_len] at hj
  by_cases e : k = j
  · subst e
    rw [if_pos rfl, if_pos hk] at hj
    cases hj
    simp
  · rw [if_neg e] at hj
    obtain ⟨hj, hcat⟩ := jw_cl1_get hj
    refine List.mem_cons_of_mem _ (List.mem_filter.mpr ⟨jw_asc_mem.mpr ⟨j, u, hj, rfl⟩, ?_⟩)
    have e2 : ¬ j = k := fun q => e q.symm
    by_cases e3 : j + 1 = k
    · simp [e2, jw_ad_cat, hcat e3]
    · simp [e2, e3]
theorem jw_stol {α : Nat → Nat} {ls : Array Slot} {nL k : Nat} {L : jw_L} {x : Int64} (h : lv_has ls nL ((k, .long x) :: (jw_asc α 0 L).filter (fun q => !(q.1 == k) && (!(q.1 == k + 1) && !(q.1 + 1 == k && q.2.category == 2))))) (hk : k + 1 < L.length) : lv_has ls nL (jw_asc α 0 (((jw_cl1 L k).set k (some (.long x))).set (k + 1) none)) := by
  refine ⟨h.1, h.2.1, fun q hq => h.2.2 q ?_⟩
  obtain ⟨j, u, hj, rfl⟩ := jw_asc_mem.mp hq
  rw [List.getElem?_set, List.length_set, jw_cl1_len] at hj
  by_cases e0 : k + 1 = j
  · rw [if_pos e0] at hj
    split at hj <;> cases hj
  · rw [if_neg e0, List.getElem?_set, jw_cl1_len] at hj
    by_cases e : k = j
    · subst e
      rw [if_pos rfl, if_pos (by omega)] at hj
      cases hj
      simp [jw_ad]
    · rw [if_neg e] at hj
      obtain ⟨hj, hcat⟩ := jw_cl1_get hj
      refine List.mem_cons_of_mem _ (List.mem_filter.mpr ⟨jw_asc_mem.mpr ⟨j, u, hj, rfl⟩, ?_⟩)
      have e2 : ¬ j = k := fun q => e q.symm
      have e4 : ¬ j = k + 1 := fun q => e0 q.symm
      by_cases e3 : j + 1 = k
      · simp [e2, e4, jw_ad_cat, hcat e3]
      · simp [e2, e3, e4]
theorem jw_cat_map (α : Nat → Nat) : ∀ r : List Value, ((r.map (jw_ad α)).map fun v => v.category).sum = jw_cat r
  | [] => rfl
  | v :: r => by
    rw [List.map_cons, List.map_cons, List.sum_cons, jw_cat_map α r, jw_ad_cat, jw_cat]
