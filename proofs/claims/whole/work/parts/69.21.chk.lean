/-! ===== the constructors: what is needed of them ===== -/
def jr_chkR (cls mid : Nat) (Sh : List jw_S) (M : Nat → Nat → Int32) (R R2 : List (Nat × Nat)) : Bool := match jr_C jp_kd jp_ys 8 mid [.ref 0] ([.inl (cls, jp_kd cls)], (fun _ _ => 0), (fun _ _ => 0)) with
  | some (none, h') => decide (h'.1 = Sh) && (R.all (fun q => (List.range q.2).all (fun k => decide (h'.2.1 q.1 k = M q.1 k))) && R2.all (fun q => (List.range q.2).all (fun k => decide (h'.2.2 q.1 k = 0))))
  | _ => false
def jl_RM : List (Nat × Nat) := [(0, 41), (1, 56), (3, 94), (14, 4), (15, 4), (17, 4)]
set_option maxRecDepth 100000 in
theorem jr_chkRM : jr_chkR 13 177 jx_ShM jx_M0M jl_RM [(16, 160)] = true := by decide +kernel
def jl_RC : List (Nat × Nat) := [(0, 3), (1, 16), (2, 6), (3, 6), (4, 6), (5, 6), (6, 8), (7, 8), (8, 8), (9, 8), (10, 8), (11, 17), (13, 4), (14, 4), (15, 4), (16, 4), (17, 4), (18, 4), (19, 1), (27, 2), (28, 48), (29, 6), (80, 1), (92, 11), (121, 8), (122, 4), (123, 4), (125, 40), (126, 40), (127, 40), (128, 40), (129, 4)]
set_option maxRecDepth 100000 in
theorem jr_chkRC : jr_chkR 12 109 jx_ShC jx_M0C jl_RC [] = true := by decide +kernel
