/-! ===== the program fits the tables: all of it ===== -/
theorem jp_app {P : jw_Y → Prop} {a b : List jw_Y} (ha : ∀ y ∈ a, P y) (hb : ∀ y ∈ b, P y) : ∀ y ∈ a ++ b, P y := fun y h => (List.mem_append.mp h).elim (ha y) (hb y)
theorem jp_dt {P : jw_Y → Prop} {l : List jw_Y} (k n : Nat) (h1 : ∀ y ∈ (l.drop k).take n, P y) (h2 : ∀ y ∈ l.drop (k + n), P y) : ∀ y ∈ l.drop k, P y := by
  rw [← List.take_append_drop n (l.drop k), List.drop_drop]
  exact jp_app h1 h2
theorem jp_d0 {P : jw_Y → Prop} {l : List jw_Y} (k : Nat) (h : l.length ≤ k) : ∀ y ∈ l.drop k, P y := by
  rw [List.drop_eq_nil_of_le h]
  exact fun _ z => absurd z List.not_mem_nil
theorem jp_dz {P : jw_Y → Prop} {l : List jw_Y} (h : ∀ y ∈ l.drop 0, P y) : ∀ y ∈ l, P y := by
  rwa [List.drop_zero] at h
theorem jp_yok0 : ∀ y ∈ jp_ys0, jp_yok y := jp_dz (jp_dt (P := jp_yok) (l := jp_ys0) 0 10 (jp_chkYs_ok jm_0_0) (jp_dt (P := jp_yok) (l := jp_ys0) 10 10 (jp_chkYs_ok jm_0_1) (jp_dt (P := jp_yok) (l := jp_ys0) 20 10 (jp_chkYs_ok jm_0_2) (jp_dt (P := jp_yok) (l := jp_ys0) 30 10 (jp_chkYs_ok jm_0_3) (jp_d0 40 (by decide))))))
theorem jp_yok1 : ∀ y ∈ jp_ys1, jp_yok y := jp_dz (jp_dt (P := jp_yok) (l := jp_ys1) 0 10 (jp_chkYs_ok jm_1_0) (jp_dt (P := jp_yok) (l := jp_ys1) 10 10 (jp_chkYs_ok jm_1_1) (jp_dt (P := jp_yok) (l := jp_ys1) 20 10 (jp_chkYs_ok jm_1_2) (jp_dt (P := jp_yok) (l := jp_ys1) 30 10 (jp_chkYs_ok jm_1_3) (jp_d0 40 (by decide))))))
theorem jp_yok2 : ∀ y ∈ jp_ys2, jp_yok y := jp_dz (jp_dt (P := jp_yok) (l := jp_ys2) 0 10 (jp_chkYs_ok jm_2_0) (jp_dt (P := jp_yok) (l := jp_ys2) 10 10 (jp_chkYs_ok jm_2_1) (jp_dt (P := jp_yok) (l := jp_ys2) 20 10 (jp_chkYs_ok jm_2_2) (jp_dt (P := jp_yok) (l := jp_ys2) 30 10 (jp_chkYs_ok jm_2_3) (jp_d0 40 (by decide))))))
theorem jp_yok3 : ∀ y ∈ jp_ys3, jp_yok y := jp_dz (jp_dt (P := jp_yok) (l := jp_ys3) 0 10 (jp_chkYs_ok jm_3_0) (jp_dt (P := jp_yok) (l := jp_ys3) 10 10 (jp_chkYs_ok jm_3_1) (jp_dt (P := jp_yok) (l := jp_ys3) 20 10 (jp_chkYs_ok jm_3_2) (jp_dt (P := jp_yok) (l := jp_ys3) 30 10 (jp_chkYs_ok jm_3_3) (jp_d0 40 (by decide))))))
theorem jp_yok4 : ∀ y ∈ jp_ys4, jp_yok y := jp_dz (jp_dt (P := jp_yok) (l := jp_ys4) 0 10 (jp_chkYs_ok jm_4_0) (jp_dt (P := jp_yok) (l := jp_ys4) 10 10 (jp_chkYs_ok jm_4_1) (jp_dt (P := jp_yok) (l := jp_ys4) 20 10 (jp_chkYs_ok jm_4_2) (jp_dt (P := jp_yok) (l := jp_ys4) 30 10 (jp_chkYs_ok jm_4_3) (jp_d0 40 (by decide))))))
theorem jp_yok5 : ∀ y ∈ jp_ys5, jp_yok y := jp_dz (jp_dt (P := jp_yok) (l := jp_ys5) 0 10 (jp_chkYs_ok jm_5_0) (jp_dt (P := jp_yok) (l := jp_ys5) 10 10 (jp_chkYs_ok jm_5_1) (jp_dt (P := jp_yok) (l := jp_ys5) 20 10 (jp_chkYs_ok jm_5_2) (jp_dt (P := jp_yok) (l := jp_ys5) 30 10 (jp_chkYs_ok jm_5_3) (jp_d0 40 (by decide))))))
theorem jp_yok6 : ∀ y ∈ jp_ys6, jp_yok y := jp_dz (jp_dt (P := jp_yok) (l := jp_ys6) 0 10 (jp_chkYs_ok jm_6_0) (jp_dt (P := jp_yok) (l := jp_ys6) 10 10 (jp_chkYs_ok jm_6_1) (jp_dt (P := jp_yok) (l := jp_ys6) 20 10 (jp_chkYs_ok jm_6_2) (jp_dt (P := jp_yok) (l := jp_ys6) 30 10 (jp_chkYs_ok jm_6_3) (jp_d0 40 (by decide))))))
theorem jp_yok7 : ∀ y ∈ jp_ys7, jp_yok y := jp_dz (jp_dt (P := jp_yok) (l := jp_ys7) 0 10 (jp_chkYs_ok jm_7_0) (jp_dt (P := jp_yok) (l := jp_ys7) 10 10 (jp_chkYs_ok jm_7_1) (jp_dt (P := jp_yok) (l := jp_ys7) 20 10 (jp_chkYs_ok jm_7_2) (jp_dt (P := jp_yok) (l := jp_ys7) 30 10 (jp_chkYs_ok jm_7_3) (jp_d0 40 (by decide))))))
theorem jp_yok8 : ∀ y ∈ jp_ys8, jp_yok y := jp_dz (jp_dt (P := jp_yok) (l := jp_ys8) 0 10 (jp_chkYs_ok jm_8_0) (jp_d0 10 (by decide)))
theorem jp_prog (l : Launch) : jw_prog2 l jp_kd jp_cl jp_ys jp_Tg jp_Ns := ⟨sx_goodT, jp_nsok, jp_clok, jp_asg, jw_strok_ok l, by rw [jx_ysl]; decide, jp_app jp_yok0 (jp_app jp_yok1 (jp_app jp_yok2 (jp_app jp_yok3 (jp_app jp_yok4 (jp_app jp_yok5 (jp_app jp_yok6 (jp_app jp_yok7 (jp_yok8))))))))⟩
