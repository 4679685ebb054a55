set_option maxRecDepth 20000 in
theorem s_F_act_176 {N d : Nat} {Q : jw_Q} (hd : 7 ≤ d) {x6 : Int32} {u1 : Option Value} {u2 : Option Value} {u3 : Option Value} {u4 : Option Value} {u5 : Option Value} {σ : jw_M} {z : (Int32 × jw_M)} (h : f_F_act_176 N x6 σ = some z) (hQ : Q (some (.int z.1)) (jx_ShC, z.2)) : ∃ n, jx_W jx_ShC d (some .int) jc_169 Q n 176 [some (.ref 0), u1, u2, u3, u4, u5, some (.int x6)] [] σ := by
  unfold f_F_act_176 at h
  by_cases c14 : (σ.1 121 8) = 0
  · rw [if_pos c14] at h
    suffices hh : ∃ n, jx_W jx_ShC d (some .int) jc_169 Q n 191 [some (.ref 0), u1, u2, u3, u4, u5, some (.int x6)] [] σ by
      obtain ⟨n, hn⟩ := hh
      exact ⟨n + 4, And.intro (fun _ => hn) (fun zz => absurd c14 zz)⟩
    cases h
    exact ⟨2, And.intro hQ (And.intro rfl rfl)⟩
  · rw [if_neg c14] at h
    suffices hh : ∃ n, jx_W jx_ShC d (some .int) jc_169 Q n 186 [some (.ref 0), u1, u2, u3, u4, u5, some (.int x6)] [] σ by
      obtain ⟨n, hn⟩ := hh
      exact ⟨n + 4, And.intro (fun zz => absurd zz c14) (fun _ => hn)⟩
    cases h
    exact ⟨3, And.intro hQ (And.intro rfl rfl)⟩
set_option maxRecDepth 20000 in
theorem s_F_act_126 {N d : Nat} {Q : jw_Q} (hd : 7 ≤ d) {y0 : Int32} {u1 : Option Value} {u2 : Option Value} {u3 : Option Value} {u4 : Option Value} {u5 : Option Value} {u6 : Option Value} {σ : jw_M} {z : (Int32 × jw_M)} (h : f_F_act_126 N y0 σ = some z) (hQ : Q (some (.int z.1)) (jx_ShC, z.2)) : ∃ n, jx_W jx_ShC d (some .int) jc_169 Q n 126 [some (.ref 0), u1, u2, u3, u4, u5, u6] [.int y0] σ := by
  unfold f_F_act_126 at h
  obtain ⟨n, hn⟩ := s_F_act_176 hd (u1 := u1) (u2 := u2) (u3 := u3) (u4 := u4) (u5 := (jw_clr u5)) h hQ
  exact ⟨n + 2, hn⟩
set_option maxRecDepth 20000 in
theorem s_F_act_123 {N d : Nat} {Q : jw_Q} (hd : 7 ≤ d) {r_0 : Nat} {y2 : Int32} {u1 : Option Value} {u2 : Option Value} {u3 : Option Value} {u4 : Option Value} {u5 : Option Value} {u6 : Option Value} {σ : jw_M} {z : (Int32 × jw_M)} (hr_0 : r_0 = 32 ∨ r_0 = 33 ∨ r_0 = 34 ∨ r_0 = 35 ∨ r_0 = 36 ∨ r_0 = 37) (h : f_F_act_123 N r_0 y2 σ = some z) (hQ : Q (some (.int z.1)) (jx_ShC, z.2)) : ∃ n, jx_W jx_ShC d (some .int) jc_169 Q n 123 [some (.ref 0), u1, u2, u3, u4, u5, u6] [.int y2, .ref 121, .ref r_0] σ := by
  rcases hr_0 with rfl | rfl | rfl | rfl | rfl | rfl
  · unfold f_F_act_123 at h
    obtain ⟨z12, h13, h⟩ := Option.bind_eq_some_iff.mp h
    rw [if_pos rfl] at h13
    obtain ⟨n, hn⟩ := s_F_act_126 hd (u1 := u1) (u2 := u2) (u3 := u3) (u4 := u4) (u5 := u5) (u6 := u6) h hQ
    exact ⟨n + 1, s_Z_Shade_lies (by omega) (by decide) h13 (hn)⟩
  · unfold f_F_act_123 at h
    obtain ⟨z12, h13, h⟩ := Option.bind_eq_some_iff.mp h
    rw [if_neg (by decide), if_pos rfl] at h13
    obtain ⟨n, hn⟩ := s_F_act_126 hd (u1 := u1) (u2 := u2) (u3 := u3) (u4 := u4) (u5 := u5) (u6 := u6) h hQ
    exact ⟨n + 1, s_Z_Joined_lies (by omega) h13 (hn)⟩
  · unfold f_F_act_123 at h
    obtain ⟨z12, h13, h⟩ := Option.bind_eq_some_iff.mp h
    rw [if_neg (by decide), if_neg (by decide), if_pos rfl] at h13
    obtain ⟨n, hn⟩ := s_F_act_126 hd (u1 := u1) (u2 := u2) (u3 := u3) (u4 := u4) (u5 := u5) (u6 := u6) h hQ
    exact ⟨n + 1, s_Z_Shade_lies (by omega) (by decide) h13 (hn)⟩
  · unfold f_F_act_123 at h
    obtain ⟨z12, h13, h⟩ := Option.bind_eq_some_iff.mp h
    rw [if_neg (by decide), if_neg (by decide), if_neg (by decide), if_pos rfl] at h13
    obtain ⟨n, hn⟩ := s_F_act_126 hd (u1 := u1) (u2 := u2) (u3 := u3) (u4 := u4) (u5 := u5) (u6 := u6) h hQ
    exact ⟨n + 1, s_Z_Coloured_lies (by omega) h13 (hn)⟩
  · unfold f_F_act_123 at h
    obtain ⟨z12, h13, h⟩ := Option.bind_eq_some_iff.mp h
    rw [if_neg (by decide), if_neg (by decide), if_neg (by decide), if_neg (by decide), if_pos rfl] at h13
    obtain ⟨n, hn⟩ := s_F_act_126 hd (u1 := u1) (u2 := u2) (u3 := u3) (u4 := u4) (u5 := u5) (u6 := u6) h hQ
    exact ⟨n + 1, s_Z_Shade_lies (by omega) (by decide) h13 (hn)⟩
  · unfold f_F_act_123 at h
    obtain ⟨z12, h13, h⟩ := Option.bind_eq_some_iff.mp h
    rw [if_neg (by decide), if_neg (by decide), if_neg (by decide), if_neg (by decide), if_neg (by decide), if_pos rfl] at h13
    obtain ⟨n, hn⟩ := s_F_act_126 hd (u1 := u1) (u2 := u2) (u3 := u3) (u4 := u4) (u5 := u5) (u6 := u6) h hQ
    exact ⟨n + 1, s_Z_Shade_lies (by omega) (by decide) h13 (hn)⟩
set_option maxRecDepth 20000 in
theorem s_F_act_141 {N d : Nat} {Q : jw_Q} (hd : 7 ≤ d) {y0 : Int32} {u1 : Option Value} {u2 : Option Value} {u3 : Option Value} {u4 : Option Value} {u5 : Option Value} {u6 : Option Value} {σ : jw_M} {z : (Int32 × jw_M)} (h : f_F_act_141 N y0 σ = some z) (hQ : Q (some (.int z.1)) (jx_ShC, z.2)) : ∃ n, jx_W jx_ShC d (some .int) jc_169 Q n 141 [some (.ref 0), u1, u2, u3, u4, u5, u6] [.int y0] σ := by
  unfold f_F_act_141 at h
  obtain ⟨n, hn⟩ := s_F_act_176 hd (u1 := u1) (u2 := u2) (u3 := u3) (u4 := u4) (u5 := (jw_clr u5)) h hQ
  exact ⟨n + 2, hn⟩
set_option maxRecDepth 20000 in
theorem s_F_act_138 {N d : Nat} {Q : jw_Q} (hd : 7 ≤ d) {r_0 : Nat} {y2 : Int32} {u1 : Option Value} {u2 : Option Value} {u3 : Option Value} {u4 : Option Value} {u5 : Option Value} {u6 : Option Value} {σ : jw_M} {z : (Int32 × jw_M)} (hr_0 : r_0 = 32 ∨ r_0 = 33 ∨ r_0 = 34 ∨ r_0 = 35 ∨ r_0 = 36 ∨ r_0 = 37) (h : f_F_act_138 N r_0 y2 σ = some z) (hQ : Q (some (.int z.1)) (jx_ShC, z.2)) : ∃ n, jx_W jx_ShC d (some .int) jc_169 Q n 138 [some (.ref 0), u1, u2, u3, u4, u5, u6] [.int y2, .ref 121, .ref r_0] σ := by
  rcases hr_0 with rfl | rfl | rfl | rfl | rfl | rfl
  · unfold f_F_act_138 at h
    obtain ⟨z15, h16, h⟩ := Option.bind_eq_some_iff.mp h
    rw [if_pos rfl] at h16
    obtain ⟨n, hn⟩ := s_F_act_141 hd (u1 := u1) (u2 := u2) (u3 := u3) (u4 := u4) (u5 := u5) (u6 := u6) h hQ
    exact ⟨n + 1, s_Z_Shade_turns (by omega) (by decide) h16 (hn)⟩
  · unfold f_F_act_138 at h
    obtain ⟨z15, h16, h⟩ := Option.bind_eq_some_iff.mp h
    rw [if_neg (by decide), if_pos rfl] at h16
    obtain ⟨n, hn⟩ := s_F_act_141 hd (u1 := u1) (u2 := u2) (u3 := u3) (u4 := u4) (u5 := u5) (u6 := u6) h hQ
    exact ⟨n + 1, s_Z_Shade_turns (by omega) (by decide) h16 (hn)⟩
  · unfold f_F_act_138 at h
    obtain ⟨z15, h16, h⟩ := Option.bind_eq_some_iff.mp h
    rw [if_neg (by decide), if_neg (by decide), if_pos rfl] at h16
    obtain ⟨n, hn⟩ := s_F_act_141 hd (u1 := u1) (u2 := u2) (u3 := u3) (u4 := u4) (u5 := u5) (u6 := u6) h hQ
    exact ⟨n + 1, s_Z_Gifted_turns (by omega) (by decide) h16 (hn)⟩
  · unfold f_F_act_138 at h
    obtain ⟨z15, h16, h⟩ := Option.bind_eq_some_iff.mp h
    rw [if_neg (by decide), if_neg (by decide), if_neg (by decide), if_pos rfl] at h16
    obtain ⟨n, hn⟩ := s_F_act_141 hd (u1 := u1) (u2 := u2) (u3 := u3) (u4 := u4) (u5 := u5) (u6 := u6) h hQ
    exact ⟨n + 1, s_Z_Gifted_turns (by omega) (by decide) h16 (hn)⟩
  · unfold f_F_act_138 at h
    obtain ⟨z15, h16, h⟩ := Option.bind_eq_some_iff.mp h
    rw [if_neg (by decide), if_neg (by decide), if_neg (by decide), if_neg (by decide), if_pos rfl] at h16
    obtain ⟨n, hn⟩ := s_F_act_141 hd (u1 := u1) (u2 := u2) (u3 := u3) (u4 := u4) (u5 := u5) (u6 := u6) h hQ
    exact ⟨n + 1, s_Z_Shade_turns (by omega) (by decide) h16 (hn)⟩
  · unfold f_F_act_138 at h
    obtain ⟨z15, h16, h⟩ := Option.bind_eq_some_iff.mp h
    rw [if_neg (by decide), if_neg (by decide), if_neg (by decide), if_neg (by decide), if_neg (by decide), if_pos rfl] at h16
    obtain ⟨n, hn⟩ := s_F_act_141 hd (u1 := u1) (u2 := u2) (u3 := u3) (u4 := u4) (u5 := u5) (u6 := u6) h hQ
    exact ⟨n + 1, s_Z_Borrowed_turns (by omega) h16 (hn)⟩
set_option maxRecDepth 20000 in
theorem s_F_act_156 {N d : Nat} {Q : jw_Q} (hd : 7 ≤ d) {y0 : Int32} {u1 : Option Value} {u2 : Option Value} {u3 : Option Value} {u4 : Option Value} {u5 : Option Value} {u6 : Option Value} {σ : jw_M} {z : (Int32 × jw_M)} (h : f_F_act_156 N y0 σ = some z) (hQ : Q (some (.int z.1)) (jx_ShC, z.2)) : ∃ n, jx_W jx_ShC d (some .int) jc_169 Q n 156 [some (.ref 0), u1, u2, u3, u4, u5, u6] [.int y0] σ := by
  unfold f_F_act_156 at h
  obtain ⟨n, hn⟩ := s_F_act_176 hd (u1 := u1) (u2 := u2) (u3 := u3) (u4 := u4) (u5 := (jw_clr u5)) h hQ
  exact ⟨n + 2, hn⟩
set_option maxRecDepth 20000 in
theorem s_F_act_153 {N d : Nat} {Q : jw_Q} (hd : 7 ≤ d) {r_0 : Nat} {y2 : Int32} {u1 : Option Value} {u2 : Option Value} {u3 : Option Value} {u4 : Option Value} {u5 : Option Value} {u6 : Option Value} {σ : jw_M} {z : (Int32 × jw_M)} (hr_0 : r_0 = 32 ∨ r_0 = 33 ∨ r_0 = 34 ∨ r_0 = 35 ∨ r_0 = 36 ∨ r_0 = 37) (h : f_F_act_153 N r_0 y2 σ = some z) (hQ : Q (some (.int z.1)) (jx_ShC, z.2)) : ∃ n, jx_W jx_ShC d (some .int) jc_169 Q n 153 [some (.ref 0), u1, u2, u3, u4, u5, u6] [.int y2, .ref 121, .ref r_0] σ := by
  rcases hr_0 with rfl | rfl | rfl | rfl | rfl | rfl
  · unfold f_F_act_153 at h
    obtain ⟨z17, h18, h⟩ := Option.bind_eq_some_iff.mp h
    rw [if_pos rfl] at h18
    obtain ⟨n, hn⟩ := s_F_act_156 hd (u1 := u1) (u2 := u2) (u3 := u3) (u4 := u4) (u5 := u5) (u6 := u6) h hQ
    exact ⟨n + 1, s_Z_Shade_folds (by omega) (by decide) h18 (hn)⟩
  · unfold f_F_act_153 at h
    obtain ⟨z17, h18, h⟩ := Option.bind_eq_some_iff.mp h
    rw [if_neg (by decide), if_pos rfl] at h18
    obtain ⟨n, hn⟩ := s_F_act_156 hd (u1 := u1) (u2 := u2) (u3 := u3) (u4 := u4) (u5 := u5) (u6 := u6) h hQ
    exact ⟨n + 1, s_Z_Shade_folds (by omega) (by decide) h18 (hn)⟩
  · unfold f_F_act_153 at h
    obtain ⟨z17, h18, h⟩ := Option.bind_eq_some_iff.mp h
    rw [if_neg (by decide), if_neg (by decide), if_pos rfl] at h18
    obtain ⟨n, hn⟩ := s_F_act_156 hd (u1 := u1) (u2 := u2) (u3 := u3) (u4 := u4) (u5 := u5) (u6 := u6) h hQ
    exact ⟨n + 1, s_Z_Shade_folds (by omega) (by decide) h18 (hn)⟩
  · unfold f_F_act_153 at h
    obtain ⟨z17, h18, h⟩ := Option.bind_eq_some_iff.mp h
    rw [if_neg (by decide), if_neg (by decide), if_neg (by decide), if_pos rfl] at h18
    obtain ⟨n, hn⟩ := s_F_act_156 hd (u1 := u1) (u2 := u2) (u3 := u3) (u4 := u4) (u5 := u5) (u6 := u6) h hQ
    exact ⟨n + 1, s_Z_Shade_folds (by omega) (by decide) h18 (hn)⟩
  · unfold f_F_act_153 at h
    obtain ⟨z17, h18, h⟩ := Option.bind_eq_some_iff.mp h
    rw [if_neg (by decide), if_neg (by decide), if_neg (by decide), if_neg (by decide), if_pos rfl] at h18
    obtain ⟨n, hn⟩ := s_F_act_156 hd (u1 := u1) (u2 := u2) (u3 := u3) (u4 := u4) (u5 := u5) (u6 := u6) h hQ
    exact ⟨n + 1, s_Z_Slow_folds (by omega) (by decide) h18 (hn)⟩
  · unfold f_F_act_153 at h
    obtain ⟨z17, h18, h⟩ := Option.bind_eq_some_iff.mp h
    rw [if_neg (by decide), if_neg (by decide), if_neg (by decide), if_neg (by decide), if_neg (by decide), if_pos rfl] at h18
    obtain ⟨n, hn⟩ := s_F_act_156 hd (u1 := u1) (u2 := u2) (u3 := u3) (u4 := u4) (u5 := u5) (u6 := u6) h hQ
    exact ⟨n + 1, s_Z_Borrowed_folds (by omega) h18 (hn)⟩
set_option maxRecDepth 20000 in
theorem s_F_act_171 {N d : Nat} {Q : jw_Q} (hd : 7 ≤ d) {y0 : Int32} {u1 : Option Value} {u2 : Option Value} {u3 : Option Value} {u4 : Option Value} {u5 : Option Value} {u6 : Option Value} {σ : jw_M} {z : (Int32 × jw_M)} (h : f_F_act_171 N y0 σ = some z) (hQ : Q (some (.int z.1)) (jx_ShC, z.2)) : ∃ n, jx_W jx_ShC d (some .int) jc_169 Q n 171 [some (.ref 0), u1, u2, u3, u4, u5, u6] [.int y0] σ := by
  unfold f_F_act_171 at h
  obtain ⟨n, hn⟩ := s_F_act_176 hd (u1 := u1) (u2 := u2) (u3 := u3) (u4 := u4) (u5 := (jw_clr u5)) h hQ
  exact ⟨n + 2, hn⟩
set_option maxRecDepth 20000 in
theorem s_F_act_168 {N d : Nat} {Q : jw_Q} (hd : 7 ≤ d) {r_0 : Nat} {y2 : Int32} {u1 : Option Value} {u2 : Option Value} {u3 : Option Value} {u4 : Option Value} {u5 : Option Value} {u6 : Option Value} {σ : jw_M} {z : (Int32 × jw_M)} (hr_0 : r_0 = 32 ∨ r_0 = 33 ∨ r_0 = 34 ∨ r_0 = 35 ∨ r_0 = 36 ∨ r_0 = 37) (h : f_F_act_168 N r_0 y2 σ = some z) (hQ : Q (some (.int z.1)) (jx_ShC, z.2)) : ∃ n, jx_W jx_ShC d (some .int) jc_169 Q n 168 [some (.ref 0), u1, u2, u3, u4, u5, u6] [.int y2, .ref 121, .ref r_0] σ := by
  rcases hr_0 with rfl | rfl | rfl | rfl | rfl | rfl
  · unfold f_F_act_168 at h
    obtain ⟨z19, h20, h⟩ := Option.bind_eq_some_iff.mp h
    rw [if_pos rfl] at h20
    obtain ⟨n, hn⟩ := s_F_act_171 hd (u1 := u1) (u2 := u2) (u3 := u3) (u4 := u4) (u5 := u5) (u6 := u6) h hQ
    exact ⟨n + 1, s_Z_Shade_asks (by omega) (by decide) h20 (hn)⟩
  · unfold f_F_act_168 at h
    obtain ⟨z19, h20, h⟩ := Option.bind_eq_some_iff.mp h
    rw [if_neg (by decide), if_pos rfl] at h20
    obtain ⟨n, hn⟩ := s_F_act_171 hd (u1 := u1) (u2 := u2) (u3 := u3) (u4 := u4) (u5 := u5) (u6 := u6) h hQ
    exact ⟨n + 1, s_Z_Shade_asks (by omega) (by decide) h20 (hn)⟩
  · unfold f_F_act_168 at h
    obtain ⟨z19, h20, h⟩ := Option.bind_eq_some_iff.mp h
    rw [if_neg (by decide), if_neg (by decide), if_pos rfl] at h20
    obtain ⟨n, hn⟩ := s_F_act_171 hd (u1 := u1) (u2 := u2) (u3 := u3) (u4 := u4) (u5 := u5) (u6 := u6) h hQ
    exact ⟨n + 1, s_Z_Shade_asks (by omega) (by decide) h20 (hn)⟩
  · unfold f_F_act_168 at h
    obtain ⟨z19, h20, h⟩ := Option.bind_eq_some_iff.mp h
    rw [if_neg (by decide), if_neg (by decide), if_neg (by decide), if_pos rfl] at h20
    obtain ⟨n, hn⟩ := s_F_act_171 hd (u1 := u1) (u2 := u2) (u3 := u3) (u4 := u4) (u5 := u5) (u6 := u6) h hQ
    exact ⟨n + 1, s_Z_Coloured_asks (by omega) h20 (hn)⟩
  · unfold f_F_act_168 at h
    obtain ⟨z19, h20, h⟩ := Option.bind_eq_some_iff.mp h
    rw [if_neg (by decide), if_neg (by decide), if_neg (by decide), if_neg (by decide), if_pos rfl] at h20
    obtain ⟨n, hn⟩ := s_F_act_171 hd (u1 := u1) (u2 := u2) (u3 := u3) (u4 := u4) (u5 := u5) (u6 := u6) h hQ
    exact ⟨n + 1, s_Z_Shade_asks (by omega) (by decide) h20 (hn)⟩
  · unfold f_F_act_168 at h
    obtain ⟨z19, h20, h⟩ := Option.bind_eq_some_iff.mp h
    rw [if_neg (by decide), if_neg (by decide), if_neg (by decide), if_neg (by decide), if_neg (by decide), if_pos rfl] at h20
    obtain ⟨n, hn⟩ := s_F_act_171 hd (u1 := u1) (u2 := u2) (u3 := u3) (u4 := u4) (u5 := u5) (u6 := u6) h hQ
    exact ⟨n + 1, s_Z_Shade_asks (by omega) (by decide) h20 (hn)⟩
set_option maxRecDepth 20000 in
theorem s_F_act_30 {N d : Nat} {Q : jw_Q} (hd : 7 ≤ d) {x2 : Int32} {x3 : Int32} {y0 : Int32} {u1 : Option Value} {u4 : Option Value} {u5 : Option Value} {u6 : Option Value} {σ : jw_M} {z : (Int32 × jw_M)} (h : f_F_act_30 N x2 x3 y0 σ = some z) (hQ : Q (some (.int z.1)) (jx_ShC, z.2)) : ∃ n, jx_W jx_ShC d (some .int) jc_169 Q n 30 [some (.ref 0), u1, some (.int x2), some (.int x3), u4, u5, u6] [.int y0] σ := by
  unfold f_F_act_30 at h
  obtain ⟨z6, h7, h⟩ := Option.bind_eq_some_iff.mp h
  by_cases c8 : z6.1 = 0
  · rw [if_pos c8] at h
    suffices hh : ∃ n, jx_W jx_ShC d (some .int) jc_169 Q n 44 [some (.ref 0), u1, some (.int x2), some (.int x3), some (.int y0), u5, u6] [] z6.2 by
      obtain ⟨n, hn⟩ := hh
      exact ⟨n + 6, s_S_isShadow (by omega) h7 (And.intro (fun zz => absurd c8 zz) (fun _ => hn))⟩
    cases h
    exact ⟨2, And.intro hQ (And.intro rfl rfl)⟩
  · rw [if_neg c8] at h
    suffices hh : ∃ n, jx_W jx_ShC d (some .int) jc_169 Q n 46 [some (.ref 0), u1, some (.int x2), some (.int x3), some (.int y0), u5, u6] [] z6.2 by
      obtain ⟨n, hn⟩ := hh
      exact ⟨n + 6, s_S_isShadow (by omega) h7 (And.intro (fun _ => hn) (fun zz => absurd zz c8))⟩
    cases c9 : jx_in y0 6 with
    | false => rw [c9, cond_false] at h; cases h
    | true =>
      rw [c9, cond_true] at h
      obtain ⟨z10, h11, h⟩ := Option.bind_eq_some_iff.mp h
      by_cases c24 : x2 = 0
      · rw [if_pos c24] at h
        suffices hh : ∃ n, jx_W jx_ShC d (some .int) jc_169 Q n 116 [some (.ref 0), u1, some (.int x2), some (.int x3), some (.int y0), some (.ref z10.1), some (.int 0)] [] z10.2 by
          obtain ⟨n, hn⟩ := hh
          exact ⟨n + 21, And.intro (jx_in_ok c9) (s_S_thing (by omega) h11 (And.intro (fun _ => hn) (fun zz => absurd c24 zz)))⟩
        obtain ⟨n, hn⟩ := s_F_act_123 hd (u1 := u1) (u2 := some (.int x2)) (u3 := some (.int x3)) (u4 := some (.int y0)) (u5 := some (.ref z10.1)) (u6 := some (.int 0)) (r_S_thing h11) h hQ
        exact ⟨n + 4, hn⟩
      · rw [if_neg c24] at h
        by_cases c23 : x2 = 1
        · rw [if_pos c23] at h
          suffices hh : ∃ n, jx_W jx_ShC d (some .int) jc_169 Q n 131 [some (.ref 0), u1, some (.int x2), some (.int x3), some (.int y0), some (.ref z10.1), some (.int 0)] [] z10.2 by
            obtain ⟨n, hn⟩ := hh
            exact ⟨n + 21, And.intro (jx_in_ok c9) (s_S_thing (by omega) h11 (And.intro (fun zz => absurd zz c24) (fun _ => And.intro (fun _ => hn) (fun zz => absurd c23 zz))))⟩
          obtain ⟨n, hn⟩ := s_F_act_138 hd (u1 := u1) (u2 := some (.int x2)) (u3 := some (.int x3)) (u4 := some (.int y0)) (u5 := some (.ref z10.1)) (u6 := some (.int 0)) (r_S_thing h11) h hQ
          exact ⟨n + 4, hn⟩
        · rw [if_neg c23] at h
          by_cases c22 : x2 = 2
          · rw [if_pos c22] at h
            suffices hh : ∃ n, jx_W jx_ShC d (some .int) jc_169 Q n 146 [some (.ref 0), u1, some (.int x2), some (.int x3), some (.int y0), some (.ref z10.1), some (.int 0)] [] z10.2 by
              obtain ⟨n, hn⟩ := hh
              exact ⟨n + 21, And.intro (jx_in_ok c9) (s_S_thing (by omega) h11 (And.intro (fun zz => absurd zz c24) (fun _ => And.intro (fun zz => absurd zz c23) (fun _ => And.intro (fun _ => hn) (fun zz => absurd c22 zz)))))⟩
            obtain ⟨n, hn⟩ := s_F_act_153 hd (u1 := u1) (u2 := some (.int x2)) (u3 := some (.int x3)) (u4 := some (.int y0)) (u5 := some (.ref z10.1)) (u6 := some (.int 0)) (r_S_thing h11) h hQ
            exact ⟨n + 4, hn⟩
          · rw [if_neg c22] at h
            by_cases c21 : x2 = 3
            · rw [if_pos c21] at h
              suffices hh : ∃ n, jx_W jx_ShC d (some .int) jc_169 Q n 161 [some (.ref 0), u1, some (.int x2), some (.int x3), some (.int y0), some (.ref z10.1), some (.int 0)] [] z10.2 by
                obtain ⟨n, hn⟩ := hh
                exact ⟨n + 21, And.intro (jx_in_ok c9) (s_S_thing (by omega) h11 (And.intro (fun zz => absurd zz c24) (fun _ => And.intro (fun zz => absurd zz c23) (fun _ => And.intro (fun zz => absurd zz c22) (fun _ => And.intro (fun _ => hn) (fun zz => absurd c21 zz))))))⟩
              obtain ⟨n, hn⟩ := s_F_act_168 hd (u1 := u1) (u2 := some (.int x2)) (u3 := some (.int x3)) (u4 := some (.int y0)) (u5 := some (.ref z10.1)) (u6 := some (.int 0)) (r_S_thing h11) h hQ
              exact ⟨n + 4, hn⟩
            · rw [if_neg c21] at h
              obtain ⟨n, hn⟩ := s_F_act_176 hd (u1 := u1) (u2 := some (.int x2)) (u3 := some (.int x3)) (u4 := some (.int y0)) (u5 := some (.ref z10.1)) h hQ
              exact ⟨n + 21, And.intro (jx_in_ok c9) (s_S_thing (by omega) h11 (And.intro (fun zz => absurd zz c24) (fun _ => And.intro (fun zz => absurd zz c23) (fun _ => And.intro (fun zz => absurd zz c22) (fun _ => And.intro (fun zz => absurd zz c21) (fun _ => hn))))))⟩
set_option maxRecDepth 20000 in
theorem s_F_act {N d : Nat} {x1 : Int32} {x2 : Int32} {x3 : Int32} (hd : 8 ≤ d) {σ : jw_M} {z : (Int32 × jw_M)} {Q : jw_Q} (h : f_F_act N x1 x2 x3 σ = some z) (hQ : Q (some (.int z.1)) (jx_ShC, z.2)) : jw_C jp_kd jp_ys d 169 [.ref 0, .int x1, .int x2, .int x3] (jx_ShC, σ) Q := by
  obtain ⟨d, rfl⟩ : ∃ e, d = e + 1 := ⟨d - 1, by omega⟩
  replace hd : 7 ≤ d := by omega
  refine jx_C rfl rfl ?_
  unfold f_F_act at h
  obtain ⟨z1, h2, h⟩ := Option.bind_eq_some_iff.mp h
  obtain ⟨z3, h4, h⟩ := Option.bind_eq_some_iff.mp h
  by_cases c5 : z3.1 = 0
  · rw [if_pos c5] at h
    suffices hh : ∃ n, jx_W jx_ShC d (some .int) jc_169 Q n 29 [some (.ref 0), some (.int x1), some (.int x2), some (.int x3), none, none, none] [] z3.2 by
      obtain ⟨n, hn⟩ := hh
      exact ⟨n + 8, s_H_clearTrace (by omega) h2 (s_H_isShelf (by omega) h4 (And.intro (fun _ => hn) (fun zz => absurd c5 zz)))⟩
    obtain ⟨n, hn⟩ := s_F_act_30 hd (u1 := some (.int x1)) (u4 := none) (u5 := none) (u6 := none) h hQ
    exact ⟨n + 1, hn⟩
  · rw [if_neg c5] at h
    suffices hh : ∃ n, jx_W jx_ShC d (some .int) jc_169 Q n 18 [some (.ref 0), some (.int x1), some (.int x2), some (.int x3), none, none, none] [] z3.2 by
      obtain ⟨n, hn⟩ := hh
      exact ⟨n + 8, s_H_clearTrace (by omega) h2 (s_H_isShelf (by omega) h4 (And.intro (fun zz => absurd zz c5) (fun _ => hn)))⟩
    obtain ⟨z25, h26, h⟩ := Option.bind_eq_some_iff.mp h
    obtain ⟨n, hn⟩ := s_F_act_30 hd (u1 := some (.int x1)) (u4 := none) (u5 := none) (u6 := none) h hQ
    exact ⟨n + 5, s_H_shadowOn (by omega) h26 (hn)⟩
set_option maxRecDepth 20000 in
theorem s_F_trace {N d : Nat} {x1 : Int32} (hd : 2 ≤ d) {σ : jw_M} {z : (Int32 × jw_M)} {Q : jw_Q} (h : f_F_trace N x1 σ = some z) (hQ : Q (some (.int z.1)) (jx_ShC, z.2)) : jw_C jp_kd jp_ys d 170 [.ref 0, .int x1] (jx_ShC, σ) Q := by
  obtain ⟨d, rfl⟩ : ∃ e, d = e + 1 := ⟨d - 1, by omega⟩
  replace hd : 1 ≤ d := by omega
  refine jx_C rfl rfl ?_
  unfold f_F_trace at h
  obtain ⟨z1, h2, h⟩ := Option.bind_eq_some_iff.mp h
  by_cases c3 : z1.1 = 0
  · rw [if_pos c3] at h
    suffices hh : ∃ n, jx_W jx_ShC d (some .int) jc_170 Q n 29 [some (.ref 0), some (.int x1)] [] z1.2 by
      obtain ⟨n, hn⟩ := hh
      exact ⟨n + 9, s_F_isWithin (by omega) h2 (And.intro (fun _ => hn) (fun zz => absurd c3 zz))⟩
    cases h
    exact ⟨2, And.intro hQ (And.intro rfl rfl)⟩
  · rw [if_neg c3] at h
    suffices hh : ∃ n, jx_W jx_ShC d (some .int) jc_170 Q n 17 [some (.ref 0), some (.int x1)] [] z1.2 by
      obtain ⟨n, hn⟩ := hh
      exact ⟨n + 9, s_F_isWithin (by omega) h2 (And.intro (fun zz => absurd zz c3) (fun _ => hn))⟩
    cases c4 : jx_in x1 30 with
    | false => rw [c4, cond_false] at h; cases h
    | true =>
      rw [c4, cond_true] at h
      cases h
      exact ⟨7, And.intro (jx_in_ok c4) (And.intro hQ (And.intro rfl rfl))⟩
set_option maxRecDepth 20000 in
theorem s_F_many {N d : Nat} {x1 : Int32} (hd : 3 ≤ d) {σ : jw_M} {z : (Int32 × jw_M)} {Q : jw_Q} (h : f_F_many N x1 σ = some z) (hQ : Q (some (.int z.1)) (jx_ShC, z.2)) : jw_C jp_kd jp_ys d 171 [.ref 0, .int x1] (jx_ShC, σ) Q := by
  obtain ⟨d, rfl⟩ : ∃ e, d = e + 1 := ⟨d - 1, by omega⟩
  replace hd : 2 ≤ d := by omega
  refine jx_C rfl rfl ?_
  unfold f_F_many at h
  by_cases c10 : x1 = 0
  · rw [if_pos c10] at h
    suffices hh : ∃ n, jx_W jx_ShC d (some .int) jc_171 Q n 48 [some (.ref 0), some (.int x1)] [] σ by
      obtain ⟨n, hn⟩ := hh
      exact ⟨n + 2, And.intro (fun _ => hn) (fun zz => absurd c10 zz)⟩
    cases h
    exact ⟨4, And.intro hQ (And.intro rfl rfl)⟩
  · rw [if_neg c10] at h
    by_cases c9 : x1 = 1
    · rw [if_pos c9] at h
      suffices hh : ∃ n, jx_W jx_ShC d (some .int) jc_171 Q n 56 [some (.ref 0), some (.int x1)] [] σ by
        obtain ⟨n, hn⟩ := hh
        exact ⟨n + 2, And.intro (fun zz => absurd zz c10) (fun _ => And.intro (fun _ => hn) (fun zz => absurd c9 zz))⟩
      cases h
      exact ⟨5, And.intro hQ (And.intro rfl rfl)⟩
    · rw [if_neg c9] at h
      by_cases c8 : x1 = 2
      · rw [if_pos c8] at h
        suffices hh : ∃ n, jx_W jx_ShC d (some .int) jc_171 Q n 67 [some (.ref 0), some (.int x1)] [] σ by
          obtain ⟨n, hn⟩ := hh
          exact ⟨n + 2, And.intro (fun zz => absurd zz c10) (fun _ => And.intro (fun zz => absurd zz c9) (fun _ => And.intro (fun _ => hn) (fun zz => absurd c8 zz)))⟩
        cases h
        exact ⟨4, And.intro hQ (And.intro rfl rfl)⟩
      · rw [if_neg c8] at h
        by_cases c7 : x1 = 3
        · rw [if_pos c7] at h
          suffices hh : ∃ n, jx_W jx_ShC d (some .int) jc_171 Q n 75 [some (.ref 0), some (.int x1)] [] σ by
            obtain ⟨n, hn⟩ := hh
            exact ⟨n + 2, And.intro (fun zz => absurd zz c10) (fun _ => And.intro (fun zz => absurd zz c9) (fun _ => And.intro (fun zz => absurd zz c8) (fun _ => And.intro (fun _ => hn) (fun zz => absurd c7 zz))))⟩
          cases h
          exact ⟨4, And.intro hQ (And.intro rfl rfl)⟩
        · rw [if_neg c7] at h
          by_cases c6 : x1 = 4
          · rw [if_pos c6] at h
            suffices hh : ∃ n, jx_W jx_ShC d (some .int) jc_171 Q n 83 [some (.ref 0), some (.int x1)] [] σ by
              obtain ⟨n, hn⟩ := hh
              exact ⟨n + 2, And.intro (fun zz => absurd zz c10) (fun _ => And.intro (fun zz => absurd zz c9) (fun _ => And.intro (fun zz => absurd zz c8) (fun _ => And.intro (fun zz => absurd zz c7) (fun _ => And.intro (fun _ => hn) (fun zz => absurd c6 zz)))))⟩
            cases h
            exact ⟨4, And.intro hQ (And.intro rfl rfl)⟩
          · rw [if_neg c6] at h
            by_cases c5 : x1 = 5
            · rw [if_pos c5] at h
              suffices hh : ∃ n, jx_W jx_ShC d (some .int) jc_171 Q n 91 [some (.ref 0), some (.int x1)] [] σ by
                obtain ⟨n, hn⟩ := hh
                exact ⟨n + 2, And.intro (fun zz => absurd zz c10) (fun _ => And.intro (fun zz => absurd zz c9) (fun _ => And.intro (fun zz => absurd zz c8) (fun _ => And.intro (fun zz => absurd zz c7) (fun _ => And.intro (fun zz => absurd zz c6) (fun _ => And.intro (fun _ => hn) (fun zz => absurd c5 zz))))))⟩
              cases h
              exact ⟨4, And.intro hQ (And.intro rfl rfl)⟩
            · rw [if_neg c5] at h
              by_cases c4 : x1 = 6
              · rw [if_pos c4] at h
                suffices hh : ∃ n, jx_W jx_ShC d (some .int) jc_171 Q n 99 [some (.ref 0), some (.int x1)] [] σ by
                  obtain ⟨n, hn⟩ := hh
                  exact ⟨n + 2, And.intro (fun zz => absurd zz c10) (fun _ => And.intro (fun zz => absurd zz c9) (fun _ => And.intro (fun zz => absurd zz c8) (fun _ => And.intro (fun zz => absurd zz c7) (fun _ => And.intro (fun zz => absurd zz c6) (fun _ => And.intro (fun zz => absurd zz c5) (fun _ => And.intro (fun _ => hn) (fun zz => absurd c4 zz)))))))⟩
                cases h
                exact ⟨4, And.intro hQ (And.intro rfl rfl)⟩
              · rw [if_neg c4] at h
                by_cases c3 : x1 = 7
                · rw [if_pos c3] at h
                  suffices hh : ∃ n, jx_W jx_ShC d (some .int) jc_171 Q n 107 [some (.ref 0), some (.int x1)] [] σ by
                    obtain ⟨n, hn⟩ := hh
                    exact ⟨n + 2, And.intro (fun zz => absurd zz c10) (fun _ => And.intro (fun zz => absurd zz c9) (fun _ => And.intro (fun zz => absurd zz c8) (fun _ => And.intro (fun zz => absurd zz c7) (fun _ => And.intro (fun zz => absurd zz c6) (fun _ => And.intro (fun zz => absurd zz c5) (fun _ => And.intro (fun zz => absurd zz c4) (fun _ => And.intro (fun _ => hn) (fun zz => absurd c3 zz))))))))⟩
                  obtain ⟨z1, h2, h⟩ := Option.bind_eq_some_iff.mp h
                  cases h
                  exact ⟨4, s_S_howManyQuarrel (by omega) h2 (And.intro hQ (And.intro rfl rfl))⟩
                · rw [if_neg c3] at h
                  cases h
                  exact ⟨4, And.intro (fun zz => absurd zz c10) (fun _ => And.intro (fun zz => absurd zz c9) (fun _ => And.intro (fun zz => absurd zz c8) (fun _ => And.intro (fun zz => absurd zz c7) (fun _ => And.intro (fun zz => absurd zz c6) (fun _ => And.intro (fun zz => absurd zz c5) (fun _ => And.intro (fun zz => absurd zz c4) (fun _ => And.intro (fun zz => absurd zz c3) (fun _ => And.intro hQ (And.intro rfl rfl)))))))))⟩
set_option maxRecDepth 20000 in
theorem s_F_keep {N d : Nat} (hd : 5 ≤ d) {σ : jw_M} {z : (Int32 × jw_M)} {Q : jw_Q} (h : f_F_keep N  σ = some z) (hQ : Q (some (.int z.1)) (jx_ShC, z.2)) : jw_C jp_kd jp_ys d 172 [.ref 0] (jx_ShC, σ) Q := by
  obtain ⟨d, rfl⟩ : ∃ e, d = e + 1 := ⟨d - 1, by omega⟩
  replace hd : 4 ≤ d := by omega
  refine jx_C rfl rfl ?_
  unfold f_F_keep at h
  obtain ⟨z1, h2, h⟩ := Option.bind_eq_some_iff.mp h
  cases h
  exact ⟨10, s_S_copyFrom_38_1 (by omega) h2 (And.intro (Or.inr rfl) (And.intro hQ (And.intro rfl rfl)))⟩
set_option maxRecDepth 20000 in
theorem s_F_again {N d : Nat} (hd : 5 ≤ d) {σ : jw_M} {z : (Int32 × jw_M)} {Q : jw_Q} (h : f_F_again N  σ = some z) (hQ : Q (some (.int z.1)) (jx_ShC, z.2)) : jw_C jp_kd jp_ys d 173 [.ref 0] (jx_ShC, σ) Q := by
  obtain ⟨d, rfl⟩ : ∃ e, d = e + 1 := ⟨d - 1, by omega⟩
  replace hd : 4 ≤ d := by omega
  refine jx_C rfl rfl ?_
  unfold f_F_again at h
  by_cases c1 : (σ.1 0 2) = 0
  · rw [if_pos c1] at h
    suffices hh : ∃ n, jx_W jx_ShC d (some .int) jc_173 Q n 7 [some (.ref 0)] [] σ by
      obtain ⟨n, hn⟩ := hh
      exact ⟨n + 3, And.intro (fun zz => absurd c1 zz) (fun _ => hn)⟩
    cases h
    exact ⟨2, And.intro hQ (And.intro rfl rfl)⟩
  · rw [if_neg c1] at h
    suffices hh : ∃ n, jx_W jx_ShC d (some .int) jc_173 Q n 10 [some (.ref 0)] [] σ by
      obtain ⟨n, hn⟩ := hh
      exact ⟨n + 3, And.intro (fun _ => hn) (fun zz => absurd zz c1)⟩
    obtain ⟨z2, h3, h⟩ := Option.bind_eq_some_iff.mp h
    cases h
    exact ⟨9, s_S_copyFrom_1_38 (by omega) h3 (And.intro hQ (And.intro rfl rfl))⟩
set_option maxRecDepth 20000 in
theorem s_M_in {N d : Nat} {x0 : Int32} {x1 : Int32} {x2 : Int32} (hd : 1 ≤ d) {σ : jw_M} {z : (Int32 × jw_M)} {Q : jw_Q} (h : f_M_in N x0 x1 x2 σ = some z) (hQ : Q (some (.int z.1)) (jx_ShM, z.2)) : jw_C jp_kd jp_ys d 178 [.int x0, .int x1, .int x2] (jx_ShM, σ) Q := by
  obtain ⟨d, rfl⟩ : ∃ e, d = e + 1 := ⟨d - 1, by omega⟩
  replace hd : 0 ≤ d := by omega
  refine jx_C rfl rfl ?_
  unfold f_M_in at h
  by_cases c1 : x0 < x1
  · rw [if_pos c1] at h
    suffices hh : ∃ n, jx_W jx_ShM d (some .boolean) jc_178 Q n 14 [some (.int x0), some (.int x1), some (.int x2)] [] σ by
      obtain ⟨n, hn⟩ := hh
      exact ⟨n + 3, And.intro (fun _ => hn) (fun zz => absurd c1 zz)⟩
    cases h
    exact ⟨2, And.intro (Or.inl rfl) (And.intro hQ (And.intro rfl rfl))⟩
  · rw [if_neg c1] at h
    suffices hh : ∃ n, jx_W jx_ShM d (some .boolean) jc_178 Q n 5 [some (.int x0), some (.int x1), some (.int x2)] [] σ by
      obtain ⟨n, hn⟩ := hh
      exact ⟨n + 3, And.intro (fun zz => absurd zz c1) (fun _ => hn)⟩
    by_cases c2 : x2 < x0
    · rw [if_pos c2] at h
      suffices hh : ∃ n, jx_W jx_ShM d (some .boolean) jc_178 Q n 14 [some (.int x0), some (.int x1), some (.int x2)] [] σ by
        obtain ⟨n, hn⟩ := hh
        exact ⟨n + 3, And.intro (fun _ => hn) (fun zz => absurd c2 zz)⟩
      cases h
      exact ⟨2, And.intro (Or.inl rfl) (And.intro hQ (And.intro rfl rfl))⟩
    · rw [if_neg c2] at h
      suffices hh : ∃ n, jx_W jx_ShM d (some .boolean) jc_178 Q n 10 [some (.int x0), some (.int x1), some (.int x2)] [] σ by
        obtain ⟨n, hn⟩ := hh
        exact ⟨n + 3, And.intro (fun zz => absurd zz c2) (fun _ => hn)⟩
      cases h
      exact ⟨3, And.intro (Or.inr rfl) (And.intro hQ (And.intro rfl rfl))⟩
set_option maxRecDepth 20000 in
theorem s_M_isShadow {N d : Nat} {x1 : Int32} (hd : 2 ≤ d) {σ : jw_M} {z : (Int32 × jw_M)} {Q : jw_Q} (h : f_M_isShadow N x1 σ = some z) (hQ : Q (some (.int z.1)) (jx_ShM, z.2)) : jw_C jp_kd jp_ys d 179 [.ref 0, .int x1] (jx_ShM, σ) Q := by
  obtain ⟨d, rfl⟩ : ∃ e, d = e + 1 := ⟨d - 1, by omega⟩
  replace hd : 1 ≤ d := by omega
  refine jx_C rfl rfl ?_
  unfold f_M_isShadow at h
  obtain ⟨z1, h2, h⟩ := Option.bind_eq_some_iff.mp h
  by_cases c3 : z1.1 = 0 ∨ z1.1 = 1
  · rw [if_pos c3] at h
    cases h
    exact ⟨10, And.intro (jx_in_ok rfl) (s_M_in (by omega) h2 (And.intro c3 (And.intro hQ (And.intro rfl rfl))))⟩
  · rw [if_neg c3] at h
    cases h
set_option maxRecDepth 20000 in
theorem s_M_isLesson {N d : Nat} {x1 : Int32} (hd : 2 ≤ d) {σ : jw_M} {z : (Int32 × jw_M)} {Q : jw_Q} (h : f_M_isLesson N x1 σ = some z) (hQ : Q (some (.int z.1)) (jx_ShM, z.2)) : jw_C jp_kd jp_ys d 180 [.ref 0, .int x1] (jx_ShM, σ) Q := by
  obtain ⟨d, rfl⟩ : ∃ e, d = e + 1 := ⟨d - 1, by omega⟩
  replace hd : 1 ≤ d := by omega
  refine jx_C rfl rfl ?_
  unfold f_M_isLesson at h
  obtain ⟨z1, h2, h⟩ := Option.bind_eq_some_iff.mp h
  by_cases c3 : z1.1 = 0 ∨ z1.1 = 1
  · rw [if_pos c3] at h
    cases h
    exact ⟨10, And.intro (jx_in_ok rfl) (s_M_in (by omega) h2 (And.intro c3 (And.intro hQ (And.intro rfl rfl))))⟩
  · rw [if_neg c3] at h
    cases h
set_option maxRecDepth 20000 in
theorem s_M_of {N d : Nat} {x1 : Int32} {x2 : Int32} (hd : 1 ≤ d) {σ : jw_M} {z : (Int32 × jw_M)} {Q : jw_Q} (h : f_M_of N x1 x2 σ = some z) (hQ : Q (some (.int z.1)) (jx_ShM, z.2)) : jw_C jp_kd jp_ys d 181 [.ref 0, .int x1, .int x2] (jx_ShM, σ) Q := by
  obtain ⟨d, rfl⟩ : ∃ e, d = e + 1 := ⟨d - 1, by omega⟩
  replace hd : 0 ≤ d := by omega
  refine jx_C rfl rfl ?_
  unfold f_M_of at h
  cases c1 : jx_in ((6 + (3 * x1)) + x2) 526 with
  | false => rw [c1, cond_false] at h; cases h
  | true =>
    rw [c1, cond_true] at h
    cases h
    exact ⟨11, And.intro (jx_in_ok c1) (And.intro hQ (And.intro rfl rfl))⟩
set_option maxRecDepth 20000 in
theorem s_M_lessonNumber {N d : Nat} {x1 : Int32} {x2 : Int32} (hd : 1 ≤ d) {σ : jw_M} {z : (Int32 × jw_M)} {Q : jw_Q} (h : f_M_lessonNumber N x1 x2 σ = some z) (hQ : Q (some (.int z.1)) (jx_ShM, z.2)) : jw_C jp_kd jp_ys d 182 [.ref 0, .int x1, .int x2] (jx_ShM, σ) Q := by
  obtain ⟨d, rfl⟩ : ∃ e, d = e + 1 := ⟨d - 1, by omega⟩
  replace hd : 0 ≤ d := by omega
  refine jx_C rfl rfl ?_
  unfold f_M_lessonNumber at h
  cases c1 : jx_in ((24 + (5 * x1)) + x2) 526 with
  | false => rw [c1, cond_false] at h; cases h
  | true =>
    rw [c1, cond_true] at h
    cases h
    exact ⟨11, And.intro (jx_in_ok c1) (And.intro hQ (And.intro rfl rfl))⟩
set_option maxRecDepth 20000 in
theorem s_M_ones_4 {N d : Nat} {Q : jw_Q} (hd : 0 ≤ d) : ∀ (k : Nat) {x1 : Int32} {x2 : Int32} {u0 : Option Value} {σ : jw_M} {z : (Int32 × jw_M)}, f_M_ones_4 N k x1 x2 σ = some z → Q (some (.int z.1)) (jx_ShM, z.2) → ∃ n, jx_W jx_ShM d (some .int) jc_183 Q n 4 [u0, some (.int x1), some (.int x2)] [] σ
  | 0, _, _, _, _, _, h, _ => by cases h
  | k + 1, x1, x2, u0, σ, z, h, hQ => by
    rw [f_M_ones_4] at h
    by_cases c1 : x2 = 0
    · rw [if_pos c1] at h
      suffices hh : ∃ n, jx_W jx_ShM d (some .int) jc_183 Q n 20 [u0, some (.int x1), some (.int x2)] [] σ by
        obtain ⟨n, hn⟩ := hh
        exact ⟨n + 2, And.intro (fun _ => hn) (fun zz => absurd c1 zz)⟩
      cases h
      exact ⟨2, And.intro hQ (And.intro rfl rfl)⟩
    · rw [if_neg c1] at h
      suffices hh : ∃ n, jx_W jx_ShM d (some .int) jc_183 Q n 8 [u0, some (.int x1), some (.int x2)] [] σ by
        obtain ⟨n, hn⟩ := hh
        exact ⟨n + 2, And.intro (fun zz => absurd zz c1) (fun _ => hn)⟩
      obtain ⟨n, hn⟩ := s_M_ones_4 hd k (u0 := (jw_clr u0)) h hQ
      exact ⟨n + 8, hn⟩
set_option maxRecDepth 20000 in
theorem s_M_ones {N d : Nat} {x0 : Int32} (hd : 1 ≤ d) {σ : jw_M} {z : (Int32 × jw_M)} {Q : jw_Q} (h : f_M_ones N x0 σ = some z) (hQ : Q (some (.int z.1)) (jx_ShM, z.2)) : jw_C jp_kd jp_ys d 183 [.int x0] (jx_ShM, σ) Q := by
  obtain ⟨d, rfl⟩ : ∃ e, d = e + 1 := ⟨d - 1, by omega⟩
  replace hd : 0 ≤ d := by omega
  refine jx_C rfl rfl ?_
  unfold f_M_ones at h
  obtain ⟨n, hn⟩ := s_M_ones_4 hd N (u0 := some (.int x0)) h hQ
  exact ⟨n + 4, hn⟩
set_option maxRecDepth 20000 in
theorem s_M_isOver {N d : Nat} (hd : 1 ≤ d) {σ : jw_M} {z : (Int32 × jw_M)} {Q : jw_Q} (h : f_M_isOver N  σ = some z) (hQ : Q (some (.int z.1)) (jx_ShM, z.2)) : jw_C jp_kd jp_ys d 184 [.ref 0] (jx_ShM, σ) Q := by
  obtain ⟨d, rfl⟩ : ∃ e, d = e + 1 := ⟨d - 1, by omega⟩
  replace hd : 0 ≤ d := by omega
  refine jx_C rfl rfl ?_
  unfold f_M_isOver at h
  by_cases c1 : (σ.1 1 0) < (σ.1 3 0)
  · rw [if_pos c1] at h
    suffices hh : ∃ n, jx_W jx_ShM d (some .boolean) jc_184 Q n 19 [some (.ref 0)] [] σ by
      obtain ⟨n, hn⟩ := hh
      exact ⟨n + 9, And.intro (jx_in_ok rfl) (And.intro (jx_in_ok rfl) (And.intro (fun _ => hn) (fun zz => absurd c1 zz)))⟩
    cases h
    exact ⟨2, And.intro (Or.inl rfl) (And.intro hQ (And.intro rfl rfl))⟩
  · rw [if_neg c1] at h
    suffices hh : ∃ n, jx_W jx_ShM d (some .boolean) jc_184 Q n 15 [some (.ref 0)] [] σ by
      obtain ⟨n, hn⟩ := hh
      exact ⟨n + 9, And.intro (jx_in_ok rfl) (And.intro (jx_in_ok rfl) (And.intro (fun zz => absurd zz c1) (fun _ => hn)))⟩
    cases h
    exact ⟨3, And.intro (Or.inr rfl) (And.intro hQ (And.intro rfl rfl))⟩
set_option maxRecDepth 20000 in
theorem s_M_hasLearnt {N d : Nat} {x1 : Int32} {x2 : Int32} (hd : 1 ≤ d) {σ : jw_M} {z : (Int32 × jw_M)} {Q : jw_Q} (h : f_M_hasLearnt N x1 x2 σ = some z) (hQ : Q (some (.int z.1)) (jx_ShM, z.2)) : jw_C jp_kd jp_ys d 185 [.ref 0, .int x1, .int x2] (jx_ShM, σ) Q := by
  obtain ⟨d, rfl⟩ : ∃ e, d = e + 1 := ⟨d - 1, by omega⟩
  replace hd : 0 ≤ d := by omega
  refine jx_C rfl rfl ?_
  unfold f_M_hasLearnt at h
  cases c1 : jx_in (2 + x1) 56 with
  | false => rw [c1, cond_false] at h; cases h
  | true =>
    rw [c1, cond_true] at h
    by_cases c2 : (((σ.1 1 ((2 + x1)).toNatClampNeg) >>> (x2 &&& 31)) &&& 1) = 1
    · rw [if_pos c2] at h
      suffices hh : ∃ n, jx_W jx_ShM d (some .boolean) jc_185 Q n 16 [some (.ref 0), some (.int x1), some (.int x2)] [] σ by
        obtain ⟨n, hn⟩ := hh
        exact ⟨n + 12, And.intro (jx_in_ok c1) (And.intro (fun zz => absurd c2 zz) (fun _ => hn))⟩
      cases h
      exact ⟨3, And.intro (Or.inr rfl) (And.intro hQ (And.intro rfl rfl))⟩
    · rw [if_neg c2] at h
      suffices hh : ∃ n, jx_W jx_ShM d (some .boolean) jc_185 Q n 20 [some (.ref 0), some (.int x1), some (.int x2)] [] σ by
        obtain ⟨n, hn⟩ := hh
        exact ⟨n + 12, And.intro (jx_in_ok c1) (And.intro (fun _ => hn) (fun zz => absurd zz c2))⟩
      cases h
      exact ⟨2, And.intro (Or.inl rfl) (And.intro hQ (And.intro rfl rfl))⟩
set_option maxRecDepth 20000 in
theorem s_M_pointsOf {N d : Nat} {x1 : Int32} {x2 : Int32} (hd : 1 ≤ d) {σ : jw_M} {z : (Int32 × jw_M)} {Q : jw_Q} (h : f_M_pointsOf N x1 x2 σ = some z) (hQ : Q (some (.int z.1)) (jx_ShM, z.2)) : jw_C jp_kd jp_ys d 186 [.ref 0, .int x1, .int x2] (jx_ShM, σ) Q := by
  obtain ⟨d, rfl⟩ : ∃ e, d = e + 1 := ⟨d - 1, by omega⟩
  replace hd : 0 ≤ d := by omega
  refine jx_C rfl rfl ?_
  unfold f_M_pointsOf at h
  cases c1 : jx_in ((8 + (8 * x1)) + x2) 56 with
  | false => rw [c1, cond_false] at h; cases h
  | true =>
    rw [c1, cond_true] at h
    cases h
    exact ⟨11, And.intro (jx_in_ok c1) (And.intro hQ (And.intro rfl rfl))⟩
set_option maxRecDepth 20000 in
theorem s_M_save_2 {N d : Nat} {Q : jw_Q} (hd : 0 ≤ d) : ∀ (k : Nat) {x1 : Int32} {x2 : Int32} {σ : jw_M} {z : jw_M}, f_M_save_2 N k x1 x2 σ = some z → Q none (jx_ShM, z) → ∃ n, jx_W jx_ShM d none jc_187 Q n 2 [some (.ref 0), some (.int x1), some (.int x2)] [] σ
  | 0, _, _, _, _, h, _ => by cases h
  | k + 1, x1, x2, σ, z, h, hQ => by
    rw [f_M_save_2] at h
    by_cases c1 : 56 ≤ x2
    · rw [if_pos c1] at h
      suffices hh : ∃ n, jx_W jx_ShM d none jc_187 Q n 31 [some (.ref 0), some (.int x1), some (.int x2)] [] σ by
        obtain ⟨n, hn⟩ := hh
        exact ⟨n + 3, And.intro (fun _ => hn) (fun zz => absurd c1 zz)⟩
      cases h
      exact ⟨1, And.intro hQ (And.intro rfl rfl)⟩
    · rw [if_neg c1] at h
      suffices hh : ∃ n, jx_W jx_ShM d none jc_187 Q n 8 [some (.ref 0), some (.int x1), some (.int x2)] [] σ by
        obtain ⟨n, hn⟩ := hh
        exact ⟨n + 3, And.intro (fun zz => absurd zz c1) (fun _ => hn)⟩
      cases c2 : jx_in x2 56 with
      | false => rw [c2, cond_false] at h; cases h
      | true =>
        rw [c2, cond_true] at h
        cases c3 : jx_in ((56 * x1) + x2) 392 with
        | false => rw [c3, cond_false] at h; cases h
        | true =>
          rw [c3, cond_true] at h
          obtain ⟨n, hn⟩ := s_M_save_2 hd k h hQ
          exact ⟨n + 14, And.intro (jx_in_ok c2) (And.intro (jx_in_ok c3) (hn))⟩
set_option maxRecDepth 20000 in
theorem s_M_save {N d : Nat} {x1 : Int32} (hd : 1 ≤ d) {σ : jw_M} {z : jw_M} {Q : jw_Q} (h : f_M_save N x1 σ = some z) (hQ : Q none (jx_ShM, z)) : jw_C jp_kd jp_ys d 187 [.ref 0, .int x1] (jx_ShM, σ) Q := by
  obtain ⟨d, rfl⟩ : ∃ e, d = e + 1 := ⟨d - 1, by omega⟩
  replace hd : 0 ≤ d := by omega
  refine jx_C rfl rfl ?_
  unfold f_M_save at h
  obtain ⟨n, hn⟩ := s_M_save_2 hd N h hQ
  exact ⟨n + 2, hn⟩
set_option maxRecDepth 20000 in
theorem s_M_load_2 {N d : Nat} {Q : jw_Q} (hd : 0 ≤ d) : ∀ (k : Nat) {x1 : Int32} {x2 : Int32} {σ : jw_M} {z : jw_M}, f_M_load_2 N k x1 x2 σ = some z → Q none (jx_ShM, z) → ∃ n, jx_W jx_ShM d none jc_188 Q n 2 [some (.ref 0), some (.int x1), some (.int x2)] [] σ
  | 0, _, _, _, _, h, _ => by cases h
  | k + 1, x1, x2, σ, z, h, hQ => by
    rw [f_M_load_2] at h
    by_cases c1 : 56 ≤ x2
    · rw [if_pos c1] at h
      suffices hh : ∃ n, jx_W jx_ShM d none jc_188 Q n 31 [some (.ref 0), some (.int x1), some (.int x2)] [] σ by
        obtain ⟨n, hn⟩ := hh
        exact ⟨n + 3, And.intro (fun _ => hn) (fun zz => absurd c1 zz)⟩
      cases h
      exact ⟨1, And.intro hQ (And.intro rfl rfl)⟩
    · rw [if_neg c1] at h
      suffices hh : ∃ n, jx_W jx_ShM d none jc_188 Q n 8 [some (.ref 0), some (.int x1), some (.int x2)] [] σ by
        obtain ⟨n, hn⟩ := hh
        exact ⟨n + 3, And.intro (fun zz => absurd zz c1) (fun _ => hn)⟩
      cases c2 : jx_in ((56 * x1) + x2) 392 with
      | false => rw [c2, cond_false] at h; cases h
      | true =>
        rw [c2, cond_true] at h
        cases c3 : jx_in x2 56 with
        | false => rw [c3, cond_false] at h; cases h
        | true =>
          rw [c3, cond_true] at h
          obtain ⟨n, hn⟩ := s_M_load_2 hd k h hQ
          exact ⟨n + 14, And.intro (jx_in_ok c2) (And.intro (jx_in_ok c3) (hn))⟩
set_option maxRecDepth 20000 in
theorem s_M_load {N d : Nat} {x1 : Int32} (hd : 1 ≤ d) {σ : jw_M} {z : jw_M} {Q : jw_Q} (h : f_M_load N x1 σ = some z) (hQ : Q none (jx_ShM, z)) : jw_C jp_kd jp_ys d 188 [.ref 0, .int x1] (jx_ShM, σ) Q := by
  obtain ⟨d, rfl⟩ : ∃ e, d = e + 1 := ⟨d - 1, by omega⟩
  replace hd : 0 ≤ d := by omega
  refine jx_C rfl rfl ?_
  unfold f_M_load at h
  obtain ⟨n, hn⟩ := s_M_load_2 hd N h hQ
  exact ⟨n + 2, hn⟩
set_option maxRecDepth 20000 in
theorem s_M_paceBy {N d : Nat} {x0 : Int32} {x1 : Int32} {x2 : Int32} (hd : 1 ≤ d) {σ : jw_M} {z : (Int32 × jw_M)} {Q : jw_Q} (h : f_M_paceBy N x0 x1 x2 σ = some z) (hQ : Q (some (.int z.1)) (jx_ShM, z.2)) : jw_C jp_kd jp_ys d 189 [.int x0, .int x1, .int x2] (jx_ShM, σ) Q := by
  obtain ⟨d, rfl⟩ : ∃ e, d = e + 1 := ⟨d - 1, by omega⟩
  replace hd : 0 ≤ d := by omega
  refine jx_C rfl rfl ?_
  unfold f_M_paceBy at h
  by_cases c8 : x0 = 1
  · rw [if_pos c8] at h
    suffices hh : ∃ n, jx_W jx_ShM d (some .int) jc_189 Q n 36 [some (.int x0), some (.int x1), some (.int x2)] [] σ by
      obtain ⟨n, hn⟩ := hh
      exact ⟨n + 2, And.intro (fun _ => hn) (fun zz => absurd c8 zz)⟩
    by_cases c1 : (x2 - x2 / 4 * 4) = 3
    · rw [if_pos c1] at h
      suffices hh : ∃ n, jx_W jx_ShM d (some .int) jc_189 Q n 43 [some (.int x0), some (.int x1), some (.int x2)] [] σ by
        obtain ⟨n, hn⟩ := hh
        exact ⟨n + 5, And.intro (by decide) (And.intro (fun zz => absurd c1 zz) (fun _ => hn))⟩
      cases h
      exact ⟨3, And.intro hQ (And.intro rfl rfl)⟩
    · rw [if_neg c1] at h
      suffices hh : ∃ n, jx_W jx_ShM d (some .int) jc_189 Q n 47 [some (.int x0), some (.int x1), some (.int x2)] [] σ by
        obtain ⟨n, hn⟩ := hh
        exact ⟨n + 5, And.intro (by decide) (And.intro (fun _ => hn) (fun zz => absurd zz c1))⟩
      cases h
      exact ⟨2, And.intro hQ (And.intro rfl rfl)⟩
  · rw [if_neg c8] at h
    by_cases c7 : x0 = 2
    · rw [if_pos c7] at h
      suffices hh : ∃ n, jx_W jx_ShM d (some .int) jc_189 Q n 49 [some (.int x0), some (.int x1), some (.int x2)] [] σ by
        obtain ⟨n, hn⟩ := hh
        exact ⟨n + 2, And.intro (fun zz => absurd zz c8) (fun _ => And.intro (fun _ => hn) (fun zz => absurd c7 zz))⟩
      by_cases c2 : x2 = 6
      · rw [if_pos c2] at h
        suffices hh : ∃ n, jx_W jx_ShM d (some .int) jc_189 Q n 55 [some (.int x0), some (.int x1), some (.int x2)] [] σ by
          obtain ⟨n, hn⟩ := hh
          exact ⟨n + 3, And.intro (fun zz => absurd c2 zz) (fun _ => hn)⟩
        cases h
        exact ⟨3, And.intro hQ (And.intro rfl rfl)⟩
      · rw [if_neg c2] at h
        suffices hh : ∃ n, jx_W jx_ShM d (some .int) jc_189 Q n 59 [some (.int x0), some (.int x1), some (.int x2)] [] σ by
          obtain ⟨n, hn⟩ := hh
          exact ⟨n + 3, And.intro (fun _ => hn) (fun zz => absurd zz c2)⟩
        cases h
        exact ⟨4, And.intro hQ (And.intro rfl rfl)⟩
    · rw [if_neg c7] at h
      by_cases c6 : x0 = 3
      · rw [if_pos c6] at h
        suffices hh : ∃ n, jx_W jx_ShM d (some .int) jc_189 Q n 63 [some (.int x0), some (.int x1), some (.int x2)] [] σ by
          obtain ⟨n, hn⟩ := hh
          exact ⟨n + 2, And.intro (fun zz => absurd zz c8) (fun _ => And.intro (fun zz => absurd zz c7) (fun _ => And.intro (fun _ => hn) (fun zz => absurd c6 zz)))⟩
        by_cases c3 : x2 = 6
        · rw [if_pos c3] at h
          suffices hh : ∃ n, jx_W jx_ShM d (some .int) jc_189 Q n 69 [some (.int x0), some (.int x1), some (.int x2)] [] σ by
            obtain ⟨n, hn⟩ := hh
            exact ⟨n + 3, And.intro (fun zz => absurd c3 zz) (fun _ => hn)⟩
          cases h
          exact ⟨5, And.intro hQ (And.intro rfl rfl)⟩
        · rw [if_neg c3] at h
          suffices hh : ∃ n, jx_W jx_ShM d (some .int) jc_189 Q n 73 [some (.int x0), some (.int x1), some (.int x2)] [] σ by
            obtain ⟨n, hn⟩ := hh
            exact ⟨n + 3, And.intro (fun _ => hn) (fun zz => absurd zz c3)⟩
          cases h
          exact ⟨6, And.intro hQ (And.intro rfl rfl)⟩
      · rw [if_neg c6] at h
        by_cases c5 : x0 = 4
        · rw [if_pos c5] at h
          suffices hh : ∃ n, jx_W jx_ShM d (some .int) jc_189 Q n 79 [some (.int x0), some (.int x1), some (.int x2)] [] σ by
            obtain ⟨n, hn⟩ := hh
            exact ⟨n + 2, And.intro (fun zz => absurd zz c8) (fun _ => And.intro (fun zz => absurd zz c7) (fun _ => And.intro (fun zz => absurd zz c6) (fun _ => And.intro (fun _ => hn) (fun zz => absurd c5 zz))))⟩
          cases h
          exact ⟨6, And.intro (by decide) (And.intro hQ (And.intro rfl rfl))⟩
        · rw [if_neg c5] at h
          by_cases c4 : x0 = 5
          · rw [if_pos c4] at h
            suffices hh : ∃ n, jx_W jx_ShM d (some .int) jc_189 Q n 85 [some (.int x0), some (.int x1), some (.int x2)] [] σ by
              obtain ⟨n, hn⟩ := hh
              exact ⟨n + 2, And.intro (fun zz => absurd zz c8) (fun _ => And.intro (fun zz => absurd zz c7) (fun _ => And.intro (fun zz => absurd zz c6) (fun _ => And.intro (fun zz => absurd zz c5) (fun _ => And.intro (fun _ => hn) (fun zz => absurd c4 zz)))))⟩
            cases h
            exact ⟨10, And.intro (by decide) (And.intro (by decide) (And.intro hQ (And.intro rfl rfl)))⟩
          · rw [if_neg c4] at h
            cases h
            exact ⟨4, And.intro (fun zz => absurd zz c8) (fun _ => And.intro (fun zz => absurd zz c7) (fun _ => And.intro (fun zz => absurd zz c6) (fun _ => And.intro (fun zz => absurd zz c5) (fun _ => And.intro (fun zz => absurd zz c4) (fun _ => And.intro hQ (And.intro rfl rfl))))))⟩
set_option maxRecDepth 20000 in
theorem s_M_far {N d : Nat} {x0 : Int32} {x1 : Int32} (hd : 1 ≤ d) {σ : jw_M} {z : (Int32 × jw_M)} {Q : jw_Q} (h : f_M_far N x0 x1 σ = some z) (hQ : Q (some (.int z.1)) (jx_ShM, z.2)) : jw_C jp_kd jp_ys d 190 [.int x0, .int x1] (jx_ShM, σ) Q := by
  obtain ⟨d, rfl⟩ : ∃ e, d = e + 1 := ⟨d - 1, by omega⟩
  replace hd : 0 ≤ d := by omega
  refine jx_C rfl rfl ?_
  unfold f_M_far at h
  by_cases c1 : x1 ≤ x0
  · rw [if_pos c1] at h
    suffices hh : ∃ n, jx_W jx_ShM d (some .int) jc_190 Q n 11 [some (.int x0), some (.int x1)] [] σ by
      obtain ⟨n, hn⟩ := hh
      exact ⟨n + 3, And.intro (fun _ => hn) (fun zz => absurd c1 zz)⟩
    cases h
    exact ⟨4, And.intro hQ (And.intro rfl rfl)⟩
  · rw [if_neg c1] at h
    suffices hh : ∃ n, jx_W jx_ShM d (some .int) jc_190 Q n 5 [some (.int x0), some (.int x1)] [] σ by
      obtain ⟨n, hn⟩ := hh
      exact ⟨n + 3, And.intro (fun zz => absurd zz c1) (fun _ => hn)⟩
    cases h
    exact ⟨5, And.intro hQ (And.intro rfl rfl)⟩
set_option maxRecDepth 20000 in
theorem s_M_lengthBy {N d : Nat} {x0 : Int32} {x1 : Int32} {x2 : Int32} (hd : 2 ≤ d) {σ : jw_M} {z : (Int32 × jw_M)} {Q : jw_Q} (h : f_M_lengthBy N x0 x1 x2 σ = some z) (hQ : Q (some (.int z.1)) (jx_ShM, z.2)) : jw_C jp_kd jp_ys d 191 [.int x0, .int x1, .int x2] (jx_ShM, σ) Q := by
  obtain ⟨d, rfl⟩ : ∃ e, d = e + 1 := ⟨d - 1, by omega⟩
  replace hd : 1 ≤ d := by omega
  refine jx_C rfl rfl ?_
  unfold f_M_lengthBy at h
  by_cases c12 : x0 = 3
  · rw [if_pos c12] at h
    suffices hh : ∃ n, jx_W jx_ShM d (some .int) jc_191 Q n 28 [some (.int x0), some (.int x1), some (.int x2), none] [] σ by
      obtain ⟨n, hn⟩ := hh
      exact ⟨n + 2, And.intro (fun _ => hn) (fun zz => absurd c12 zz)⟩
    obtain ⟨z1, h2, h⟩ := Option.bind_eq_some_iff.mp h
    by_cases c3 : 0 ≤ ((x1 * z1.1) - 2)
    · rw [if_pos c3] at h
      suffices hh : ∃ n, jx_W jx_ShM d (some .int) jc_191 Q n 47 [some (.int x0), some (.int x1), some (.int x2), some (.int ((x1 * z1.1) - 2))] [] z1.2 by
        obtain ⟨n, hn⟩ := hh
        exact ⟨n + 10, s_M_far (by omega) h2 (And.intro (fun _ => hn) (fun zz => absurd c3 zz))⟩
      cases h
      exact ⟨2, And.intro hQ (And.intro rfl rfl)⟩
    · rw [if_neg c3] at h
      suffices hh : ∃ n, jx_W jx_ShM d (some .int) jc_191 Q n 43 [some (.int x0), some (.int x1), some (.int x2), some (.int ((x1 * z1.1) - 2))] [] z1.2 by
        obtain ⟨n, hn⟩ := hh
        exact ⟨n + 10, s_M_far (by omega) h2 (And.intro (fun zz => absurd zz c3) (fun _ => hn))⟩
      cases h
      exact ⟨3, And.intro hQ (And.intro rfl rfl)⟩
  · rw [if_neg c12] at h
    by_cases c11 : x0 = 4
    · rw [if_pos c11] at h
      suffices hh : ∃ n, jx_W jx_ShM d (some .int) jc_191 Q n 49 [some (.int x0), some (.int x1), some (.int x2), none] [] σ by
        obtain ⟨n, hn⟩ := hh
        exact ⟨n + 2, And.intro (fun zz => absurd zz c12) (fun _ => And.intro (fun _ => hn) (fun zz => absurd c11 zz))⟩
      obtain ⟨z4, h5, h⟩ := Option.bind_eq_some_iff.mp h
      cases h
      exact ⟨6, s_M_far (by omega) h5 (And.intro hQ (And.intro rfl rfl))⟩
    · rw [if_neg c11] at h
      by_cases c10 : x0 = 5
      · rw [if_pos c10] at h
        suffices hh : ∃ n, jx_W jx_ShM d (some .int) jc_191 Q n 58 [some (.int x0), some (.int x1), some (.int x2), none] [] σ by
          obtain ⟨n, hn⟩ := hh
          exact ⟨n + 2, And.intro (fun zz => absurd zz c12) (fun _ => And.intro (fun zz => absurd zz c11) (fun _ => And.intro (fun _ => hn) (fun zz => absurd c10 zz)))⟩
        obtain ⟨z6, h7, h⟩ := Option.bind_eq_some_iff.mp h
        cases h
        exact ⟨8, s_M_far (by omega) h7 (And.intro hQ (And.intro rfl rfl))⟩
      · rw [if_neg c10] at h
        obtain ⟨z8, h9, h⟩ := Option.bind_eq_some_iff.mp h
        cases h
        exact ⟨8, And.intro (fun zz => absurd zz c12) (fun _ => And.intro (fun zz => absurd zz c11) (fun _ => And.intro (fun zz => absurd zz c10) (fun _ => s_M_far (by omega) h9 (And.intro hQ (And.intro rfl rfl)))))⟩
set_option maxRecDepth 20000 in
theorem s_M_isUnder_29 {N d : Nat} {Q : jw_Q} (hd : 0 ≤ d) {u0 : Option Value} {u1 : Option Value} {σ : jw_M} {z : (Int32 × jw_M)} (h : f_M_isUnder_29 N  σ = some z) (hQ : Q (some (.int z.1)) (jx_ShM, z.2)) : ∃ n, jx_W jx_ShM d (some .boolean) jc_192 Q n 29 [u0, u1] [] σ := by
  unfold f_M_isUnder_29 at h
  cases h
  exact ⟨3, And.intro (Or.inr rfl) (And.intro hQ (And.intro rfl rfl))⟩
set_option maxRecDepth 20000 in
theorem s_M_isUnder_19 {N d : Nat} {Q : jw_Q} (hd : 0 ≤ d) {x0 : Int32} {x1 : Int32} {σ : jw_M} {z : (Int32 × jw_M)} (h : f_M_isUnder_19 N x0 x1 σ = some z) (hQ : Q (some (.int z.1)) (jx_ShM, z.2)) : ∃ n, jx_W jx_ShM d (some .boolean) jc_192 Q n 19 [some (.int x0), some (.int x1)] [] σ := by
  unfold f_M_isUnder_19 at h
  by_cases c5 : x1 = 4
  · rw [if_pos c5] at h
    suffices hh : ∃ n, jx_W jx_ShM d (some .boolean) jc_192 Q n 24 [some (.int x0), some (.int x1)] [] σ by
      obtain ⟨n, hn⟩ := hh
      exact ⟨n + 3, And.intro (fun zz => absurd c5 zz) (fun _ => hn)⟩
    by_cases c6 : x0 = 5
    · rw [if_pos c6] at h
      suffices hh : ∃ n, jx_W jx_ShM d (some .boolean) jc_192 Q n 29 [some (.int x0), some (.int x1)] [] σ by
        obtain ⟨n, hn⟩ := hh
        exact ⟨n + 3, And.intro (fun zz => absurd c6 zz) (fun _ => hn)⟩
      obtain ⟨n, hn⟩ := s_M_isUnder_29 hd (u0 := some (.int x0)) (u1 := some (.int x1)) h hQ
      exact ⟨n + 0, hn⟩
    · rw [if_neg c6] at h
      suffices hh : ∃ n, jx_W jx_ShM d (some .boolean) jc_192 Q n 33 [some (.int x0), some (.int x1)] [] σ by
        obtain ⟨n, hn⟩ := hh
        exact ⟨n + 3, And.intro (fun _ => hn) (fun zz => absurd zz c6)⟩
      cases h
      exact ⟨2, And.intro (Or.inl rfl) (And.intro hQ (And.intro rfl rfl))⟩
  · rw [if_neg c5] at h
    suffices hh : ∃ n, jx_W jx_ShM d (some .boolean) jc_192 Q n 33 [some (.int x0), some (.int x1)] [] σ by
      obtain ⟨n, hn⟩ := hh
      exact ⟨n + 3, And.intro (fun _ => hn) (fun zz => absurd zz c5)⟩
    cases h
    exact ⟨2, And.intro (Or.inl rfl) (And.intro hQ (And.intro rfl rfl))⟩
set_option maxRecDepth 20000 in
theorem s_M_isUnder {N d : Nat} {x0 : Int32} {x1 : Int32} (hd : 1 ≤ d) {σ : jw_M} {z : (Int32 × jw_M)} {Q : jw_Q} (h : f_M_isUnder N x0 x1 σ = some z) (hQ : Q (some (.int z.1)) (jx_ShM, z.2)) : jw_C jp_kd jp_ys d 192 [.int x0, .int x1] (jx_ShM, σ) Q := by
  obtain ⟨d, rfl⟩ : ∃ e, d = e + 1 := ⟨d - 1, by omega⟩
  replace hd : 0 ≤ d := by omega
  refine jx_C rfl rfl ?_
  unfold f_M_isUnder at h
  by_cases c1 : x1 = 0
  · rw [if_pos c1] at h
    suffices hh : ∃ n, jx_W jx_ShM d (some .boolean) jc_192 Q n 29 [some (.int x0), some (.int x1)] [] σ by
      obtain ⟨n, hn⟩ := hh
      exact ⟨n + 2, And.intro (fun _ => hn) (fun zz => absurd c1 zz)⟩
    obtain ⟨n, hn⟩ := s_M_isUnder_29 hd (u0 := some (.int x0)) (u1 := some (.int x1)) h hQ
    exact ⟨n + 0, hn⟩
  · rw [if_neg c1] at h
    suffices hh : ∃ n, jx_W jx_ShM d (some .boolean) jc_192 Q n 4 [some (.int x0), some (.int x1)] [] σ by
      obtain ⟨n, hn⟩ := hh
      exact ⟨n + 2, And.intro (fun zz => absurd zz c1) (fun _ => hn)⟩
    by_cases c2 : x1 = x0
    · rw [if_pos c2] at h
      suffices hh : ∃ n, jx_W jx_ShM d (some .boolean) jc_192 Q n 29 [some (.int x0), some (.int x1)] [] σ by
        obtain ⟨n, hn⟩ := hh
        exact ⟨n + 3, And.intro (fun _ => hn) (fun zz => absurd c2 zz)⟩
      obtain ⟨n, hn⟩ := s_M_isUnder_29 hd (u0 := some (.int x0)) (u1 := some (.int x1)) h hQ
      exact ⟨n + 0, hn⟩
    · rw [if_neg c2] at h
      suffices hh : ∃ n, jx_W jx_ShM d (some .boolean) jc_192 Q n 9 [some (.int x0), some (.int x1)] [] σ by
        obtain ⟨n, hn⟩ := hh
        exact ⟨n + 3, And.intro (fun zz => absurd zz c2) (fun _ => hn)⟩
      by_cases c3 : x1 = 2
      · rw [if_pos c3] at h
        suffices hh : ∃ n, jx_W jx_ShM d (some .boolean) jc_192 Q n 14 [some (.int x0), some (.int x1)] [] σ by
          obtain ⟨n, hn⟩ := hh
          exact ⟨n + 3, And.intro (fun zz => absurd c3 zz) (fun _ => hn)⟩
        by_cases c4 : x0 = 3
        · rw [if_pos c4] at h
          suffices hh : ∃ n, jx_W jx_ShM d (some .boolean) jc_192 Q n 29 [some (.int x0), some (.int x1)] [] σ by
            obtain ⟨n, hn⟩ := hh
            exact ⟨n + 3, And.intro (fun _ => hn) (fun zz => absurd c4 zz)⟩
          obtain ⟨n, hn⟩ := s_M_isUnder_29 hd (u0 := some (.int x0)) (u1 := some (.int x1)) h hQ
          exact ⟨n + 0, hn⟩
        · rw [if_neg c4] at h
          suffices hh : ∃ n, jx_W jx_ShM d (some .boolean) jc_192 Q n 19 [some (.int x0), some (.int x1)] [] σ by
            obtain ⟨n, hn⟩ := hh
            exact ⟨n + 3, And.intro (fun zz => absurd zz c4) (fun _ => hn)⟩
          obtain ⟨n, hn⟩ := s_M_isUnder_19 hd h hQ
          exact ⟨n + 0, hn⟩
      · rw [if_neg c3] at h
        suffices hh : ∃ n, jx_W jx_ShM d (some .boolean) jc_192 Q n 19 [some (.int x0), some (.int x1)] [] σ by
          obtain ⟨n, hn⟩ := hh
          exact ⟨n + 3, And.intro (fun _ => hn) (fun zz => absurd zz c3)⟩
        obtain ⟨n, hn⟩ := s_M_isUnder_19 hd h hQ
        exact ⟨n + 0, hn⟩
set_option maxRecDepth 20000 in
theorem s_M_shadow_120 {N d : Nat} {Q : jw_Q} (hd : 1 ≤ d) : ∀ (k : Nat) {x4 : Int32} {x5 : Int32} {u1 : Option Value} {u2 : Option Value} {u3 : Option Value} {σ : jw_M} {z : (Int32 × jw_M)}, f_M_shadow_120 N k x4 x5 σ = some z → Q (some (.int z.1)) (jx_ShM, z.2) → ∃ n, jx_W jx_ShM d (some .int) jc_193 Q n 120 [some (.ref 0), u1, u2, u3, some (.int x4), some (.int x5)] [] σ
  | 0, _, _, _, _, _, _, _, h, _ => by cases h
  | k + 1, x4, x5, u1, u2, u3, σ, z, h, hQ => by
    rw [f_M_shadow_120] at h
    by_cases c16 : 8 ≤ x5
    · rw [if_pos c16] at h
      suffices hh : ∃ n, jx_W jx_ShM d (some .int) jc_193 Q n 150 [some (.ref 0), u1, u2, u3, some (.int x4), some (.int x5)] [] σ by
        obtain ⟨n, hn⟩ := hh
        exact ⟨n + 3, And.intro (fun _ => hn) (fun zz => absurd c16 zz)⟩
      cases h
      exact ⟨10, And.intro (jx_in_ok rfl) (And.intro (jx_in_ok rfl) (And.intro hQ (And.intro rfl rfl)))⟩
    · rw [if_neg c16] at h
      suffices hh : ∃ n, jx_W jx_ShM d (some .int) jc_193 Q n 127 [some (.ref 0), u1, u2, u3, some (.int x4), some (.int x5)] [] σ by
        obtain ⟨n, hn⟩ := hh
        exact ⟨n + 3, And.intro (fun zz => absurd zz c16) (fun _ => hn)⟩
      cases c17 : jx_in ((8 + (8 * x4)) + x5) 56 with
      | false => rw [c17, cond_false] at h; cases h
      | true =>
        rw [c17, cond_true] at h
        obtain ⟨n, hn⟩ := s_M_shadow_120 hd k (u1 := u1) (u2 := u2) (u3 := u3) h hQ
        exact ⟨n + 13, And.intro (jx_in_ok c17) (hn)⟩
set_option maxRecDepth 20000 in
theorem s_M_shadow {N d : Nat} {x1 : Int32} {x2 : Int32} {x3 : Int32} (hd : 2 ≤ d) {σ : jw_M} {z : (Int32 × jw_M)} {Q : jw_Q} (h : f_M_shadow N x1 x2 x3 σ = some z) (hQ : Q (some (.int z.1)) (jx_ShM, z.2)) : jw_C jp_kd jp_ys d 193 [.ref 0, .int x1, .int x2, .int x3] (jx_ShM, σ) Q := by
  obtain ⟨d, rfl⟩ : ∃ e, d = e + 1 := ⟨d - 1, by omega⟩
  replace hd : 1 ≤ d := by omega
  refine jx_C rfl rfl ?_
  unfold f_M_shadow at h
  obtain ⟨z1, h2, h⟩ := Option.bind_eq_some_iff.mp h
  by_cases c3 : z1.1 = 0
  · rw [if_pos c3] at h
    suffices hh : ∃ n, jx_W jx_ShM d (some .int) jc_193 Q n 29 [some (.ref 0), some (.int x1), some (.int x2), some (.int x3), none, none] [] z1.2 by
      obtain ⟨n, hn⟩ := hh
      exact ⟨n + 5, s_M_in (by omega) h2 (And.intro (fun _ => hn) (fun zz => absurd c3 zz))⟩
    cases h
    exact ⟨2, And.intro hQ (And.intro rfl rfl)⟩
  · rw [if_neg c3] at h
    suffices hh : ∃ n, jx_W jx_ShM d (some .int) jc_193 Q n 9 [some (.ref 0), some (.int x1), some (.int x2), some (.int x3), none, none] [] z1.2 by
      obtain ⟨n, hn⟩ := hh
      exact ⟨n + 5, s_M_in (by omega) h2 (And.intro (fun zz => absurd zz c3) (fun _ => hn))⟩
    obtain ⟨z4, h5, h⟩ := Option.bind_eq_some_iff.mp h
    by_cases c6 : z4.1 = 0
    · rw [if_pos c6] at h
      suffices hh : ∃ n, jx_W jx_ShM d (some .int) jc_193 Q n 29 [some (.ref 0), some (.int x1), some (.int x2), some (.int x3), none, none] [] z4.2 by
        obtain ⟨n, hn⟩ := hh
        exact ⟨n + 5, s_M_in (by omega) h5 (And.intro (fun _ => hn) (fun zz => absurd c6 zz))⟩
      cases h
      exact ⟨2, And.intro hQ (And.intro rfl rfl)⟩
    · rw [if_neg c6] at h
      suffices hh : ∃ n, jx_W jx_ShM d (some .int) jc_193 Q n 19 [some (.ref 0), some (.int x1), some (.int x2), some (.int x3), none, none] [] z4.2 by
        obtain ⟨n, hn⟩ := hh
        exact ⟨n + 5, s_M_in (by omega) h5 (And.intro (fun zz => absurd zz c6) (fun _ => hn))⟩
      obtain ⟨z7, h8, h⟩ := Option.bind_eq_some_iff.mp h
      by_cases c9 : z7.1 = 0
      · rw [if_pos c9] at h
        suffices hh : ∃ n, jx_W jx_ShM d (some .int) jc_193 Q n 29 [some (.ref 0), some (.int x1), some (.int x2), some (.int x3), none, none] [] z7.2 by
          obtain ⟨n, hn⟩ := hh
          exact ⟨n + 5, s_M_in (by omega) h8 (And.intro (fun zz => absurd c9 zz) (fun _ => hn))⟩
        cases h
        exact ⟨2, And.intro hQ (And.intro rfl rfl)⟩
      · rw [if_neg c9] at h
        suffices hh : ∃ n, jx_W jx_ShM d (some .int) jc_193 Q n 31 [some (.ref 0), some (.int x1), some (.int x2), some (.int x3), none, none] [] z7.2 by
          obtain ⟨n, hn⟩ := hh
          exact ⟨n + 5, s_M_in (by omega) h8 (And.intro (fun _ => hn) (fun zz => absurd zz c9))⟩
        by_cases c10 : (z7.2.1 3 2) = 6
        · rw [if_pos c10] at h
          suffices hh : ∃ n, jx_W jx_ShM d (some .int) jc_193 Q n 42 [some (.ref 0), some (.int x1), some (.int x2), some (.int x3), none, none] [] z7.2 by
            obtain ⟨n, hn⟩ := hh
            exact ⟨n + 6, And.intro (jx_in_ok rfl) (And.intro (fun zz => absurd c10 zz) (fun _ => hn))⟩
          cases h
          exact ⟨2, And.intro hQ (And.intro rfl rfl)⟩
        · rw [if_neg c10] at h
          suffices hh : ∃ n, jx_W jx_ShM d (some .int) jc_193 Q n 45 [some (.ref 0), some (.int x1), some (.int x2), some (.int x3), none, none] [] z7.2 by
            obtain ⟨n, hn⟩ := hh
            exact ⟨n + 6, And.intro (jx_in_ok rfl) (And.intro (fun _ => hn) (fun zz => absurd zz c10))⟩
          cases c11 : jx_in (6 + (3 * (z7.2.1 3 2))) 526 with
          | false => rw [c11, cond_false] at h; cases h
          | true =>
            rw [c11, cond_true] at h
            cases c12 : jx_in ((6 + (3 * (z7.2.1 3 2))) + 1) 526 with
            | false => rw [c12, cond_false] at h; cases h
            | true =>
              rw [c12, cond_true] at h
              cases c13 : jx_in ((6 + (3 * (z7.2.1 3 2))) + 2) 526 with
              | false => rw [c13, cond_false] at h; cases h
              | true =>
                rw [c13, cond_true] at h
                cases c14 : jx_in (64 + (z7.2.1 3 2)) 526 with
                | false => rw [c14, cond_false] at h; cases h
                | true =>
                  rw [c14, cond_true] at h
                  cases c15 : jx_in (2 + (z7.2.1 3 2)) 56 with
                  | false => rw [c15, cond_false] at h; cases h
                  | true =>
                    rw [c15, cond_true] at h
                    obtain ⟨n, hn⟩ := s_M_shadow_120 hd N (u1 := some (.int x1)) (u2 := some (.int x2)) (u3 := some (.int x3)) h hQ
                    exact ⟨n + 52, And.intro (jx_in_ok rfl) (And.intro (jx_in_ok c11) (And.intro (jx_in_ok c12) (And.intro (jx_in_ok c13) (And.intro (jx_in_ok c14) (And.intro (jx_in_ok c15) (hn))))))⟩
