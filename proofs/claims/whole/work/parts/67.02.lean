set_option maxRecDepth 20000 in
theorem s_S_thing_10 {N d : Nat} {Q : jw_Q} (hd : 0 ≤ d) {y1 : Int32} {u0 : Option Value} {u1 : Option Value} {σ : jw_M} {z : (Nat × jw_M)} (h : f_S_thing_10 N y1 σ = some z) (hQ : Q (some (.ref z.1)) (jx_ShC, z.2)) : ∃ n, jx_W jx_ShC d (some (.object "ShadowSchool$Shade")) jc_87 Q n 10 [u0, u1] [.int y1, .ref 31] σ := by
  unfold f_S_thing_10 at h
  cases c2 : jx_in y1 6 with
  | false => rw [c2, cond_false] at h; cases h
  | true =>
    rw [c2, cond_true] at h
    rcases jx_ix6 (jx_in_ok c2) with rfl | rfl | rfl | rfl | rfl | rfl
    · try rw [show (32 + (0 : Int32).toNatClampNeg) = 32 from by decide] at h
      cases h
      exact ⟨2, And.intro (jx_in_ok c2) (And.intro hQ (And.intro rfl rfl))⟩
    · try rw [show (32 + (1 : Int32).toNatClampNeg) = 33 from by decide] at h
      cases h
      exact ⟨2, And.intro (jx_in_ok c2) (And.intro hQ (And.intro rfl rfl))⟩
    · try rw [show (32 + (2 : Int32).toNatClampNeg) = 34 from by decide] at h
      cases h
      exact ⟨2, And.intro (jx_in_ok c2) (And.intro hQ (And.intro rfl rfl))⟩
    · try rw [show (32 + (3 : Int32).toNatClampNeg) = 35 from by decide] at h
      cases h
      exact ⟨2, And.intro (jx_in_ok c2) (And.intro hQ (And.intro rfl rfl))⟩
    · try rw [show (32 + (4 : Int32).toNatClampNeg) = 36 from by decide] at h
      cases h
      exact ⟨2, And.intro (jx_in_ok c2) (And.intro hQ (And.intro rfl rfl))⟩
    · try rw [show (32 + (5 : Int32).toNatClampNeg) = 37 from by decide] at h
      cases h
      exact ⟨2, And.intro (jx_in_ok c2) (And.intro hQ (And.intro rfl rfl))⟩
set_option maxRecDepth 20000 in
theorem s_S_thing {N d : Nat} {x1 : Int32} (hd : 1 ≤ d) {σ : jw_M} {z : (Nat × jw_M)} {Q : jw_Q} (h : f_S_thing N x1 σ = some z) (hQ : Q (some (.ref z.1)) (jx_ShC, z.2)) : jw_C jp_kd jp_ys d 87 [.ref 1, .int x1] (jx_ShC, σ) Q := by
  obtain ⟨d, rfl⟩ : ∃ e, d = e + 1 := ⟨d - 1, by omega⟩
  replace hd : 0 ≤ d := by omega
  refine jx_C rfl rfl ?_
  unfold f_S_thing at h
  cases c1 : jx_in x1 6 with
  | false => rw [c1, cond_false] at h; cases h
  | true =>
    rw [c1, cond_true] at h
    obtain ⟨n, hn⟩ := s_S_thing_10 hd (u0 := some (.ref 1)) (u1 := some (.int x1)) h hQ
    exact ⟨n + 6, And.intro (jx_in_ok c1) (hn)⟩
theorem r_S_thing {N : Nat} {x1 : Int32} {σ : jw_M} {z : Nat × jw_M} (h : f_S_thing N x1 σ = some z) : z.1 = 32 ∨ z.1 = 33 ∨ z.1 = 34 ∨ z.1 = 35 ∨ z.1 = 36 ∨ z.1 = 37 := by
  unfold f_S_thing f_S_thing_10 at h
  cases c0 : jx_in x1 6 with
  | false => rw [c0, cond_false] at h; cases h
  | true =>
    rw [c0, cond_true] at h
    cases c1 : jx_in (σ.1 2 (x1).toNatClampNeg) 6 with
    | false => rw [c1, cond_false] at h; cases h
    | true =>
      rw [c1, cond_true] at h
      cases h
      have g : ∀ y : Int32, vp_in y 6 → 32 + y.toNatClampNeg = 32 ∨ 32 + y.toNatClampNeg = 33 ∨ 32 + y.toNatClampNeg = 34 ∨ 32 + y.toNatClampNeg = 35 ∨ 32 + y.toNatClampNeg = 36 ∨ 32 + y.toNatClampNeg = 37 := by
        intro y hy
        rcases jx_ix6 hy with e | e | e | e | e | e <;> subst e <;> decide
      exact g _ (jx_in_ok c1)

set_option maxRecDepth 20000 in
theorem s_S_openTo_98 {N d : Nat} {p1 : Nat} {Q : jw_Q} {K45 : Int32 → Int32 → Int32 → jw_M → Option (Int32 × jw_M)} (hd : 0 ≤ d) (hp : p1 = 102 ∨ p1 = 106 ∨ p1 = 110 ∨ p1 = 27 ∨ p1 = 75 ∨ p1 = 94 ∨ p1 = 98) (hK45 : ∀ {x4 : Int32} {x5 : Int32} {x6 : Int32} {σ : jw_M} {z : (Int32 × jw_M)} {u1 : Option Value} {u2 : Option Value} {u3 : Option Value}, K45 x4 x5 x6 σ = some z → Q (some (.int z.1)) (jx_ShC, z.2) → ∃ n, jx_W jx_ShC d (some .int) jc_94 Q n 45 [some (.ref 1), u1, u2, u3, some (.int x4), some (.int x5), some (.int x6)] [] σ) {x4 : Int32} {x5 : Int32} {x6 : Int32} {u1 : Option Value} {u2 : Option Value} {u3 : Option Value} {σ : jw_M} {z : (Int32 × jw_M)} (h : f_S_openTo_98 N p1 K45 x4 x5 x6 σ = some z) (hQ : Q (some (.int z.1)) (jx_ShC, z.2)) : ∃ n, jx_W jx_ShC d (some .int) jc_94 Q n 98 [some (.ref 1), u1, u2, u3, some (.int x4), some (.int x5), some (.int x6)] [] σ := by
  unfold f_S_openTo_98 at h
  obtain ⟨n, hn⟩ := hK45 (u1 := u1) (u2 := u2) (u3 := u3) h hQ
  exact ⟨n + 2, hn⟩
set_option maxRecDepth 20000 in
theorem s_S_openTo_45 {N d : Nat} {p1 : Nat} {Q : jw_Q} (hd : 0 ≤ d) (hp : p1 = 102 ∨ p1 = 106 ∨ p1 = 110 ∨ p1 = 27 ∨ p1 = 75 ∨ p1 = 94 ∨ p1 = 98) : ∀ (k : Nat) {x4 : Int32} {x5 : Int32} {x6 : Int32} {u1 : Option Value} {u2 : Option Value} {u3 : Option Value} {σ : jw_M} {z : (Int32 × jw_M)}, f_S_openTo_45 N p1 k x4 x5 x6 σ = some z → Q (some (.int z.1)) (jx_ShC, z.2) → ∃ n, jx_W jx_ShC d (some .int) jc_94 Q n 45 [some (.ref 1), u1, u2, u3, some (.int x4), some (.int x5), some (.int x6)] [] σ
  | 0, _, _, _, _, _, _, _, _, h, _ => by cases h
  | k + 1, x4, x5, x6, u1, u2, u3, σ, z, h, hQ => by
    rw [f_S_openTo_45] at h
    by_cases c4 : (σ.1 1 5) ≤ x6
    · rw [if_pos c4] at h
      suffices hh : ∃ n, jx_W jx_ShC d (some .int) jc_94 Q n 104 [some (.ref 1), u1, u2, u3, some (.int x4), some (.int x5), some (.int x6)] [] σ by
        obtain ⟨n, hn⟩ := hh
        exact ⟨n + 4, And.intro (fun _ => hn) (fun zz => absurd c4 zz)⟩
      cases h
      exact ⟨2, And.intro hQ (And.intro rfl rfl)⟩
    · rw [if_neg c4] at h
      suffices hh : ∃ n, jx_W jx_ShC d (some .int) jc_94 Q n 54 [some (.ref 1), u1, u2, u3, some (.int x4), some (.int x5), some (.int x6)] [] σ by
        obtain ⟨n, hn⟩ := hh
        exact ⟨n + 4, And.intro (fun zz => absurd zz c4) (fun _ => hn)⟩
      by_cases c5 : (x5 >>> (x6 &&& 31)) = 0
      · rw [if_pos c5] at h
        suffices hh : ∃ n, jx_W jx_ShC d (some .int) jc_94 Q n 104 [some (.ref 1), u1, u2, u3, some (.int x4), some (.int x5), some (.int x6)] [] σ by
          obtain ⟨n, hn⟩ := hh
          exact ⟨n + 4, And.intro (fun _ => hn) (fun zz => absurd c5 zz)⟩
        cases h
        exact ⟨2, And.intro hQ (And.intro rfl rfl)⟩
      · rw [if_neg c5] at h
        suffices hh : ∃ n, jx_W jx_ShC d (some .int) jc_94 Q n 62 [some (.ref 1), u1, u2, u3, some (.int x4), some (.int x5), some (.int x6)] [] σ by
          obtain ⟨n, hn⟩ := hh
          exact ⟨n + 4, And.intro (fun zz => absurd zz c5) (fun _ => hn)⟩
        cases c6 : jx_in x6 8 with
        | false => rw [c6, cond_false] at h; cases h
        | true =>
          rw [c6, cond_true] at h
          by_cases c7 : (σ.1 7 (x6).toNatClampNeg) < 0
          · rw [if_pos c7] at h
            suffices hh : ∃ n, jx_W jx_ShC d (some .int) jc_94 Q n 98 [some (.ref 1), u1, u2, u3, some (.int x4), some (.int x5), some (.int x6)] [] σ by
              obtain ⟨n, hn⟩ := hh
              exact ⟨n + 5, And.intro (jx_in_ok c6) (And.intro (fun _ => hn) (fun zz => absurd c7 zz))⟩
            obtain ⟨n, hn⟩ := s_S_openTo_98 hd hp (s_S_openTo_45 hd hp k) (u1 := u1) (u2 := u2) (u3 := u3) h hQ
            exact ⟨n + 0, hn⟩
          · rw [if_neg c7] at h
            suffices hh : ∃ n, jx_W jx_ShC d (some .int) jc_94 Q n 72 [some (.ref 1), u1, u2, u3, some (.int x4), some (.int x5), some (.int x6)] [] σ by
              obtain ⟨n, hn⟩ := hh
              exact ⟨n + 5, And.intro (jx_in_ok c6) (And.intro (fun zz => absurd zz c7) (fun _ => hn))⟩
            by_cases c8 : ((x4 >>> ((σ.1 7 (x6).toNatClampNeg) &&& 31)) &&& 1) = 0
            · rw [if_pos c8] at h
              suffices hh : ∃ n, jx_W jx_ShC d (some .int) jc_94 Q n 87 [some (.ref 1), u1, u2, u3, some (.int x4), some (.int x5), some (.int x6)] [] σ by
                obtain ⟨n, hn⟩ := hh
                exact ⟨n + 9, And.intro (jx_in_ok c6) (And.intro (fun zz => absurd c8 zz) (fun _ => hn))⟩
              obtain ⟨n, hn⟩ := s_S_openTo_98 hd hp (s_S_openTo_45 hd hp k) (u1 := u1) (u2 := u2) (u3 := u3) h hQ
              exact ⟨n + 8, hn⟩
            · rw [if_neg c8] at h
              suffices hh : ∃ n, jx_W jx_ShC d (some .int) jc_94 Q n 98 [some (.ref 1), u1, u2, u3, some (.int x4), some (.int x5), some (.int x6)] [] σ by
                obtain ⟨n, hn⟩ := hh
                exact ⟨n + 9, And.intro (jx_in_ok c6) (And.intro (fun _ => hn) (fun zz => absurd zz c8))⟩
              obtain ⟨n, hn⟩ := s_S_openTo_98 hd hp (s_S_openTo_45 hd hp k) (u1 := u1) (u2 := u2) (u3 := u3) h hQ
              exact ⟨n + 0, hn⟩
set_option maxRecDepth 20000 in
theorem s_S_openTo {N d : Nat} {p1 : Nat} {x2 : Int32} {x3 : Int32} (hd : 1 ≤ d) (hp : p1 = 102 ∨ p1 = 106 ∨ p1 = 110 ∨ p1 = 27 ∨ p1 = 75 ∨ p1 = 94 ∨ p1 = 98) {σ : jw_M} {z : (Int32 × jw_M)} {Q : jw_Q} (h : f_S_openTo N p1 x2 x3 σ = some z) (hQ : Q (some (.int z.1)) (jx_ShC, z.2)) : jw_C jp_kd jp_ys d 94 [.ref 1, .ref p1, .int x2, .int x3] (jx_ShC, σ) Q := by
  obtain ⟨d, rfl⟩ : ∃ e, d = e + 1 := ⟨d - 1, by omega⟩
  replace hd : 0 ≤ d := by omega
  refine jx_C rfl rfl ?_
  rcases hp with rfl | rfl | rfl | rfl | rfl | rfl | rfl
  · unfold f_S_openTo at h
    by_cases c1 : (σ.1 102 0) < 17
    · rw [if_pos c1] at h
      suffices hh : ∃ n, jx_W jx_ShC d (some .int) jc_94 Q n 14 [some (.ref 1), some (.ref 102), some (.int x2), some (.int x3), none, none, none] [] σ by
        obtain ⟨n, hn⟩ := hh
        exact ⟨n + 6, And.intro (fun _ => hn) (fun zz => absurd c1 zz)⟩
      cases c2 : jx_in x2 6 with
      | false => rw [c2, cond_false] at h; cases h
      | true =>
        rw [c2, cond_true] at h
        cases c3 : jx_in (σ.1 102 0) 17 with
        | false => rw [c3, cond_false] at h; cases h
        | true =>
          rw [c3, cond_true] at h
          obtain ⟨n, hn⟩ := s_S_openTo_45 hd (by decide) N (u1 := some (.ref 102)) (u2 := some (.int x2)) (u3 := some (.int x3)) h hQ
          exact ⟨n + 21, And.intro (jx_in_ok c2) (And.intro (jx_in_ok c3) (hn))⟩
    · rw [if_neg c1] at h
      suffices hh : ∃ n, jx_W jx_ShC d (some .int) jc_94 Q n 12 [some (.ref 1), some (.ref 102), some (.int x2), some (.int x3), none, none, none] [] σ by
        obtain ⟨n, hn⟩ := hh
        exact ⟨n + 6, And.intro (fun zz => absurd zz c1) (fun _ => hn)⟩
      cases h
      exact ⟨2, And.intro hQ (And.intro rfl rfl)⟩
  · unfold f_S_openTo at h
    by_cases c1 : (σ.1 106 0) < 17
    · rw [if_pos c1] at h
      suffices hh : ∃ n, jx_W jx_ShC d (some .int) jc_94 Q n 14 [some (.ref 1), some (.ref 106), some (.int x2), some (.int x3), none, none, none] [] σ by
        obtain ⟨n, hn⟩ := hh
        exact ⟨n + 6, And.intro (fun _ => hn) (fun zz => absurd c1 zz)⟩
      cases c2 : jx_in x2 6 with
      | false => rw [c2, cond_false] at h; cases h
      | true =>
        rw [c2, cond_true] at h
        cases c3 : jx_in (σ.1 106 0) 17 with
        | false => rw [c3, cond_false] at h; cases h
        | true =>
          rw [c3, cond_true] at h
          obtain ⟨n, hn⟩ := s_S_openTo_45 hd (by decide) N (u1 := some (.ref 106)) (u2 := some (.int x2)) (u3 := some (.int x3)) h hQ
          exact ⟨n + 21, And.intro (jx_in_ok c2) (And.intro (jx_in_ok c3) (hn))⟩
    · rw [if_neg c1] at h
      suffices hh : ∃ n, jx_W jx_ShC d (some .int) jc_94 Q n 12 [some (.ref 1), some (.ref 106), some (.int x2), some (.int x3), none, none, none] [] σ by
        obtain ⟨n, hn⟩ := hh
        exact ⟨n + 6, And.intro (fun zz => absurd zz c1) (fun _ => hn)⟩
      cases h
      exact ⟨2, And.intro hQ (And.intro rfl rfl)⟩
  · unfold f_S_openTo at h
    by_cases c1 : (σ.1 110 0) < 17
    · rw [if_pos c1] at h
      suffices hh : ∃ n, jx_W jx_ShC d (some .int) jc_94 Q n 14 [some (.ref 1), some (.ref 110), some (.int x2), some (.int x3), none, none, none] [] σ by
        obtain ⟨n, hn⟩ := hh
        exact ⟨n + 6, And.intro (fun _ => hn) (fun zz => absurd c1 zz)⟩
      cases c2 : jx_in x2 6 with
      | false => rw [c2, cond_false] at h; cases h
      | true =>
        rw [c2, cond_true] at h
        cases c3 : jx_in (σ.1 110 0) 17 with
        | false => rw [c3, cond_false] at h; cases h
        | true =>
          rw [c3, cond_true] at h
          obtain ⟨n, hn⟩ := s_S_openTo_45 hd (by decide) N (u1 := some (.ref 110)) (u2 := some (.int x2)) (u3 := some (.int x3)) h hQ
          exact ⟨n + 21, And.intro (jx_in_ok c2) (And.intro (jx_in_ok c3) (hn))⟩
    · rw [if_neg c1] at h
      suffices hh : ∃ n, jx_W jx_ShC d (some .int) jc_94 Q n 12 [some (.ref 1), some (.ref 110), some (.int x2), some (.int x3), none, none, none] [] σ by
        obtain ⟨n, hn⟩ := hh
        exact ⟨n + 6, And.intro (fun zz => absurd zz c1) (fun _ => hn)⟩
      cases h
      exact ⟨2, And.intro hQ (And.intro rfl rfl)⟩
  · unfold f_S_openTo at h
    by_cases c1 : (σ.1 27 0) < 17
    · rw [if_pos c1] at h
      suffices hh : ∃ n, jx_W jx_ShC d (some .int) jc_94 Q n 14 [some (.ref 1), some (.ref 27), some (.int x2), some (.int x3), none, none, none] [] σ by
        obtain ⟨n, hn⟩ := hh
        exact ⟨n + 6, And.intro (fun _ => hn) (fun zz => absurd c1 zz)⟩
      cases c2 : jx_in x2 6 with
      | false => rw [c2, cond_false] at h; cases h
      | true =>
        rw [c2, cond_true] at h
        cases c3 : jx_in (σ.1 27 0) 17 with
        | false => rw [c3, cond_false] at h; cases h
        | true =>
          rw [c3, cond_true] at h
          obtain ⟨n, hn⟩ := s_S_openTo_45 hd (by decide) N (u1 := some (.ref 27)) (u2 := some (.int x2)) (u3 := some (.int x3)) h hQ
          exact ⟨n + 21, And.intro (jx_in_ok c2) (And.intro (jx_in_ok c3) (hn))⟩
    · rw [if_neg c1] at h
      suffices hh : ∃ n, jx_W jx_ShC d (some .int) jc_94 Q n 12 [some (.ref 1), some (.ref 27), some (.int x2), some (.int x3), none, none, none] [] σ by
        obtain ⟨n, hn⟩ := hh
        exact ⟨n + 6, And.intro (fun zz => absurd zz c1) (fun _ => hn)⟩
      cases h
      exact ⟨2, And.intro hQ (And.intro rfl rfl)⟩
  · unfold f_S_openTo at h
    by_cases c1 : (σ.1 75 0) < 17
    · rw [if_pos c1] at h
      suffices hh : ∃ n, jx_W jx_ShC d (some .int) jc_94 Q n 14 [some (.ref 1), some (.ref 75), some (.int x2), some (.int x3), none, none, none] [] σ by
        obtain ⟨n, hn⟩ := hh
        exact ⟨n + 6, And.intro (fun _ => hn) (fun zz => absurd c1 zz)⟩
      cases c2 : jx_in x2 6 with
      | false => rw [c2, cond_false] at h; cases h
      | true =>
        rw [c2, cond_true] at h
        cases c3 : jx_in (σ.1 75 0) 17 with
        | false => rw [c3, cond_false] at h; cases h
        | true =>
          rw [c3, cond_true] at h
          obtain ⟨n, hn⟩ := s_S_openTo_45 hd (by decide) N (u1 := some (.ref 75)) (u2 := some (.int x2)) (u3 := some (.int x3)) h hQ
          exact ⟨n + 21, And.intro (jx_in_ok c2) (And.intro (jx_in_ok c3) (hn))⟩
    · rw [if_neg c1] at h
      suffices hh : ∃ n, jx_W jx_ShC d (some .int) jc_94 Q n 12 [some (.ref 1), some (.ref 75), some (.int x2), some (.int x3), none, none, none] [] σ by
        obtain ⟨n, hn⟩ := hh
        exact ⟨n + 6, And.intro (fun zz => absurd zz c1) (fun _ => hn)⟩
      cases h
      exact ⟨2, And.intro hQ (And.intro rfl rfl)⟩
  · unfold f_S_openTo at h
    by_cases c1 : (σ.1 94 0) < 17
    · rw [if_pos c1] at h
      suffices hh : ∃ n, jx_W jx_ShC d (some .int) jc_94 Q n 14 [some (.ref 1), some (.ref 94), some (.int x2), some (.int x3), none, none, none] [] σ by
        obtain ⟨n, hn⟩ := hh
        exact ⟨n + 6, And.intro (fun _ => hn) (fun zz => absurd c1 zz)⟩
      cases c2 : jx_in x2 6 with
      | false => rw [c2, cond_false] at h; cases h
      | true =>
        rw [c2, cond_true] at h
        cases c3 : jx_in (σ.1 94 0) 17 with
        | false => rw [c3, cond_false] at h; cases h
        | true =>
          rw [c3, cond_true] at h
          obtain ⟨n, hn⟩ := s_S_openTo_45 hd (by decide) N (u1 := some (.ref 94)) (u2 := some (.int x2)) (u3 := some (.int x3)) h hQ
          exact ⟨n + 21, And.intro (jx_in_ok c2) (And.intro (jx_in_ok c3) (hn))⟩
    · rw [if_neg c1] at h
      suffices hh : ∃ n, jx_W jx_ShC d (some .int) jc_94 Q n 12 [some (.ref 1), some (.ref 94), some (.int x2), some (.int x3), none, none, none] [] σ by
        obtain ⟨n, hn⟩ := hh
        exact ⟨n + 6, And.intro (fun zz => absurd zz c1) (fun _ => hn)⟩
      cases h
      exact ⟨2, And.intro hQ (And.intro rfl rfl)⟩
  · unfold f_S_openTo at h
    by_cases c1 : (σ.1 98 0) < 17
    · rw [if_pos c1] at h
      suffices hh : ∃ n, jx_W jx_ShC d (some .int) jc_94 Q n 14 [some (.ref 1), some (.ref 98), some (.int x2), some (.int x3), none, none, none] [] σ by
        obtain ⟨n, hn⟩ := hh
        exact ⟨n + 6, And.intro (fun _ => hn) (fun zz => absurd c1 zz)⟩
      cases c2 : jx_in x2 6 with
      | false => rw [c2, cond_false] at h; cases h
      | true =>
        rw [c2, cond_true] at h
        cases c3 : jx_in (σ.1 98 0) 17 with
        | false => rw [c3, cond_false] at h; cases h
        | true =>
          rw [c3, cond_true] at h
          obtain ⟨n, hn⟩ := s_S_openTo_45 hd (by decide) N (u1 := some (.ref 98)) (u2 := some (.int x2)) (u3 := some (.int x3)) h hQ
          exact ⟨n + 21, And.intro (jx_in_ok c2) (And.intro (jx_in_ok c3) (hn))⟩
    · rw [if_neg c1] at h
      suffices hh : ∃ n, jx_W jx_ShC d (some .int) jc_94 Q n 12 [some (.ref 1), some (.ref 98), some (.int x2), some (.int x3), none, none, none] [] σ by
        obtain ⟨n, hn⟩ := hh
        exact ⟨n + 6, And.intro (fun zz => absurd zz c1) (fun _ => hn)⟩
      cases h
      exact ⟨2, And.intro hQ (And.intro rfl rfl)⟩
set_option maxRecDepth 20000 in
theorem s_R_tell {N d : Nat} {x1 : Int32} {x2 : Int32} {x3 : Int32} {x4 : Int32} {x5 : Int32} (hd : 1 ≤ d) {σ : jw_M} {z : jw_M} {Q : jw_Q} (h : f_R_tell N x1 x2 x3 x4 x5 σ = some z) (hQ : Q none (jx_ShC, z)) : jw_C jp_kd jp_ys d 73 [.ref 19, .int x1, .int x2, .int x3, .int x4, .int x5] (jx_ShC, σ) Q := by
  obtain ⟨d, rfl⟩ : ∃ e, d = e + 1 := ⟨d - 1, by omega⟩
  replace hd : 0 ≤ d := by omega
  refine jx_C rfl rfl ?_
  unfold f_R_tell at h
  cases h
  exact ⟨26, And.intro (jx_in_ok rfl) (And.intro (jx_in_ok rfl) (And.intro (jx_in_ok rfl) (And.intro (jx_in_ok rfl) (And.intro (jx_in_ok rfl) (And.intro hQ (And.intro rfl rfl))))))⟩
set_option maxRecDepth 20000 in
theorem s_J_compare {N d : Nat} {x0 : Int32} {x1 : Int32} (hd : 1 ≤ d) {σ : jw_M} {z : (Int32 × jw_M)} {Q : jw_Q} (h : f_J_compare N x0 x1 σ = some z) (hQ : Q (some (.int z.1)) (jx_ShC, z.2)) : jw_C jp_kd jp_ys d 319 [.int x0, .int x1] (jx_ShC, σ) Q := by
  obtain ⟨d, rfl⟩ : ∃ e, d = e + 1 := ⟨d - 1, by omega⟩
  replace hd : 0 ≤ d := by omega
  refine jx_C rfl rfl ?_
  unfold f_J_compare at h
  by_cases c1 : x1 ≤ x0
  · rw [if_pos c1] at h
    suffices hh : ∃ n, jx_W jx_ShC d (some .int) jc_319 Q n 9 [some (.int x0), some (.int x1)] [] σ by
      obtain ⟨n, hn⟩ := hh
      exact ⟨n + 3, And.intro (fun _ => hn) (fun zz => absurd c1 zz)⟩
    by_cases c2 : x0 = x1
    · rw [if_pos c2] at h
      suffices hh : ∃ n, jx_W jx_ShC d (some .int) jc_319 Q n 14 [some (.int x0), some (.int x1)] [] σ by
        obtain ⟨n, hn⟩ := hh
        exact ⟨n + 3, And.intro (fun zz => absurd c2 zz) (fun _ => hn)⟩
      cases h
      exact ⟨3, And.intro hQ (And.intro rfl rfl)⟩
    · rw [if_neg c2] at h
      suffices hh : ∃ n, jx_W jx_ShC d (some .int) jc_319 Q n 18 [some (.int x0), some (.int x1)] [] σ by
        obtain ⟨n, hn⟩ := hh
        exact ⟨n + 3, And.intro (fun _ => hn) (fun zz => absurd zz c2)⟩
      cases h
      exact ⟨2, And.intro hQ (And.intro rfl rfl)⟩
  · rw [if_neg c1] at h
    suffices hh : ∃ n, jx_W jx_ShC d (some .int) jc_319 Q n 5 [some (.int x0), some (.int x1)] [] σ by
      obtain ⟨n, hn⟩ := hh
      exact ⟨n + 3, And.intro (fun zz => absurd zz c1) (fun _ => hn)⟩
    cases h
    exact ⟨3, And.intro hQ (And.intro rfl rfl)⟩
set_option maxRecDepth 20000 in
theorem s_R_holds_146 {N d : Nat} {Q : jw_Q} {K5 : Int32 → Int32 → Int32 → jw_M → Option (Int32 × jw_M)} (hd : 1 ≤ d) (hK5 : ∀ {x2 : Int32} {x3 : Int32} {x4 : Int32} {σ : jw_M} {z : (Int32 × jw_M)} {u1 : Option Value} {u5 : Option Value} {u6 : Option Value} {u7 : Option Value}, K5 x2 x3 x4 σ = some z → Q (some (.int z.1)) (jx_ShC, z.2) → ∃ n, jx_W jx_ShC d (some .boolean) jc_75 Q n 5 [some (.ref 19), u1, some (.int x2), some (.int x3), some (.int x4), u5, u6, u7] [] σ) {x2 : Int32} {x3 : Int32} {x4 : Int32} {u1 : Option Value} {u5 : Option Value} {u6 : Option Value} {u7 : Option Value} {σ : jw_M} {z : (Int32 × jw_M)} (h : f_R_holds_146 N K5 x2 x3 x4 σ = some z) (hQ : Q (some (.int z.1)) (jx_ShC, z.2)) : ∃ n, jx_W jx_ShC d (some .boolean) jc_75 Q n 146 [some (.ref 19), u1, some (.int x2), some (.int x3), some (.int x4), u5, u6, u7] [] σ := by
  unfold f_R_holds_146 at h
  obtain ⟨n, hn⟩ := hK5 (u1 := u1) (u5 := u5) (u6 := u6) (u7 := u7) h hQ
  exact ⟨n + 2, hn⟩
set_option maxRecDepth 20000 in
theorem s_R_holds_144 {N d : Nat} {Q : jw_Q} {K5 : Int32 → Int32 → Int32 → jw_M → Option (Int32 × jw_M)} (hd : 1 ≤ d) (hK5 : ∀ {x2 : Int32} {x3 : Int32} {x4 : Int32} {σ : jw_M} {z : (Int32 × jw_M)} {u1 : Option Value} {u5 : Option Value} {u6 : Option Value} {u7 : Option Value}, K5 x2 x3 x4 σ = some z → Q (some (.int z.1)) (jx_ShC, z.2) → ∃ n, jx_W jx_ShC d (some .boolean) jc_75 Q n 5 [some (.ref 19), u1, some (.int x2), some (.int x3), some (.int x4), u5, u6, u7] [] σ) {x2 : Int32} {x4 : Int32} {y0 : Int32} {y1 : Int32} {u1 : Option Value} {u3 : Option Value} {u5 : Option Value} {u6 : Option Value} {u7 : Option Value} {σ : jw_M} {z : (Int32 × jw_M)} (h : f_R_holds_144 N K5 x2 x4 y0 y1 σ = some z) (hQ : Q (some (.int z.1)) (jx_ShC, z.2)) : ∃ n, jx_W jx_ShC d (some .boolean) jc_75 Q n 144 [some (.ref 19), u1, some (.int x2), u3, some (.int x4), u5, u6, u7] [.int y1, .int y0] σ := by
  unfold f_R_holds_144 at h
  obtain ⟨n, hn⟩ := s_R_holds_146 hd hK5 (u1 := u1) (u5 := u5) (u6 := u6) (u7 := u7) h hQ
  exact ⟨n + 2, hn⟩
set_option maxRecDepth 20000 in
theorem s_R_holds_5 {N d : Nat} {Q : jw_Q} (hd : 1 ≤ d) : ∀ (k : Nat) {x2 : Int32} {x3 : Int32} {x4 : Int32} {u1 : Option Value} {u5 : Option Value} {u6 : Option Value} {u7 : Option Value} {σ : jw_M} {z : (Int32 × jw_M)}, f_R_holds_5 N k x2 x3 x4 σ = some z → Q (some (.int z.1)) (jx_ShC, z.2) → ∃ n, jx_W jx_ShC d (some .boolean) jc_75 Q n 5 [some (.ref 19), u1, some (.int x2), some (.int x3), some (.int x4), u5, u6, u7] [] σ
  | 0, _, _, _, _, _, _, _, _, _, h, _ => by cases h
  | k + 1, x2, x3, x4, u1, u5, u6, u7, σ, z, h, hQ => by
    rw [f_R_holds_5] at h
    by_cases c1 : x2 ≤ x4
    · rw [if_pos c1] at h
      suffices hh : ∃ n, jx_W jx_ShC d (some .boolean) jc_75 Q n 152 [some (.ref 19), u1, some (.int x2), some (.int x3), some (.int x4), u5, u6, u7] [] σ by
        obtain ⟨n, hn⟩ := hh
        exact ⟨n + 3, And.intro (fun _ => hn) (fun zz => absurd c1 zz)⟩
      by_cases c2 : (x3 &&& 1) = 1
      · rw [if_pos c2] at h
        suffices hh : ∃ n, jx_W jx_ShC d (some .boolean) jc_75 Q n 159 [some (.ref 19), u1, some (.int x2), some (.int x3), some (.int x4), u5, u6, u7] [] σ by
          obtain ⟨n, hn⟩ := hh
          exact ⟨n + 5, And.intro (fun zz => absurd c2 zz) (fun _ => hn)⟩
        cases h
        exact ⟨3, And.intro (Or.inr rfl) (And.intro hQ (And.intro rfl rfl))⟩
      · rw [if_neg c2] at h
        suffices hh : ∃ n, jx_W jx_ShC d (some .boolean) jc_75 Q n 163 [some (.ref 19), u1, some (.int x2), some (.int x3), some (.int x4), u5, u6, u7] [] σ by
          obtain ⟨n, hn⟩ := hh
          exact ⟨n + 5, And.intro (fun _ => hn) (fun zz => absurd zz c2)⟩
        cases h
        exact ⟨2, And.intro (Or.inl rfl) (And.intro hQ (And.intro rfl rfl))⟩
    · rw [if_neg c1] at h
      suffices hh : ∃ n, jx_W jx_ShC d (some .boolean) jc_75 Q n 11 [some (.ref 19), u1, some (.int x2), some (.int x3), some (.int x4), u5, u6, u7] [] σ by
        obtain ⟨n, hn⟩ := hh
        exact ⟨n + 3, And.intro (fun zz => absurd zz c1) (fun _ => hn)⟩
      cases c3 : jx_in x4 100 with
      | false => rw [c3, cond_false] at h; cases h
      | true =>
        rw [c3, cond_true] at h
        by_cases c11 : (σ.1 23 (x4).toNatClampNeg) = 3
        · rw [if_pos c11] at h
          suffices hh : ∃ n, jx_W jx_ShC d (some .boolean) jc_75 Q n 56 [some (.ref 19), u1, some (.int x2), some (.int x3), some (.int x4), some (.int (x3 &&& 1)), some (.int ((x3 >>> (1 &&& 31)) &&& 1)), u7] [] σ by
            obtain ⟨n, hn⟩ := hh
            exact ⟨n + 15, And.intro (jx_in_ok c3) (And.intro (fun _ => hn) (fun zz => absurd c11 zz))⟩
          obtain ⟨n, hn⟩ := s_R_holds_146 hd (s_R_holds_5 hd k) (u1 := u1) (u5 := some (.int (x3 &&& 1))) (u6 := some (.int ((x3 >>> (1 &&& 31)) &&& 1))) (u7 := u7) h hQ
          exact ⟨n + 11, hn⟩
        · rw [if_neg c11] at h
          by_cases c10 : (σ.1 23 (x4).toNatClampNeg) = 4
          · rw [if_pos c10] at h
            suffices hh : ∃ n, jx_W jx_ShC d (some .boolean) jc_75 Q n 71 [some (.ref 19), u1, some (.int x2), some (.int x3), some (.int x4), some (.int (x3 &&& 1)), some (.int ((x3 >>> (1 &&& 31)) &&& 1)), u7] [] σ by
              obtain ⟨n, hn⟩ := hh
              exact ⟨n + 15, And.intro (jx_in_ok c3) (And.intro (fun zz => absurd zz c11) (fun _ => And.intro (fun _ => hn) (fun zz => absurd c10 zz)))⟩
            obtain ⟨n, hn⟩ := s_R_holds_146 hd (s_R_holds_5 hd k) (u1 := u1) (u5 := some (.int (x3 &&& 1))) (u6 := some (.int ((x3 >>> (1 &&& 31)) &&& 1))) (u7 := u7) h hQ
            exact ⟨n + 11, hn⟩
          · rw [if_neg c10] at h
            by_cases c9 : (σ.1 23 (x4).toNatClampNeg) = 5
            · rw [if_pos c9] at h
              suffices hh : ∃ n, jx_W jx_ShC d (some .boolean) jc_75 Q n 86 [some (.ref 19), u1, some (.int x2), some (.int x3), some (.int x4), some (.int (x3 &&& 1)), some (.int ((x3 >>> (1 &&& 31)) &&& 1)), u7] [] σ by
                obtain ⟨n, hn⟩ := hh
                exact ⟨n + 15, And.intro (jx_in_ok c3) (And.intro (fun zz => absurd zz c11) (fun _ => And.intro (fun zz => absurd zz c10) (fun _ => And.intro (fun _ => hn) (fun zz => absurd c9 zz))))⟩
              obtain ⟨n, hn⟩ := s_R_holds_146 hd (s_R_holds_5 hd k) (u1 := u1) (u5 := some (.int (x3 &&& 1))) (u6 := some (.int ((x3 >>> (1 &&& 31)) &&& 1))) (u7 := u7) h hQ
              exact ⟨n + 5, hn⟩
            · rw [if_neg c9] at h
              cases c4 : jx_in (σ.1 24 (x4).toNatClampNeg) 105 with
              | false => rw [c4, cond_false] at h; cases h
              | true =>
                rw [c4, cond_true] at h
                cases c5 : jx_in (σ.1 25 (x4).toNatClampNeg) 105 with
                | false => rw [c5, cond_false] at h; cases h
                | true =>
                  rw [c5, cond_true] at h
                  obtain ⟨z6, h7, h⟩ := Option.bind_eq_some_iff.mp h
                  by_cases c8 : (z6.1 + 1) = (z6.2.1 23 (x4).toNatClampNeg)
                  · rw [if_pos c8] at h
                    suffices hh : ∃ n, jx_W jx_ShC d (some .boolean) jc_75 Q n 139 [some (.ref 19), u1, some (.int x2), some (.int x3), some (.int x4), some (.int (x3 &&& 1)), some (.int ((x3 >>> (1 &&& 31)) &&& 1)), some (.int (z6.1 + 1))] [.int (x3 <<< (1 &&& 31))] z6.2 by
                      obtain ⟨n, hn⟩ := hh
                      exact ⟨n + 42, And.intro (jx_in_ok c3) (And.intro (fun zz => absurd zz c11) (fun _ => And.intro (fun zz => absurd zz c10) (fun _ => And.intro (fun zz => absurd zz c9) (fun _ => And.intro (jx_in_ok c3) (And.intro (jx_in_ok c4) (And.intro (jx_in_ok c3) (And.intro (jx_in_ok c5) (s_J_compare (by omega) h7 (And.intro (jx_in_ok c3) (And.intro (fun zz => absurd c8 zz) (fun _ => hn)))))))))))⟩
                    obtain ⟨n, hn⟩ := s_R_holds_144 hd (s_R_holds_5 hd k) (u1 := u1) (u3 := some (.int x3)) (u5 := some (.int (x3 &&& 1))) (u6 := some (.int ((x3 >>> (1 &&& 31)) &&& 1))) (u7 := some (.int (z6.1 + 1))) h hQ
                    exact ⟨n + 2, hn⟩
                  · rw [if_neg c8] at h
                    suffices hh : ∃ n, jx_W jx_ShC d (some .boolean) jc_75 Q n 143 [some (.ref 19), u1, some (.int x2), some (.int x3), some (.int x4), some (.int (x3 &&& 1)), some (.int ((x3 >>> (1 &&& 31)) &&& 1)), some (.int (z6.1 + 1))] [.int (x3 <<< (1 &&& 31))] z6.2 by
                      obtain ⟨n, hn⟩ := hh
                      exact ⟨n + 42, And.intro (jx_in_ok c3) (And.intro (fun zz => absurd zz c11) (fun _ => And.intro (fun zz => absurd zz c10) (fun _ => And.intro (fun zz => absurd zz c9) (fun _ => And.intro (jx_in_ok c3) (And.intro (jx_in_ok c4) (And.intro (jx_in_ok c3) (And.intro (jx_in_ok c5) (s_J_compare (by omega) h7 (And.intro (jx_in_ok c3) (And.intro (fun _ => hn) (fun zz => absurd zz c8)))))))))))⟩
                    obtain ⟨n, hn⟩ := s_R_holds_144 hd (s_R_holds_5 hd k) (u1 := u1) (u3 := some (.int x3)) (u5 := some (.int (x3 &&& 1))) (u6 := some (.int ((x3 >>> (1 &&& 31)) &&& 1))) (u7 := some (.int (z6.1 + 1))) h hQ
                    exact ⟨n + 1, hn⟩
set_option maxRecDepth 20000 in
theorem s_R_holds {N d : Nat} {x1 : Int32} {x2 : Int32} (hd : 2 ≤ d) {σ : jw_M} {z : (Int32 × jw_M)} {Q : jw_Q} (h : f_R_holds N x1 x2 σ = some z) (hQ : Q (some (.int z.1)) (jx_ShC, z.2)) : jw_C jp_kd jp_ys d 75 [.ref 19, .int x1, .int x2] (jx_ShC, σ) Q := by
  obtain ⟨d, rfl⟩ : ∃ e, d = e + 1 := ⟨d - 1, by omega⟩
  replace hd : 1 ≤ d := by omega
  refine jx_C rfl rfl ?_
  unfold f_R_holds at h
  obtain ⟨n, hn⟩ := s_R_holds_5 hd N (u1 := some (.int x1)) (u5 := none) (u6 := none) (u7 := none) h hQ
  exact ⟨n + 4, hn⟩
set_option maxRecDepth 20000 in
theorem s_F_isOrIsUnder {N d : Nat} {x0 : Int32} {x1 : Int32} (hd : 1 ≤ d) {σ : jw_M} {z : (Int32 × jw_M)} {Q : jw_Q} (h : f_F_isOrIsUnder N x0 x1 σ = some z) (hQ : Q (some (.int z.1)) (jx_ShC, z.2)) : jw_C jp_kd jp_ys d 177 [.int x0, .int x1] (jx_ShC, σ) Q := by
  obtain ⟨d, rfl⟩ : ∃ e, d = e + 1 := ⟨d - 1, by omega⟩
  replace hd : 0 ≤ d := by omega
  refine jx_C rfl rfl ?_
  unfold f_F_isOrIsUnder at h
  cases c1 : jx_in x0 6 with
  | false => rw [c1, cond_false] at h; cases h
  | true =>
    rw [c1, cond_true] at h
    by_cases c2 : (((jw_tab.getD x0.toNatClampNeg 0) >>> (x1 &&& 31)) &&& 1) = 1
    · rw [if_pos c2] at h
      suffices hh : ∃ n, jx_W jx_ShC d (some .boolean) jc_177 Q n 13 [some (.int x0), some (.int x1)] [] σ by
        obtain ⟨n, hn⟩ := hh
        exact ⟨n + 9, And.intro rfl (And.intro (jx_in_ok c1) (And.intro (fun zz => absurd c2 zz) (fun _ => hn)))⟩
      cases h
      exact ⟨3, And.intro (Or.inr rfl) (And.intro hQ (And.intro rfl rfl))⟩
    · rw [if_neg c2] at h
      suffices hh : ∃ n, jx_W jx_ShC d (some .boolean) jc_177 Q n 17 [some (.int x0), some (.int x1)] [] σ by
        obtain ⟨n, hn⟩ := hh
        exact ⟨n + 9, And.intro rfl (And.intro (jx_in_ok c1) (And.intro (fun _ => hn) (fun zz => absurd zz c2)))⟩
      cases h
      exact ⟨2, And.intro (Or.inl rfl) (And.intro hQ (And.intro rfl rfl))⟩
set_option maxRecDepth 20000 in
theorem s_R_deedFor_46 {N d : Nat} {Q : jw_Q} {K4 : Int32 → Int32 → Int32 → jw_M → Option (Int32 × jw_M)} (hd : 2 ≤ d) (hK4 : ∀ {x1 : Int32} {x2 : Int32} {x3 : Int32} {σ : jw_M} {z : (Int32 × jw_M)}, K4 x1 x2 x3 σ = some z → Q (some (.int z.1)) (jx_ShC, z.2) → ∃ n, jx_W jx_ShC d (some .int) jc_74 Q n 4 [some (.ref 19), some (.int x1), some (.int x2), some (.int x3)] [] σ) {x1 : Int32} {x3 : Int32} {u2 : Option Value} {σ : jw_M} {z : (Int32 × jw_M)} (h : f_R_deedFor_46 N K4 x1 x3 σ = some z) (hQ : Q (some (.int z.1)) (jx_ShC, z.2)) : ∃ n, jx_W jx_ShC d (some .int) jc_74 Q n 46 [some (.ref 19), some (.int x1), u2, some (.int x3)] [] σ := by
  unfold f_R_deedFor_46 at h
  cases c6 : jx_in x3 8 with
  | false => rw [c6, cond_false] at h; cases h
  | true =>
    rw [c6, cond_true] at h
    obtain ⟨n, hn⟩ := hK4 h hQ
    exact ⟨n + 7, And.intro (jx_in_ok c6) (hn)⟩
set_option maxRecDepth 20000 in
theorem s_R_deedFor_4 {N d : Nat} {Q : jw_Q} (hd : 2 ≤ d) : ∀ (k : Nat) {x1 : Int32} {x2 : Int32} {x3 : Int32} {σ : jw_M} {z : (Int32 × jw_M)}, f_R_deedFor_4 N k x1 x2 x3 σ = some z → Q (some (.int z.1)) (jx_ShC, z.2) → ∃ n, jx_W jx_ShC d (some .int) jc_74 Q n 4 [some (.ref 19), some (.int x1), some (.int x2), some (.int x3)] [] σ
  | 0, _, _, _, _, _, h, _ => by cases h
  | k + 1, x1, x2, x3, σ, z, h, hQ => by
    rw [f_R_deedFor_4] at h
    by_cases c1 : (σ.1 19 0) ≤ x3
    · rw [if_pos c1] at h
      suffices hh : ∃ n, jx_W jx_ShC d (some .int) jc_74 Q n 59 [some (.ref 19), some (.int x1), some (.int x2), some (.int x3)] [] σ by
        obtain ⟨n, hn⟩ := hh
        exact ⟨n + 4, And.intro (fun _ => hn) (fun zz => absurd c1 zz)⟩
      cases h
      exact ⟨2, And.intro hQ (And.intro rfl rfl)⟩
    · rw [if_neg c1] at h
      suffices hh : ∃ n, jx_W jx_ShC d (some .int) jc_74 Q n 12 [some (.ref 19), some (.int x1), some (.int x2), some (.int x3)] [] σ by
        obtain ⟨n, hn⟩ := hh
        exact ⟨n + 4, And.intro (fun zz => absurd zz c1) (fun _ => hn)⟩
      cases c2 : jx_in x3 8 with
      | false => rw [c2, cond_false] at h; cases h
      | true =>
        rw [c2, cond_true] at h
        obtain ⟨z3, h4, h⟩ := Option.bind_eq_some_iff.mp h
        by_cases c5 : z3.1 = 0
        · rw [if_pos c5] at h
          suffices hh : ∃ n, jx_W jx_ShC d (some .int) jc_74 Q n 46 [some (.ref 19), some (.int x1), some (.int x2), some (.int x3)] [] z3.2 by
            obtain ⟨n, hn⟩ := hh
            exact ⟨n + 7, And.intro (jx_in_ok c2) (s_F_isOrIsUnder (by omega) h4 (And.intro (fun _ => hn) (fun zz => absurd c5 zz)))⟩
          obtain ⟨n, hn⟩ := s_R_deedFor_46 hd (s_R_deedFor_4 hd k) (u2 := some (.int x2)) h hQ
          exact ⟨n + 0, hn⟩
        · rw [if_neg c5] at h
          suffices hh : ∃ n, jx_W jx_ShC d (some .int) jc_74 Q n 25 [some (.ref 19), some (.int x1), some (.int x2), some (.int x3)] [] z3.2 by
            obtain ⟨n, hn⟩ := hh
            exact ⟨n + 7, And.intro (jx_in_ok c2) (s_F_isOrIsUnder (by omega) h4 (And.intro (fun zz => absurd zz c5) (fun _ => hn)))⟩
          obtain ⟨z7, h8, h⟩ := Option.bind_eq_some_iff.mp h
          by_cases c9 : z7.1 = 0
          · rw [if_pos c9] at h
            suffices hh : ∃ n, jx_W jx_ShC d (some .int) jc_74 Q n 46 [some (.ref 19), some (.int x1), some (.int x2), some (.int x3)] [] z7.2 by
              obtain ⟨n, hn⟩ := hh
              exact ⟨n + 8, And.intro (jx_in_ok c2) (s_R_holds (by omega) h8 (And.intro (fun _ => hn) (fun zz => absurd c9 zz)))⟩
            obtain ⟨n, hn⟩ := s_R_deedFor_46 hd (s_R_deedFor_4 hd k) (u2 := some (.int x2)) h hQ
            exact ⟨n + 0, hn⟩
          · rw [if_neg c9] at h
            suffices hh : ∃ n, jx_W jx_ShC d (some .int) jc_74 Q n 39 [some (.ref 19), some (.int x1), some (.int x2), some (.int x3)] [] z7.2 by
              obtain ⟨n, hn⟩ := hh
              exact ⟨n + 8, And.intro (jx_in_ok c2) (s_R_holds (by omega) h8 (And.intro (fun zz => absurd zz c9) (fun _ => hn)))⟩
            cases h
            exact ⟨5, And.intro (jx_in_ok c2) (And.intro hQ (And.intro rfl rfl))⟩
set_option maxRecDepth 20000 in
theorem s_R_deedFor {N d : Nat} {x1 : Int32} (hd : 3 ≤ d) {σ : jw_M} {z : (Int32 × jw_M)} {Q : jw_Q} (h : f_R_deedFor N x1 σ = some z) (hQ : Q (some (.int z.1)) (jx_ShC, z.2)) : jw_C jp_kd jp_ys d 74 [.ref 19, .int x1] (jx_ShC, σ) Q := by
  obtain ⟨d, rfl⟩ : ∃ e, d = e + 1 := ⟨d - 1, by omega⟩
  replace hd : 2 ≤ d := by omega
  refine jx_C rfl rfl ?_
  unfold f_R_deedFor at h
  obtain ⟨n, hn⟩ := s_R_deedFor_4 hd N h hQ
  exact ⟨n + 4, hn⟩
set_option maxRecDepth 20000 in
theorem s_J_bitCount {N d : Nat} {x0 : Int32} (hd : 1 ≤ d) {σ : jw_M} {z : (Int32 × jw_M)} {Q : jw_Q} (h : f_J_bitCount N x0 σ = some z) (hQ : Q (some (.int z.1)) (jx_ShC, z.2)) : jw_C jp_kd jp_ys d 322 [.int x0] (jx_ShC, σ) Q := by
  obtain ⟨d, rfl⟩ : ∃ e, d = e + 1 := ⟨d - 1, by omega⟩
  replace hd : 0 ≤ d := by omega
  refine jx_C rfl rfl ?_
  unfold f_J_bitCount at h
  cases h
  exact ⟨42, And.intro hQ (And.intro rfl rfl)⟩
set_option maxRecDepth 20000 in
theorem s_S_deedOf {N d : Nat} {p1 : Nat} {x2 : Int32} (hd : 4 ≤ d) (hp : p1 = 102 ∨ p1 = 106 ∨ p1 = 110 ∨ p1 = 27 ∨ p1 = 75 ∨ p1 = 94 ∨ p1 = 98) {σ : jw_M} {z : (Int32 × jw_M)} {Q : jw_Q} (h : f_S_deedOf N p1 x2 σ = some z) (hQ : Q (some (.int z.1)) (jx_ShC, z.2)) : jw_C jp_kd jp_ys d 95 [.ref 1, .ref p1, .int x2] (jx_ShC, σ) Q := by
  obtain ⟨d, rfl⟩ : ∃ e, d = e + 1 := ⟨d - 1, by omega⟩
  replace hd : 3 ≤ d := by omega
  refine jx_C rfl rfl ?_
  rcases hp with rfl | rfl | rfl | rfl | rfl | rfl | rfl
  · unfold f_S_deedOf at h
    by_cases c1 : (σ.1 19 0) = 0
    · rw [if_pos c1] at h
      suffices hh : ∃ n, jx_W jx_ShC d (some .int) jc_95 Q n 10 [some (.ref 1), some (.ref 102), some (.int x2)] [] σ by
        obtain ⟨n, hn⟩ := hh
        exact ⟨n + 4, And.intro (fun zz => absurd c1 zz) (fun _ => hn)⟩
      cases h
      exact ⟨2, And.intro hQ (And.intro rfl rfl)⟩
    · rw [if_neg c1] at h
      suffices hh : ∃ n, jx_W jx_ShC d (some .int) jc_95 Q n 12 [some (.ref 1), some (.ref 102), some (.int x2)] [] σ by
        obtain ⟨n, hn⟩ := hh
        exact ⟨n + 4, And.intro (fun _ => hn) (fun zz => absurd zz c1)⟩
      cases c2 : jx_in x2 6 with
      | false => rw [c2, cond_false] at h; cases h
      | true =>
        rw [c2, cond_true] at h
        obtain ⟨z3, h4, h⟩ := Option.bind_eq_some_iff.mp h
        obtain ⟨z5, h6, h⟩ := Option.bind_eq_some_iff.mp h
        obtain ⟨z7, h8, h⟩ := Option.bind_eq_some_iff.mp h
        cases h
        exact ⟨27, And.intro (jx_in_ok c2) (s_J_bitCount (by omega) h4 (And.intro (jx_in_ok c2) (And.intro (jx_in_ok c2) (s_R_tell (by omega) h6 (And.intro (jx_in_ok c2) (s_R_deedFor (by omega) h8 (And.intro hQ (And.intro rfl rfl))))))))⟩
  · unfold f_S_deedOf at h
    by_cases c1 : (σ.1 19 0) = 0
    · rw [if_pos c1] at h
      suffices hh : ∃ n, jx_W jx_ShC d (some .int) jc_95 Q n 10 [some (.ref 1), some (.ref 106), some (.int x2)] [] σ by
        obtain ⟨n, hn⟩ := hh
        exact ⟨n + 4, And.intro (fun zz => absurd c1 zz) (fun _ => hn)⟩
      cases h
      exact ⟨2, And.intro hQ (And.intro rfl rfl)⟩
    · rw [if_neg c1] at h
      suffices hh : ∃ n, jx_W jx_ShC d (some .int) jc_95 Q n 12 [some (.ref 1), some (.ref 106), some (.int x2)] [] σ by
        obtain ⟨n, hn⟩ := hh
        exact ⟨n + 4, And.intro (fun _ => hn) (fun zz => absurd zz c1)⟩
      cases c2 : jx_in x2 6 with
      | false => rw [c2, cond_false] at h; cases h
      | true =>
        rw [c2, cond_true] at h
        obtain ⟨z3, h4, h⟩ := Option.bind_eq_some_iff.mp h
        obtain ⟨z5, h6, h⟩ := Option.bind_eq_some_iff.mp h
        obtain ⟨z7, h8, h⟩ := Option.bind_eq_some_iff.mp h
        cases h
        exact ⟨27, And.intro (jx_in_ok c2) (s_J_bitCount (by omega) h4 (And.intro (jx_in_ok c2) (And.intro (jx_in_ok c2) (s_R_tell (by omega) h6 (And.intro (jx_in_ok c2) (s_R_deedFor (by omega) h8 (And.intro hQ (And.intro rfl rfl))))))))⟩
  · unfold f_S_deedOf at h
    by_cases c1 : (σ.1 19 0) = 0
    · rw [if_pos c1] at h
      suffices hh : ∃ n, jx_W jx_ShC d (some .int) jc_95 Q n 10 [some (.ref 1), some (.ref 110), some (.int x2)] [] σ by
        obtain ⟨n, hn⟩ := hh
        exact ⟨n + 4, And.intro (fun zz => absurd c1 zz) (fun _ => hn)⟩
      cases h
      exact ⟨2, And.intro hQ (And.intro rfl rfl)⟩
    · rw [if_neg c1] at h
      suffices hh : ∃ n, jx_W jx_ShC d (some .int) jc_95 Q n 12 [some (.ref 1), some (.ref 110), some (.int x2)] [] σ by
        obtain ⟨n, hn⟩ := hh
        exact ⟨n + 4, And.intro (fun _ => hn) (fun zz => absurd zz c1)⟩
      cases c2 : jx_in x2 6 with
      | false => rw [c2, cond_false] at h; cases h
      | true =>
        rw [c2, cond_true] at h
        obtain ⟨z3, h4, h⟩ := Option.bind_eq_some_iff.mp h
        obtain ⟨z5, h6, h⟩ := Option.bind_eq_some_iff.mp h
        obtain ⟨z7, h8, h⟩ := Option.bind_eq_some_iff.mp h
        cases h
        exact ⟨27, And.intro (jx_in_ok c2) (s_J_bitCount (by omega) h4 (And.intro (jx_in_ok c2) (And.intro (jx_in_ok c2) (s_R_tell (by omega) h6 (And.intro (jx_in_ok c2) (s_R_deedFor (by omega) h8 (And.intro hQ (And.intro rfl rfl))))))))⟩
  · unfold f_S_deedOf at h
    by_cases c1 : (σ.1 19 0) = 0
    · rw [if_pos c1] at h
      suffices hh : ∃ n, jx_W jx_ShC d (some .int) jc_95 Q n 10 [some (.ref 1), some (.ref 27), some (.int x2)] [] σ by
        obtain ⟨n, hn⟩ := hh
        exact ⟨n + 4, And.intro (fun zz => absurd c1 zz) (fun _ => hn)⟩
      cases h
      exact ⟨2, And.intro hQ (And.intro rfl rfl)⟩
    · rw [if_neg c1] at h
      suffices hh : ∃ n, jx_W jx_ShC d (some .int) jc_95 Q n 12 [some (.ref 1), some (.ref 27), some (.int x2)] [] σ by
        obtain ⟨n, hn⟩ := hh
        exact ⟨n + 4, And.intro (fun _ => hn) (fun zz => absurd zz c1)⟩
      cases c2 : jx_in x2 6 with
      | false => rw [c2, cond_false] at h; cases h
      | true =>
        rw [c2, cond_true] at h
        obtain ⟨z3, h4, h⟩ := Option.bind_eq_some_iff.mp h
        obtain ⟨z5, h6, h⟩ := Option.bind_eq_some_iff.mp h
        obtain ⟨z7, h8, h⟩ := Option.bind_eq_some_iff.mp h
        cases h
        exact ⟨27, And.intro (jx_in_ok c2) (s_J_bitCount (by omega) h4 (And.intro (jx_in_ok c2) (And.intro (jx_in_ok c2) (s_R_tell (by omega) h6 (And.intro (jx_in_ok c2) (s_R_deedFor (by omega) h8 (And.intro hQ (And.intro rfl rfl))))))))⟩
  · unfold f_S_deedOf at h
    by_cases c1 : (σ.1 19 0) = 0
    · rw [if_pos c1] at h
      suffices hh : ∃ n, jx_W jx_ShC d (some .int) jc_95 Q n 10 [some (.ref 1), some (.ref 75), some (.int x2)] [] σ by
        obtain ⟨n, hn⟩ := hh
        exact ⟨n + 4, And.intro (fun zz => absurd c1 zz) (fun _ => hn)⟩
      cases h
      exact ⟨2, And.intro hQ (And.intro rfl rfl)⟩
    · rw [if_neg c1] at h
      suffices hh : ∃ n, jx_W jx_ShC d (some .int) jc_95 Q n 12 [some (.ref 1), some (.ref 75), some (.int x2)] [] σ by
        obtain ⟨n, hn⟩ := hh
        exact ⟨n + 4, And.intro (fun _ => hn) (fun zz => absurd zz c1)⟩
      cases c2 : jx_in x2 6 with
      | false => rw [c2, cond_false] at h; cases h
      | true =>
        rw [c2, cond_true] at h
        obtain ⟨z3, h4, h⟩ := Option.bind_eq_some_iff.mp h
        obtain ⟨z5, h6, h⟩ := Option.bind_eq_some_iff.mp h
        obtain ⟨z7, h8, h⟩ := Option.bind_eq_some_iff.mp h
        cases h
        exact ⟨27, And.intro (jx_in_ok c2) (s_J_bitCount (by omega) h4 (And.intro (jx_in_ok c2) (And.intro (jx_in_ok c2) (s_R_tell (by omega) h6 (And.intro (jx_in_ok c2) (s_R_deedFor (by omega) h8 (And.intro hQ (And.intro rfl rfl))))))))⟩
  · unfold f_S_deedOf at h
    by_cases c1 : (σ.1 19 0) = 0
    · rw [if_pos c1] at h
      suffices hh : ∃ n, jx_W jx_ShC d (some .int) jc_95 Q n 10 [some (.ref 1), some (.ref 94), some (.int x2)] [] σ by
        obtain ⟨n, hn⟩ := hh
        exact ⟨n + 4, And.intro (fun zz => absurd c1 zz) (fun _ => hn)⟩
      cases h
      exact ⟨2, And.intro hQ (And.intro rfl rfl)⟩
    · rw [if_neg c1] at h
      suffices hh : ∃ n, jx_W jx_ShC d (some .int) jc_95 Q n 12 [some (.ref 1), some (.ref 94), some (.int x2)] [] σ by
        obtain ⟨n, hn⟩ := hh
        exact ⟨n + 4, And.intro (fun _ => hn) (fun zz => absurd zz c1)⟩
      cases c2 : jx_in x2 6 with
      | false => rw [c2, cond_false] at h; cases h
      | true =>
        rw [c2, cond_true] at h
        obtain ⟨z3, h4, h⟩ := Option.bind_eq_some_iff.mp h
        obtain ⟨z5, h6, h⟩ := Option.bind_eq_some_iff.mp h
        obtain ⟨z7, h8, h⟩ := Option.bind_eq_some_iff.mp h
        cases h
        exact ⟨27, And.intro (jx_in_ok c2) (s_J_bitCount (by omega) h4 (And.intro (jx_in_ok c2) (And.intro (jx_in_ok c2) (s_R_tell (by omega) h6 (And.intro (jx_in_ok c2) (s_R_deedFor (by omega) h8 (And.intro hQ (And.intro rfl rfl))))))))⟩
  · unfold f_S_deedOf at h
    by_cases c1 : (σ.1 19 0) = 0
    · rw [if_pos c1] at h
      suffices hh : ∃ n, jx_W jx_ShC d (some .int) jc_95 Q n 10 [some (.ref 1), some (.ref 98), some (.int x2)] [] σ by
        obtain ⟨n, hn⟩ := hh
        exact ⟨n + 4, And.intro (fun zz => absurd c1 zz) (fun _ => hn)⟩
      cases h
      exact ⟨2, And.intro hQ (And.intro rfl rfl)⟩
    · rw [if_neg c1] at h
      suffices hh : ∃ n, jx_W jx_ShC d (some .int) jc_95 Q n 12 [some (.ref 1), some (.ref 98), some (.int x2)] [] σ by
        obtain ⟨n, hn⟩ := hh
        exact ⟨n + 4, And.intro (fun _ => hn) (fun zz => absurd zz c1)⟩
      cases c2 : jx_in x2 6 with
      | false => rw [c2, cond_false] at h; cases h
      | true =>
        rw [c2, cond_true] at h
        obtain ⟨z3, h4, h⟩ := Option.bind_eq_some_iff.mp h
        obtain ⟨z5, h6, h⟩ := Option.bind_eq_some_iff.mp h
        obtain ⟨z7, h8, h⟩ := Option.bind_eq_some_iff.mp h
        cases h
        exact ⟨27, And.intro (jx_in_ok c2) (s_J_bitCount (by omega) h4 (And.intro (jx_in_ok c2) (And.intro (jx_in_ok c2) (s_R_tell (by omega) h6 (And.intro (jx_in_ok c2) (s_R_deedFor (by omega) h8 (And.intro hQ (And.intro rfl rfl))))))))⟩
set_option maxRecDepth 20000 in
theorem s_S_easiest_67 {N d : Nat} {p1 : Nat} {Q : jw_Q} {K11 : Int32 → Int32 → Int32 → Int32 → Int32 → jw_M → Option (Int32 × jw_M)} (hd : 0 ≤ d) (hp : p1 = 102 ∨ p1 = 106 ∨ p1 = 110 ∨ p1 = 27 ∨ p1 = 75 ∨ p1 = 94 ∨ p1 = 98) (hK11 : ∀ {x2 : Int32} {x3 : Int32} {x4 : Int32} {x5 : Int32} {x6 : Int32} {σ : jw_M} {z : (Int32 × jw_M)} {u7 : Option Value}, K11 x2 x3 x4 x5 x6 σ = some z → Q (some (.int z.1)) (jx_ShC, z.2) → ∃ n, jx_W jx_ShC d (some .int) jc_96 Q n 11 [some (.ref 1), some (.ref p1), some (.int x2), some (.int x3), some (.int x4), some (.int x5), some (.int x6), u7] [] σ) {x2 : Int32} {x3 : Int32} {x4 : Int32} {x5 : Int32} {x6 : Int32} {u7 : Option Value} {σ : jw_M} {z : (Int32 × jw_M)} (h : f_S_easiest_67 N p1 K11 x2 x3 x4 x5 x6 σ = some z) (hQ : Q (some (.int z.1)) (jx_ShC, z.2)) : ∃ n, jx_W jx_ShC d (some .int) jc_96 Q n 67 [some (.ref 1), some (.ref p1), some (.int x2), some (.int x3), some (.int x4), some (.int x5), some (.int x6), u7] [] σ := by
  unfold f_S_easiest_67 at h
  obtain ⟨n, hn⟩ := hK11 (u7 := u7) h hQ
  exact ⟨n + 2, hn⟩
set_option maxRecDepth 20000 in
theorem s_S_easiest_11 {N d : Nat} {p1 : Nat} {Q : jw_Q} (hd : 0 ≤ d) (hp : p1 = 102 ∨ p1 = 106 ∨ p1 = 110 ∨ p1 = 27 ∨ p1 = 75 ∨ p1 = 94 ∨ p1 = 98) : ∀ (k : Nat) {x2 : Int32} {x3 : Int32} {x4 : Int32} {x5 : Int32} {x6 : Int32} {u7 : Option Value} {σ : jw_M} {z : (Int32 × jw_M)}, f_S_easiest_11 N p1 k x2 x3 x4 x5 x6 σ = some z → Q (some (.int z.1)) (jx_ShC, z.2) → ∃ n, jx_W jx_ShC d (some .int) jc_96 Q n 11 [some (.ref 1), some (.ref p1), some (.int x2), some (.int x3), some (.int x4), some (.int x5), some (.int x6), u7] [] σ
  | 0, _, _, _, _, _, _, _, _, h, _ => by cases h
  | k + 1, x2, x3, x4, x5, x6, u7, σ, z, h, hQ => by
    rcases hp with rfl | rfl | rfl | rfl | rfl | rfl | rfl
    · rw [f_S_easiest_11] at h
      by_cases c1 : (σ.1 1 5) ≤ x6
      · rw [if_pos c1] at h
        suffices hh : ∃ n, jx_W jx_ShC d (some .int) jc_96 Q n 73 [some (.ref 1), some (.ref 102), some (.int x2), some (.int x3), some (.int x4), some (.int x5), some (.int x6), u7] [] σ by
          obtain ⟨n, hn⟩ := hh
          exact ⟨n + 4, And.intro (fun _ => hn) (fun zz => absurd c1 zz)⟩
        cases h
        exact ⟨2, And.intro hQ (And.intro rfl rfl)⟩
      · rw [if_neg c1] at h
        suffices hh : ∃ n, jx_W jx_ShC d (some .int) jc_96 Q n 20 [some (.ref 1), some (.ref 102), some (.int x2), some (.int x3), some (.int x4), some (.int x5), some (.int x6), u7] [] σ by
          obtain ⟨n, hn⟩ := hh
          exact ⟨n + 4, And.intro (fun zz => absurd zz c1) (fun _ => hn)⟩
        cases c2 : jx_in x6 8 with
        | false => rw [c2, cond_false] at h; cases h
        | true =>
          rw [c2, cond_true] at h
          cases c3 : jx_in ((x2 * 8) + x6) 48 with
          | false => rw [c3, cond_false] at h; cases h
          | true =>
            rw [c3, cond_true] at h
            by_cases c4 : ((x3 >>> (x6 &&& 31)) &&& 1) = 1
            · rw [if_pos c4] at h
              suffices hh : ∃ n, jx_W jx_ShC d (some .int) jc_96 Q n 52 [some (.ref 1), some (.ref 102), some (.int x2), some (.int x3), some (.int x4), some (.int x5), some (.int x6), some (.int ((σ.1 6 (x6).toNatClampNeg) - (σ.1 (102 + 1) (((x2 * 8) + x6)).toNatClampNeg)))] [] σ by
                obtain ⟨n, hn⟩ := hh
                exact ⟨n + 21, And.intro (jx_in_ok c2) (And.intro (jx_in_ok c3) (And.intro (fun zz => absurd c4 zz) (fun _ => hn)))⟩
              by_cases c5 : x4 ≤ ((σ.1 6 (x6).toNatClampNeg) - (σ.1 (102 + 1) (((x2 * 8) + x6)).toNatClampNeg))
              · rw [if_pos c5] at h
                suffices hh : ∃ n, jx_W jx_ShC d (some .int) jc_96 Q n 67 [some (.ref 1), some (.ref 102), some (.int x2), some (.int x3), some (.int x4), some (.int x5), some (.int x6), some (.int ((σ.1 6 (x6).toNatClampNeg) - (σ.1 (102 + 1) (((x2 * 8) + x6)).toNatClampNeg)))] [] σ by
                  obtain ⟨n, hn⟩ := hh
                  exact ⟨n + 3, And.intro (fun _ => hn) (fun zz => absurd c5 zz)⟩
                obtain ⟨n, hn⟩ := s_S_easiest_67 hd (by decide) (s_S_easiest_11 hd (by decide) k) (u7 := some (.int ((σ.1 6 (x6).toNatClampNeg) - (σ.1 (102 + 1) (((x2 * 8) + x6)).toNatClampNeg)))) h hQ
                exact ⟨n + 0, hn⟩
              · rw [if_neg c5] at h
                suffices hh : ∃ n, jx_W jx_ShC d (some .int) jc_96 Q n 59 [some (.ref 1), some (.ref 102), some (.int x2), some (.int x3), some (.int x4), some (.int x5), some (.int x6), some (.int ((σ.1 6 (x6).toNatClampNeg) - (σ.1 (102 + 1) (((x2 * 8) + x6)).toNatClampNeg)))] [] σ by
                  obtain ⟨n, hn⟩ := hh
                  exact ⟨n + 3, And.intro (fun zz => absurd zz c5) (fun _ => hn)⟩
                obtain ⟨n, hn⟩ := s_S_easiest_67 hd (by decide) (s_S_easiest_11 hd (by decide) k) (u7 := some (.int ((σ.1 6 (x6).toNatClampNeg) - (σ.1 (102 + 1) (((x2 * 8) + x6)).toNatClampNeg)))) h hQ
                exact ⟨n + 4, hn⟩
            · rw [if_neg c4] at h
              suffices hh : ∃ n, jx_W jx_ShC d (some .int) jc_96 Q n 67 [some (.ref 1), some (.ref 102), some (.int x2), some (.int x3), some (.int x4), some (.int x5), some (.int x6), some (.int ((σ.1 6 (x6).toNatClampNeg) - (σ.1 (102 + 1) (((x2 * 8) + x6)).toNatClampNeg)))] [] σ by
                obtain ⟨n, hn⟩ := hh
                exact ⟨n + 21, And.intro (jx_in_ok c2) (And.intro (jx_in_ok c3) (And.intro (fun _ => hn) (fun zz => absurd zz c4)))⟩
              obtain ⟨n, hn⟩ := s_S_easiest_67 hd (by decide) (s_S_easiest_11 hd (by decide) k) (u7 := some (.int ((σ.1 6 (x6).toNatClampNeg) - (σ.1 (102 + 1) (((x2 * 8) + x6)).toNatClampNeg)))) h hQ
              exact ⟨n + 0, hn⟩
    · rw [f_S_easiest_11] at h
      by_cases c1 : (σ.1 1 5) ≤ x6
      · rw [if_pos c1] at h
        suffices hh : ∃ n, jx_W jx_ShC d (some .int) jc_96 Q n 73 [some (.ref 1), some (.ref 106), some (.int x2), some (.int x3), some (.int x4), some (.int x5), some (.int x6), u7] [] σ by
          obtain ⟨n, hn⟩ := hh
          exact ⟨n + 4, And.intro (fun _ => hn) (fun zz => absurd c1 zz)⟩
        cases h
        exact ⟨2, And.intro hQ (And.intro rfl rfl)⟩
      · rw [if_neg c1] at h
        suffices hh : ∃ n, jx_W jx_ShC d (some .int) jc_96 Q n 20 [some (.ref 1), some (.ref 106), some (.int x2), some (.int x3), some (.int x4), some (.int x5), some (.int x6), u7] [] σ by
          obtain ⟨n, hn⟩ := hh
          exact ⟨n + 4, And.intro (fun zz => absurd zz c1) (fun _ => hn)⟩
        cases c2 : jx_in x6 8 with
        | false => rw [c2, cond_false] at h; cases h
        | true =>
          rw [c2, cond_true] at h
          cases c3 : jx_in ((x2 * 8) + x6) 48 with
          | false => rw [c3, cond_false] at h; cases h
          | true =>
            rw [c3, cond_true] at h
            by_cases c4 : ((x3 >>> (x6 &&& 31)) &&& 1) = 1
            · rw [if_pos c4] at h
              suffices hh : ∃ n, jx_W jx_ShC d (some .int) jc_96 Q n 52 [some (.ref 1), some (.ref 106), some (.int x2), some (.int x3), some (.int x4), some (.int x5), some (.int x6), some (.int ((σ.1 6 (x6).toNatClampNeg) - (σ.1 (106 + 1) (((x2 * 8) + x6)).toNatClampNeg)))] [] σ by
                obtain ⟨n, hn⟩ := hh
                exact ⟨n + 21, And.intro (jx_in_ok c2) (And.intro (jx_in_ok c3) (And.intro (fun zz => absurd c4 zz) (fun _ => hn)))⟩
              by_cases c5 : x4 ≤ ((σ.1 6 (x6).toNatClampNeg) - (σ.1 (106 + 1) (((x2 * 8) + x6)).toNatClampNeg))
              · rw [if_pos c5] at h
                suffices hh : ∃ n, jx_W jx_ShC d (some .int) jc_96 Q n 67 [some (.ref 1), some (.ref 106), some (.int x2), some (.int x3), some (.int x4), some (.int x5), some (.int x6), some (.int ((σ.1 6 (x6).toNatClampNeg) - (σ.1 (106 + 1) (((x2 * 8) + x6)).toNatClampNeg)))] [] σ by
                  obtain ⟨n, hn⟩ := hh
                  exact ⟨n + 3, And.intro (fun _ => hn) (fun zz => absurd c5 zz)⟩
                obtain ⟨n, hn⟩ := s_S_easiest_67 hd (by decide) (s_S_easiest_11 hd (by decide) k) (u7 := some (.int ((σ.1 6 (x6).toNatClampNeg) - (σ.1 (106 + 1) (((x2 * 8) + x6)).toNatClampNeg)))) h hQ
                exact ⟨n + 0, hn⟩
              · rw [if_neg c5] at h
                suffices hh : ∃ n, jx_W jx_ShC d (some .int) jc_96 Q n 59 [some (.ref 1), some (.ref 106), some (.int x2), some (.int x3), some (.int x4), some (.int x5), some (.int x6), some (.int ((σ.1 6 (x6).toNatClampNeg) - (σ.1 (106 + 1) (((x2 * 8) + x6)).toNatClampNeg)))] [] σ by
                  obtain ⟨n, hn⟩ := hh
                  exact ⟨n + 3, And.intro (fun zz => absurd zz c5) (fun _ => hn)⟩
                obtain ⟨n, hn⟩ := s_S_easiest_67 hd (by decide) (s_S_easiest_11 hd (by decide) k) (u7 := some (.int ((σ.1 6 (x6).toNatClampNeg) - (σ.1 (106 + 1) (((x2 * 8) + x6)).toNatClampNeg)))) h hQ
                exact ⟨n + 4, hn⟩
            · rw [if_neg c4] at h
              suffices hh : ∃ n, jx_W jx_ShC d (some .int) jc_96 Q n 67 [some (.ref 1), some (.ref 106), some (.int x2), some (.int x3), some (.int x4), some (.int x5), some (.int x6), some (.int ((σ.1 6 (x6).toNatClampNeg) - (σ.1 (106 + 1) (((x2 * 8) + x6)).toNatClampNeg)))] [] σ by
                obtain ⟨n, hn⟩ := hh
                exact ⟨n + 21, And.intro (jx_in_ok c2) (And.intro (jx_in_ok c3) (And.intro (fun _ => hn) (fun zz => absurd zz c4)))⟩
              obtain ⟨n, hn⟩ := s_S_easiest_67 hd (by decide) (s_S_easiest_11 hd (by decide) k) (u7 := some (.int ((σ.1 6 (x6).toNatClampNeg) - (σ.1 (106 + 1) (((x2 * 8) + x6)).toNatClampNeg)))) h hQ
              exact ⟨n + 0, hn⟩
    · rw [f_S_easiest_11] at h
      by_cases c1 : (σ.1 1 5) ≤ x6
      · rw [if_pos c1] at h
        suffices hh : ∃ n, jx_W jx_ShC d (some .int) jc_96 Q n 73 [some (.ref 1), some (.ref 110), some (.int x2), some (.int x3), some (.int x4), some (.int x5), some (.int x6), u7] [] σ by
          obtain ⟨n, hn⟩ := hh
          exact ⟨n + 4, And.intro (fun _ => hn) (fun zz => absurd c1 zz)⟩
        cases h
        exact ⟨2, And.intro hQ (And.intro rfl rfl)⟩
      · rw [if_neg c1] at h
        suffices hh : ∃ n, jx_W jx_ShC d (some .int) jc_96 Q n 20 [some (.ref 1), some (.ref 110), some (.int x2), some (.int x3), some (.int x4), some (.int x5), some (.int x6), u7] [] σ by
          obtain ⟨n, hn⟩ := hh
          exact ⟨n + 4, And.intro (fun zz => absurd zz c1) (fun _ => hn)⟩
        cases c2 : jx_in x6 8 with
        | false => rw [c2, cond_false] at h; cases h
        | true =>
          rw [c2, cond_true] at h
          cases c3 : jx_in ((x2 * 8) + x6) 48 with
          | false => rw [c3, cond_false] at h; cases h
          | true =>
            rw [c3, cond_true] at h
            by_cases c4 : ((x3 >>> (x6 &&& 31)) &&& 1) = 1
            · rw [if_pos c4] at h
              suffices hh : ∃ n, jx_W jx_ShC d (some .int) jc_96 Q n 52 [some (.ref 1), some (.ref 110), some (.int x2), some (.int x3), some (.int x4), some (.int x5), some (.int x6), some (.int ((σ.1 6 (x6).toNatClampNeg) - (σ.1 (110 + 1) (((x2 * 8) + x6)).toNatClampNeg)))] [] σ by
                obtain ⟨n, hn⟩ := hh
                exact ⟨n + 21, And.intro (jx_in_ok c2) (And.intro (jx_in_ok c3) (And.intro (fun zz => absurd c4 zz) (fun _ => hn)))⟩
              by_cases c5 : x4 ≤ ((σ.1 6 (x6).toNatClampNeg) - (σ.1 (110 + 1) (((x2 * 8) + x6)).toNatClampNeg))
              · rw [if_pos c5] at h
                suffices hh : ∃ n, jx_W jx_ShC d (some .int) jc_96 Q n 67 [some (.ref 1), some (.ref 110), some (.int x2), some (.int x3), some (.int x4), some (.int x5), some (.int x6), some (.int ((σ.1 6 (x6).toNatClampNeg) - (σ.1 (110 + 1) (((x2 * 8) + x6)).toNatClampNeg)))] [] σ by
                  obtain ⟨n, hn⟩ := hh
                  exact ⟨n + 3, And.intro (fun _ => hn) (fun zz => absurd c5 zz)⟩
                obtain ⟨n, hn⟩ := s_S_easiest_67 hd (by decide) (s_S_easiest_11 hd (by decide) k) (u7 := some (.int ((σ.1 6 (x6).toNatClampNeg) - (σ.1 (110 + 1) (((x2 * 8) + x6)).toNatClampNeg)))) h hQ
                exact ⟨n + 0, hn⟩
              · rw [if_neg c5] at h
                suffices hh : ∃ n, jx_W jx_ShC d (some .int) jc_96 Q n 59 [some (.ref 1), some (.ref 110), some (.int x2), some (.int x3), some (.int x4), some (.int x5), some (.int x6), some (.int ((σ.1 6 (x6).toNatClampNeg) - (σ.1 (110 + 1) (((x2 * 8) + x6)).toNatClampNeg)))] [] σ by
                  obtain ⟨n, hn⟩ := hh
                  exact ⟨n + 3, And.intro (fun zz => absurd zz c5) (fun _ => hn)⟩
                obtain ⟨n, hn⟩ := s_S_easiest_67 hd (by decide) (s_S_easiest_11 hd (by decide) k) (u7 := some (.int ((σ.1 6 (x6).toNatClampNeg) - (σ.1 (110 + 1) (((x2 * 8) + x6)).toNatClampNeg)))) h hQ
                exact ⟨n + 4, hn⟩
            · rw [if_neg c4] at h
              suffices hh : ∃ n, jx_W jx_ShC d (some .int) jc_96 Q n 67 [some (.ref 1), some (.ref 110), some (.int x2), some (.int x3), some (.int x4), some (.int x5), some (.int x6), some (.int ((σ.1 6 (x6).toNatClampNeg) - (σ.1 (110 + 1) (((x2 * 8) + x6)).toNatClampNeg)))] [] σ by
                obtain ⟨n, hn⟩ := hh
                exact ⟨n + 21, And.intro (jx_in_ok c2) (And.intro (jx_in_ok c3) (And.intro (fun _ => hn) (fun zz => absurd zz c4)))⟩
              obtain ⟨n, hn⟩ := s_S_easiest_67 hd (by decide) (s_S_easiest_11 hd (by decide) k) (u7 := some (.int ((σ.1 6 (x6).toNatClampNeg) - (σ.1 (110 + 1) (((x2 * 8) + x6)).toNatClampNeg)))) h hQ
              exact ⟨n + 0, hn⟩
    · rw [f_S_easiest_11] at h
      by_cases c1 : (σ.1 1 5) ≤ x6
      · rw [if_pos c1] at h
        suffices hh : ∃ n, jx_W jx_ShC d (some .int) jc_96 Q n 73 [some (.ref 1), some (.ref 27), some (.int x2), some (.int x3), some (.int x4), some (.int x5), some (.int x6), u7] [] σ by
          obtain ⟨n, hn⟩ := hh
          exact ⟨n + 4, And.intro (fun _ => hn) (fun zz => absurd c1 zz)⟩
        cases h
        exact ⟨2, And.intro hQ (And.intro rfl rfl)⟩
      · rw [if_neg c1] at h
        suffices hh : ∃ n, jx_W jx_ShC d (some .int) jc_96 Q n 20 [some (.ref 1), some (.ref 27), some (.int x2), some (.int x3), some (.int x4), some (.int x5), some (.int x6), u7] [] σ by
          obtain ⟨n, hn⟩ := hh
          exact ⟨n + 4, And.intro (fun zz => absurd zz c1) (fun _ => hn)⟩
        cases c2 : jx_in x6 8 with
        | false => rw [c2, cond_false] at h; cases h
        | true =>
          rw [c2, cond_true] at h
          cases c3 : jx_in ((x2 * 8) + x6) 48 with
          | false => rw [c3, cond_false] at h; cases h
          | true =>
            rw [c3, cond_true] at h
            by_cases c4 : ((x3 >>> (x6 &&& 31)) &&& 1) = 1
            · rw [if_pos c4] at h
              suffices hh : ∃ n, jx_W jx_ShC d (some .int) jc_96 Q n 52 [some (.ref 1), some (.ref 27), some (.int x2), some (.int x3), some (.int x4), some (.int x5), some (.int x6), some (.int ((σ.1 6 (x6).toNatClampNeg) - (σ.1 (27 + 1) (((x2 * 8) + x6)).toNatClampNeg)))] [] σ by
                obtain ⟨n, hn⟩ := hh
                exact ⟨n + 21, And.intro (jx_in_ok c2) (And.intro (jx_in_ok c3) (And.intro (fun zz => absurd c4 zz) (fun _ => hn)))⟩
              by_cases c5 : x4 ≤ ((σ.1 6 (x6).toNatClampNeg) - (σ.1 (27 + 1) (((x2 * 8) + x6)).toNatClampNeg))
              · rw [if_pos c5] at h
                suffices hh : ∃ n, jx_W jx_ShC d (some .int) jc_96 Q n 67 [some (.ref 1), some (.ref 27), some (.int x2), some (.int x3), some (.int x4), some (.int x5), some (.int x6), some (.int ((σ.1 6 (x6).toNatClampNeg) - (σ.1 (27 + 1) (((x2 * 8) + x6)).toNatClampNeg)))] [] σ by
                  obtain ⟨n, hn⟩ := hh
                  exact ⟨n + 3, And.intro (fun _ => hn) (fun zz => absurd c5 zz)⟩
                obtain ⟨n, hn⟩ := s_S_easiest_67 hd (by decide) (s_S_easiest_11 hd (by decide) k) (u7 := some (.int ((σ.1 6 (x6).toNatClampNeg) - (σ.1 (27 + 1) (((x2 * 8) + x6)).toNatClampNeg)))) h hQ
                exact ⟨n + 0, hn⟩
              · rw [if_neg c5] at h
                suffices hh : ∃ n, jx_W jx_ShC d (some .int) jc_96 Q n 59 [some (.ref 1), some (.ref 27), some (.int x2), some (.int x3), some (.int x4), some (.int x5), some (.int x6), some (.int ((σ.1 6 (x6).toNatClampNeg) - (σ.1 (27 + 1) (((x2 * 8) + x6)).toNatClampNeg)))] [] σ by
                  obtain ⟨n, hn⟩ := hh
                  exact ⟨n + 3, And.intro (fun zz => absurd zz c5) (fun _ => hn)⟩
                obtain ⟨n, hn⟩ := s_S_easiest_67 hd (by decide) (s_S_easiest_11 hd (by decide) k) (u7 := some (.int ((σ.1 6 (x6).toNatClampNeg) - (σ.1 (27 + 1) (((x2 * 8) + x6)).toNatClampNeg)))) h hQ
                exact ⟨n + 4, hn⟩
            · rw [if_neg c4] at h
              suffices hh : ∃ n, jx_W jx_ShC d (some .int) jc_96 Q n 67 [some (.ref 1), some (.ref 27), some (.int x2), some (.int x3), some (.int x4), some (.int x5), some (.int x6), some (.int ((σ.1 6 (x6).toNatClampNeg) - (σ.1 (27 + 1) (((x2 * 8) + x6)).toNatClampNeg)))] [] σ by
                obtain ⟨n, hn⟩ := hh
                exact ⟨n + 21, And.intro (jx_in_ok c2) (And.intro (jx_in_ok c3) (And.intro (fun _ => hn) (fun zz => absurd zz c4)))⟩
              obtain ⟨n, hn⟩ := s_S_easiest_67 hd (by decide) (s_S_easiest_11 hd (by decide) k) (u7 := some (.int ((σ.1 6 (x6).toNatClampNeg) - (σ.1 (27 + 1) (((x2 * 8) + x6)).toNatClampNeg)))) h hQ
              exact ⟨n + 0, hn⟩
    · rw [f_S_easiest_11] at h
      by_cases c1 : (σ.1 1 5) ≤ x6
      · rw [if_pos c1] at h
        suffices hh : ∃ n, jx_W jx_ShC d (some .int) jc_96 Q n 73 [some (.ref 1), some (.ref 75), some (.int x2), some (.int x3), some (.int x4), some (.int x5), some (.int x6), u7] [] σ by
          obtain ⟨n, hn⟩ := hh
          exact ⟨n + 4, And.intro (fun _ => hn) (fun zz => absurd c1 zz)⟩
        cases h
        exact ⟨2, And.intro hQ (And.intro rfl rfl)⟩
      · rw [if_neg c1] at h
        suffices hh : ∃ n, jx_W jx_ShC d (some .int) jc_96 Q n 20 [some (.ref 1), some (.ref 75), some (.int x2), some (.int x3), some (.int x4), some (.int x5), some (.int x6), u7] [] σ by
          obtain ⟨n, hn⟩ := hh
          exact ⟨n + 4, And.intro (fun zz => absurd zz c1) (fun _ => hn)⟩
        cases c2 : jx_in x6 8 with
        | false => rw [c2, cond_false] at h; cases h
        | true =>
          rw [c2, cond_true] at h
          cases c3 : jx_in ((x2 * 8) + x6) 48 with
          | false => rw [c3, cond_false] at h; cases h
          | true =>
            rw [c3, cond_true] at h
            by_cases c4 : ((x3 >>> (x6 &&& 31)) &&& 1) = 1
            · rw [if_pos c4] at h
              suffices hh : ∃ n, jx_W jx_ShC d (some .int) jc_96 Q n 52 [some (.ref 1), some (.ref 75), some (.int x2), some (.int x3), some (.int x4), some (.int x5), some (.int x6), some (.int ((σ.1 6 (x6).toNatClampNeg) - (σ.1 (75 + 1) (((x2 * 8) + x6)).toNatClampNeg)))] [] σ by
                obtain ⟨n, hn⟩ := hh
                exact ⟨n + 21, And.intro (jx_in_ok c2) (And.intro (jx_in_ok c3) (And.intro (fun zz => absurd c4 zz) (fun _ => hn)))⟩
              by_cases c5 : x4 ≤ ((σ.1 6 (x6).toNatClampNeg) - (σ.1 (75 + 1) (((x2 * 8) + x6)).toNatClampNeg))
              · rw [if_pos c5] at h
                suffices hh : ∃ n, jx_W jx_ShC d (some .int) jc_96 Q n 67 [some (.ref 1), some (.ref 75), some (.int x2), some (.int x3), some (.int x4), some (.int x5), some (.int x6), some (.int ((σ.1 6 (x6).toNatClampNeg) - (σ.1 (75 + 1) (((x2 * 8) + x6)).toNatClampNeg)))] [] σ by
                  obtain ⟨n, hn⟩ := hh
                  exact ⟨n + 3, And.intro (fun _ => hn) (fun zz => absurd c5 zz)⟩
                obtain ⟨n, hn⟩ := s_S_easiest_67 hd (by decide) (s_S_easiest_11 hd (by decide) k) (u7 := some (.int ((σ.1 6 (x6).toNatClampNeg) - (σ.1 (75 + 1) (((x2 * 8) + x6)).toNatClampNeg)))) h hQ
                exact ⟨n + 0, hn⟩
              · rw [if_neg c5] at h
                suffices hh : ∃ n, jx_W jx_ShC d (some .int) jc_96 Q n 59 [some (.ref 1), some (.ref 75), some (.int x2), some (.int x3), some (.int x4), some (.int x5), some (.int x6), some (.int ((σ.1 6 (x6).toNatClampNeg) - (σ.1 (75 + 1) (((x2 * 8) + x6)).toNatClampNeg)))] [] σ by
                  obtain ⟨n, hn⟩ := hh
                  exact ⟨n + 3, And.intro (fun zz => absurd zz c5) (fun _ => hn)⟩
                obtain ⟨n, hn⟩ := s_S_easiest_67 hd (by decide) (s_S_easiest_11 hd (by decide) k) (u7 := some (.int ((σ.1 6 (x6).toNatClampNeg) - (σ.1 (75 + 1) (((x2 * 8) + x6)).toNatClampNeg)))) h hQ
                exact ⟨n + 4, hn⟩
            · rw [if_neg c4] at h
              suffices hh : ∃ n, jx_W jx_ShC d (some .int) jc_96 Q n 67 [some (.ref 1), some (.ref 75), some (.int x2), some (.int x3), some (.int x4), some (.int x5), some (.int x6), some (.int ((σ.1 6 (x6).toNatClampNeg) - (σ.1 (75 + 1) (((x2 * 8) + x6)).toNatClampNeg)))] [] σ by
                obtain ⟨n, hn⟩ := hh
                exact ⟨n + 21, And.intro (jx_in_ok c2) (And.intro (jx_in_ok c3) (And.intro (fun _ => hn) (fun zz => absurd zz c4)))⟩
              obtain ⟨n, hn⟩ := s_S_easiest_67 hd (by decide) (s_S_easiest_11 hd (by decide) k) (u7 := some (.int ((σ.1 6 (x6).toNatClampNeg) - (σ.1 (75 + 1) (((x2 * 8) + x6)).toNatClampNeg)))) h hQ
              exact ⟨n + 0, hn⟩
    · rw [f_S_easiest_11] at h
      by_cases c1 : (σ.1 1 5) ≤ x6
      · rw [if_pos c1] at h
        suffices hh : ∃ n, jx_W jx_ShC d (some .int) jc_96 Q n 73 [some (.ref 1), some (.ref 94), some (.int x2), some (.int x3), some (.int x4), some (.int x5), some (.int x6), u7] [] σ by
          obtain ⟨n, hn⟩ := hh
          exact ⟨n + 4, And.intro (fun _ => hn) (fun zz => absurd c1 zz)⟩
        cases h
        exact ⟨2, And.intro hQ (And.intro rfl rfl)⟩
      · rw [if_neg c1] at h
        suffices hh : ∃ n, jx_W jx_ShC d (some .int) jc_96 Q n 20 [some (.ref 1), some (.ref 94), some (.int x2), some (.int x3), some (.int x4), some (.int x5), some (.int x6), u7] [] σ by
          obtain ⟨n, hn⟩ := hh
          exact ⟨n + 4, And.intro (fun zz => absurd zz c1) (fun _ => hn)⟩
        cases c2 : jx_in x6 8 with
        | false => rw [c2, cond_false] at h; cases h
        | true =>
          rw [c2, cond_true] at h
          cases c3 : jx_in ((x2 * 8) + x6) 48 with
          | false => rw [c3, cond_false] at h; cases h
          | true =>
            rw [c3, cond_true] at h
            by_cases c4 : ((x3 >>> (x6 &&& 31)) &&& 1) = 1
            · rw [if_pos c4] at h
              suffices hh : ∃ n, jx_W jx_ShC d (some .int) jc_96 Q n 52 [some (.ref 1), some (.ref 94), some (.int x2), some (.int x3), some (.int x4), some (.int x5), some (.int x6), some (.int ((σ.1 6 (x6).toNatClampNeg) - (σ.1 (94 + 1) (((x2 * 8) + x6)).toNatClampNeg)))] [] σ by
                obtain ⟨n, hn⟩ := hh
                exact ⟨n + 21, And.intro (jx_in_ok c2) (And.intro (jx_in_ok c3) (And.intro (fun zz => absurd c4 zz) (fun _ => hn)))⟩
              by_cases c5 : x4 ≤ ((σ.1 6 (x6).toNatClampNeg) - (σ.1 (94 + 1) (((x2 * 8) + x6)).toNatClampNeg))
              · rw [if_pos c5] at h
                suffices hh : ∃ n, jx_W jx_ShC d (some .int) jc_96 Q n 67 [some (.ref 1), some (.ref 94), some (.int x2), some (.int x3), some (.int x4), some (.int x5), some (.int x6), some (.int ((σ.1 6 (x6).toNatClampNeg) - (σ.1 (94 + 1) (((x2 * 8) + x6)).toNatClampNeg)))] [] σ by
                  obtain ⟨n, hn⟩ := hh
                  exact ⟨n + 3, And.intro (fun _ => hn) (fun zz => absurd c5 zz)⟩
                obtain ⟨n, hn⟩ := s_S_easiest_67 hd (by decide) (s_S_easiest_11 hd (by decide) k) (u7 := some (.int ((σ.1 6 (x6).toNatClampNeg) - (σ.1 (94 + 1) (((x2 * 8) + x6)).toNatClampNeg)))) h hQ
                exact ⟨n + 0, hn⟩
              · rw [if_neg c5] at h
                suffices hh : ∃ n, jx_W jx_ShC d (some .int) jc_96 Q n 59 [some (.ref 1), some (.ref 94), some (.int x2), some (.int x3), some (.int x4), some (.int x5), some (.int x6), some (.int ((σ.1 6 (x6).toNatClampNeg) - (σ.1 (94 + 1) (((x2 * 8) + x6)).toNatClampNeg)))] [] σ by
                  obtain ⟨n, hn⟩ := hh
                  exact ⟨n + 3, And.intro (fun zz => absurd zz c5) (fun _ => hn)⟩
                obtain ⟨n, hn⟩ := s_S_easiest_67 hd (by decide) (s_S_easiest_11 hd (by decide) k) (u7 := some (.int ((σ.1 6 (x6).toNatClampNeg) - (σ.1 (94 + 1) (((x2 * 8) + x6)).toNatClampNeg)))) h hQ
                exact ⟨n + 4, hn⟩
            · rw [if_neg c4] at h
              suffices hh : ∃ n, jx_W jx_ShC d (some .int) jc_96 Q n 67 [some (.ref 1), some (.ref 94), some (.int x2), some (.int x3), some (.int x4), some (.int x5), some (.int x6), some (.int ((σ.1 6 (x6).toNatClampNeg) - (σ.1 (94 + 1) (((x2 * 8) + x6)).toNatClampNeg)))] [] σ by
                obtain ⟨n, hn⟩ := hh
                exact ⟨n + 21, And.intro (jx_in_ok c2) (And.intro (jx_in_ok c3) (And.intro (fun _ => hn) (fun zz => absurd zz c4)))⟩
              obtain ⟨n, hn⟩ := s_S_easiest_67 hd (by decide) (s_S_easiest_11 hd (by decide) k) (u7 := some (.int ((σ.1 6 (x6).toNatClampNeg) - (σ.1 (94 + 1) (((x2 * 8) + x6)).toNatClampNeg)))) h hQ
              exact ⟨n + 0, hn⟩
    · rw [f_S_easiest_11] at h
      by_cases c1 : (σ.1 1 5) ≤ x6
      · rw [if_pos c1] at h
        suffices hh : ∃ n, jx_W jx_ShC d (some .int) jc_96 Q n 73 [some (.ref 1), some (.ref 98), some (.int x2), some (.int x3), some (.int x4), some (.int x5), some (.int x6), u7] [] σ by
          obtain ⟨n, hn⟩ := hh
          exact ⟨n + 4, And.intro (fun _ => hn) (fun zz => absurd c1 zz)⟩
        cases h
        exact ⟨2, And.intro hQ (And.intro rfl rfl)⟩
      · rw [if_neg c1] at h
        suffices hh : ∃ n, jx_W jx_ShC d (some .int) jc_96 Q n 20 [some (.ref 1), some (.ref 98), some (.int x2), some (.int x3), some (.int x4), some (.int x5), some (.int x6), u7] [] σ by
          obtain ⟨n, hn⟩ := hh
          exact ⟨n + 4, And.intro (fun zz => absurd zz c1) (fun _ => hn)⟩
        cases c2 : jx_in x6 8 with
        | false => rw [c2, cond_false] at h; cases h
        | true =>
          rw [c2, cond_true] at h
          cases c3 : jx_in ((x2 * 8) + x6) 48 with
          | false => rw [c3, cond_false] at h; cases h
          | true =>
            rw [c3, cond_true] at h
            by_cases c4 : ((x3 >>> (x6 &&& 31)) &&& 1) = 1
            · rw [if_pos c4] at h
              suffices hh : ∃ n, jx_W jx_ShC d (some .int) jc_96 Q n 52 [some (.ref 1), some (.ref 98), some (.int x2), some (.int x3), some (.int x4), some (.int x5), some (.int x6), some (.int ((σ.1 6 (x6).toNatClampNeg) - (σ.1 (98 + 1) (((x2 * 8) + x6)).toNatClampNeg)))] [] σ by
                obtain ⟨n, hn⟩ := hh
                exact ⟨n + 21, And.intro (jx_in_ok c2) (And.intro (jx_in_ok c3) (And.intro (fun zz => absurd c4 zz) (fun _ => hn)))⟩
              by_cases c5 : x4 ≤ ((σ.1 6 (x6).toNatClampNeg) - (σ.1 (98 + 1) (((x2 * 8) + x6)).toNatClampNeg))
              · rw [if_pos c5] at h
                suffices hh : ∃ n, jx_W jx_ShC d (some .int) jc_96 Q n 67 [some (.ref 1), some (.ref 98), some (.int x2), some (.int x3), some (.int x4), some (.int x5), some (.int x6), some (.int ((σ.1 6 (x6).toNatClampNeg) - (σ.1 (98 + 1) (((x2 * 8) + x6)).toNatClampNeg)))] [] σ by
                  obtain ⟨n, hn⟩ := hh
                  exact ⟨n + 3, And.intro (fun _ => hn) (fun zz => absurd c5 zz)⟩
                obtain ⟨n, hn⟩ := s_S_easiest_67 hd (by decide) (s_S_easiest_11 hd (by decide) k) (u7 := some (.int ((σ.1 6 (x6).toNatClampNeg) - (σ.1 (98 + 1) (((x2 * 8) + x6)).toNatClampNeg)))) h hQ
                exact ⟨n + 0, hn⟩
              · rw [if_neg c5] at h
                suffices hh : ∃ n, jx_W jx_ShC d (some .int) jc_96 Q n 59 [some (.ref 1), some (.ref 98), some (.int x2), some (.int x3), some (.int x4), some (.int x5), some (.int x6), some (.int ((σ.1 6 (x6).toNatClampNeg) - (σ.1 (98 + 1) (((x2 * 8) + x6)).toNatClampNeg)))] [] σ by
                  obtain ⟨n, hn⟩ := hh
                  exact ⟨n + 3, And.intro (fun zz => absurd zz c5) (fun _ => hn)⟩
                obtain ⟨n, hn⟩ := s_S_easiest_67 hd (by decide) (s_S_easiest_11 hd (by decide) k) (u7 := some (.int ((σ.1 6 (x6).toNatClampNeg) - (σ.1 (98 + 1) (((x2 * 8) + x6)).toNatClampNeg)))) h hQ
                exact ⟨n + 4, hn⟩
            · rw [if_neg c4] at h
              suffices hh : ∃ n, jx_W jx_ShC d (some .int) jc_96 Q n 67 [some (.ref 1), some (.ref 98), some (.int x2), some (.int x3), some (.int x4), some (.int x5), some (.int x6), some (.int ((σ.1 6 (x6).toNatClampNeg) - (σ.1 (98 + 1) (((x2 * 8) + x6)).toNatClampNeg)))] [] σ by
                obtain ⟨n, hn⟩ := hh
                exact ⟨n + 21, And.intro (jx_in_ok c2) (And.intro (jx_in_ok c3) (And.intro (fun _ => hn) (fun zz => absurd zz c4)))⟩
              obtain ⟨n, hn⟩ := s_S_easiest_67 hd (by decide) (s_S_easiest_11 hd (by decide) k) (u7 := some (.int ((σ.1 6 (x6).toNatClampNeg) - (σ.1 (98 + 1) (((x2 * 8) + x6)).toNatClampNeg)))) h hQ
              exact ⟨n + 0, hn⟩
set_option maxRecDepth 20000 in
theorem s_S_easiest {N d : Nat} {p1 : Nat} {x2 : Int32} {x3 : Int32} (hd : 1 ≤ d) (hp : p1 = 102 ∨ p1 = 106 ∨ p1 = 110 ∨ p1 = 27 ∨ p1 = 75 ∨ p1 = 94 ∨ p1 = 98) {σ : jw_M} {z : (Int32 × jw_M)} {Q : jw_Q} (h : f_S_easiest N p1 x2 x3 σ = some z) (hQ : Q (some (.int z.1)) (jx_ShC, z.2)) : jw_C jp_kd jp_ys d 96 [.ref 1, .ref p1, .int x2, .int x3] (jx_ShC, σ) Q := by
  obtain ⟨d, rfl⟩ : ∃ e, d = e + 1 := ⟨d - 1, by omega⟩
  replace hd : 0 ≤ d := by omega
  refine jx_C rfl rfl ?_
  unfold f_S_easiest at h
  obtain ⟨n, hn⟩ := s_S_easiest_11 hd hp N (u7 := none) h hQ
  exact ⟨n + 6, hn⟩
