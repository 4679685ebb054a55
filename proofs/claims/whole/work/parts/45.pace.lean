/-! ===== pure: paces ===== -/
def q_pc (x0 x1 x2 : Int32) : Int32 := if x0 = 1 then (if (x2 - x2 / 4 * 4) = 3 then 0 else x1) else if x0 = 2 then (if x2 = 6 then 0 else 2 * x1) else if x0 = 3 then (if x2 = 6 then 0 + 1 else 2 * x1 + 1) else if x0 = 4 then x1 / 2 + 1 else if x0 = 5 then x1 / 2 + 1 + (x2 - x2 / 4 * 4) else x1
theorem e_paceBy (N : Nat) (x0 x1 x2 : Int32) (σ : jw_M) : f_M_paceBy N x0 x1 x2 σ = some (q_pc x0 x1 x2, σ) := by
  unfold f_M_paceBy q_pc
  by_cases a : x0 = 1
  · simp only [if_pos a]
    by_cases b : (x2 - x2 / 4 * 4) = 3
    · simp only [if_pos b]
    · simp only [if_neg b]
  · simp only [if_neg a]
    by_cases a : x0 = 2
    · simp only [if_pos a]
      by_cases b : x2 = 6
      · simp only [if_pos b]
      · simp only [if_neg b]
    · simp only [if_neg a]
      by_cases a : x0 = 3
      · simp only [if_pos a]
        by_cases b : x2 = 6
        · simp only [if_pos b]
        · simp only [if_neg b]
      · simp only [if_neg a]
        by_cases a : x0 = 4
        · simp only [if_pos a]
        · simp only [if_neg a]
          by_cases a : x0 = 5
          · simp only [if_pos a]
          · simp only [if_neg a]
/-- the class's pace of a kind's thing -/
def q_paceIn (N r : Nat) (y4 y5 : Int32) (σ : jw_M) : Option (Int32 × jw_M) := if r = 32 then f_Z_Shade_paceIn N r y4 y5 σ else if r = 33 then f_Z_Joined_paceIn N y4 y5 σ else if r = 34 then f_Z_Gifted_paceIn N r y4 y5 σ else if r = 35 then f_Z_Coloured_paceIn N y4 y5 σ else if r = 36 then f_Z_Slow_paceIn N r y4 y5 σ else if r = 37 then f_Z_Borrowed_paceIn N y4 y5 σ else none
theorem e_paceIn {N k : Nat} (h1 : 1 ≤ k) (h5 : k ≤ 5) (y4 y5 : Int32) (σ : jw_M) : q_paceIn N (32 + k) y4 y5 σ = some (q_pc (nI k) y5 y4, σ) := by
  unfold q_paceIn
  rcases (show k = 1 ∨ k = 2 ∨ k = 3 ∨ k = 4 ∨ k = 5 by omega) with rfl | rfl | rfl | rfl | rfl
  · rw [if_neg (by decide), if_pos rfl]
    unfold f_Z_Joined_paceIn f_Z_Shade_paceIn q_pc
    rw [if_pos (show nI 1 = 1 from rfl)]
    by_cases b : (y4 - y4 / 4 * 4) = 3
    · rw [if_pos b, if_pos b]
    · rw [if_neg b, if_neg b]
      rfl
  · rw [if_neg (by decide), if_neg (by decide), if_pos rfl]
    unfold f_Z_Gifted_paceIn f_Z_Shade_paceIn q_pc
    rw [if_neg (show ¬ nI 2 = 1 by decide), if_pos (show nI 2 = 2 from rfl)]
    by_cases b : y4 = 6
    · rw [if_pos b, if_pos b]
    · rw [if_neg b, if_neg b]
      rfl
  · rw [if_neg (by decide), if_neg (by decide), if_neg (by decide), if_pos rfl]
    unfold f_Z_Coloured_paceIn f_Z_Gifted_paceIn f_Z_Shade_paceIn q_pc
    rw [if_neg (show ¬ nI 3 = 1 by decide), if_neg (show ¬ nI 3 = 2 by decide), if_pos (show nI 3 = 3 from rfl)]
    by_cases b : y4 = 6
    · rw [if_pos b, if_pos b]
      rfl
    · rw [if_neg b, if_neg b]
      rfl
  · rw [if_neg (by decide), if_neg (by decide), if_neg (by decide), if_neg (by decide), if_pos rfl]
    rfl
  · rw [if_neg (by decide), if_neg (by decide), if_neg (by decide), if_neg (by decide), if_neg (by decide), if_pos rfl]
    rfl
theorem e_thing {N p k : Nat} {σ : jw_M} (hp : p < 6) (hk : k ≤ 5) (h : σ.1 2 p = nI k) : f_S_thing N (nI p) σ = some (32 + k, σ) := by
  unfold f_S_thing f_S_thing_10
  rw [q_in hp (by decide), cond_true, nI_clamp (by omega), h, q_in (show k < 6 by omega) (by decide), cond_true, nI_clamp (by omega)]
/-! ===== a place is taken ===== -/
/-- what a shadow gains, on the class's side -/
theorem e_gain {N p1 p l : Nat} {σ : jw_M} {v hd : Int32} (hp : p < 6) (hl : l < 8) : f_P_gain N p1 (nI p) (nI l) v hd σ = some (if hd ≤ σ.1 (p1 + 1) (p * 8 + l) + v then (1, jx_w (jx_w σ (p1 + 1) (p * 8 + l) (σ.1 (p1 + 1) (p * 8 + l) + v)) (p1 + 2) p (σ.1 (p1 + 2) p ||| ((1 : Int32) <<< (nI l &&& 31)))) else (0, jx_w σ (p1 + 1) (p * 8 + l) (σ.1 (p1 + 1) (p * 8 + l) + v))) := by
  unfold f_P_gain
  rw [q_ix8, q_in (show p * 8 + l < 48 by omega) (by decide), cond_true, nI_clamp (show p * 8 + l < 2 ^ 31 by omega), q_wS, q_in hp (by decide), cond_true, nI_clamp (show p < 2 ^ 31 by omega), q_wC (show p1 + 2 ≠ p1 + 1 by omega)]
  by_cases c : hd ≤ σ.1 (p1 + 1) (p * 8 + l) + v
  · rw [if_pos c, if_pos c]
  · rw [if_neg c, if_neg c]
/-- on the reference's side -/
theorem e_sits {N p l : Nat} {σ : jw_M} (hp : p < 6) (hl : l < 8) : f_M_sits N (nI p) (nI l) σ = some (if σ.1 3 (24 + 5 * l + 0) ≤ σ.1 1 (8 + 8 * p + l) + q_pc (σ.1 3 (6 + 3 * p + 0)) (σ.1 3 (6 + 3 * p + 1)) (σ.1 1 0) then (σ.1 3 (24 + 5 * l + 0), jx_w (jx_w (jx_w σ 10 l (σ.1 10 l + 1)) 1 (8 + 8 * p + l) (σ.1 1 (8 + 8 * p + l) + q_pc (σ.1 3 (6 + 3 * p + 0)) (σ.1 3 (6 + 3 * p + 1)) (σ.1 1 0))) 1 (2 + p) (σ.1 1 (2 + p) ||| ((1 : Int32) <<< (nI l &&& 31)))) else (0, jx_w (jx_w σ 10 l (σ.1 10 l + 1)) 1 (8 + 8 * p + l) (σ.1 1 (8 + 8 * p + l) + q_pc (σ.1 3 (6 + 3 * p + 0)) (σ.1 3 (6 + 3 * p + 1)) (σ.1 1 0)))) := by
  unfold f_M_sits
  rw [q_in hl (by decide), cond_true, q_i8, q_in (show 8 + 8 * p + l < 56 by omega) (by decide), cond_true, nI_clamp (show l < 2 ^ 31 by omega), nI_clamp (show 8 + 8 * p + l < 2 ^ 31 by omega)]
  rw [show f_M_of N (nI p) 0 (jx_w σ 10 l (σ.1 10 l + 1)) = _ from e_of (w := 0) hp (by decide), Option.bind_some]
  dsimp only
  rw [show f_M_of N (nI p) 1 (jx_w σ 10 l (σ.1 10 l + 1)) = _ from e_of (w := 1) hp (by decide), Option.bind_some]
  dsimp only
  rw [e_paceBy, Option.bind_some]
  dsimp only
  rw [show ∀ τ : jw_M, f_M_lessonNumber N (nI l) 0 τ = some (τ.1 3 (24 + 5 * l + 0), τ) from fun τ => e_ln (w := 0) hl (by decide), Option.bind_some]
  dsimp only
  simp only [q_wS, q_wC (show (3 : Nat) ≠ 1 by decide), q_wC (show (3 : Nat) ≠ 10 by decide), q_wC (show (1 : Nat) ≠ 10 by decide)]
  rw [q_i2, q_in (show 2 + p < 56 by omega) (by decide), cond_true, nI_clamp (show 2 + p < 2 ^ 31 by omega)]
  rw [show ∀ τ : jw_M, f_M_lessonNumber N (nI l) 0 τ = some (τ.1 3 (24 + 5 * l + 0), τ) from fun τ => e_ln (w := 0) hl (by decide), Option.bind_some]
  dsimp only
  simp only [q_wS, q_wC (show (3 : Nat) ≠ 1 by decide), q_wC (show (3 : Nat) ≠ 10 by decide), q_wC (show (1 : Nat) ≠ 10 by decide), q_wI (show 2 + p ≠ 8 + 8 * p + l by omega)]
  by_cases c : σ.1 3 (24 + 5 * l + 0) ≤ σ.1 1 (8 + 8 * p + l) + q_pc (σ.1 3 (6 + 3 * p + 0)) (σ.1 3 (6 + 3 * p + 1)) (σ.1 1 0)
  · rw [if_pos c, if_pos c]
  · rw [if_neg c, if_neg c]
