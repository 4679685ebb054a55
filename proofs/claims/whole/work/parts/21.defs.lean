/-! ===== the methods as functions over the memory: printed by my own program out of the byte code ===== -/
/-! ShadowSchool$Shade.paceIn(II)I -/
def f_Z_Shade_paceIn (N : Nat) (p0 : Nat) (x1 : Int32) (x2 : Int32) (σ : jw_M) : Option (Int32 × jw_M) := some (x2, σ)
/-! ShadowSchool$Slow.paceIn(II)I -/
def f_Z_Slow_paceIn (N : Nat) (p0 : Nat) (x1 : Int32) (x2 : Int32) (σ : jw_M) : Option (Int32 × jw_M) := (f_Z_Shade_paceIn N p0 x1 x2 σ).bind fun z1 => some (((z1.1 / 2) + 1), z1.2)
/-! ShadowSchool$Borrowed.paceIn(II)I -/
def f_Z_Borrowed_paceIn (N : Nat) (x1 : Int32) (x2 : Int32) (σ : jw_M) : Option (Int32 × jw_M) := (f_Z_Slow_paceIn N 37 x1 x2 σ).bind fun z1 => some ((z1.1 + (x1 - x1 / 4 * 4)), z1.2)
/-! java/lang/Math.abs(I)I -/
def f_J_abs (N : Nat) (x0 : Int32) (σ : jw_M) : Option (Int32 × jw_M) := if 0 ≤ x0 then some (x0, σ) else some ((-x0), σ)
/-! ShadowSchool$Slow.lengthIn(II)I -/
def f_Z_Slow_lengthIn (N : Nat) (p0 : Nat) (x1 : Int32) (x2 : Int32) (σ : jw_M) : Option (Int32 × jw_M) := (f_J_abs N (x1 - 7) σ).bind fun z1 => some ((x2 * z1.1), z1.2)
/-! ShadowSchool$Borrowed.lengthIn(II)I -/
def f_Z_Borrowed_lengthIn (N : Nat) (x1 : Int32) (x2 : Int32) (σ : jw_M) : Option (Int32 × jw_M) := (f_Z_Slow_lengthIn N 37 x1 x2 σ).bind fun z1 => some ((z1.1 + 3), z1.2)
/-! ShadowSchool$Host.begins(I)V -/
def f_H_begins (N : Nat) (x1 : Int32) (σ : jw_M) : Option jw_M := if (σ.1 121 8) = 0 then if 30 ≤ (σ.1 121 7) then some σ else bif jx_in (σ.1 121 7) 30 then some (jx_w (jx_w σ 132 ((σ.1 121 7)).toNatClampNeg x1) 121 7 (((jx_w σ 132 ((σ.1 121 7)).toNatClampNeg x1).1 121 7) + 1)) else none else some σ
/-! ShadowSchool$Shade.lies(LShadowSchool$Host;I)I -/
def f_Z_Shade_lies (N : Nat) (p0 : Nat) (x2 : Int32) (σ : jw_M) : Option (Int32 × jw_M) := (f_H_begins N 10 σ).bind fun z1 => some (((x2 * 2) + (z1.1 121 9)), z1)
/-! ShadowSchool$Coloured.lies(LShadowSchool$Host;I)I -/
def f_Z_Coloured_lies (N : Nat) (x2 : Int32) (σ : jw_M) : Option (Int32 × jw_M) := (f_H_begins N 50 σ).bind fun z1 => (f_Z_Shade_lies N 35 x2 z1).bind fun z3 => some ((0 - z3.1), z3.2)
/-! ShadowSchool$Joined.lies(LShadowSchool$Host;I)I -/
def f_Z_Joined_lies (N : Nat) (x2 : Int32) (σ : jw_M) : Option (Int32 × jw_M) := (f_H_begins N 20 σ).bind fun z1 => (f_Z_Shade_lies N 33 x2 z1).bind fun z3 => some ((z3.1 ^^^ (z3.2.1 121 10)), z3.2)
/-! ShadowSchool$Shade.turns(LShadowSchool$Host;I)I -/
def f_Z_Shade_turns (N : Nat) (p0 : Nat) (x2 : Int32) (σ : jw_M) : Option (Int32 × jw_M) := (f_H_begins N 11 σ).bind fun z1 => (if p0 = 32 then f_Z_Shade_lies N p0 x2 z1 else if p0 = 33 then f_Z_Joined_lies N x2 z1 else if p0 = 34 then f_Z_Shade_lies N p0 x2 z1 else if p0 = 35 then f_Z_Coloured_lies N x2 z1 else if p0 = 36 then f_Z_Shade_lies N p0 x2 z1 else if p0 = 37 then f_Z_Shade_lies N p0 x2 z1 else none).bind fun z3 => some ((z3.1 - (z3.2.1 121 10)), z3.2)
/-! ShadowSchool$Borrowed.turns(LShadowSchool$Host;I)I -/
def f_Z_Borrowed_turns (N : Nat) (x2 : Int32) (σ : jw_M) : Option (Int32 × jw_M) := (f_H_begins N 60 σ).bind fun z1 => (f_Z_Shade_turns N 37 x2 z1).bind fun z3 => some ((z3.1 * 2), z3.2)
/-! ShadowSchool$Host.part(II)I -/
def f_H_part (N : Nat) (x1 : Int32) (x2 : Int32) (σ : jw_M) : Option (Int32 × jw_M) := if x2 = 0 then some (0, (jx_w σ 121 8 (1 : Int32))) else if x2 = 0 then none else some ((x1 / x2), σ)
/-! ShadowSchool$Shade.folds(LShadowSchool$Host;I)I -/
def f_Z_Shade_folds (N : Nat) (p0 : Nat) (x2 : Int32) (σ : jw_M) : Option (Int32 × jw_M) := (f_H_begins N 12 σ).bind fun z1 => (f_H_part N x2 ((z1.1 121 9) - (z1.1 121 10)) z1).bind fun z3 => some (z3.1, z3.2)
/-! ShadowSchool$Slow.folds(LShadowSchool$Host;I)I -/
def f_Z_Slow_folds (N : Nat) (p0 : Nat) (x2 : Int32) (σ : jw_M) : Option (Int32 × jw_M) := (f_H_begins N 40 σ).bind fun z1 => (f_Z_Shade_folds N p0 x2 z1).bind fun z3 => some ((z3.1 - 1), z3.2)
/-! ShadowSchool$Borrowed.folds(LShadowSchool$Host;I)I -/
def f_Z_Borrowed_folds (N : Nat) (x2 : Int32) (σ : jw_M) : Option (Int32 × jw_M) := (f_H_begins N 61 σ).bind fun z1 => (f_Z_Slow_folds N 37 x2 z1).bind fun z3 => (f_Z_Shade_lies N 37 (z3.2.1 121 10) z3.2).bind fun z5 => some ((z3.1 ^^^ z5.1), z5.2)
/-! ShadowSchool$Gifted.paceIn(II)I -/
def f_Z_Gifted_paceIn (N : Nat) (p0 : Nat) (x1 : Int32) (x2 : Int32) (σ : jw_M) : Option (Int32 × jw_M) := if x1 = 6 then some (0, σ) else (f_Z_Shade_paceIn N p0 x1 x2 σ).bind fun z2 => some ((2 * z2.1), z2.2)
/-! ShadowSchool$Coloured.paceIn(II)I -/
def f_Z_Coloured_paceIn (N : Nat) (x1 : Int32) (x2 : Int32) (σ : jw_M) : Option (Int32 × jw_M) := (f_Z_Gifted_paceIn N 35 x1 x2 σ).bind fun z1 => some ((z1.1 + 1), z1.2)
/-! ShadowSchool$Shade.lengthIn(II)I -/
def f_Z_Shade_lengthIn (N : Nat) (p0 : Nat) (x1 : Int32) (x2 : Int32) (σ : jw_M) : Option (Int32 × jw_M) := (f_J_abs N (x1 - 6) σ).bind fun z1 => some ((x2 * z1.1), z1.2)
/-! java/lang/Math.max(II)I -/
def f_J_max (N : Nat) (x0 : Int32) (x1 : Int32) (σ : jw_M) : Option (Int32 × jw_M) := if x0 < x1 then some (x1, σ) else some (x0, σ)
/-! ShadowSchool$Coloured.lengthIn(II)I -/
def f_Z_Coloured_lengthIn (N : Nat) (x1 : Int32) (x2 : Int32) (σ : jw_M) : Option (Int32 × jw_M) := (f_Z_Shade_lengthIn N 35 x1 x2 σ).bind fun z1 => (f_J_max N 0 (z1.1 - 2) z1.2).bind fun z3 => some (z3.1, z3.2)
/-! ShadowSchool$Gifted.turns(LShadowSchool$Host;I)I -/
def f_Z_Gifted_turns (N : Nat) (p0 : Nat) (x2 : Int32) (σ : jw_M) : Option (Int32 × jw_M) := (f_H_begins N 30 σ).bind fun z1 => (f_Z_Shade_turns N p0 x2 z1).bind fun z3 => some ((z3.1 + 9), z3.2)
/-! ShadowSchool$Shade.asks(LShadowSchool$Host;I)I -/
def f_Z_Shade_asks (N : Nat) (p0 : Nat) (x2 : Int32) (σ : jw_M) : Option (Int32 × jw_M) := (f_H_begins N 13 σ).bind fun z1 => (if p0 = 32 then f_Z_Shade_turns N p0 x2 z1 else if p0 = 33 then f_Z_Shade_turns N p0 x2 z1 else if p0 = 34 then f_Z_Gifted_turns N p0 x2 z1 else if p0 = 35 then f_Z_Gifted_turns N p0 x2 z1 else if p0 = 36 then f_Z_Shade_turns N p0 x2 z1 else if p0 = 37 then f_Z_Borrowed_turns N x2 z1 else none).bind fun z3 => some ((z3.1 * 3), z3.2)
/-! ShadowSchool$Coloured.asks(LShadowSchool$Host;I)I -/
def f_Z_Coloured_asks (N : Nat) (x2 : Int32) (σ : jw_M) : Option (Int32 × jw_M) := (f_H_begins N 51 σ).bind fun z1 => (f_Z_Shade_asks N 35 x2 z1).bind fun z3 => (f_Z_Shade_folds N 35 (z3.2.1 121 9) z3.2).bind fun z5 => some ((z3.1 + z5.1), z5.2)
/-! ShadowSchool$Host.isSheet(I)Z -/
def f_H_isSheet (N : Nat) (x1 : Int32) (σ : jw_M) : Option (Int32 × jw_M) := if x1 < 0 then some (0, σ) else if 4 ≤ x1 then some (0, σ) else some (1, σ)
/-! ShadowSchool$Host.isShelf(I)Z -/
def f_H_isShelf (N : Nat) (x1 : Int32) (σ : jw_M) : Option (Int32 × jw_M) := if x1 < 0 then some (0, σ) else if 4 ≤ x1 then some (0, σ) else some (1, σ)
/-! ShadowSchool$Host.hasItem(II)Z -/
def f_H_hasItem (N : Nat) (x1 : Int32) (x2 : Int32) (σ : jw_M) : Option (Int32 × jw_M) := if x2 < 0 then some (0, σ) else bif jx_in x1 4 then if (σ.1 123 (x1).toNatClampNeg) ≤ x2 then some (0, σ) else some (1, σ) else none
/-! ShadowSchool$Host.hasItems(III)Z -/
def f_H_hasItems (N : Nat) (x1 : Int32) (x2 : Int32) (x3 : Int32) (σ : jw_M) : Option (Int32 × jw_M) := if x2 < 0 then some (0, σ) else bif jx_in x1 4 then if ((σ.1 123 (x1).toNatClampNeg) - x3) < x2 then some (0, σ) else some (1, σ) else none
/-! ShadowSchool$Host.refusalAs(II)I -/
def f_H_refusalAs (N : Nat) (x1 : Int32) (x2 : Int32) (σ : jw_M) : Option (Int32 × jw_M) := bif jx_in x1 4 then if (σ.1 122 (x1).toNatClampNeg) = (-1) then some ((-11), σ) else if (σ.1 122 (x1).toNatClampNeg) = x2 then some (0, σ) else some ((-13), σ) else none
/-! ShadowSchool$Host.makeRow(III)V -/
def f_H_makeRow_29 (N : Nat) (r_0 : Nat) (σ : jw_M) : Option jw_M := (f_J_fill N r_0 40 0 σ).bind fun z5 => some z5
def f_H_makeRow_28 (N : Nat) (y1 : Int32) (σ : jw_M) : Option jw_M := bif jx_in y1 4 then f_H_makeRow_29 N (125 + (y1).toNatClampNeg) σ else none
def f_H_makeRow_22 (N : Nat) (x1 : Int32) (y1 : Int32) (y2 : Int32) (σ : jw_M) : Option jw_M := bif jx_in y1 4 then f_H_makeRow_28 N x1 (jx_w σ 123 (y1).toNatClampNeg y2) else none
def f_H_makeRow (N : Nat) (x1 : Int32) (x2 : Int32) (x3 : Int32) (σ : jw_M) : Option jw_M := bif jx_in x1 4 then if x2 = (-1) then f_H_makeRow_22 N x1 x1 0 (jx_w σ 122 (x1).toNatClampNeg x2) else f_H_makeRow_22 N x1 x1 x3 (jx_w σ 122 (x1).toNatClampNeg x2) else none
/-! ShadowSchool$Host.itemAt(II)I -/
def f_H_itemAt_6 (N : Nat) (x2 : Int32) (r_0 : Nat) (σ : jw_M) : Option (Int32 × jw_M) := bif jx_in x2 40 then some ((σ.1 r_0 (x2).toNatClampNeg), σ) else none
def f_H_itemAt_5 (N : Nat) (x2 : Int32) (y1 : Int32) (σ : jw_M) : Option (Int32 × jw_M) := bif jx_in y1 4 then f_H_itemAt_6 N x2 (125 + (y1).toNatClampNeg) σ else none
def f_H_itemAt (N : Nat) (x1 : Int32) (x2 : Int32) (σ : jw_M) : Option (Int32 × jw_M) := f_H_itemAt_5 N x2 x1 σ
/-! ShadowSchool$Host.putItem(III)V -/
def f_H_putItem_46 (N : Nat) (x2 : Int32) (x3 : Int32) (r_0 : Nat) (σ : jw_M) : Option jw_M := bif jx_in x2 40 then some (jx_w σ r_0 (x2).toNatClampNeg (x3).toInt8.toInt32) else none
def f_H_putItem_45 (N : Nat) (x2 : Int32) (x3 : Int32) (y1 : Int32) (σ : jw_M) : Option jw_M := bif jx_in y1 4 then f_H_putItem_46 N x2 x3 (125 + (y1).toNatClampNeg) σ else none
def f_H_putItem_59 (N : Nat) (x2 : Int32) (x3 : Int32) (r_0 : Nat) (σ : jw_M) : Option jw_M := bif jx_in x2 40 then some (jx_w σ r_0 (x2).toNatClampNeg (x3).toInt16.toInt32) else none
def f_H_putItem_58 (N : Nat) (x2 : Int32) (x3 : Int32) (y1 : Int32) (σ : jw_M) : Option jw_M := bif jx_in y1 4 then f_H_putItem_59 N x2 x3 (125 + (y1).toNatClampNeg) σ else none
def f_H_putItem_92 (N : Nat) (x2 : Int32) (x3 : Int32) (r_0 : Nat) (σ : jw_M) : Option jw_M := bif jx_in x2 40 then some (jx_w σ r_0 (x2).toNatClampNeg x3) else none
def f_H_putItem_91 (N : Nat) (x2 : Int32) (x3 : Int32) (y1 : Int32) (σ : jw_M) : Option jw_M := bif jx_in y1 4 then f_H_putItem_92 N x2 x3 (125 + (y1).toNatClampNeg) σ else none
def f_H_putItem_82 (N : Nat) (r_0 : Nat) (y1 : Int32) (y2 : Int32) (σ : jw_M) : Option jw_M := bif jx_in y1 40 then some (jx_w σ r_0 (y1).toNatClampNeg y2) else none
def f_H_putItem_72 (N : Nat) (x2 : Int32) (x3 : Int32) (r_0 : Nat) (σ : jw_M) : Option jw_M := if x3 = 0 then f_H_putItem_82 N r_0 x2 0 σ else f_H_putItem_82 N r_0 x2 1 σ
def f_H_putItem_71 (N : Nat) (x2 : Int32) (x3 : Int32) (y1 : Int32) (σ : jw_M) : Option jw_M := bif jx_in y1 4 then f_H_putItem_72 N x2 x3 (125 + (y1).toNatClampNeg) σ else none
def f_H_putItem (N : Nat) (x1 : Int32) (x2 : Int32) (x3 : Int32) (σ : jw_M) : Option jw_M := bif jx_in x1 4 then if (σ.1 122 (x1).toNatClampNeg) = 0 then f_H_putItem_45 N x2 x3 x1 σ else if (σ.1 122 (x1).toNatClampNeg) = 1 then f_H_putItem_58 N x2 x3 x1 σ else if (σ.1 122 (x1).toNatClampNeg) = 2 then f_H_putItem_91 N x2 x3 x1 σ else if (σ.1 122 (x1).toNatClampNeg) = 3 then f_H_putItem_91 N x2 x3 x1 σ else if (σ.1 122 (x1).toNatClampNeg) = 4 then f_H_putItem_71 N x2 x3 x1 σ else f_H_putItem_91 N x2 x3 x1 σ else none
/-! ShadowSchool$Host.put(III)V -/
def f_H_put_39 (N : Nat) (x1 : Int32) (x3 : Int32) (y1 : Int32) (y2 : Int32) (σ : jw_M) : Option jw_M := bif jx_in y1 4 then bif jx_in x3 4 then bif jx_in x1 4 then some (jx_w (jx_w (jx_w σ 129 (y1).toNatClampNeg y2) 130 (x1).toNatClampNeg ((jx_w σ 129 (y1).toNatClampNeg y2).1 123 (x3).toNatClampNeg)) 131 (x1).toNatClampNeg ((jx_w (jx_w σ 129 (y1).toNatClampNeg y2) 130 (x1).toNatClampNeg ((jx_w σ 129 (y1).toNatClampNeg y2).1 123 (x3).toNatClampNeg)).1 122 (x3).toNatClampNeg)) else none else none else none
def f_H_put (N : Nat) (x1 : Int32) (x2 : Int32) (x3 : Int32) (σ : jw_M) : Option jw_M := bif jx_in x1 4 then if x2 = 1 then bif jx_in x3 4 then if ((jx_w (jx_w σ 129 (x1).toNatClampNeg x2) 130 (x1).toNatClampNeg x3).1 122 (x3).toNatClampNeg) = (-1) then f_H_put_39 N x1 x3 x1 2 (jx_w (jx_w σ 129 (x1).toNatClampNeg x2) 130 (x1).toNatClampNeg x3) else f_H_put_39 N x1 x3 x1 1 (jx_w (jx_w σ 129 (x1).toNatClampNeg x2) 130 (x1).toNatClampNeg x3) else none else some (jx_w (jx_w σ 129 (x1).toNatClampNeg x2) 130 (x1).toNatClampNeg x3) else none
/-! ShadowSchool$Host.shadowOn(I)I -/
def f_H_shadowOn (N : Nat) (x1 : Int32) (σ : jw_M) : Option (Int32 × jw_M) := bif jx_in x1 4 then if (σ.1 129 (x1).toNatClampNeg) = 0 then some ((σ.1 130 (x1).toNatClampNeg), σ) else some ((-1), σ) else none
/-! ShadowSchool$Host.clearTrace()V -/
def f_H_clearTrace (N : Nat) (σ : jw_M) : Option jw_M := some (jx_w (jx_w σ 121 7 (0 : Int32)) 121 8 (0 : Int32))
/-! ShadowSchool$Joined.paceIn(II)I -/
def f_Z_Joined_paceIn (N : Nat) (x1 : Int32) (x2 : Int32) (σ : jw_M) : Option (Int32 × jw_M) := if (x1 - x1 / 4 * 4) = 3 then some (0, σ) else (f_Z_Shade_paceIn N 33 x1 x2 σ).bind fun z2 => some (z2.1, z2.2)
/-! ShadowSchool$Plans.weigh(III)V -/
def f_L_weigh_70 (N : Nat) (x3 : Int32) (σ : jw_M) : Option jw_M := some (jx_w σ 92 8 ((σ.1 92 8) ||| x3))
def f_L_weigh_47 (N : Nat) (x2 : Int32) (x3 : Int32) (σ : jw_M) : Option jw_M := if ((σ.1 92 6) &&& (x3 ^^^ (-1))) = 0 then (f_J_min N (σ.1 92 7) x2 σ).bind fun z4 => f_L_weigh_70 N x3 (jx_w z4.2 92 7 z4.1) else f_L_weigh_70 N x3 σ
def f_L_weigh_29 (N : Nat) (x1 : Int32) (x2 : Int32) (x3 : Int32) (σ : jw_M) : Option jw_M := if x1 = (σ.1 92 3) then f_L_weigh_47 N x2 x3 (jx_w σ 92 4 ((σ.1 92 4) + 1)) else f_L_weigh_47 N x2 x3 σ
def f_L_weigh (N : Nat) (x1 : Int32) (x2 : Int32) (x3 : Int32) (σ : jw_M) : Option jw_M := if x1 ≤ (σ.1 92 3) then f_L_weigh_29 N x1 x2 x3 σ else (f_F_copyRow N 114 115 4 4 (jx_w (jx_w σ 92 3 x1) 92 4 (0 : Int32))).bind fun z6 => f_L_weigh_29 N x1 x2 x3 z6
/-! ShadowSchool$Progress.copyFrom(LShadowSchool$Progress;)V -/
def f_P_copyFrom_27 (N : Nat) (p0 : Nat) (p1 : Nat) (σ : jw_M) : Option jw_M := (f_F_copyRow N (p1 + 2) (p0 + 2) 6 6 σ).bind fun z3 => some z3
def f_P_copyFrom (N : Nat) (p0 : Nat) (p1 : Nat) (σ : jw_M) : Option jw_M := (f_F_copyRow N (p1 + 1) (p0 + 1) 48 48 (jx_w (jx_w σ p0 0 (σ.1 p1 0)) p0 1 ((jx_w σ p0 0 (σ.1 p1 0)).1 p1 1))).bind fun z1 => f_P_copyFrom_27 N p0 p1  z1
/-! ShadowSchool$Progress.learntBySome()I -/
def f_P_learntBySome_4 (N : Nat) (p0 : Nat) : Nat → Int32 → Int32 → jw_M → Option (Int32 × jw_M)
  | 0, _, _, _ => none
  | k + 1, x1, x2, σ => if 6 ≤ x2 then some (x1, σ) else bif jx_in x2 6 then f_P_learntBySome_4 N p0 k (x1 ||| (σ.1 (p0 + 2) (x2).toNatClampNeg)) (x2 + 1) σ else none
def f_P_learntBySome (N : Nat) (p0 : Nat) (σ : jw_M) : Option (Int32 × jw_M) := f_P_learntBySome_4 N p0 N 0 0 σ
/-! ShadowSchool$Progress.gain(IIII)Z -/
def f_P_gain (N : Nat) (p0 : Nat) (x1 : Int32) (x2 : Int32) (x3 : Int32) (x4 : Int32) (σ : jw_M) : Option (Int32 × jw_M) := bif jx_in ((x1 * 8) + x2) 48 then if x4 ≤ ((jx_w σ (p0 + 1) (((x1 * 8) + x2)).toNatClampNeg ((σ.1 (p0 + 1) (((x1 * 8) + x2)).toNatClampNeg) + x3)).1 (p0 + 1) (((x1 * 8) + x2)).toNatClampNeg) then bif jx_in x1 6 then some (1, (jx_w (jx_w σ (p0 + 1) (((x1 * 8) + x2)).toNatClampNeg ((σ.1 (p0 + 1) (((x1 * 8) + x2)).toNatClampNeg) + x3)) (p0 + 2) (x1).toNatClampNeg (((jx_w σ (p0 + 1) (((x1 * 8) + x2)).toNatClampNeg ((σ.1 (p0 + 1) (((x1 * 8) + x2)).toNatClampNeg) + x3)).1 (p0 + 2) (x1).toNatClampNeg) ||| ((1 : Int32) <<< (x2 &&& 31))))) else none else some (0, (jx_w σ (p0 + 1) (((x1 * 8) + x2)).toNatClampNeg ((σ.1 (p0 + 1) (((x1 * 8) + x2)).toNatClampNeg) + x3))) else none
/-! ShadowSchool$School.thing(I)LShadowSchool$Shade; -/
def f_S_thing_10 (N : Nat) (y1 : Int32) (σ : jw_M) : Option (Nat × jw_M) := bif jx_in y1 6 then some ((32 + (y1).toNatClampNeg), σ) else none
def f_S_thing (N : Nat) (x1 : Int32) (σ : jw_M) : Option (Nat × jw_M) := bif jx_in x1 6 then f_S_thing_10 N (σ.1 2 (x1).toNatClampNeg) σ else none
/-! ShadowSchool$School.openTo(LShadowSchool$Progress;II)I -/
def f_S_openTo_98 (N : Nat) (p1 : Nat) (K45 : Int32 → Int32 → Int32 → jw_M → Option (Int32 × jw_M)) (x4 : Int32) (x5 : Int32) (x6 : Int32) (σ : jw_M) : Option (Int32 × jw_M) := K45 x4 x5 (x6 + 1) σ
def f_S_openTo_45 (N : Nat) (p1 : Nat) : Nat → Int32 → Int32 → Int32 → jw_M → Option (Int32 × jw_M)
  | 0, _, _, _, _ => none
  | k + 1, x4, x5, x6, σ => if (σ.1 1 5) ≤ x6 then some (x5, σ) else if (x5 >>> (x6 &&& 31)) = 0 then some (x5, σ) else bif jx_in x6 8 then if (σ.1 7 (x6).toNatClampNeg) < 0 then f_S_openTo_98 N p1 (f_S_openTo_45 N p1 k) x4 x5 x6 σ else if ((x4 >>> ((σ.1 7 (x6).toNatClampNeg) &&& 31)) &&& 1) = 0 then f_S_openTo_98 N p1 (f_S_openTo_45 N p1 k) x4 (x5 &&& (((1 : Int32) <<< (x6 &&& 31)) ^^^ (-1))) x6 σ else f_S_openTo_98 N p1 (f_S_openTo_45 N p1 k) x4 x5 x6 σ else none
def f_S_openTo (N : Nat) (p1 : Nat) (x2 : Int32) (x3 : Int32) (σ : jw_M) : Option (Int32 × jw_M) := if (σ.1 p1 0) < 17 then bif jx_in x2 6 then bif jx_in (σ.1 p1 0) 17 then f_S_openTo_45 N p1 N (σ.1 (p1 + 2) (x2).toNatClampNeg) (((σ.1 11 ((σ.1 p1 0)).toNatClampNeg) &&& ((σ.1 (p1 + 2) (x2).toNatClampNeg) ^^^ (-1))) &&& (x3 ^^^ (-1))) 0 σ else none else none else some (0, σ)
/-! ShadowSchool$Rules.tell(IIIII)V -/
def f_R_tell (N : Nat) (x1 : Int32) (x2 : Int32) (x3 : Int32) (x4 : Int32) (x5 : Int32) (σ : jw_M) : Option jw_M := some (jx_w (jx_w (jx_w (jx_w (jx_w σ 26 0 x1) 26 1 x2) 26 2 x3) 26 3 x4) 26 4 x5)
/-! ShadowSchool$Rules.holds(II)Z -/
def f_R_holds_168 (N : Nat) (K5 : Int32 → Int32 → Int32 → jw_M → Option (Int32 × jw_M)) (x2 : Int32) (x3 : Int32) (x4 : Int32) (σ : jw_M) : Option (Int32 × jw_M) := K5 x2 x3 (x4 + 1) σ
def f_R_holds_166 (N : Nat) (K5 : Int32 → Int32 → Int32 → jw_M → Option (Int32 × jw_M)) (x2 : Int32) (x4 : Int32) (y0 : Int32) (y1 : Int32) (σ : jw_M) : Option (Int32 × jw_M) := f_R_holds_168 N K5 x2 (y0 ||| y1) x4 σ
def f_R_holds_144 (N : Nat) (K5 : Int32 → Int32 → Int32 → jw_M → Option (Int32 × jw_M)) (x2 : Int32) (x3 : Int32) (x4 : Int32) (y0 : Int32) (σ : jw_M) : Option (Int32 × jw_M) := bif jx_in x4 100 then if y0 = (σ.1 23 (x4).toNatClampNeg) then f_R_holds_166 N K5 x2 x4 (x3 <<< (1 &&& 31)) 1 σ else f_R_holds_166 N K5 x2 x4 (x3 <<< (1 &&& 31)) 0 σ else none
def f_R_holds_5 (N : Nat) : Nat → Int32 → Int32 → Int32 → jw_M → Option (Int32 × jw_M)
  | 0, _, _, _, _ => none
  | k + 1, x2, x3, x4, σ => if x2 ≤ x4 then if (x3 &&& 1) = 1 then some (1, σ) else some (0, σ) else bif jx_in x4 100 then if (σ.1 23 (x4).toNatClampNeg) = 3 then f_R_holds_168 N (f_R_holds_5 N k) x2 (((x3 >>> (2 &&& 31)) <<< (1 &&& 31)) ||| (((x3 >>> (1 &&& 31)) &&& 1) &&& (x3 &&& 1))) x4 σ else if (σ.1 23 (x4).toNatClampNeg) = 4 then f_R_holds_168 N (f_R_holds_5 N k) x2 ((((x3 >>> (2 &&& 31)) <<< (1 &&& 31)) ||| ((x3 >>> (1 &&& 31)) &&& 1)) ||| (x3 &&& 1)) x4 σ else if (σ.1 23 (x4).toNatClampNeg) = 5 then f_R_holds_168 N (f_R_holds_5 N k) x2 (x3 ^^^ 1) x4 σ else bif jx_in (σ.1 24 (x4).toNatClampNeg) 105 then bif jx_in (σ.1 25 (x4).toNatClampNeg) 105 then if (σ.1 26 ((σ.1 25 (x4).toNatClampNeg)).toNatClampNeg) ≤ (σ.1 26 ((σ.1 24 (x4).toNatClampNeg)).toNatClampNeg) then if (σ.1 26 ((σ.1 24 (x4).toNatClampNeg)).toNatClampNeg) ≤ (σ.1 26 ((σ.1 25 (x4).toNatClampNeg)).toNatClampNeg) then f_R_holds_144 N (f_R_holds_5 N k) x2 x3 x4 1 σ else f_R_holds_144 N (f_R_holds_5 N k) x2 x3 x4 2 σ else f_R_holds_144 N (f_R_holds_5 N k) x2 x3 x4 0 σ else none else none else none
def f_R_holds (N : Nat) (x1 : Int32) (x2 : Int32) (σ : jw_M) : Option (Int32 × jw_M) := f_R_holds_5 N N x2 1 x1 σ
/-! ShadowSchool.isOrIsUnder(II)Z -/
def f_F_isOrIsUnder (N : Nat) (x0 : Int32) (x1 : Int32) (σ : jw_M) : Option (Int32 × jw_M) := bif jx_in x0 6 then if (((jw_tab.getD x0.toNatClampNeg 0) >>> (x1 &&& 31)) &&& 1) = 1 then some (1, σ) else some (0, σ) else none
/-! ShadowSchool$Rules.deedFor(I)I -/
def f_R_deedFor_46 (N : Nat) (K4 : Int32 → Int32 → Int32 → jw_M → Option (Int32 × jw_M)) (x1 : Int32) (x3 : Int32) (σ : jw_M) : Option (Int32 × jw_M) := bif jx_in x3 8 then K4 x1 (σ.1 22 (x3).toNatClampNeg) (x3 + 1) σ else none
def f_R_deedFor_4 (N : Nat) : Nat → Int32 → Int32 → Int32 → jw_M → Option (Int32 × jw_M)
  | 0, _, _, _, _ => none
  | k + 1, x1, x2, x3, σ => if (σ.1 19 0) ≤ x3 then some (3, σ) else bif jx_in x3 8 then (f_F_isOrIsUnder N x1 (σ.1 20 (x3).toNatClampNeg) σ).bind fun z3 => if z3.1 = 0 then f_R_deedFor_46 N (f_R_deedFor_4 N k) x1 x3 z3.2 else (f_R_holds N x2 (z3.2.1 22 (x3).toNatClampNeg) z3.2).bind fun z7 => if z7.1 = 0 then f_R_deedFor_46 N (f_R_deedFor_4 N k) x1 x3 z7.2 else some ((z7.2.1 21 (x3).toNatClampNeg), z7.2) else none
def f_R_deedFor (N : Nat) (x1 : Int32) (σ : jw_M) : Option (Int32 × jw_M) := f_R_deedFor_4 N N x1 0 0 σ
/-! java/lang/Integer.bitCount(I)I -/
def f_J_bitCount (N : Nat) (x0 : Int32) (σ : jw_M) : Option (Int32 × jw_M) := some (((((((((x0 - ((Int32.toUInt32 x0 >>> (Int32.toUInt32 1 &&& Int32.toUInt32 31)).toInt32 &&& 1431655765)) &&& 858993459) + ((Int32.toUInt32 (x0 - ((Int32.toUInt32 x0 >>> (Int32.toUInt32 1 &&& Int32.toUInt32 31)).toInt32 &&& 1431655765)) >>> (Int32.toUInt32 2 &&& Int32.toUInt32 31)).toInt32 &&& 858993459)) + (Int32.toUInt32 (((x0 - ((Int32.toUInt32 x0 >>> (Int32.toUInt32 1 &&& Int32.toUInt32 31)).toInt32 &&& 1431655765)) &&& 858993459) + ((Int32.toUInt32 (x0 - ((Int32.toUInt32 x0 >>> (Int32.toUInt32 1 &&& Int32.toUInt32 31)).toInt32 &&& 1431655765)) >>> (Int32.toUInt32 2 &&& Int32.toUInt32 31)).toInt32 &&& 858993459)) >>> (Int32.toUInt32 4 &&& Int32.toUInt32 31)).toInt32) &&& 252645135) + (Int32.toUInt32 (((((x0 - ((Int32.toUInt32 x0 >>> (Int32.toUInt32 1 &&& Int32.toUInt32 31)).toInt32 &&& 1431655765)) &&& 858993459) + ((Int32.toUInt32 (x0 - ((Int32.toUInt32 x0 >>> (Int32.toUInt32 1 &&& Int32.toUInt32 31)).toInt32 &&& 1431655765)) >>> (Int32.toUInt32 2 &&& Int32.toUInt32 31)).toInt32 &&& 858993459)) + (Int32.toUInt32 (((x0 - ((Int32.toUInt32 x0 >>> (Int32.toUInt32 1 &&& Int32.toUInt32 31)).toInt32 &&& 1431655765)) &&& 858993459) + ((Int32.toUInt32 (x0 - ((Int32.toUInt32 x0 >>> (Int32.toUInt32 1 &&& Int32.toUInt32 31)).toInt32 &&& 1431655765)) >>> (Int32.toUInt32 2 &&& Int32.toUInt32 31)).toInt32 &&& 858993459)) >>> (Int32.toUInt32 4 &&& Int32.toUInt32 31)).toInt32) &&& 252645135) >>> (Int32.toUInt32 8 &&& Int32.toUInt32 31)).toInt32) + (Int32.toUInt32 ((((((x0 - ((Int32.toUInt32 x0 >>> (Int32.toUInt32 1 &&& Int32.toUInt32 31)).toInt32 &&& 1431655765)) &&& 858993459) + ((Int32.toUInt32 (x0 - ((Int32.toUInt32 x0 >>> (Int32.toUInt32 1 &&& Int32.toUInt32 31)).toInt32 &&& 1431655765)) >>> (Int32.toUInt32 2 &&& Int32.toUInt32 31)).toInt32 &&& 858993459)) + (Int32.toUInt32 (((x0 - ((Int32.toUInt32 x0 >>> (Int32.toUInt32 1 &&& Int32.toUInt32 31)).toInt32 &&& 1431655765)) &&& 858993459) + ((Int32.toUInt32 (x0 - ((Int32.toUInt32 x0 >>> (Int32.toUInt32 1 &&& Int32.toUInt32 31)).toInt32 &&& 1431655765)) >>> (Int32.toUInt32 2 &&& Int32.toUInt32 31)).toInt32 &&& 858993459)) >>> (Int32.toUInt32 4 &&& Int32.toUInt32 31)).toInt32) &&& 252645135) + (Int32.toUInt32 (((((x0 - ((Int32.toUInt32 x0 >>> (Int32.toUInt32 1 &&& Int32.toUInt32 31)).toInt32 &&& 1431655765)) &&& 858993459) + ((Int32.toUInt32 (x0 - ((Int32.toUInt32 x0 >>> (Int32.toUInt32 1 &&& Int32.toUInt32 31)).toInt32 &&& 1431655765)) >>> (Int32.toUInt32 2 &&& Int32.toUInt32 31)).toInt32 &&& 858993459)) + (Int32.toUInt32 (((x0 - ((Int32.toUInt32 x0 >>> (Int32.toUInt32 1 &&& Int32.toUInt32 31)).toInt32 &&& 1431655765)) &&& 858993459) + ((Int32.toUInt32 (x0 - ((Int32.toUInt32 x0 >>> (Int32.toUInt32 1 &&& Int32.toUInt32 31)).toInt32 &&& 1431655765)) >>> (Int32.toUInt32 2 &&& Int32.toUInt32 31)).toInt32 &&& 858993459)) >>> (Int32.toUInt32 4 &&& Int32.toUInt32 31)).toInt32) &&& 252645135) >>> (Int32.toUInt32 8 &&& Int32.toUInt32 31)).toInt32) >>> (Int32.toUInt32 16 &&& Int32.toUInt32 31)).toInt32) &&& 63), σ)
/-! ShadowSchool$School.deedOf(LShadowSchool$Progress;I)I -/
def f_S_deedOf (N : Nat) (p1 : Nat) (x2 : Int32) (σ : jw_M) : Option (Int32 × jw_M) := if (σ.1 19 0) = 0 then some (3, σ) else bif jx_in x2 6 then (f_J_bitCount N (σ.1 (p1 + 2) (x2).toNatClampNeg) σ).bind fun z3 => (f_R_tell N (σ.1 p1 0) (z3.1) (z3.2.1 3 (x2).toNatClampNeg) (z3.2.1 4 (x2).toNatClampNeg) x2 z3.2).bind fun z5 => (f_R_deedFor N (z5.1 2 (x2).toNatClampNeg) z5).bind fun z7 => some (z7.1, z7.2) else none
/-! ShadowSchool$School.easiest(LShadowSchool$Progress;II)I -/
def f_S_easiest_67 (N : Nat) (p1 : Nat) (K11 : Int32 → Int32 → Int32 → Int32 → Int32 → jw_M → Option (Int32 × jw_M)) (x2 : Int32) (x3 : Int32) (x4 : Int32) (x5 : Int32) (x6 : Int32) (σ : jw_M) : Option (Int32 × jw_M) := K11 x2 x3 x4 x5 (x6 + 1) σ
def f_S_easiest_11 (N : Nat) (p1 : Nat) : Nat → Int32 → Int32 → Int32 → Int32 → Int32 → jw_M → Option (Int32 × jw_M)
  | 0, _, _, _, _, _, _ => none
  | k + 1, x2, x3, x4, x5, x6, σ => if (σ.1 1 5) ≤ x6 then some (x5, σ) else bif jx_in x6 8 then bif jx_in ((x2 * 8) + x6) 48 then if ((x3 >>> (x6 &&& 31)) &&& 1) = 1 then if x4 ≤ ((σ.1 6 (x6).toNatClampNeg) - (σ.1 (p1 + 1) (((x2 * 8) + x6)).toNatClampNeg)) then f_S_easiest_67 N p1 (f_S_easiest_11 N p1 k) x2 x3 x4 x5 x6 σ else f_S_easiest_67 N p1 (f_S_easiest_11 N p1 k) x2 x3 ((σ.1 6 (x6).toNatClampNeg) - (σ.1 (p1 + 1) (((x2 * 8) + x6)).toNatClampNeg)) x6 x6 σ else f_S_easiest_67 N p1 (f_S_easiest_11 N p1 k) x2 x3 x4 x5 x6 σ else none else none
def f_S_easiest (N : Nat) (p1 : Nat) (x2 : Int32) (x3 : Int32) (σ : jw_M) : Option (Int32 × jw_M) := f_S_easiest_11 N p1 N x2 x3 21 8 0 σ
/-! java/lang/Integer.numberOfLeadingZeros(I)I -/
def f_J_numberOfLeadingZeros_73 (N : Nat) (x0 : Int32) (x1 : Int32) (σ : jw_M) : Option (Int32 × jw_M) := some ((x1 - (Int32.toUInt32 x0 >>> (Int32.toUInt32 1 &&& Int32.toUInt32 31)).toInt32), σ)
def f_J_numberOfLeadingZeros_61 (N : Nat) (x0 : Int32) (x1 : Int32) (σ : jw_M) : Option (Int32 × jw_M) := if x0 < 4 then f_J_numberOfLeadingZeros_73 N x0 x1 σ else f_J_numberOfLeadingZeros_73 N (Int32.toUInt32 x0 >>> (Int32.toUInt32 2 &&& Int32.toUInt32 31)).toInt32 (x1 + (-2)) σ
def f_J_numberOfLeadingZeros_48 (N : Nat) (x0 : Int32) (x1 : Int32) (σ : jw_M) : Option (Int32 × jw_M) := if x0 < 16 then f_J_numberOfLeadingZeros_61 N x0 x1 σ else f_J_numberOfLeadingZeros_61 N (Int32.toUInt32 x0 >>> (Int32.toUInt32 4 &&& Int32.toUInt32 31)).toInt32 (x1 + (-4)) σ
def f_J_numberOfLeadingZeros_33 (N : Nat) (x0 : Int32) (x1 : Int32) (σ : jw_M) : Option (Int32 × jw_M) := if x0 < 256 then f_J_numberOfLeadingZeros_48 N x0 x1 σ else f_J_numberOfLeadingZeros_48 N (Int32.toUInt32 x0 >>> (Int32.toUInt32 8 &&& Int32.toUInt32 31)).toInt32 (x1 + (-8)) σ
def f_J_numberOfLeadingZeros (N : Nat) (x0 : Int32) (σ : jw_M) : Option (Int32 × jw_M) := if 0 < x0 then if x0 < 65536 then f_J_numberOfLeadingZeros_33 N x0 31 σ else f_J_numberOfLeadingZeros_33 N (Int32.toUInt32 x0 >>> (Int32.toUInt32 16 &&& Int32.toUInt32 31)).toInt32 ((31 : Int32) + (-16)) σ else if x0 = 0 then some (32, σ) else some (0, σ)
/-! java/lang/Integer.numberOfTrailingZeros(I)I -/
def f_J_numberOfTrailingZeros_74 (N : Nat) (x0 : Int32) (x1 : Int32) (σ : jw_M) : Option (Int32 × jw_M) := some ((x1 + (Int32.toUInt32 x0 >>> (Int32.toUInt32 1 &&& Int32.toUInt32 31)).toInt32), σ)
def f_J_numberOfTrailingZeros_62 (N : Nat) (x0 : Int32) (x1 : Int32) (σ : jw_M) : Option (Int32 × jw_M) := if x0 ≤ 4 then f_J_numberOfTrailingZeros_74 N x0 x1 σ else f_J_numberOfTrailingZeros_74 N (Int32.toUInt32 x0 >>> (Int32.toUInt32 2 &&& Int32.toUInt32 31)).toInt32 (x1 + 2) σ
def f_J_numberOfTrailingZeros_49 (N : Nat) (x0 : Int32) (x1 : Int32) (σ : jw_M) : Option (Int32 × jw_M) := if x0 ≤ 16 then f_J_numberOfTrailingZeros_62 N x0 x1 σ else f_J_numberOfTrailingZeros_62 N (Int32.toUInt32 x0 >>> (Int32.toUInt32 4 &&& Int32.toUInt32 31)).toInt32 (x1 + 4) σ
def f_J_numberOfTrailingZeros_34 (N : Nat) (x0 : Int32) (x1 : Int32) (σ : jw_M) : Option (Int32 × jw_M) := if x0 ≤ 256 then f_J_numberOfTrailingZeros_49 N x0 x1 σ else f_J_numberOfTrailingZeros_49 N (Int32.toUInt32 x0 >>> (Int32.toUInt32 8 &&& Int32.toUInt32 31)).toInt32 (x1 + 8) σ
def f_J_numberOfTrailingZeros (N : Nat) (x0 : Int32) (σ : jw_M) : Option (Int32 × jw_M) := if 0 < ((x0 ^^^ (-1)) &&& (x0 - 1)) then if ((x0 ^^^ (-1)) &&& (x0 - 1)) ≤ 65536 then f_J_numberOfTrailingZeros_34 N ((x0 ^^^ (-1)) &&& (x0 - 1)) 1 σ else f_J_numberOfTrailingZeros_34 N (Int32.toUInt32 ((x0 ^^^ (-1)) &&& (x0 - 1)) >>> (Int32.toUInt32 16 &&& Int32.toUInt32 31)).toInt32 ((1 : Int32) + 16) σ else some ((((x0 ^^^ (-1)) &&& (x0 - 1)) &&& 32), σ)
/-! ShadowSchool$School.choice(LShadowSchool$Progress;II)I -/
def f_S_choice (N : Nat) (p1 : Nat) (x2 : Int32) (x3 : Int32) (σ : jw_M) : Option (Int32 × jw_M) := (f_S_openTo N p1 x2 x3 σ).bind fun z1 => if z1.1 = 0 then some (8, z1.2) else (f_S_deedOf N p1 x2 z1.2).bind fun z4 => if z4.1 = 0 then (f_J_numberOfLeadingZeros N (z1.1) z4.2).bind fun z6 => some ((31 - z6.1), z6.2) else if z4.1 = 1 then (f_S_easiest N p1 x2 (z1.1) z4.2).bind fun z8 => some (z8.1, z8.2) else if z4.1 = 2 then some (8, z4.2) else (f_J_numberOfTrailingZeros N (z1.1) z4.2).bind fun z10 => some (z10.1, z10.2)
/-! ShadowSchool$School.goBy(LShadowSchool$Progress;I)I -/
def f_S_goBy_140 (N : Nat) (p1 : Nat) (K16 : Int32 → Int32 → Int32 → Int32 → jw_M → Option (Int32 × jw_M)) (x2 : Int32) (x3 : Int32) (x4 : Int32) (x5 : Int32) (σ : jw_M) : Option (Int32 × jw_M) := K16 x2 x3 x4 (x5 + 1) σ
def f_S_goBy_115 (N : Nat) (p1 : Nat) (K16 : Int32 → Int32 → Int32 → Int32 → jw_M → Option (Int32 × jw_M)) (x2 : Int32) (x3 : Int32) (x4 : Int32) (x5 : Int32) (x6 : Int32) (y1 : Int32) (y2 : Int32) (y3 : Int32) (σ : jw_M) : Option (Int32 × jw_M) := bif jx_in x6 8 then (f_P_gain N p1 y1 y2 y3 (σ.1 6 (x6).toNatClampNeg) σ).bind fun z14 => if z14.1 = 0 then f_S_goBy_140 N p1 K16 x2 x3 x4 x5 z14.2 else f_S_goBy_140 N p1 K16 x2 x3 (x4 + (z14.2.1 6 (x6).toNatClampNeg)) x5 z14.2 else none
def f_S_goBy_112 (N : Nat) (p1 : Nat) (K16 : Int32 → Int32 → Int32 → Int32 → jw_M → Option (Int32 × jw_M)) (x2 : Int32) (x3 : Int32) (x4 : Int32) (x5 : Int32) (x6 : Int32) (y1 : Int32) (y2 : Int32) (r_3 : Nat) (y4 : Int32) (y5 : Int32) (σ : jw_M) : Option (Int32 × jw_M) := (if r_3 = 32 then f_Z_Shade_paceIn N r_3 y4 y5 σ else if r_3 = 33 then f_Z_Joined_paceIn N y4 y5 σ else if r_3 = 34 then f_Z_Gifted_paceIn N r_3 y4 y5 σ else if r_3 = 35 then f_Z_Coloured_paceIn N y4 y5 σ else if r_3 = 36 then f_Z_Slow_paceIn N r_3 y4 y5 σ else if r_3 = 37 then f_Z_Borrowed_paceIn N y4 y5 σ else none).bind fun z11 => f_S_goBy_115 N p1 K16 x2 x3 x4 x5 x6 y1 y2 (z11.1) z11.2
def f_S_goBy_90 (N : Nat) (p1 : Nat) (K16 : Int32 → Int32 → Int32 → Int32 → jw_M → Option (Int32 × jw_M)) (x2 : Int32) (x3 : Int32) (x4 : Int32) (x5 : Int32) (x6 : Int32) (σ : jw_M) : Option (Int32 × jw_M) := (f_S_thing N x5 σ).bind fun z8 => bif jx_in x5 6 then f_S_goBy_112 N p1 K16 x2 x3 x4 x5 x6 x5 x6 z8.1 (z8.2.1 p1 0) (z8.2.1 3 (x5).toNatClampNeg) z8.2 else none
def f_S_goBy_46 (N : Nat) (p1 : Nat) (K16 : Int32 → Int32 → Int32 → Int32 → jw_M → Option (Int32 × jw_M)) (x2 : Int32) (x3 : Int32) (x4 : Int32) (x5 : Int32) (y0 : Int32) (σ : jw_M) : Option (Int32 × jw_M) := if y0 = 8 then f_S_goBy_140 N p1 K16 x2 x3 x4 x5 σ else bif jx_in y0 8 then if ((jx_w σ (p1 + 3) (y0).toNatClampNeg ((σ.1 (p1 + 3) (y0).toNatClampNeg) + 1)).1 (p1 + 3) (y0).toNatClampNeg) < ((jx_w σ (p1 + 3) (y0).toNatClampNeg ((σ.1 (p1 + 3) (y0).toNatClampNeg) + 1)).1 10 (y0).toNatClampNeg) then f_S_goBy_90 N p1 K16 x2 x3 x4 x5 y0 (jx_w σ (p1 + 3) (y0).toNatClampNeg ((σ.1 (p1 + 3) (y0).toNatClampNeg) + 1)) else f_S_goBy_90 N p1 K16 x2 (x3 ||| ((1 : Int32) <<< (y0 &&& 31))) x4 x5 y0 (jx_w σ (p1 + 3) (y0).toNatClampNeg ((σ.1 (p1 + 3) (y0).toNatClampNeg) + 1)) else none
def f_S_goBy_16 (N : Nat) (p1 : Nat) : Nat → Int32 → Int32 → Int32 → Int32 → jw_M → Option (Int32 × jw_M)
  | 0, _, _, _, _, _ => none
  | k + 1, x2, x3, x4, x5, σ => if (σ.1 1 0) ≤ x5 then some (x4, (jx_w (jx_w σ p1 0 ((σ.1 p1 0) + 1)) p1 1 (((jx_w σ p1 0 ((σ.1 p1 0) + 1)).1 p1 1) + x4))) else if (x5 + 1) = x2 then f_S_goBy_46 N p1 (f_S_goBy_16 N p1 k) x2 x3 x4 x5 8 σ else (f_S_choice N p1 x5 x3 σ).bind fun z17 => f_S_goBy_46 N p1 (f_S_goBy_16 N p1 k) x2 x3 x4 x5 (z17.1) z17.2
def f_S_goBy (N : Nat) (p1 : Nat) (x2 : Int32) (σ : jw_M) : Option (Int32 × jw_M) := (f_J_fill N (p1 + 3) 8 0 σ).bind fun z1 => f_S_goBy_16 N p1 N x2 0 0 0 z1
/-! ShadowSchool$Plans.walk(LShadowSchool$School;III)V -/
def f_L_walk_23 (N : Nat) (Rec : Int32 → Int32 → Int32 → jw_M → Option jw_M) (y1 : Int32) (y2 : Int32) (r_3 : Nat) (σ : jw_M) : Option jw_M := (f_P_learntBySome N r_3 σ).bind fun z3 => (f_L_weigh N y1 y2 (z3.1) z3.2).bind fun z5 => some z5
def f_L_walk_22 (N : Nat) (Rec : Int32 → Int32 → Int32 → jw_M → Option jw_M) (y1 : Int32) (y2 : Int32) (y4 : Int32) (σ : jw_M) : Option jw_M := bif jx_in y4 5 then f_L_walk_23 N Rec y1 y2 (94 + 4 * (y4).toNatClampNeg) σ else none
def f_L_walk_13 (N : Nat) (Rec : Int32 → Int32 → Int32 → jw_M → Option jw_M) (x2 : Int32) (x3 : Int32) (x4 : Int32) (σ : jw_M) : Option jw_M := f_L_walk_22 N Rec x3 x4 x2 σ
def f_L_walk_104 (N : Nat) (Rec : Int32 → Int32 → Int32 → jw_M → Option jw_M) (K43 : Int32 → Int32 → Int32 → Nat → Int32 → jw_M → Option jw_M) (x2 : Int32) (x3 : Int32) (x4 : Int32) (r5 : Nat) (x6 : Int32) (y2 : Int32) (y3 : Int32) (y4 : Int32) (σ : jw_M) : Option jw_M := (Rec y2 y3 y4 σ).bind fun z17 => K43 x2 x3 x4 r5 (x6 + 1) z17
def f_L_walk_71 (N : Nat) (Rec : Int32 → Int32 → Int32 → jw_M → Option jw_M) (K43 : Int32 → Int32 → Int32 → Nat → Int32 → jw_M → Option jw_M) (x2 : Int32) (x3 : Int32) (x4 : Int32) (r5 : Nat) (x6 : Int32) (σ : jw_M) : Option jw_M := (f_S_goBy N r5 x6 σ).bind fun z14 => if x6 = 0 then f_L_walk_104 N Rec K43 x2 x3 x4 r5 x6 (x2 + 1) (x3 + z14.1) x4 z14.2 else f_L_walk_104 N Rec K43 x2 x3 x4 r5 x6 (x2 + 1) (x3 + z14.1) (x4 + 1) z14.2
def f_L_walk_68 (N : Nat) (Rec : Int32 → Int32 → Int32 → jw_M → Option jw_M) (K43 : Int32 → Int32 → Int32 → Nat → Int32 → jw_M → Option jw_M) (x2 : Int32) (x3 : Int32) (x4 : Int32) (r5 : Nat) (x6 : Int32) (r_1 : Nat) (σ : jw_M) : Option jw_M := (f_P_copyFrom N r5 r_1 σ).bind fun z12 => f_L_walk_71 N Rec K43 x2 x3 x4 r5 x6 z12
def f_L_walk_67 (N : Nat) (Rec : Int32 → Int32 → Int32 → jw_M → Option jw_M) (K43 : Int32 → Int32 → Int32 → Nat → Int32 → jw_M → Option jw_M) (x2 : Int32) (x3 : Int32) (x4 : Int32) (r5 : Nat) (x6 : Int32) (y2 : Int32) (σ : jw_M) : Option jw_M := bif jx_in y2 5 then f_L_walk_68 N Rec K43 x2 x3 x4 r5 x6 (94 + 4 * (y2).toNatClampNeg) σ else none
def f_L_walk_43 (N : Nat) (Rec : Int32 → Int32 → Int32 → jw_M → Option jw_M) : Nat → Int32 → Int32 → Int32 → Nat → Int32 → jw_M → Option jw_M
  | 0, _, _, _, _, _, _ => none
  | k + 1, x2, x3, x4, r5, x6, σ => if (σ.1 1 0) < x6 then some σ else bif jx_in x2 4 then f_L_walk_67 N Rec (f_L_walk_43 N Rec k) x2 x3 x4 r5 x6 x2 (jx_w σ 114 (x2).toNatClampNeg x6) else none
def f_L_walk_38 (N : Nat) (Rec : Int32 → Int32 → Int32 → jw_M → Option jw_M) (x2 : Int32) (x3 : Int32) (x4 : Int32) (r_0 : Nat) (σ : jw_M) : Option jw_M := f_L_walk_43 N Rec N x2 x3 x4 r_0 0 σ
def f_L_walk_37 (N : Nat) (Rec : Int32 → Int32 → Int32 → jw_M → Option jw_M) (x2 : Int32) (x3 : Int32) (x4 : Int32) (y1 : Int32) (σ : jw_M) : Option jw_M := bif jx_in y1 5 then f_L_walk_38 N Rec x2 x3 x4 (94 + 4 * (y1).toNatClampNeg) σ else none
def f_L_walk (N : Nat) : Nat → Int32 → Int32 → Int32 → jw_M → Option jw_M
  | 0, _, _, _, _ => none
  | r + 1, x2, x3, x4, σ => if (σ.1 92 2) ≤ x2 then f_L_walk_13 N (f_L_walk N r) x2 x3 x4 σ else if x2 < 4 then f_L_walk_37 N (f_L_walk N r) x2 x3 x4 (x2 + 1) σ else f_L_walk_13 N (f_L_walk N r) x2 x3 x4 σ
/-! ShadowSchool$Plans.walkAll(LShadowSchool$School;II)V -/
def f_L_walkAll (N : Nat) (x2 : Int32) (x3 : Int32) (σ : jw_M) : Option jw_M := (f_P_copyFrom N 94 27 σ).bind fun z1 => (f_J_min N x2 ((z1.1 1 14) - (z1.1 27 0)) z1).bind fun z3 => (f_L_walk N 64 0 0 0 (jx_w (jx_w (jx_w (jx_w (jx_w (jx_w z3.2 92 2 z3.1) 92 3 ((-1) : Int32)) 92 4 (0 : Int32)) 92 6 x3) 92 7 (5 : Int32)) 92 8 (0 : Int32))).bind fun z5 => some z5
/-! ShadowSchool$School.isOver(LShadowSchool$Progress;)Z -/
def f_S_isOver (N : Nat) (p1 : Nat) (σ : jw_M) : Option (Int32 × jw_M) := if (σ.1 p1 0) < (σ.1 1 14) then some (0, σ) else some (1, σ)
/-! ShadowSchool$Plans.valueFrom(LShadowSchool$School;II)I -/
def f_L_valueFrom_139 (N : Nat) (Rec : Int32 → Int32 → jw_M → Option (Int32 × jw_M)) (K54 : Int32 → Int32 → Int32 → Nat → Int32 → Int32 → jw_M → Option (Int32 × jw_M)) (x2 : Int32) (x3 : Int32) (x4 : Int32) (r5 : Nat) (x6 : Int32) (x7 : Int32) (σ : jw_M) : Option (Int32 × jw_M) := K54 x2 x3 x4 r5 x6 (x7 + 1) σ
def f_L_valueFrom_125 (N : Nat) (Rec : Int32 → Int32 → jw_M → Option (Int32 × jw_M)) (K54 : Int32 → Int32 → Int32 → Nat → Int32 → Int32 → jw_M → Option (Int32 × jw_M)) (x2 : Int32) (x3 : Int32) (x4 : Int32) (r5 : Nat) (x7 : Int32) (x9 : Int32) (σ : jw_M) : Option (Int32 × jw_M) := if x2 = 0 then f_L_valueFrom_139 N Rec K54 x2 x3 x4 r5 x9 x7 (jx_w σ 92 9 x7) else f_L_valueFrom_139 N Rec K54 x2 x3 x4 r5 x9 x7 σ
def f_L_valueFrom_74 (N : Nat) (Rec : Int32 → Int32 → jw_M → Option (Int32 × jw_M)) (K54 : Int32 → Int32 → Int32 → Nat → Int32 → Int32 → jw_M → Option (Int32 × jw_M)) (x2 : Int32) (x3 : Int32) (x4 : Int32) (r5 : Nat) (x6 : Int32) (x7 : Int32) (σ : jw_M) : Option (Int32 × jw_M) := (f_S_goBy N r5 x7 σ).bind fun z13 => (Rec (x2 + 1) x3 z13.2).bind fun z15 => if x7 = 0 then f_L_valueFrom_125 N Rec K54 x2 x3 x4 r5 x7 (z13.1 + z15.1) z15.2 else if x4 = 0 then if x6 ≤ (z13.1 + z15.1) then f_L_valueFrom_139 N Rec K54 x2 x3 x4 r5 x6 x7 z15.2 else f_L_valueFrom_125 N Rec K54 x2 x3 x4 r5 x7 (z13.1 + z15.1) z15.2 else if (z13.1 + z15.1) ≤ x6 then f_L_valueFrom_139 N Rec K54 x2 x3 x4 r5 x6 x7 z15.2 else f_L_valueFrom_125 N Rec K54 x2 x3 x4 r5 x7 (z13.1 + z15.1) z15.2
def f_L_valueFrom_71 (N : Nat) (Rec : Int32 → Int32 → jw_M → Option (Int32 × jw_M)) (K54 : Int32 → Int32 → Int32 → Nat → Int32 → Int32 → jw_M → Option (Int32 × jw_M)) (x2 : Int32) (x3 : Int32) (x4 : Int32) (r5 : Nat) (x6 : Int32) (x7 : Int32) (r_1 : Nat) (σ : jw_M) : Option (Int32 × jw_M) := (f_P_copyFrom N r5 r_1 σ).bind fun z11 => f_L_valueFrom_74 N Rec K54 x2 x3 x4 r5 x6 x7 z11
def f_L_valueFrom_70 (N : Nat) (Rec : Int32 → Int32 → jw_M → Option (Int32 × jw_M)) (K54 : Int32 → Int32 → Int32 → Nat → Int32 → Int32 → jw_M → Option (Int32 × jw_M)) (x2 : Int32) (x3 : Int32) (x4 : Int32) (r5 : Nat) (x6 : Int32) (x7 : Int32) (y2 : Int32) (σ : jw_M) : Option (Int32 × jw_M) := bif jx_in y2 5 then f_L_valueFrom_71 N Rec K54 x2 x3 x4 r5 x6 x7 (94 + 4 * (y2).toNatClampNeg) σ else none
def f_L_valueFrom_54 (N : Nat) (Rec : Int32 → Int32 → jw_M → Option (Int32 × jw_M)) : Nat → Int32 → Int32 → Int32 → Nat → Int32 → Int32 → jw_M → Option (Int32 × jw_M)
  | 0, _, _, _, _, _, _, _ => none
  | k + 1, x2, x3, x4, r5, x6, x7, σ => if (σ.1 1 0) < x7 then some (x6, σ) else f_L_valueFrom_70 N Rec (f_L_valueFrom_54 N Rec k) x2 x3 x4 r5 x6 x7 x2 σ
def f_L_valueFrom_46 (N : Nat) (Rec : Int32 → Int32 → jw_M → Option (Int32 × jw_M)) (x2 : Int32) (x3 : Int32) (x4 : Int32) (r_0 : Nat) (σ : jw_M) : Option (Int32 × jw_M) := f_L_valueFrom_54 N Rec N x2 x3 x4 r_0 0 0 σ
def f_L_valueFrom_45 (N : Nat) (Rec : Int32 → Int32 → jw_M → Option (Int32 × jw_M)) (x2 : Int32) (x3 : Int32) (x4 : Int32) (y1 : Int32) (σ : jw_M) : Option (Int32 × jw_M) := bif jx_in y1 5 then f_L_valueFrom_46 N Rec x2 x3 x4 (94 + 4 * (y1).toNatClampNeg) σ else none
def f_L_valueFrom_36 (N : Nat) (Rec : Int32 → Int32 → jw_M → Option (Int32 × jw_M)) (x2 : Int32) (x3 : Int32) (y0 : Int32) (σ : jw_M) : Option (Int32 × jw_M) := f_L_valueFrom_45 N Rec x2 x3 y0 (x2 + 1) σ
def f_L_valueFrom_17 (N : Nat) (Rec : Int32 → Int32 → jw_M → Option (Int32 × jw_M)) (x2 : Int32) (x3 : Int32) (r_1 : Nat) (σ : jw_M) : Option (Int32 × jw_M) := (f_S_isOver N r_1 σ).bind fun z4 => if z4.1 = 0 then if (x2 - x2 / 2 * 2) = 0 then f_L_valueFrom_36 N Rec x2 x3 1 z4.2 else f_L_valueFrom_36 N Rec x2 x3 0 z4.2 else some (0, z4.2)
def f_L_valueFrom_16 (N : Nat) (Rec : Int32 → Int32 → jw_M → Option (Int32 × jw_M)) (x2 : Int32) (x3 : Int32) (y2 : Int32) (σ : jw_M) : Option (Int32 × jw_M) := bif jx_in y2 5 then f_L_valueFrom_17 N Rec x2 x3 (94 + 4 * (y2).toNatClampNeg) σ else none
def f_L_valueFrom (N : Nat) : Nat → Int32 → Int32 → jw_M → Option (Int32 × jw_M)
  | 0, _, _, _ => none
  | r + 1, x2, x3, σ => if x3 ≤ x2 then some (0, σ) else if 4 ≤ x2 then some (0, σ) else f_L_valueFrom_16 N (f_L_valueFrom N r) x2 x3 x2 σ
/-! ShadowSchool$Plans.valueOfGame(LShadowSchool$School;I)I -/
def f_L_valueOfGame (N : Nat) (x2 : Int32) (σ : jw_M) : Option (Int32 × jw_M) := (f_P_copyFrom N 94 27 σ).bind fun z1 => (f_L_valueFrom N 64 0 x2 (jx_w z1 92 9 (0 : Int32))).bind fun z3 => some (z3.1, z3.2)
/-! ShadowSchool$Plans.makeRows(LShadowSchool$School;)I -/
def f_L_makeRows_64 (N : Nat) (K17 : Int32 → jw_M → Option (Int32 × jw_M)) (x3 : Int32) (r_0 : Nat) (σ : jw_M) : Option (Int32 × jw_M) := (f_P_learntBySome N 94 σ).bind fun z9 => K17 (x3 + 1) (jx_w z9.2 r_0 2 z9.1)
def f_L_makeRows_63 (N : Nat) (K17 : Int32 → jw_M → Option (Int32 × jw_M)) (x3 : Int32) (y1 : Int32) (σ : jw_M) : Option (Int32 × jw_M) := bif jx_in y1 4 then f_L_makeRows_64 N K17 x3 (117 + (y1).toNatClampNeg) σ else none
def f_L_makeRows_45 (N : Nat) (K17 : Int32 → jw_M → Option (Int32 × jw_M)) (x3 : Int32) (r_0 : Nat) (σ : jw_M) : Option (Int32 × jw_M) := bif jx_in x3 4 then (f_S_goBy N 94 (σ.1 115 (x3).toNatClampNeg) σ).bind fun z6 => f_L_makeRows_63 N K17 x3 x3 (jx_w z6.2 r_0 1 z6.1) else none
def f_L_makeRows_44 (N : Nat) (K17 : Int32 → jw_M → Option (Int32 × jw_M)) (x3 : Int32) (y1 : Int32) (σ : jw_M) : Option (Int32 × jw_M) := bif jx_in y1 4 then f_L_makeRows_45 N K17 x3 (117 + (y1).toNatClampNeg) σ else none
def f_L_makeRows_31 (N : Nat) (K17 : Int32 → jw_M → Option (Int32 × jw_M)) (x3 : Int32) (r_0 : Nat) (σ : jw_M) : Option (Int32 × jw_M) := bif jx_in x3 4 then f_L_makeRows_44 N K17 x3 x3 (jx_w σ r_0 0 (σ.1 115 (x3).toNatClampNeg)) else none
def f_L_makeRows_30 (N : Nat) (K17 : Int32 → jw_M → Option (Int32 × jw_M)) (x3 : Int32) (y1 : Int32) (σ : jw_M) : Option (Int32 × jw_M) := bif jx_in y1 4 then f_L_makeRows_31 N K17 x3 (117 + (y1).toNatClampNeg) σ else none
def f_L_makeRows_17 (N : Nat) : Nat → Int32 → jw_M → Option (Int32 × jw_M)
  | 0, _, _ => none
  | k + 1, x3, σ => if (σ.1 92 10) ≤ x3 then some ((σ.1 92 10), σ) else f_L_makeRows_30 N (f_L_makeRows_17 N k) x3 x3 σ
def f_L_makeRows (N : Nat) (σ : jw_M) : Option (Int32 × jw_M) := f_L_makeRows_17 N N 0 (jx_w σ 92 10 (σ.1 92 2))
/-! ShadowSchool$Plans.hasRowPart(II)Z -/
def f_L_hasRowPart (N : Nat) (x1 : Int32) (x2 : Int32) (σ : jw_M) : Option (Int32 × jw_M) := if x1 < 0 then some (0, σ) else if (σ.1 92 10) ≤ x1 then some (0, σ) else if x2 < 0 then some (0, σ) else if 3 ≤ x2 then some (0, σ) else some (1, σ)
/-! ShadowSchool$School.isAct(I)Z -/
def f_S_isAct (N : Nat) (x1 : Int32) (σ : jw_M) : Option (Int32 × jw_M) := if x1 < 0 then some (0, σ) else if (σ.1 1 0) < x1 then some (0, σ) else some (1, σ)
/-! ShadowSchool$Plans.firstWrongRow(LShadowSchool$School;)I -/
def f_L_firstWrongRow_31 (N : Nat) (K17 : Int32 → jw_M → Option (Int32 × jw_M)) (x3 : Int32) (r_0 : Nat) (σ : jw_M) : Option (Int32 × jw_M) := (f_S_isAct N (σ.1 r_0 0) σ).bind fun z5 => if z5.1 = 0 then some ((x3 + 1), z5.2) else (f_S_isOver N 94 z5.2).bind fun z8 => if z8.1 = 0 then (f_S_goBy N 94 (z8.2.1 r_0 0) z8.2).bind fun z11 => if z11.1 = (z11.2.1 r_0 1) then (f_P_learntBySome N 94 z11.2).bind fun z14 => if z14.1 = (z14.2.1 r_0 2) then K17 (x3 + 1) z14.2 else some ((x3 + 1), z14.2) else some ((x3 + 1), z11.2) else some ((x3 + 1), z8.2)
def f_L_firstWrongRow_30 (N : Nat) (K17 : Int32 → jw_M → Option (Int32 × jw_M)) (x3 : Int32) (y1 : Int32) (σ : jw_M) : Option (Int32 × jw_M) := bif jx_in y1 4 then f_L_firstWrongRow_31 N K17 x3 (117 + (y1).toNatClampNeg) σ else none
def f_L_firstWrongRow_17 (N : Nat) : Nat → Int32 → jw_M → Option (Int32 × jw_M)
  | 0, _, _ => none
  | k + 1, x3, σ => if (σ.1 92 10) ≤ x3 then some (0, σ) else f_L_firstWrongRow_30 N (f_L_firstWrongRow_17 N k) x3 x3 σ
def f_L_firstWrongRow (N : Nat) (σ : jw_M) : Option (Int32 × jw_M) := (f_P_copyFrom N 94 27 σ).bind fun z1 => f_L_firstWrongRow_17 N N 0 z1
/-! ShadowSchool$Progress.clear()V -/
def f_P_clear (N : Nat) (σ : jw_M) : Option jw_M := (f_J_fill N 28 48 0 (jx_w (jx_w σ 27 0 (0 : Int32)) 27 1 (0 : Int32))).bind fun z1 => (f_J_fill N 29 6 0 z1).bind fun z3 => some z3
/-! ShadowSchool$Progress.hasLearnt(II)Z -/
def f_P_hasLearnt (N : Nat) (x1 : Int32) (x2 : Int32) (σ : jw_M) : Option (Int32 × jw_M) := bif jx_in x1 6 then if (((σ.1 77 (x1).toNatClampNeg) >>> (x2 &&& 31)) &&& 1) = 1 then some (1, σ) else some (0, σ) else none
/-! ShadowSchool$Progress.howManyLearnt(I)I -/
def f_P_howManyLearnt_4 (N : Nat) : Nat → Int32 → Int32 → Int32 → jw_M → Option (Int32 × jw_M)
  | 0, _, _, _, _ => none
  | k + 1, x1, x2, x3, σ => if 6 ≤ x3 then some (x2, σ) else bif jx_in x3 6 then f_P_howManyLearnt_4 N k x1 (x2 + (((σ.1 29 (x3).toNatClampNeg) >>> (x1 &&& 31)) &&& 1)) (x3 + 1) σ else none
def f_P_howManyLearnt (N : Nat) (x1 : Int32) (σ : jw_M) : Option (Int32 × jw_M) := f_P_howManyLearnt_4 N N x1 0 0 σ
/-! ShadowSchool$Reader.take(JI)I -/
def f_D_take_56 (N : Nat) (σ : jw_M) : Option (Int32 × jw_M) := some ((σ.1 80 0), σ)
def f_D_take_3 (N : Nat) : Nat → Int64 → Int32 → Int32 → jw_M → Option (Int32 × jw_M)
  | 0, _, _, _, _ => none
  | k + 1, x1, x3, x4, σ => if x3 ≤ x4 then f_D_take_56 N  σ else if 200 ≤ (σ.1 80 0) then f_D_take_56 N  σ else bif jx_in (σ.1 80 0) 200 then f_D_take_3 N k (x1) x3 (x4 + 1) (jx_w (jx_w σ 81 ((σ.1 80 0)).toNatClampNeg ((((x1 : Int64) >>> ((8 * x4).toInt64 &&& 63))).toInt32 &&& 255)) 80 0 (((jx_w σ 81 ((σ.1 80 0)).toNatClampNeg ((((x1 : Int64) >>> ((8 * x4).toInt64 &&& 63))).toInt32 &&& 255)).1 80 0) + 1)) else none
def f_D_take (N : Nat) (x1 : Int64) (x3 : Int32) (σ : jw_M) : Option (Int32 × jw_M) := f_D_take_3 N N (x1) x3 0 σ
/-! ShadowSchool$Reader.sortOf(I)I -/
def f_D_sortOf_14 (N : Nat) (x1 : Int32) (σ : jw_M) : Option (Int32 × jw_M) := if x1 < 48 then some (2, σ) else if 57 < x1 then some (2, σ) else some (1, σ)
def f_D_sortOf (N : Nat) (x1 : Int32) (σ : jw_M) : Option (Int32 × jw_M) := if x1 < 97 then f_D_sortOf_14 N x1 σ else if 122 < x1 then f_D_sortOf_14 N x1 σ else some (0, σ)
/-! ShadowSchool$Reader.signAt(I)I -/
def f_D_signAt (N : Nat) (x1 : Int32) (σ : jw_M) : Option (Int32 × jw_M) := bif jx_in x1 200 then if (σ.1 81 (x1).toNatClampNeg) = 40 then some ((σ.1 81 (x1).toNatClampNeg), σ) else if (σ.1 81 (x1).toNatClampNeg) = 41 then some ((σ.1 81 (x1).toNatClampNeg), σ) else if (σ.1 81 (x1).toNatClampNeg) = 59 then some ((σ.1 81 (x1).toNatClampNeg), σ) else if (σ.1 81 (x1).toNatClampNeg) = 60 then some ((σ.1 81 (x1).toNatClampNeg), σ) else if (σ.1 81 (x1).toNatClampNeg) = 61 then some ((σ.1 81 (x1).toNatClampNeg), σ) else if (σ.1 81 (x1).toNatClampNeg) = 62 then some ((σ.1 81 (x1).toNatClampNeg), σ) else some ((-1), σ) else none
/-! ShadowSchool$Reader.isNameAt(III)Z -/
def f_D_isNameAt_3 (N : Nat) : Nat → Int32 → Int32 → Int32 → Int32 → jw_M → Option (Int32 × jw_M)
  | 0, _, _, _, _, _ => none
  | k + 1, x1, x2, x3, x4, σ => if x3 ≤ x4 then some (1, σ) else bif jx_in (x1 + x4) 103 then bif jx_in (x2 + x4) 200 then if (jw_chr (x1 + x4)) = (σ.1 81 ((x2 + x4)).toNatClampNeg) then f_D_isNameAt_3 N k x1 x2 x3 (x4 + 1) σ else some (0, σ) else none else none
def f_D_isNameAt (N : Nat) (x1 : Int32) (x2 : Int32) (x3 : Int32) (σ : jw_M) : Option (Int32 × jw_M) := f_D_isNameAt_3 N N x1 x2 x3 0 σ
/-! ShadowSchool$Reader.nameAt(II)I -/
def f_D_nameAt_65 (N : Nat) (K8 : Int32 → Int32 → Int32 → Int32 → Int32 → jw_M → Option (Int32 × jw_M)) (x1 : Int32) (x2 : Int32) (x3 : Int32) (x4 : Int32) (x5 : Int32) (σ : jw_M) : Option (Int32 × jw_M) := K8 x1 x2 x3 x4 (x5 + 1) σ
def f_D_nameAt_56 (N : Nat) (K8 : Int32 → Int32 → Int32 → Int32 → Int32 → jw_M → Option (Int32 × jw_M)) (x1 : Int32) (x2 : Int32) (x3 : Int32) (x5 : Int32) (σ : jw_M) : Option (Int32 × jw_M) := f_D_nameAt_65 N K8 x1 x2 (x3 + 1) (x5 + 1) x5 σ
def f_D_nameAt_8 (N : Nat) : Nat → Int32 → Int32 → Int32 → Int32 → Int32 → jw_M → Option (Int32 × jw_M)
  | 0, _, _, _, _, _, _ => none
  | k + 1, x1, x2, x3, x4, x5, σ => if 103 ≤ x5 then some ((-1), σ) else bif jx_in x5 103 then if (jw_chr x5) = 32 then if (x5 - x4) = (x2 - x1) then (f_D_isNameAt N x4 x1 (x2 - x1) σ).bind fun z5 => if z5.1 = 0 then f_D_nameAt_56 N (f_D_nameAt_8 N k) x1 x2 x3 x5 z5.2 else some (x3, z5.2) else f_D_nameAt_56 N (f_D_nameAt_8 N k) x1 x2 x3 x5 σ else f_D_nameAt_65 N (f_D_nameAt_8 N k) x1 x2 x3 x4 x5 σ else none
def f_D_nameAt (N : Nat) (x1 : Int32) (x2 : Int32) (σ : jw_M) : Option (Int32 × jw_M) := f_D_nameAt_8 N N x1 x2 0 0 0 σ
/-! ShadowSchool$Reader.numberAt(II)I -/
def f_D_numberAt_14 (N : Nat) : Nat → Int32 → Int32 → Int32 → jw_M → Option (Int32 × jw_M)
  | 0, _, _, _, _ => none
  | k + 1, x2, x3, x4, σ => if x2 ≤ x4 then some ((1000 + x3), σ) else bif jx_in x4 200 then f_D_numberAt_14 N k x2 (((x3 * 10) + (σ.1 81 (x4).toNatClampNeg)) - 48) (x4 + 1) σ else none
def f_D_numberAt (N : Nat) (x1 : Int32) (x2 : Int32) (σ : jw_M) : Option (Int32 × jw_M) := if (x2 - x1) ≤ 4 then f_D_numberAt_14 N N x2 0 x1 σ else some ((-1), σ)
/-! ShadowSchool$Reader.tokenAt(II)I -/
def f_D_tokenAt_43 (N : Nat) (x1 : Int32) (x2 : Int32) (x3 : Int32) (σ : jw_M) : Option (Int32 × jw_M) := if x2 = 0 then (f_D_nameAt N x1 x3 σ).bind fun z6 => some (z6.1, z6.2) else (f_D_numberAt N x1 x3 σ).bind fun z8 => some (z8.1, z8.2)
def f_D_tokenAt_15 (N : Nat) : Nat → Int32 → Int32 → Int32 → jw_M → Option (Int32 × jw_M)
  | 0, _, _, _, _ => none
  | k + 1, x1, x2, x3, σ => if (σ.1 80 0) ≤ x3 then f_D_tokenAt_43 N x1 x2 x3 σ else bif jx_in x3 200 then (f_D_sortOf N (σ.1 81 (x3).toNatClampNeg) σ).bind fun z11 => if z11.1 = x2 then f_D_tokenAt_15 N k x1 x2 (x3 + 1) z11.2 else f_D_tokenAt_43 N x1 x2 x3 z11.2 else none
def f_D_tokenAt (N : Nat) (x1 : Int32) (x2 : Int32) (σ : jw_M) : Option (Int32 × jw_M) := if x2 = 2 then (f_D_signAt N x1 σ).bind fun z2 => some (z2.1, z2.2) else f_D_tokenAt_15 N N x1 x2 (x1 + 1) σ
/-! ShadowSchool$Reader.cutIntoTokens()V -/
def f_D_cutIntoTokens_84 (N : Nat) (K6 : Int32 → Int32 → Int32 → jw_M → Option jw_M) (x1 : Int32) (x3 : Int32) (x4 : Int32) (σ : jw_M) : Option jw_M := K6 x1 x4 (x3 + 1) σ
def f_D_cutIntoTokens_43 (N : Nat) (K6 : Int32 → Int32 → Int32 → jw_M → Option jw_M) (x1 : Int32) (x3 : Int32) (x4 : Int32) (y0 : Int32) (σ : jw_M) : Option jw_M := if y0 = 0 then bif jx_in x3 200 then if (σ.1 81 (x3).toNatClampNeg) = 32 then f_D_cutIntoTokens_84 N K6 x1 x3 x4 σ else (f_D_tokenAt N x3 x4 σ).bind fun z10 => bif jx_in x1 201 then f_D_cutIntoTokens_84 N K6 (x1 + 1) x3 x4 (jx_w (jx_w z10.2 82 (x1).toNatClampNeg z10.1) 83 (x1).toNatClampNeg x3) else none else none else f_D_cutIntoTokens_84 N K6 x1 x3 x4 σ
def f_D_cutIntoTokens_42 (N : Nat) (K6 : Int32 → Int32 → Int32 → jw_M → Option jw_M) (x1 : Int32) (x3 : Int32) (x4 : Int32) (σ : jw_M) : Option jw_M := f_D_cutIntoTokens_43 N K6 x1 x3 x4 0 σ
def f_D_cutIntoTokens_6 (N : Nat) : Nat → Int32 → Int32 → Int32 → jw_M → Option jw_M
  | 0, _, _, _, _ => none
  | k + 1, x1, x2, x3, σ => if (σ.1 80 0) ≤ x3 then bif jx_in x1 201 then some (jx_w (jx_w σ 82 (x1).toNatClampNeg ((-2) : Int32)) 83 (x1).toNatClampNeg ((jx_w σ 82 (x1).toNatClampNeg ((-2) : Int32)).1 80 0)) else none else bif jx_in x3 200 then (f_D_sortOf N (σ.1 81 (x3).toNatClampNeg) σ).bind fun z4 => if z4.1 = 2 then f_D_cutIntoTokens_42 N (f_D_cutIntoTokens_6 N k) x1 x3 (z4.1) z4.2 else if z4.1 = x2 then f_D_cutIntoTokens_43 N (f_D_cutIntoTokens_6 N k) x1 x3 (z4.1) 1 z4.2 else f_D_cutIntoTokens_42 N (f_D_cutIntoTokens_6 N k) x1 x3 (z4.1) z4.2 else none
def f_D_cutIntoTokens (N : Nat) (σ : jw_M) : Option jw_M := f_D_cutIntoTokens_6 N N 0 2 0 σ
/-! ShadowSchool$Reader.goOn()V -/
def f_D_goOn (N : Nat) (σ : jw_M) : Option jw_M := if 200 ≤ (σ.1 80 4) then some σ else some (jx_w σ 80 4 ((σ.1 80 4) + 1))
/-! ShadowSchool$Reader.readSign(I)Z -/
def f_D_readSign (N : Nat) (x1 : Int32) (σ : jw_M) : Option (Int32 × jw_M) := bif jx_in (σ.1 80 4) 201 then if (σ.1 82 ((σ.1 80 4)).toNatClampNeg) = x1 then (f_D_goOn N  σ).bind fun z3 => some (1, z3) else some (0, σ) else none
/-! ShadowSchool$Reader.readWithin(I)Z -/
def f_D_readWithin (N : Nat) (Rec : Int32 → jw_M → Option (Int32 × jw_M)) (x1 : Int32) (σ : jw_M) : Option (Int32 × jw_M) := if x1 < 3 then (f_D_goOn N  σ).bind fun z2 => (Rec (x1 + 1) z2).bind fun z4 => if z4.1 = 0 then some (0, z4.2) else (f_D_readSign N 41 z4.2).bind fun z7 => if z7.1 = 0 then some (0, z7.2) else some (1, z7.2) else some (0, σ)
/-! ShadowSchool.isWithin(III)Z -/
def f_F_isWithin (N : Nat) (x0 : Int32) (x1 : Int32) (x2 : Int32) (σ : jw_M) : Option (Int32 × jw_M) := if x0 < x1 then some (0, σ) else if x2 < x0 then some (0, σ) else some (1, σ)
/-! ShadowSchool$Reader.isValue(I)Z -/
def f_D_isValue_18 (N : Nat) (σ : jw_M) : Option (Int32 × jw_M) := some (1, σ)
def f_D_isValue (N : Nat) (x1 : Int32) (σ : jw_M) : Option (Int32 × jw_M) := if 1000 ≤ x1 then f_D_isValue_18 N  σ else (f_F_isWithin N x1 13 17 σ).bind fun z2 => if z2.1 = 0 then some (0, z2.2) else f_D_isValue_18 N  z2.2
/-! ShadowSchool$Rules.addValue(I)I -/
def f_R_addValue (N : Nat) (x1 : Int32) (σ : jw_M) : Option (Int32 × jw_M) := if (σ.1 84 9) < 105 then bif jx_in (σ.1 84 9) 105 then some ((σ.1 84 9), (jx_w (jx_w σ 84 9 ((σ.1 84 9) + 1)) 91 ((σ.1 84 9)).toNatClampNeg x1)) else none else some (0, σ)
/-! ShadowSchool$Reader.placeOfValue(I)I -/
def f_D_placeOfValue (N : Nat) (x1 : Int32) (σ : jw_M) : Option (Int32 × jw_M) := if x1 < 1000 then some ((x1 - 13), σ) else (f_R_addValue N (x1 - 1000) σ).bind fun z2 => some (z2.1, z2.2)
/-! ShadowSchool$Rules.addStep(III)V -/
def f_R_addStep (N : Nat) (x1 : Int32) (x2 : Int32) (x3 : Int32) (σ : jw_M) : Option jw_M := if 100 ≤ (σ.1 84 1) then some σ else bif jx_in (σ.1 84 1) 100 then bif jx_in ((jx_w σ 88 ((σ.1 84 1)).toNatClampNeg x1).1 84 1) 100 then bif jx_in ((jx_w (jx_w σ 88 ((σ.1 84 1)).toNatClampNeg x1) 89 (((jx_w σ 88 ((σ.1 84 1)).toNatClampNeg x1).1 84 1)).toNatClampNeg x2).1 84 1) 100 then some (jx_w (jx_w (jx_w (jx_w σ 88 ((σ.1 84 1)).toNatClampNeg x1) 89 (((jx_w σ 88 ((σ.1 84 1)).toNatClampNeg x1).1 84 1)).toNatClampNeg x2) 90 (((jx_w (jx_w σ 88 ((σ.1 84 1)).toNatClampNeg x1) 89 (((jx_w σ 88 ((σ.1 84 1)).toNatClampNeg x1).1 84 1)).toNatClampNeg x2).1 84 1)).toNatClampNeg x3) 84 1 (((jx_w (jx_w (jx_w σ 88 ((σ.1 84 1)).toNatClampNeg x1) 89 (((jx_w σ 88 ((σ.1 84 1)).toNatClampNeg x1).1 84 1)).toNatClampNeg x2) 90 (((jx_w (jx_w σ 88 ((σ.1 84 1)).toNatClampNeg x1) 89 (((jx_w σ 88 ((σ.1 84 1)).toNatClampNeg x1).1 84 1)).toNatClampNeg x2).1 84 1)).toNatClampNeg x3).1 84 1) + 1)) else none else none else none
/-! ShadowSchool$Reader.readComparison()Z -/
def f_D_readComparison (N : Nat) (σ : jw_M) : Option (Int32 × jw_M) := bif jx_in (σ.1 80 4) 201 then (f_D_isValue N (σ.1 82 ((σ.1 80 4)).toNatClampNeg) σ).bind fun z2 => if z2.1 = 0 then some (0, z2.2) else bif jx_in (z2.2.1 80 4) 201 then (f_D_placeOfValue N (z2.2.1 82 ((z2.2.1 80 4)).toNatClampNeg) z2.2).bind fun z6 => (f_D_goOn N  z6.2).bind fun z8 => bif jx_in (z8.1 80 4) 201 then (f_F_isWithin N ((z8.1 82 ((z8.1 80 4)).toNatClampNeg) - 60) 0 2 z8).bind fun z11 => if z11.1 = 0 then some (0, z11.2) else (f_D_goOn N  z11.2).bind fun z14 => bif jx_in (z14.1 80 4) 201 then (f_D_isValue N (z14.1 82 ((z14.1 80 4)).toNatClampNeg) z14).bind fun z17 => if z17.1 = 0 then some (0, z17.2) else bif jx_in (z17.2.1 80 4) 201 then (f_D_placeOfValue N (z17.2.1 82 ((z17.2.1 80 4)).toNatClampNeg) z17.2).bind fun z21 => (f_R_addStep N ((z8.1 82 ((z8.1 80 4)).toNatClampNeg) - 60) (z6.1) (z21.1) z21.2).bind fun z23 => (f_D_goOn N  z23).bind fun z25 => some (1, z25) else none else none else none else none else none
/-! ShadowSchool$Reader.readOne(I)Z -/
def f_D_readOne_71 (N : Nat) (Rec : Int32 → jw_M → Option (Int32 × jw_M)) (x2 : Int32) (y0 : Int32) (σ : jw_M) : Option (Int32 × jw_M) := if y0 = 0 then if y0 = 0 ∨ y0 = 1 then some (y0, σ) else none else if x2 = 0 then if y0 = 0 ∨ y0 = 1 then some (y0, σ) else none else (f_R_addStep N 5 0 0 σ).bind fun z10 => if y0 = 0 ∨ y0 = 1 then some (y0, z10) else none
def f_D_readOne_45 (N : Nat) (Rec : Int32 → jw_M → Option (Int32 × jw_M)) (x1 : Int32) (x2 : Int32) (σ : jw_M) : Option (Int32 × jw_M) := bif jx_in (σ.1 80 4) 201 then if (σ.1 82 ((σ.1 80 4)).toNatClampNeg) = 40 then (f_D_readWithin N Rec x1 σ).bind fun z4 => f_D_readOne_71 N Rec x2 (z4.1) z4.2 else (f_D_readComparison N  σ).bind fun z13 => f_D_readOne_71 N Rec x2 (z13.1) z13.2 else none
def f_D_readOne_34 (N : Nat) (Rec : Int32 → jw_M → Option (Int32 × jw_M)) (K4 : Int32 → Int32 → Int32 → jw_M → Option (Int32 × jw_M)) (x1 : Int32) (x3 : Int32) (y0 : Int32) (σ : jw_M) : Option (Int32 × jw_M) := (f_D_goOn N  σ).bind fun z18 => K4 x1 y0 (x3 + 1) z18
def f_D_readOne_4 (N : Nat) (Rec : Int32 → jw_M → Option (Int32 × jw_M)) : Nat → Int32 → Int32 → Int32 → jw_M → Option (Int32 × jw_M)
  | 0, _, _, _, _ => none
  | k + 1, x1, x2, x3, σ => if 200 ≤ x3 then f_D_readOne_45 N Rec x1 x2 σ else bif jx_in (σ.1 80 4) 201 then if (σ.1 82 ((σ.1 80 4)).toNatClampNeg) = 12 then if x2 = 0 then f_D_readOne_34 N Rec (f_D_readOne_4 N Rec k) x1 x3 1 σ else f_D_readOne_34 N Rec (f_D_readOne_4 N Rec k) x1 x3 0 σ else f_D_readOne_45 N Rec x1 x2 σ else none
def f_D_readOne (N : Nat) (Rec : Int32 → jw_M → Option (Int32 × jw_M)) (x1 : Int32) (σ : jw_M) : Option (Int32 × jw_M) := f_D_readOne_4 N Rec N x1 0 0 σ
/-! ShadowSchool$Reader.readCondition(I)Z -/
def f_D_readCondition_129 (N : Nat) (Rec : Int32 → jw_M → Option (Int32 × jw_M)) (x2 : Int32) (σ : jw_M) : Option (Int32 × jw_M) := if x2 = 0 then some (1, σ) else (f_R_addStep N 4 0 0 σ).bind fun z6 => some (1, z6)
def f_D_readCondition_123 (N : Nat) (Rec : Int32 → jw_M → Option (Int32 × jw_M)) (K14 : Int32 → Int32 → Int32 → jw_M → Option (Int32 × jw_M)) (x1 : Int32) (x2 : Int32) (x3 : Int32) (σ : jw_M) : Option (Int32 × jw_M) := K14 x1 x2 (x3 + 1) σ
def f_D_readCondition_89 (N : Nat) (Rec : Int32 → jw_M → Option (Int32 × jw_M)) (K14 : Int32 → Int32 → Int32 → jw_M → Option (Int32 × jw_M)) (x1 : Int32) (x2 : Int32) (x3 : Int32) (x4 : Int32) (σ : jw_M) : Option (Int32 × jw_M) := (f_D_goOn N  σ).bind fun z14 => (f_D_readOne N Rec x1 z14).bind fun z16 => if z16.1 = 0 then some (0, z16.2) else if x4 = 0 then f_D_readCondition_123 N Rec K14 x1 1 x3 z16.2 else (f_R_addStep N 3 0 0 z16.2).bind fun z20 => f_D_readCondition_123 N Rec K14 x1 x2 x3 z20
def f_D_readCondition_68 (N : Nat) (Rec : Int32 → jw_M → Option (Int32 × jw_M)) (K14 : Int32 → Int32 → Int32 → jw_M → Option (Int32 × jw_M)) (x1 : Int32) (x2 : Int32) (x3 : Int32) (y0 : Int32) (σ : jw_M) : Option (Int32 × jw_M) := if y0 = 0 then if x2 = 0 then f_D_readCondition_89 N Rec K14 x1 x2 x3 y0 σ else (f_R_addStep N 4 0 0 σ).bind fun z22 => f_D_readCondition_89 N Rec K14 x1 x2 x3 y0 z22 else f_D_readCondition_89 N Rec K14 x1 x2 x3 y0 σ
def f_D_readCondition_49 (N : Nat) (Rec : Int32 → jw_M → Option (Int32 × jw_M)) (K14 : Int32 → Int32 → Int32 → jw_M → Option (Int32 × jw_M)) (x1 : Int32) (x2 : Int32) (x3 : Int32) (σ : jw_M) : Option (Int32 × jw_M) := bif jx_in (σ.1 80 4) 201 then if (σ.1 82 ((σ.1 80 4)).toNatClampNeg) = 11 then f_D_readCondition_68 N Rec K14 x1 x2 x3 1 σ else f_D_readCondition_68 N Rec K14 x1 x2 x3 0 σ else none
def f_D_readCondition_14 (N : Nat) (Rec : Int32 → jw_M → Option (Int32 × jw_M)) : Nat → Int32 → Int32 → Int32 → jw_M → Option (Int32 × jw_M)
  | 0, _, _, _, _ => none
  | k + 1, x1, x2, x3, σ => if 200 ≤ x3 then f_D_readCondition_129 N Rec x2 σ else bif jx_in (σ.1 80 4) 201 then if (σ.1 82 ((σ.1 80 4)).toNatClampNeg) = 11 then f_D_readCondition_49 N Rec (f_D_readCondition_14 N Rec k) x1 x2 x3 σ else if (σ.1 82 ((σ.1 80 4)).toNatClampNeg) = 10 then f_D_readCondition_49 N Rec (f_D_readCondition_14 N Rec k) x1 x2 x3 σ else f_D_readCondition_129 N Rec x2 σ else none
def f_D_readCondition (N : Nat) : Nat → Int32 → jw_M → Option (Int32 × jw_M)
  | 0, _, _ => none
  | r + 1, x1, σ => (f_D_readOne N (f_D_readCondition N r) x1 σ).bind fun z1 => if z1.1 = 0 then some (0, z1.2) else f_D_readCondition_14 N (f_D_readCondition N r) N x1 0 0 z1.2
/-! ShadowSchool$Rules.addRule(II)V -/
def f_R_addRule (N : Nat) (x1 : Int32) (x2 : Int32) (σ : jw_M) : Option jw_M := if 8 ≤ (σ.1 84 0) then some σ else bif jx_in (σ.1 84 0) 8 then bif jx_in ((jx_w σ 85 ((σ.1 84 0)).toNatClampNeg x1).1 84 0) 8 then bif jx_in ((jx_w (jx_w σ 85 ((σ.1 84 0)).toNatClampNeg x1) 86 (((jx_w σ 85 ((σ.1 84 0)).toNatClampNeg x1).1 84 0)).toNatClampNeg x2).1 84 0) 8 then some (jx_w (jx_w (jx_w (jx_w σ 85 ((σ.1 84 0)).toNatClampNeg x1) 86 (((jx_w σ 85 ((σ.1 84 0)).toNatClampNeg x1).1 84 0)).toNatClampNeg x2) 87 (((jx_w (jx_w σ 85 ((σ.1 84 0)).toNatClampNeg x1) 86 (((jx_w σ 85 ((σ.1 84 0)).toNatClampNeg x1).1 84 0)).toNatClampNeg x2).1 84 0)).toNatClampNeg ((jx_w (jx_w σ 85 ((σ.1 84 0)).toNatClampNeg x1) 86 (((jx_w σ 85 ((σ.1 84 0)).toNatClampNeg x1).1 84 0)).toNatClampNeg x2).1 84 1)) 84 0 (((jx_w (jx_w (jx_w σ 85 ((σ.1 84 0)).toNatClampNeg x1) 86 (((jx_w σ 85 ((σ.1 84 0)).toNatClampNeg x1).1 84 0)).toNatClampNeg x2) 87 (((jx_w (jx_w σ 85 ((σ.1 84 0)).toNatClampNeg x1) 86 (((jx_w σ 85 ((σ.1 84 0)).toNatClampNeg x1).1 84 0)).toNatClampNeg x2).1 84 0)).toNatClampNeg ((jx_w (jx_w σ 85 ((σ.1 84 0)).toNatClampNeg x1) 86 (((jx_w σ 85 ((σ.1 84 0)).toNatClampNeg x1).1 84 0)).toNatClampNeg x2).1 84 1)).1 84 0) + 1)) else none else none else none
/-! ShadowSchool$Reader.readRule()Z -/
def f_D_readRule_53 (N : Nat) (x1 : Int32) (σ : jw_M) : Option (Int32 × jw_M) := bif jx_in (σ.1 80 4) 201 then (f_F_isWithin N ((σ.1 82 ((σ.1 80 4)).toNatClampNeg) - 6) 0 2 σ).bind fun z15 => if z15.1 = 0 then some (0, z15.2) else (f_D_goOn N  z15.2).bind fun z18 => (f_R_addRule N x1 ((σ.1 82 ((σ.1 80 4)).toNatClampNeg) - 6) z18).bind fun z20 => (f_D_readSign N 59 z20).bind fun z22 => if z22.1 = 0 ∨ z22.1 = 1 then some (z22.1, z22.2) else none else none
def f_D_readRule (N : Nat) (σ : jw_M) : Option (Int32 × jw_M) := bif jx_in (σ.1 80 4) 201 then (f_F_isWithin N (σ.1 82 ((σ.1 80 4)).toNatClampNeg) 0 5 σ).bind fun z2 => if z2.1 = 0 then some (0, z2.2) else (f_D_goOn N  z2.2).bind fun z5 => bif jx_in (z5.1 80 4) 201 then if (z5.1 82 ((z5.1 80 4)).toNatClampNeg) = 9 then (f_D_goOn N  z5).bind fun z9 => (f_D_readCondition N 64 0 z9).bind fun z11 => if z11.1 = 0 then some (0, z11.2) else f_D_readRule_53 N (σ.1 82 ((σ.1 80 4)).toNatClampNeg) z11.2 else f_D_readRule_53 N (σ.1 82 ((σ.1 80 4)).toNatClampNeg) z5 else none else none
/-! ShadowSchool$Rules.clear()V -/
def f_R_clear (N : Nat) (σ : jw_M) : Option jw_M := some (jx_w (jx_w (jx_w σ 84 0 (0 : Int32)) 84 1 (0 : Int32)) 84 9 (5 : Int32))
/-! ShadowSchool$Reader.readAll()I -/
def f_D_readAll_69 (N : Nat) (σ : jw_M) : Option (Int32 × jw_M) := bif jx_in (σ.1 80 4) 201 then if (σ.1 82 ((σ.1 80 4)).toNatClampNeg) = (-2) then some ((σ.1 84 0), σ) else some (((-100) - (σ.1 83 ((σ.1 80 4)).toNatClampNeg)), σ) else none
def f_D_readAll_23 (N : Nat) : Nat → Int32 → jw_M → Option (Int32 × jw_M)
  | 0, _, _ => none
  | k + 1, x1, σ => if 8 ≤ x1 then f_D_readAll_69 N  σ else bif jx_in (σ.1 80 4) 201 then if (σ.1 82 ((σ.1 80 4)).toNatClampNeg) = (-2) then f_D_readAll_69 N  σ else (f_D_readRule N  σ).bind fun z10 => if z10.1 = 0 then bif jx_in (z10.2.1 80 4) 201 then some (((-100) - (z10.2.1 83 ((z10.2.1 80 4)).toNatClampNeg)), z10.2) else none else f_D_readAll_23 N k (x1 + 1) z10.2 else none
def f_D_readAll (N : Nat) (σ : jw_M) : Option (Int32 × jw_M) := (f_D_cutIntoTokens N  σ).bind fun z1 => (f_R_clear N  (jx_w (jx_w z1 80 0 (0 : Int32)) 80 4 (0 : Int32))).bind fun z3 => f_D_readAll_23 N N 0 z3
/-! ShadowSchool$Rules.copyFrom(LShadowSchool$Rules;)V -/
def f_R_copyFrom_82 (N : Nat) (p0 : Nat) (p1 : Nat) (σ : jw_M) : Option jw_M := (f_F_copyRow N (p1 + 7) (p0 + 7) 105 105 (jx_w σ p0 9 (σ.1 p1 9))).bind fun z13 => some z13
def f_R_copyFrom_71 (N : Nat) (p0 : Nat) (p1 : Nat) (σ : jw_M) : Option jw_M := (f_F_copyRow N (p1 + 6) (p0 + 6) 100 100 σ).bind fun z11 => f_R_copyFrom_82 N p0 p1  z11
def f_R_copyFrom_60 (N : Nat) (p0 : Nat) (p1 : Nat) (σ : jw_M) : Option jw_M := (f_F_copyRow N (p1 + 5) (p0 + 5) 100 100 σ).bind fun z9 => f_R_copyFrom_71 N p0 p1  z9
def f_R_copyFrom_49 (N : Nat) (p0 : Nat) (p1 : Nat) (σ : jw_M) : Option jw_M := (f_F_copyRow N (p1 + 4) (p0 + 4) 100 100 σ).bind fun z7 => f_R_copyFrom_60 N p0 p1  z7
def f_R_copyFrom_38 (N : Nat) (p0 : Nat) (p1 : Nat) (σ : jw_M) : Option jw_M := (f_F_copyRow N (p1 + 3) (p0 + 3) 8 8 σ).bind fun z5 => f_R_copyFrom_49 N p0 p1  z5
def f_R_copyFrom_27 (N : Nat) (p0 : Nat) (p1 : Nat) (σ : jw_M) : Option jw_M := (f_F_copyRow N (p1 + 2) (p0 + 2) 8 8 σ).bind fun z3 => f_R_copyFrom_38 N p0 p1  z3
def f_R_copyFrom (N : Nat) (p0 : Nat) (p1 : Nat) (σ : jw_M) : Option jw_M := (f_F_copyRow N (p1 + 1) (p0 + 1) 8 8 (jx_w (jx_w σ p0 0 (σ.1 p1 0)) p0 1 ((jx_w σ p0 0 (σ.1 p1 0)).1 p1 1))).bind fun z1 => f_R_copyFrom_27 N p0 p1  z1
/-! ShadowSchool$School.copyFrom(LShadowSchool$School;)V -/
def f_S_copyFrom_1_38_157 (N : Nat) (K136 : Int32 → jw_M → Option jw_M) (x2 : Int32) (σ : jw_M) : Option jw_M := K136 (x2 + 1) σ
def f_S_copyFrom_1_38_154 (N : Nat) (K136 : Int32 → jw_M → Option jw_M) (x2 : Int32) (r_0 : Nat) (r_1 : Nat) (σ : jw_M) : Option jw_M := (f_F_copyRow N r_0 r_1 4 4 σ).bind fun z28 => f_S_copyFrom_1_38_157 N K136 x2 z28
def f_S_copyFrom_1_38_153 (N : Nat) (K136 : Int32 → jw_M → Option jw_M) (x2 : Int32) (r_0 : Nat) (y2 : Int32) (σ : jw_M) : Option jw_M := bif jx_in y2 6 then f_S_copyFrom_1_38_154 N K136 x2 r_0 (13 + (y2).toNatClampNeg) σ else none
def f_S_copyFrom_1_38_148 (N : Nat) (K136 : Int32 → jw_M → Option jw_M) (x2 : Int32) (r_0 : Nat) (σ : jw_M) : Option jw_M := f_S_copyFrom_1_38_153 N K136 x2 r_0 x2 σ
def f_S_copyFrom_1_38_147 (N : Nat) (K136 : Int32 → jw_M → Option jw_M) (x2 : Int32) (y1 : Int32) (σ : jw_M) : Option jw_M := bif jx_in y1 6 then f_S_copyFrom_1_38_148 N K136 x2 (50 + (y1).toNatClampNeg) σ else none
def f_S_copyFrom_1_38_136 (N : Nat) : Nat → Int32 → jw_M → Option jw_M
  | 0, _, _ => none
  | k + 1, x2, σ => if 6 ≤ x2 then (f_R_copyFrom N 19 56 (jx_w (jx_w σ 1 14 (σ.1 38 14)) 1 15 ((jx_w σ 1 14 (σ.1 38 14)).1 38 15))).bind fun z22 => (f_P_copyFrom N 27 64 z22).bind fun z24 => some z24 else f_S_copyFrom_1_38_147 N (f_S_copyFrom_1_38_136 N k) x2 x2 σ
def f_S_copyFrom_1_38 (N : Nat) (σ : jw_M) : Option jw_M := (f_F_copyRow N 39 2 6 6 (jx_w σ 1 0 (σ.1 38 0))).bind fun z1 => (f_F_copyRow N 40 3 6 6 z1).bind fun z3 => (f_F_copyRow N 41 4 6 6 z3).bind fun z5 => (f_F_copyRow N 42 5 6 6 z5).bind fun z7 => (f_F_copyRow N 43 6 8 8 (jx_w z7 1 5 (z7.1 38 5))).bind fun z9 => (f_F_copyRow N 44 7 8 8 z9).bind fun z11 => (f_F_copyRow N 45 8 8 8 z11).bind fun z13 => (f_F_copyRow N 46 9 8 8 z13).bind fun z15 => (f_F_copyRow N 47 10 8 8 z15).bind fun z17 => (f_F_copyRow N 48 11 17 17 z17).bind fun z19 => f_S_copyFrom_1_38_136 N N 0 (jx_w z19 1 12 (z19.1 38 12))
def f_S_copyFrom_38_1_157 (N : Nat) (K136 : Int32 → jw_M → Option jw_M) (x2 : Int32) (σ : jw_M) : Option jw_M := K136 (x2 + 1) σ
def f_S_copyFrom_38_1_154 (N : Nat) (K136 : Int32 → jw_M → Option jw_M) (x2 : Int32) (r_0 : Nat) (r_1 : Nat) (σ : jw_M) : Option jw_M := (f_F_copyRow N r_0 r_1 4 4 σ).bind fun z28 => f_S_copyFrom_38_1_157 N K136 x2 z28
def f_S_copyFrom_38_1_153 (N : Nat) (K136 : Int32 → jw_M → Option jw_M) (x2 : Int32) (r_0 : Nat) (y2 : Int32) (σ : jw_M) : Option jw_M := bif jx_in y2 6 then f_S_copyFrom_38_1_154 N K136 x2 r_0 (50 + (y2).toNatClampNeg) σ else none
def f_S_copyFrom_38_1_148 (N : Nat) (K136 : Int32 → jw_M → Option jw_M) (x2 : Int32) (r_0 : Nat) (σ : jw_M) : Option jw_M := f_S_copyFrom_38_1_153 N K136 x2 r_0 x2 σ
def f_S_copyFrom_38_1_147 (N : Nat) (K136 : Int32 → jw_M → Option jw_M) (x2 : Int32) (y1 : Int32) (σ : jw_M) : Option jw_M := bif jx_in y1 6 then f_S_copyFrom_38_1_148 N K136 x2 (13 + (y1).toNatClampNeg) σ else none
def f_S_copyFrom_38_1_136 (N : Nat) : Nat → Int32 → jw_M → Option jw_M
  | 0, _, _ => none
  | k + 1, x2, σ => if 6 ≤ x2 then (f_R_copyFrom N 56 19 (jx_w (jx_w σ 38 14 (σ.1 1 14)) 38 15 ((jx_w σ 38 14 (σ.1 1 14)).1 1 15))).bind fun z22 => (f_P_copyFrom N 64 27 z22).bind fun z24 => some z24 else f_S_copyFrom_38_1_147 N (f_S_copyFrom_38_1_136 N k) x2 x2 σ
def f_S_copyFrom_38_1 (N : Nat) (σ : jw_M) : Option jw_M := (f_F_copyRow N 2 39 6 6 (jx_w σ 38 0 (σ.1 1 0))).bind fun z1 => (f_F_copyRow N 3 40 6 6 z1).bind fun z3 => (f_F_copyRow N 4 41 6 6 z3).bind fun z5 => (f_F_copyRow N 5 42 6 6 z5).bind fun z7 => (f_F_copyRow N 6 43 8 8 (jx_w z7 38 5 (z7.1 1 5))).bind fun z9 => (f_F_copyRow N 7 44 8 8 z9).bind fun z11 => (f_F_copyRow N 8 45 8 8 z11).bind fun z13 => (f_F_copyRow N 9 46 8 8 z13).bind fun z15 => (f_F_copyRow N 10 47 8 8 z15).bind fun z17 => (f_F_copyRow N 11 48 17 17 z17).bind fun z19 => f_S_copyFrom_38_1_136 N N 0 (jx_w z19 38 12 (z19.1 1 12))
/-! ShadowSchool$School.isShadow(I)Z -/
def f_S_isShadow (N : Nat) (x1 : Int32) (σ : jw_M) : Option (Int32 × jw_M) := if x1 < 0 then some (0, σ) else if (σ.1 1 0) ≤ x1 then some (0, σ) else some (1, σ)
/-! ShadowSchool$School.isLesson(I)Z -/
def f_S_isLesson (N : Nat) (x1 : Int32) (σ : jw_M) : Option (Int32 × jw_M) := if x1 < 0 then some (0, σ) else if (σ.1 1 5) ≤ x1 then some (0, σ) else some (1, σ)
/-! ShadowSchool$School.allLessons()I -/
def f_S_allLessons (N : Nat) (σ : jw_M) : Option (Int32 × jw_M) := some ((((1 : Int32) <<< ((σ.1 1 5) &&& 31)) - 1), σ)
/-! ShadowSchool$School.isSetOfLessons(I)Z -/
def f_S_isSetOfLessons (N : Nat) (x1 : Int32) (σ : jw_M) : Option (Int32 × jw_M) := (f_S_allLessons N  σ).bind fun z1 => if (x1 &&& (z1.1 ^^^ (-1))) = 0 then some (1, z1.2) else some (0, z1.2)
/-! ShadowSchool$School.addShadow(III)I -/
def f_S_addShadow (N : Nat) (x1 : Int32) (x2 : Int32) (x3 : Int32) (σ : jw_M) : Option (Int32 × jw_M) := bif jx_in (σ.1 1 0) 6 then some ((σ.1 1 0), (jx_w (jx_w (jx_w (jx_w σ 1 0 ((σ.1 1 0) + 1)) 2 ((σ.1 1 0)).toNatClampNeg x1) 3 ((σ.1 1 0)).toNatClampNeg x2) 4 ((σ.1 1 0)).toNatClampNeg x3)) else none
/-! ShadowSchool$School.addLesson(IIIII)I -/
def f_S_addLesson_58 (N : Nat) : Nat → Int32 → Int32 → Int32 → jw_M → Option (Int32 × jw_M)
  | 0, _, _, _, _ => none
  | k + 1, x4, x6, x7, σ => if x4 < x7 then some (x6, σ) else bif jx_in x7 17 then f_S_addLesson_58 N k x4 x6 (x7 + 1) (jx_w σ 11 (x7).toNatClampNeg ((σ.1 11 (x7).toNatClampNeg) ||| ((1 : Int32) <<< (x6 &&& 31)))) else none
def f_S_addLesson (N : Nat) (x1 : Int32) (x2 : Int32) (x3 : Int32) (x4 : Int32) (x5 : Int32) (σ : jw_M) : Option (Int32 × jw_M) := bif jx_in (σ.1 1 5) 8 then f_S_addLesson_58 N N x4 (σ.1 1 5) x3 (jx_w (jx_w (jx_w (jx_w (jx_w (jx_w σ 1 5 ((σ.1 1 5) + 1)) 6 ((σ.1 1 5)).toNatClampNeg x1) 7 ((σ.1 1 5)).toNatClampNeg x2) 8 ((σ.1 1 5)).toNatClampNeg x3) 9 ((σ.1 1 5)).toNatClampNeg x4) 10 ((σ.1 1 5)).toNatClampNeg x5) else none
/-! ShadowSchool$School.addReport(IIII)I -/
def f_S_addReport_50 (N : Nat) (x4 : Int32) (x5 : Int32) (r_0 : Nat) (σ : jw_M) : Option (Int32 × jw_M) := some (x5, (jx_w σ r_0 3 x4))
def f_S_addReport_49 (N : Nat) (x4 : Int32) (x5 : Int32) (y1 : Int32) (σ : jw_M) : Option (Int32 × jw_M) := bif jx_in y1 6 then f_S_addReport_50 N x4 x5 (13 + (y1).toNatClampNeg) σ else none
def f_S_addReport_40 (N : Nat) (x3 : Int32) (x4 : Int32) (x5 : Int32) (r_0 : Nat) (σ : jw_M) : Option (Int32 × jw_M) := f_S_addReport_49 N x4 x5 x5 (jx_w σ r_0 2 x3)
def f_S_addReport_39 (N : Nat) (x3 : Int32) (x4 : Int32) (x5 : Int32) (y1 : Int32) (σ : jw_M) : Option (Int32 × jw_M) := bif jx_in y1 6 then f_S_addReport_40 N x3 x4 x5 (13 + (y1).toNatClampNeg) σ else none
def f_S_addReport_30 (N : Nat) (x2 : Int32) (x3 : Int32) (x4 : Int32) (x5 : Int32) (r_0 : Nat) (σ : jw_M) : Option (Int32 × jw_M) := f_S_addReport_39 N x3 x4 x5 x5 (jx_w σ r_0 1 x2)
def f_S_addReport_29 (N : Nat) (x2 : Int32) (x3 : Int32) (x4 : Int32) (x5 : Int32) (y1 : Int32) (σ : jw_M) : Option (Int32 × jw_M) := bif jx_in y1 6 then f_S_addReport_30 N x2 x3 x4 x5 (13 + (y1).toNatClampNeg) σ else none
def f_S_addReport_20 (N : Nat) (x1 : Int32) (x2 : Int32) (x3 : Int32) (x4 : Int32) (x5 : Int32) (r_0 : Nat) (σ : jw_M) : Option (Int32 × jw_M) := f_S_addReport_29 N x2 x3 x4 x5 x5 (jx_w σ r_0 0 x1)
def f_S_addReport_19 (N : Nat) (x1 : Int32) (x2 : Int32) (x3 : Int32) (x4 : Int32) (x5 : Int32) (y1 : Int32) (σ : jw_M) : Option (Int32 × jw_M) := bif jx_in y1 6 then f_S_addReport_20 N x1 x2 x3 x4 x5 (13 + (y1).toNatClampNeg) σ else none
def f_S_addReport (N : Nat) (x1 : Int32) (x2 : Int32) (x3 : Int32) (x4 : Int32) (σ : jw_M) : Option (Int32 × jw_M) := f_S_addReport_19 N x1 x2 x3 x4 (σ.1 1 12) (σ.1 1 12) (jx_w σ 1 12 ((σ.1 1 12) + 1))
/-! ShadowSchool$School.lengthOf(I)I -/
def f_S_lengthOf_21 (N : Nat) (y0 : Int32) (σ : jw_M) : Option (Int32 × jw_M) := some (y0, σ)
def f_S_lengthOf_18 (N : Nat) (r_0 : Nat) (y1 : Int32) (y2 : Int32) (σ : jw_M) : Option (Int32 × jw_M) := (if r_0 = 32 then f_Z_Shade_lengthIn N r_0 y1 y2 σ else if r_0 = 33 then f_Z_Shade_lengthIn N r_0 y1 y2 σ else if r_0 = 34 then f_Z_Shade_lengthIn N r_0 y1 y2 σ else if r_0 = 35 then f_Z_Coloured_lengthIn N y1 y2 σ else if r_0 = 36 then f_Z_Slow_lengthIn N r_0 y1 y2 σ else if r_0 = 37 then f_Z_Borrowed_lengthIn N y1 y2 σ else none).bind fun z4 => f_S_lengthOf_21 N (z4.1) z4.2
def f_S_lengthOf (N : Nat) (x1 : Int32) (σ : jw_M) : Option (Int32 × jw_M) := (f_S_thing N x1 σ).bind fun z1 => bif jx_in x1 6 then f_S_lengthOf_18 N z1.1 (z1.2.1 27 0) (z1.2.1 4 (x1).toNatClampNeg) z1.2 else none
/-! ShadowSchool$School.setQuarrel(III)V -/
def f_S_setQuarrel (N : Nat) (x1 : Int32) (x2 : Int32) (x3 : Int32) (σ : jw_M) : Option jw_M := bif jx_in x1 6 then bif jx_in x2 6 then some (jx_w (jx_w σ 5 (x1).toNatClampNeg (((σ.1 5 (x1).toNatClampNeg) &&& (((1 : Int32) <<< (x2 &&& 31)) ^^^ (-1))) ||| (x3 <<< (x2 &&& 31)))) 5 (x2).toNatClampNeg ((((jx_w σ 5 (x1).toNatClampNeg (((σ.1 5 (x1).toNatClampNeg) &&& (((1 : Int32) <<< (x2 &&& 31)) ^^^ (-1))) ||| (x3 <<< (x2 &&& 31)))).1 5 (x2).toNatClampNeg) &&& (((1 : Int32) <<< (x1 &&& 31)) ^^^ (-1))) ||| (x3 <<< (x1 &&& 31)))) else none else none
/-! ShadowSchool$School.howManyQuarrel()I -/
def f_S_howManyQuarrel_4 (N : Nat) : Nat → Int32 → Int32 → jw_M → Option (Int32 × jw_M)
  | 0, _, _, _ => none
  | k + 1, x1, x2, σ => if (σ.1 1 0) ≤ x2 then some ((x1 / 2), σ) else bif jx_in x2 6 then (f_J_bitCount N (σ.1 5 (x2).toNatClampNeg) σ).bind fun z3 => f_S_howManyQuarrel_4 N k (x1 + z3.1) (x2 + 1) z3.2 else none
def f_S_howManyQuarrel (N : Nat) (σ : jw_M) : Option (Int32 × jw_M) := f_S_howManyQuarrel_4 N N 0 0 σ
/-! ShadowSchool$School.goByLot(LShadowSchool$Progress;)I -/
def f_S_goByLot (N : Nat) (p1 : Nat) (σ : jw_M) : Option (Int32 × jw_M) := if (((jx_w σ 1 15 (((σ.1 1 15) * 1103515245) + 12345)).1 1 0) + 1) = 0 then none else (f_S_goBy N p1 ((Int32.toUInt32 ((jx_w σ 1 15 (((σ.1 1 15) * 1103515245) + 12345)).1 1 15) >>> (Int32.toUInt32 16 &&& Int32.toUInt32 31)).toInt32 - (Int32.toUInt32 ((jx_w σ 1 15 (((σ.1 1 15) * 1103515245) + 12345)).1 1 15) >>> (Int32.toUInt32 16 &&& Int32.toUInt32 31)).toInt32 / (((jx_w σ 1 15 (((σ.1 1 15) * 1103515245) + 12345)).1 1 0) + 1) * (((jx_w σ 1 15 (((σ.1 1 15) * 1103515245) + 12345)).1 1 0) + 1)) (jx_w σ 1 15 (((σ.1 1 15) * 1103515245) + 12345))).bind fun z2 => some (z2.1, z2.2)
/-! ShadowSchool$School.fits(II)Z -/
def f_S_fits_70 (N : Nat) (K2 : Int32 → Int32 → Int32 → jw_M → Option (Int32 × jw_M)) (x1 : Int32) (x2 : Int32) (x3 : Int32) (σ : jw_M) : Option (Int32 × jw_M) := K2 x1 x2 (x3 + 1) σ
def f_S_fits_37 (N : Nat) (K2 : Int32 → Int32 → Int32 → jw_M → Option (Int32 × jw_M)) (x1 : Int32) (x2 : Int32) (x3 : Int32) (r4 : Nat) (y0 : Int32) (σ : jw_M) : Option (Int32 × jw_M) := if x3 = x2 then f_S_fits_70 N K2 x1 x2 x3 σ else if (y0 * ((x1 - x1 / 5 * 5) + 1)) < (σ.1 r4 2) then some (0, σ) else if (y0 * ((x1 - x1 / 5 * 5) + 1)) ≤ (σ.1 r4 3) then f_S_fits_70 N K2 x1 x2 x3 σ else some (0, σ)
def f_S_fits_34 (N : Nat) (K2 : Int32 → Int32 → Int32 → jw_M → Option (Int32 × jw_M)) (x1 : Int32) (x2 : Int32) (x3 : Int32) (r4 : Nat) (r_0 : Nat) (y1 : Int32) (y2 : Int32) (σ : jw_M) : Option (Int32 × jw_M) := (if r_0 = 32 then f_Z_Shade_lengthIn N r_0 y1 y2 σ else if r_0 = 33 then f_Z_Shade_lengthIn N r_0 y1 y2 σ else if r_0 = 34 then f_Z_Shade_lengthIn N r_0 y1 y2 σ else if r_0 = 35 then f_Z_Coloured_lengthIn N y1 y2 σ else if r_0 = 36 then f_Z_Slow_lengthIn N r_0 y1 y2 σ else if r_0 = 37 then f_Z_Borrowed_lengthIn N y1 y2 σ else none).bind fun z4 => f_S_fits_37 N K2 x1 x2 x3 r4 (z4.1) z4.2
def f_S_fits_27 (N : Nat) (K2 : Int32 → Int32 → Int32 → jw_M → Option (Int32 × jw_M)) (x1 : Int32) (x2 : Int32) (x3 : Int32) (r4 : Nat) (r_0 : Nat) (σ : jw_M) : Option (Int32 × jw_M) := f_S_fits_34 N K2 x1 x2 x3 r4 r_0 (x1 / 5) (σ.1 r4 1) σ
def f_S_fits_26 (N : Nat) (K2 : Int32 → Int32 → Int32 → jw_M → Option (Int32 × jw_M)) (x1 : Int32) (x2 : Int32) (x3 : Int32) (r4 : Nat) (y1 : Int32) (σ : jw_M) : Option (Int32 × jw_M) := bif jx_in y1 6 then f_S_fits_27 N K2 x1 x2 x3 r4 (32 + (y1).toNatClampNeg) σ else none
def f_S_fits_16 (N : Nat) (K2 : Int32 → Int32 → Int32 → jw_M → Option (Int32 × jw_M)) (x1 : Int32) (x2 : Int32) (x3 : Int32) (r_0 : Nat) (σ : jw_M) : Option (Int32 × jw_M) := f_S_fits_26 N K2 x1 x2 x3 r_0 (σ.1 r_0 0) σ
def f_S_fits_15 (N : Nat) (K2 : Int32 → Int32 → Int32 → jw_M → Option (Int32 × jw_M)) (x1 : Int32) (x2 : Int32) (x3 : Int32) (y1 : Int32) (σ : jw_M) : Option (Int32 × jw_M) := bif jx_in y1 6 then f_S_fits_16 N K2 x1 x2 x3 (13 + (y1).toNatClampNeg) σ else none
def f_S_fits_2 (N : Nat) : Nat → Int32 → Int32 → Int32 → jw_M → Option (Int32 × jw_M)
  | 0, _, _, _, _ => none
  | k + 1, x1, x2, x3, σ => if (σ.1 1 12) ≤ x3 then some (1, σ) else f_S_fits_15 N (f_S_fits_2 N k) x1 x2 x3 x3 σ
def f_S_fits (N : Nat) (x1 : Int32) (x2 : Int32) (σ : jw_M) : Option (Int32 × jw_M) := f_S_fits_2 N N x1 x2 0 σ
/-! ShadowSchool$School.firstFit(I)I -/
def f_S_firstFit_2 (N : Nat) : Nat → Int32 → Int32 → jw_M → Option (Int32 × jw_M)
  | 0, _, _, _ => none
  | k + 1, x1, x2, σ => if 80 ≤ x2 then some ((-1), σ) else (f_S_fits N x2 x1 σ).bind fun z2 => if z2.1 = 0 then f_S_firstFit_2 N k x1 (x2 + 1) z2.2 else some (x2, z2.2)
def f_S_firstFit (N : Nat) (x1 : Int32) (σ : jw_M) : Option (Int32 × jw_M) := f_S_firstFit_2 N N x1 0 σ
/-! ShadowSchool$School.howManyFit()I -/
def f_S_howManyFit_23 (N : Nat) (K4 : Int32 → Int32 → jw_M → Option (Int32 × jw_M)) (x1 : Int32) (x2 : Int32) (σ : jw_M) : Option (Int32 × jw_M) := K4 x1 (x2 + 1) σ
def f_S_howManyFit_4 (N : Nat) : Nat → Int32 → Int32 → jw_M → Option (Int32 × jw_M)
  | 0, _, _, _ => none
  | k + 1, x1, x2, σ => if 80 ≤ x2 then some (x1, σ) else (f_S_fits N x2 (-3) σ).bind fun z2 => if z2.1 = 0 then f_S_howManyFit_23 N (f_S_howManyFit_4 N k) x1 x2 z2.2 else f_S_howManyFit_23 N (f_S_howManyFit_4 N k) (x1 + 1) x2 z2.2
def f_S_howManyFit (N : Nat) (σ : jw_M) : Option (Int32 × jw_M) := f_S_howManyFit_4 N N 0 0 σ
/-! ShadowSchool.shadow(III)I -/
def f_F_shadow (N : Nat) (x1 : Int32) (x2 : Int32) (x3 : Int32) (σ : jw_M) : Option (Int32 × jw_M) := (f_F_isWithin N x1 1 5 σ).bind fun z1 => if z1.1 = 0 then some ((-1), z1.2) else (f_F_isWithin N x2 1 9 z1.2).bind fun z4 => if z4.1 = 0 then some ((-1), z4.2) else (f_F_isWithin N x3 1 9 z4.2).bind fun z7 => if z7.1 = 0 then some ((-1), z7.2) else if (z7.2.1 1 0) < 6 then (f_S_addShadow N x1 x2 x3 z7.2).bind fun z11 => some (z11.1, z11.2) else some ((-2), z7.2)
/-! ShadowSchool.shadowOf(II)I -/
def f_F_shadowOf_128 (N : Nat) (y0 : Int32) (σ : jw_M) : Option (Int32 × jw_M) := some (y0, σ)
def f_F_shadowOf_125 (N : Nat) (r_0 : Nat) (y1 : Int32) (y2 : Int32) (σ : jw_M) : Option (Int32 × jw_M) := (if r_0 = 32 then f_Z_Shade_paceIn N r_0 y1 y2 σ else if r_0 = 33 then f_Z_Joined_paceIn N y1 y2 σ else if r_0 = 34 then f_Z_Gifted_paceIn N r_0 y1 y2 σ else if r_0 = 35 then f_Z_Coloured_paceIn N y1 y2 σ else if r_0 = 36 then f_Z_Slow_paceIn N r_0 y1 y2 σ else if r_0 = 37 then f_Z_Borrowed_paceIn N y1 y2 σ else none).bind fun z13 => f_F_shadowOf_128 N (z13.1) z13.2
def f_F_shadowOf (N : Nat) (x1 : Int32) (x2 : Int32) (σ : jw_M) : Option (Int32 × jw_M) := (f_S_isShadow N x1 σ).bind fun z1 => if z1.1 = 0 then some ((-1), z1.2) else if x2 = 0 then bif jx_in x1 6 then some ((z1.2.1 2 (x1).toNatClampNeg), z1.2) else none else if x2 = 1 then bif jx_in x1 6 then some ((z1.2.1 3 (x1).toNatClampNeg), z1.2) else none else if x2 = 2 then bif jx_in x1 6 then some ((z1.2.1 4 (x1).toNatClampNeg), z1.2) else none else if x2 = 3 then bif jx_in x1 6 then (f_J_bitCount N (z1.2.1 29 (x1).toNatClampNeg) z1.2).bind fun z8 => some (z8.1, z8.2) else none else if x2 = 4 then (f_S_thing N x1 z1.2).bind fun z10 => bif jx_in x1 6 then f_F_shadowOf_125 N z10.1 (z10.2.1 27 0) (z10.2.1 3 (x1).toNatClampNeg) z10.2 else none else if x2 = 5 then (f_S_choice N 27 x1 0 z1.2).bind fun z15 => some (z15.1, z15.2) else if x2 = 6 then (f_S_lengthOf N x1 z1.2).bind fun z17 => some (z17.1, z17.2) else some ((-1), z1.2)
/-! ShadowSchool.change(III)I -/
def f_F_change_34 (N : Nat) (x1 : Int32) (x2 : Int32) (x3 : Int32) (y0 : Int32) (y1 : Int32) (y2 : Int32) (σ : jw_M) : Option (Int32 × jw_M) := (f_F_isWithin N y0 y1 y2 σ).bind fun z8 => if z8.1 = 0 then some ((-1), z8.2) else if x2 = 1 then bif jx_in x1 6 then some ((z8.2.1 3 (x1).toNatClampNeg), (jx_w z8.2 3 (x1).toNatClampNeg x3)) else none else bif jx_in x1 6 then some ((z8.2.1 4 (x1).toNatClampNeg), (jx_w z8.2 4 (x1).toNatClampNeg x3)) else none
def f_F_change (N : Nat) (x1 : Int32) (x2 : Int32) (x3 : Int32) (σ : jw_M) : Option (Int32 × jw_M) := (f_S_isShadow N x1 σ).bind fun z1 => if z1.1 = 0 then some ((-1), z1.2) else (f_F_isWithin N x2 1 2 z1.2).bind fun z4 => if z4.1 = 0 then some ((-1), z4.2) else if x2 = 1 then f_F_change_34 N x1 x2 x3 x3 1 9 z4.2 else f_F_change_34 N x1 x2 x3 x3 1 9 z4.2
/-! ShadowSchool.remake(II)I -/
def f_F_remake (N : Nat) (x1 : Int32) (x2 : Int32) (σ : jw_M) : Option (Int32 × jw_M) := (f_S_isShadow N x1 σ).bind fun z1 => if z1.1 = 0 then some ((-1), z1.2) else (f_F_isWithin N x2 1 5 z1.2).bind fun z4 => if z4.1 = 0 then some ((-1), z4.2) else bif jx_in x1 6 then some ((z4.2.1 2 (x1).toNatClampNeg), (jx_w z4.2 2 (x1).toNatClampNeg x2)) else none
/-! ShadowSchool.lesson(IIIII)I -/
def f_F_lesson (N : Nat) (x1 : Int32) (x2 : Int32) (x3 : Int32) (x4 : Int32) (x5 : Int32) (σ : jw_M) : Option (Int32 × jw_M) := (f_F_isWithin N x1 1 20 σ).bind fun z1 => if z1.1 = 0 then some ((-1), z1.2) else (f_F_isWithin N x2 (-1) ((z1.2.1 1 5) - 1) z1.2).bind fun z4 => if z4.1 = 0 then some ((-1), z4.2) else (f_F_isWithin N x3 0 15 z4.2).bind fun z7 => if z7.1 = 0 then some ((-1), z7.2) else (f_F_isWithin N x4 x3 15 z7.2).bind fun z10 => if z10.1 = 0 then some ((-1), z10.2) else (f_F_isWithin N x5 1 6 z10.2).bind fun z13 => if z13.1 = 0 then some ((-1), z13.2) else if (z13.2.1 1 5) < 8 then (f_S_addLesson N x1 x2 x3 x4 x5 z13.2).bind fun z17 => some (z17.1, z17.2) else some ((-2), z13.2)
/-! ShadowSchool.lessonOf(II)I -/
def f_F_lessonOf (N : Nat) (x1 : Int32) (x2 : Int32) (σ : jw_M) : Option (Int32 × jw_M) := (f_S_isLesson N x1 σ).bind fun z1 => if z1.1 = 0 then some ((-1), z1.2) else if x2 = 0 then bif jx_in x1 8 then some ((z1.2.1 6 (x1).toNatClampNeg), z1.2) else none else if x2 = 1 then bif jx_in x1 8 then some ((z1.2.1 7 (x1).toNatClampNeg), z1.2) else none else if x2 = 2 then bif jx_in x1 8 then some ((z1.2.1 8 (x1).toNatClampNeg), z1.2) else none else if x2 = 3 then bif jx_in x1 8 then some ((z1.2.1 9 (x1).toNatClampNeg), z1.2) else none else if x2 = 4 then bif jx_in x1 8 then some ((z1.2.1 10 (x1).toNatClampNeg), z1.2) else none else if x2 = 5 then (f_P_howManyLearnt N x1 z1.2).bind fun z9 => some (z9.1, z9.2) else some ((-1), z1.2)
/-! ShadowSchool.points(II)I -/
def f_F_points (N : Nat) (x1 : Int32) (x2 : Int32) (σ : jw_M) : Option (Int32 × jw_M) := (f_S_isShadow N x1 σ).bind fun z1 => if z1.1 = 0 then some ((-1), z1.2) else (f_S_isLesson N x2 z1.2).bind fun z4 => if z4.1 = 0 then some ((-1), z4.2) else bif jx_in ((x1 * 8) + x2) 48 then some ((z4.2.1 28 (((x1 * 8) + x2)).toNatClampNeg), z4.2) else none
/-! ShadowSchool.dusk(I)I -/
def f_F_dusk (N : Nat) (x1 : Int32) (σ : jw_M) : Option (Int32 × jw_M) := (f_F_isWithin N x1 1 16 σ).bind fun z1 => if z1.1 = 0 then some ((-1), z1.2) else if (z1.2.1 27 0) ≤ x1 then some ((z1.2.1 1 14), (jx_w z1.2 1 14 x1)) else some ((-4), z1.2)
/-! ShadowSchool.anew()I -/
def f_F_anew (N : Nat) (σ : jw_M) : Option (Int32 × jw_M) := (f_P_clear N  σ).bind fun z1 => some ((σ.1 27 0), z1)
/-! ShadowSchool.state(I)I -/
def f_F_state (N : Nat) (x1 : Int32) (σ : jw_M) : Option (Int32 × jw_M) := if x1 = 0 then some ((σ.1 27 0), σ) else if x1 = 1 then some ((σ.1 1 14), σ) else if x1 = 2 then some ((σ.1 27 1), σ) else if x1 = 3 then (f_S_isOver N 27 σ).bind fun z1 => if z1.1 = 0 then some (0, z1.2) else some (1, z1.2) else some ((-1), σ)
/-! ShadowSchool.feed(JI)I -/
def f_F_feed (N : Nat) (x1 : Int64) (x3 : Int32) (σ : jw_M) : Option (Int32 × jw_M) := (f_F_isWithin N x3 1 8 σ).bind fun z1 => if z1.1 = 0 then some ((-1), z1.2) else if ((z1.2.1 80 0) + x3) ≤ 200 then (f_D_take N x1 x3 z1.2).bind fun z5 => some (z5.1, z5.2) else some ((-2), z1.2)
/-! ShadowSchool.rules()I -/
def f_F_rules (N : Nat) (σ : jw_M) : Option (Int32 × jw_M) := (f_D_readAll N  σ).bind fun z1 => if z1.1 < 0 then some (z1.1, z1.2) else (f_R_copyFrom N 19 84 z1.2).bind fun z4 => some (z1.1, z4)
/-! ShadowSchool.hour()I -/
def f_F_hour (N : Nat) (σ : jw_M) : Option (Int32 × jw_M) := (f_S_isOver N 27 σ).bind fun z1 => if z1.1 = 0 then (f_S_goBy N 27 0 z1.2).bind fun z4 => some (z4.1, z4.2) else some ((-4), z1.2)
/-! ShadowSchool.learnt(I)I -/
def f_F_learnt (N : Nat) (x1 : Int32) (σ : jw_M) : Option (Int32 × jw_M) := (f_S_isShadow N x1 σ).bind fun z1 => if z1.1 = 0 then some ((-1), z1.2) else bif jx_in x1 6 then some ((z1.2.1 29 (x1).toNatClampNeg), z1.2) else none
/-! ShadowSchool.worthOfRest(I)I -/
def f_F_worthOfRest_18 (N : Nat) : Nat → Int32 → Int32 → Int32 → jw_M → Option (Int32 × jw_M)
  | 0, _, _, _, _ => none
  | k + 1, x1, x2, x3, σ => if x1 ≤ x3 then some (x2, σ) else (f_S_isOver N 75 σ).bind fun z4 => if z4.1 = 0 then (f_S_goBy N 75 0 z4.2).bind fun z7 => f_F_worthOfRest_18 N k x1 (x2 + z7.1) (x3 + 1) z7.2 else some (x2, z4.2)
def f_F_worthOfRest (N : Nat) (x1 : Int32) (σ : jw_M) : Option (Int32 × jw_M) := (f_P_copyFrom N 75 27 σ).bind fun z1 => f_F_worthOfRest_18 N N x1 0 0 z1
/-! ShadowSchool.on(I)I -/
def f_F_on (N : Nat) (x1 : Int32) (σ : jw_M) : Option (Int32 × jw_M) := (f_F_isWithin N x1 0 16 σ).bind fun z1 => if z1.1 = 0 then some ((-1), z1.2) else (f_F_worthOfRest N x1 z1.2).bind fun z4 => some (z4.1, z4.2)
/-! ShadowSchool.when(II)I -/
def f_F_when_61 (N : Nat) : Nat → Int32 → Int32 → Int32 → jw_M → Option (Int32 × jw_M)
  | 0, _, _, _, _ => none
  | k + 1, x1, x2, x3, σ => if (σ.1 1 14) ≤ x3 then some ((-3), σ) else (f_S_goBy N 75 0 σ).bind fun z13 => (f_P_hasLearnt N x1 x2 z13.2).bind fun z15 => if z15.1 = 0 then f_F_when_61 N k x1 x2 (x3 + 1) z15.2 else some (x3, z15.2)
def f_F_when (N : Nat) (x1 : Int32) (x2 : Int32) (σ : jw_M) : Option (Int32 × jw_M) := (f_S_isShadow N x1 σ).bind fun z1 => if z1.1 = 0 then some ((-1), z1.2) else (f_S_isLesson N x2 z1.2).bind fun z4 => if z4.1 = 0 then some ((-1), z4.2) else (f_P_copyFrom N 75 27 z4.2).bind fun z7 => (f_P_hasLearnt N x1 x2 z7).bind fun z9 => if z9.1 = 0 then f_F_when_61 N N x1 x2 (z9.2.1 75 0) z9.2 else some ((-3), z9.2)
/-! ShadowSchool.letGo()I -/
def f_F_letGo_47 (N : Nat) (K11 : Int32 → Int32 → jw_M → Option (Int32 × jw_M)) (x1 : Int32) (x2 : Int32) (σ : jw_M) : Option (Int32 × jw_M) := K11 x1 (x2 + 1) σ
def f_F_letGo_11 (N : Nat) : Nat → Int32 → Int32 → jw_M → Option (Int32 × jw_M)
  | 0, _, _, _ => none
  | k + 1, x1, x2, σ => if (σ.1 1 0) ≤ x2 then some (x1, σ) else bif jx_in x2 6 then (f_S_allLessons N  σ).bind fun z5 => if (σ.1 77 (x2).toNatClampNeg) = z5.1 then f_F_letGo_47 N (f_F_letGo_11 N k) (x1 ||| ((1 : Int32) <<< (x2 &&& 31))) x2 z5.2 else f_F_letGo_47 N (f_F_letGo_11 N k) x1 x2 z5.2 else none
def f_F_letGo (N : Nat) (σ : jw_M) : Option (Int32 × jw_M) := (f_F_worthOfRest N 16 σ).bind fun z1 => f_F_letGo_11 N N 0 0 z1.2
/-! ShadowSchool.crowd(I)I -/
def f_F_crowd_92 (N : Nat) (K41 : Int32 → Int32 → Int32 → Int32 → jw_M → Option (Int32 × jw_M)) (x1 : Int32) (x2 : Int32) (x3 : Int32) (x4 : Int32) (σ : jw_M) : Option (Int32 × jw_M) := K41 x1 x2 x3 (x4 + 1) σ
def f_F_crowd_41 (N : Nat) : Nat → Int32 → Int32 → Int32 → Int32 → jw_M → Option (Int32 × jw_M)
  | 0, _, _, _, _, _ => none
  | k + 1, x1, x2, x3, x4, σ => if (σ.1 1 14) ≤ x4 then some (x3, σ) else (f_S_goBy N 75 0 σ).bind fun z7 => bif jx_in x1 8 then if (z7.2.1 78 (x1).toNatClampNeg) ≤ x2 then f_F_crowd_92 N (f_F_crowd_41 N k) x1 x2 x3 x4 z7.2 else f_F_crowd_92 N (f_F_crowd_41 N k) x1 (z7.2.1 78 (x1).toNatClampNeg) x4 x4 z7.2 else none
def f_F_crowd (N : Nat) (x1 : Int32) (σ : jw_M) : Option (Int32 × jw_M) := (f_S_isLesson N x1 σ).bind fun z1 => if z1.1 = 0 then some ((-1), z1.2) else (f_P_copyFrom N 75 27 z1.2).bind fun z4 => f_F_crowd_41 N N x1 (-1) (-3) (z4.1 75 0) z4
/-! ShadowSchool.worthiest([III)I -/
def f_F_worthiest_0_10_48 (N : Nat) (K14 : Int32 → Int32 → Int32 → Int32 → Int32 → Int32 → jw_M → Option (Int32 × jw_M)) (x2 : Int32) (x3 : Int32) (x4 : Int32) (x5 : Int32) (x6 : Int32) (x7 : Int32) (σ : jw_M) : Option (Int32 × jw_M) := K14 x2 x3 x4 x5 x6 (x7 + 1) σ
def f_F_worthiest_0_10_14 (N : Nat) : Nat → Int32 → Int32 → Int32 → Int32 → Int32 → Int32 → jw_M → Option (Int32 × jw_M)
  | 0, _, _, _, _, _, _, _ => none
  | k + 1, x2, x3, x4, x5, x6, x7, σ => if x3 < x7 then bif jx_in x2 8 then some (x6, (jx_w σ 10 (x2).toNatClampNeg x4)) else none else bif jx_in x2 8 then (f_F_worthOfRest N 16 (jx_w σ 10 (x2).toNatClampNeg x7)).bind fun z5 => if z5.1 ≤ x5 then f_F_worthiest_0_10_48 N (f_F_worthiest_0_10_14 N k) x2 x3 x4 x5 x6 x7 z5.2 else f_F_worthiest_0_10_48 N (f_F_worthiest_0_10_14 N k) x2 x3 x4 (z5.1) x7 x7 z5.2 else none
def f_F_worthiest_0_10 (N : Nat) (x2 : Int32) (x3 : Int32) (σ : jw_M) : Option (Int32 × jw_M) := bif jx_in x2 8 then f_F_worthiest_0_10_14 N N x2 x3 (σ.1 10 (x2).toNatClampNeg) (-1) 1 1 σ else none
def f_F_worthiest_0_3_48 (N : Nat) (K14 : Int32 → Int32 → Int32 → Int32 → Int32 → Int32 → jw_M → Option (Int32 × jw_M)) (x2 : Int32) (x3 : Int32) (x4 : Int32) (x5 : Int32) (x6 : Int32) (x7 : Int32) (σ : jw_M) : Option (Int32 × jw_M) := K14 x2 x3 x4 x5 x6 (x7 + 1) σ
def f_F_worthiest_0_3_14 (N : Nat) : Nat → Int32 → Int32 → Int32 → Int32 → Int32 → Int32 → jw_M → Option (Int32 × jw_M)
  | 0, _, _, _, _, _, _, _ => none
  | k + 1, x2, x3, x4, x5, x6, x7, σ => if x3 < x7 then bif jx_in x2 6 then some (x6, (jx_w σ 3 (x2).toNatClampNeg x4)) else none else bif jx_in x2 6 then (f_F_worthOfRest N 16 (jx_w σ 3 (x2).toNatClampNeg x7)).bind fun z5 => if z5.1 ≤ x5 then f_F_worthiest_0_3_48 N (f_F_worthiest_0_3_14 N k) x2 x3 x4 x5 x6 x7 z5.2 else f_F_worthiest_0_3_48 N (f_F_worthiest_0_3_14 N k) x2 x3 x4 (z5.1) x7 x7 z5.2 else none
def f_F_worthiest_0_3 (N : Nat) (x2 : Int32) (x3 : Int32) (σ : jw_M) : Option (Int32 × jw_M) := bif jx_in x2 6 then f_F_worthiest_0_3_14 N N x2 x3 (σ.1 3 (x2).toNatClampNeg) (-1) 1 1 σ else none
/-! ShadowSchool.quickFor(I)I -/
def f_F_quickFor (N : Nat) (x1 : Int32) (σ : jw_M) : Option (Int32 × jw_M) := (f_S_isShadow N x1 σ).bind fun z1 => if z1.1 = 0 then some ((-1), z1.2) else (f_F_worthiest_0_3 N x1 9 z1.2).bind fun z4 => some (z4.1, z4.2)
/-! ShadowSchool.letGoBy(I)I -/
def f_F_letGoBy_88 (N : Nat) (x1 : Int32) (x2 : Int32) (x3 : Int32) (σ : jw_M) : Option (Int32 × jw_M) := bif jx_in x1 6 then some (x3, (jx_w σ 3 (x1).toNatClampNeg x2)) else none
def f_F_letGoBy_82 (N : Nat) (K29 : Int32 → Int32 → Int32 → Int32 → jw_M → Option (Int32 × jw_M)) (x1 : Int32) (x2 : Int32) (x3 : Int32) (x4 : Int32) (σ : jw_M) : Option (Int32 × jw_M) := K29 x1 x2 x3 (x4 + 1) σ
def f_F_letGoBy_29 (N : Nat) : Nat → Int32 → Int32 → Int32 → Int32 → jw_M → Option (Int32 × jw_M)
  | 0, _, _, _, _, _ => none
  | k + 1, x1, x2, x3, x4, σ => if 9 < x4 then f_F_letGoBy_88 N x1 x2 x3 σ else if x3 = (-3) then bif jx_in x1 6 then (f_F_worthOfRest N 16 (jx_w σ 3 (x1).toNatClampNeg x4)).bind fun z9 => (f_S_allLessons N  z9.2).bind fun z11 => if (z9.2.1 77 (x1).toNatClampNeg) = z11.1 then f_F_letGoBy_82 N (f_F_letGoBy_29 N k) x1 x2 x4 x4 z11.2 else f_F_letGoBy_82 N (f_F_letGoBy_29 N k) x1 x2 x3 x4 z11.2 else none else f_F_letGoBy_88 N x1 x2 x3 σ
def f_F_letGoBy (N : Nat) (x1 : Int32) (σ : jw_M) : Option (Int32 × jw_M) := (f_S_isShadow N x1 σ).bind fun z1 => if z1.1 = 0 then some ((-1), z1.2) else bif jx_in x1 6 then f_F_letGoBy_29 N N x1 (z1.2.1 3 (x1).toNatClampNeg) (-3) 1 z1.2 else none
/-! ShadowSchool.roomFor(I)I -/
def f_F_roomFor (N : Nat) (x1 : Int32) (σ : jw_M) : Option (Int32 × jw_M) := (f_S_isLesson N x1 σ).bind fun z1 => if z1.1 = 0 then some ((-1), z1.2) else (f_F_worthiest_0_10 N x1 6 z1.2).bind fun z4 => some (z4.1, z4.2)
/-! ShadowSchool.quarrel(III)I -/
def f_F_quarrel (N : Nat) (x1 : Int32) (x2 : Int32) (x3 : Int32) (σ : jw_M) : Option (Int32 × jw_M) := (f_S_isShadow N x1 σ).bind fun z1 => if z1.1 = 0 then some ((-1), z1.2) else (f_S_isShadow N x2 z1.2).bind fun z4 => if z4.1 = 0 then some ((-1), z4.2) else if x1 = x2 then some ((-1), z4.2) else (f_F_isWithin N x3 0 1 z4.2).bind fun z8 => if z8.1 = 0 then some ((-1), z8.2) else bif jx_in x1 6 then (f_S_setQuarrel N x1 x2 x3 z8.2).bind fun z12 => some ((((z8.2.1 5 (x1).toNatClampNeg) >>> (x2 &&& 31)) &&& 1), z12) else none
/-! ShadowSchool.quarrels(I)I -/
def f_F_quarrels (N : Nat) (x1 : Int32) (σ : jw_M) : Option (Int32 × jw_M) := (f_S_isShadow N x1 σ).bind fun z1 => if z1.1 = 0 then some ((-1), z1.2) else bif jx_in x1 6 then some ((z1.2.1 5 (x1).toNatClampNeg), z1.2) else none
/-! ShadowSchool.mayTake(II)Z -/
def f_F_mayTake_36 (N : Nat) (K2 : Int32 → Int32 → Int32 → jw_M → Option (Int32 × jw_M)) (x1 : Int32) (x2 : Int32) (x3 : Int32) (σ : jw_M) : Option (Int32 × jw_M) := K2 x1 x2 (x3 + 1) σ
def f_F_mayTake_2 (N : Nat) : Nat → Int32 → Int32 → Int32 → jw_M → Option (Int32 × jw_M)
  | 0, _, _, _, _ => none
  | k + 1, x1, x2, x3, σ => if x1 ≤ x3 then some (1, σ) else bif jx_in x3 6 then if (σ.1 79 (x3).toNatClampNeg) = x2 then bif jx_in x1 6 then if (((σ.1 5 (x1).toNatClampNeg) >>> (x3 &&& 31)) &&& 1) = 1 then some (0, σ) else f_F_mayTake_36 N (f_F_mayTake_2 N k) x1 x2 x3 σ else none else f_F_mayTake_36 N (f_F_mayTake_2 N k) x1 x2 x3 σ else none
def f_F_mayTake (N : Nat) (x1 : Int32) (x2 : Int32) (σ : jw_M) : Option (Int32 × jw_M) := f_F_mayTake_2 N N x1 x2 0 σ
/-! ShadowSchool.findSeats(II)Z -/
def f_F_findSeats_49 (N : Nat) (Rec : Int32 → Int32 → jw_M → Option (Int32 × jw_M)) (K15 : Int32 → Int32 → Int32 → jw_M → Option (Int32 × jw_M)) (x1 : Int32) (x2 : Int32) (x3 : Int32) (σ : jw_M) : Option (Int32 × jw_M) := K15 x1 x2 (x3 + 1) σ
def f_F_findSeats_15 (N : Nat) (Rec : Int32 → Int32 → jw_M → Option (Int32 × jw_M)) : Nat → Int32 → Int32 → Int32 → jw_M → Option (Int32 × jw_M)
  | 0, _, _, _, _ => none
  | k + 1, x1, x2, x3, σ => if x2 ≤ x3 then some (0, σ) else (f_F_mayTake N x1 x3 σ).bind fun z3 => if z3.1 = 0 then f_F_findSeats_49 N Rec (f_F_findSeats_15 N Rec k) x1 x2 x3 z3.2 else bif jx_in x1 6 then (Rec (x1 + 1) x2 (jx_w z3.2 79 (x1).toNatClampNeg x3)).bind fun z7 => if z7.1 = 0 then f_F_findSeats_49 N Rec (f_F_findSeats_15 N Rec k) x1 x2 x3 z7.2 else some (1, z7.2) else none
def f_F_findSeats (N : Nat) : Nat → Int32 → Int32 → jw_M → Option (Int32 × jw_M)
  | 0, _, _, _ => none
  | r + 1, x1, x2, σ => if x1 < (σ.1 1 0) then f_F_findSeats_15 N (f_F_findSeats N r) N x1 x2 0 σ else some (1, σ)
/-! ShadowSchool.fewestRooms()I -/
def f_F_fewestRooms_2 (N : Nat) : Nat → Int32 → jw_M → Option (Int32 × jw_M)
  | 0, _, _ => none
  | k + 1, x1, σ => if 6 < x1 then some (6, σ) else (f_F_findSeats N 64 0 x1 σ).bind fun z2 => if z2.1 = 0 then f_F_fewestRooms_2 N k (x1 + 1) z2.2 else some (x1, z2.2)
def f_F_fewestRooms (N : Nat) (σ : jw_M) : Option (Int32 × jw_M) := f_F_fewestRooms_2 N N 0 σ
/-! ShadowSchool.rooms()I -/
def f_F_rooms (N : Nat) (σ : jw_M) : Option (Int32 × jw_M) := (f_F_fewestRooms N  σ).bind fun z1 => some (z1.1, z1.2)
/-! ShadowSchool.seat(I)I -/
def f_F_seat (N : Nat) (x1 : Int32) (σ : jw_M) : Option (Int32 × jw_M) := (f_S_isShadow N x1 σ).bind fun z1 => if z1.1 = 0 then some ((-1), z1.2) else (f_F_fewestRooms N  z1.2).bind fun z4 => bif jx_in x1 6 then some ((z4.2.1 79 (x1).toNatClampNeg), z4.2) else none
/-! ShadowSchool.countSeatings(II)I -/
def f_F_countSeatings_53 (N : Nat) (Rec : Int32 → Int32 → jw_M → Option (Int32 × jw_M)) (K18 : Int32 → Int32 → Int32 → Int32 → jw_M → Option (Int32 × jw_M)) (x1 : Int32) (x2 : Int32) (x3 : Int32) (x4 : Int32) (σ : jw_M) : Option (Int32 × jw_M) := K18 x1 x2 x3 (x4 + 1) σ
def f_F_countSeatings_18 (N : Nat) (Rec : Int32 → Int32 → jw_M → Option (Int32 × jw_M)) : Nat → Int32 → Int32 → Int32 → Int32 → jw_M → Option (Int32 × jw_M)
  | 0, _, _, _, _, _ => none
  | k + 1, x1, x2, x3, x4, σ => if x2 ≤ x4 then some (x3, σ) else (f_F_mayTake N x1 x4 σ).bind fun z3 => if z3.1 = 0 then f_F_countSeatings_53 N Rec (f_F_countSeatings_18 N Rec k) x1 x2 x3 x4 z3.2 else bif jx_in x1 6 then (Rec (x1 + 1) x2 (jx_w z3.2 79 (x1).toNatClampNeg x4)).bind fun z7 => f_F_countSeatings_53 N Rec (f_F_countSeatings_18 N Rec k) x1 x2 (x3 + z7.1) x4 z7.2 else none
def f_F_countSeatings (N : Nat) : Nat → Int32 → Int32 → jw_M → Option (Int32 × jw_M)
  | 0, _, _, _ => none
  | r + 1, x1, x2, σ => if x1 < (σ.1 1 0) then f_F_countSeatings_18 N (f_F_countSeatings N r) N x1 x2 0 0 σ else some (1, σ)
/-! ShadowSchool.seatings(I)I -/
def f_F_seatings (N : Nat) (x1 : Int32) (σ : jw_M) : Option (Int32 × jw_M) := (f_F_isWithin N x1 1 4 σ).bind fun z1 => if z1.1 = 0 then some ((-1), z1.2) else (f_F_countSeatings N 64 0 x1 z1.2).bind fun z4 => some (z4.1, z4.2)
/-! ShadowSchool.countGifts(IIIII)I -/
def f_F_countGifts_93 (N : Nat) (Rec : Int32 → Int32 → Int32 → Int32 → Int32 → jw_M → Option (Int32 × jw_M)) (K19 : Int32 → Int32 → Int32 → Int32 → Int32 → Int32 → Int32 → jw_M → Option (Int32 × jw_M)) (x1 : Int32) (x2 : Int32) (x3 : Int32) (x4 : Int32) (x5 : Int32) (x6 : Int32) (x7 : Int32) (σ : jw_M) : Option (Int32 × jw_M) := K19 x1 x2 x3 x4 x5 x6 (x7 + 1) σ
def f_F_countGifts_19 (N : Nat) (Rec : Int32 → Int32 → Int32 → Int32 → Int32 → jw_M → Option (Int32 × jw_M)) : Nat → Int32 → Int32 → Int32 → Int32 → Int32 → Int32 → Int32 → jw_M → Option (Int32 × jw_M)
  | 0, _, _, _, _, _, _, _, _ => none
  | k + 1, x1, x2, x3, x4, x5, x6, x7, σ => if (σ.1 1 0) ≤ x7 then some (x6, σ) else if ((x2 >>> (x7 &&& 31)) &&& 1) = 0 then (f_H_itemAt N x3 (x4 + x7) σ).bind fun z4 => (f_S_lengthOf N x1 z4.2).bind fun z6 => (f_J_abs N (z4.1 - z6.1) z6.2).bind fun z8 => if x5 < z8.1 then f_F_countGifts_93 N Rec (f_F_countGifts_19 N Rec k) x1 x2 x3 x4 x5 x6 x7 z8.2 else (Rec (x1 + 1) (x2 ||| ((1 : Int32) <<< (x7 &&& 31))) x3 x4 x5 z8.2).bind fun z11 => f_F_countGifts_93 N Rec (f_F_countGifts_19 N Rec k) x1 x2 x3 x4 x5 (x6 + z11.1) x7 z11.2 else f_F_countGifts_93 N Rec (f_F_countGifts_19 N Rec k) x1 x2 x3 x4 x5 x6 x7 σ
def f_F_countGifts (N : Nat) : Nat → Int32 → Int32 → Int32 → Int32 → Int32 → jw_M → Option (Int32 × jw_M)
  | 0, _, _, _, _, _, _ => none
  | r + 1, x1, x2, x3, x4, x5, σ => if x1 < (σ.1 1 0) then f_F_countGifts_19 N (f_F_countGifts N r) N x1 x2 x3 x4 x5 0 0 σ else some (1, σ)
/-! ShadowSchool.match(III)I -/
def f_F_match (N : Nat) (x1 : Int32) (x2 : Int32) (x3 : Int32) (σ : jw_M) : Option (Int32 × jw_M) := (f_H_isSheet N x1 σ).bind fun z1 => if z1.1 = 0 then some ((-1), z1.2) else (f_F_isWithin N x3 0 99 z1.2).bind fun z4 => if z4.1 = 0 then some ((-1), z4.2) else (f_H_refusalAs N x1 0 z4.2).bind fun z7 => if z7.1 = 0 then (f_H_hasItems N x1 x2 (z7.2.1 1 0) z7.2).bind fun z10 => if z10.1 = 0 then some ((-12), z10.2) else (f_F_countGifts N 64 0 0 x1 x2 x3 z10.2).bind fun z13 => some (z13.1, z13.2) else some (z7.1, z7.2)
/-! ShadowSchool.best(I)I -/
def f_F_best (N : Nat) (x1 : Int32) (σ : jw_M) : Option (Int32 × jw_M) := (f_F_isWithin N x1 0 4 σ).bind fun z1 => if z1.1 = 0 then some ((-1), z1.2) else (f_L_walkAll N x1 0 z1.2).bind fun z4 => some ((z4.1 92 3), z4)
/-! ShadowSchool.ith(II)I -/
def f_F_ith (N : Nat) (x1 : Int32) (x2 : Int32) (σ : jw_M) : Option (Int32 × jw_M) := (f_F_isWithin N x1 0 4 σ).bind fun z1 => if z1.1 = 0 then some ((-1), z1.2) else (f_F_isWithin N x2 0 3 z1.2).bind fun z4 => if z4.1 = 0 then some ((-1), z4.2) else (f_L_walkAll N x1 0 z4.2).bind fun z7 => if (z7.1 92 2) ≤ x2 then some ((-3), z7) else bif jx_in x2 4 then some ((z7.1 115 (x2).toNatClampNeg), z7) else none
/-! ShadowSchool.ways(I)I -/
def f_F_ways (N : Nat) (x1 : Int32) (σ : jw_M) : Option (Int32 × jw_M) := (f_F_isWithin N x1 0 4 σ).bind fun z1 => if z1.1 = 0 then some ((-1), z1.2) else (f_L_walkAll N x1 0 z1.2).bind fun z4 => some ((z4.1 92 4), z4)
/-! ShadowSchool.taught(II)I -/
def f_F_taught (N : Nat) (x1 : Int32) (x2 : Int32) (σ : jw_M) : Option (Int32 × jw_M) := (f_F_isWithin N x1 0 4 σ).bind fun z1 => if z1.1 = 0 then some ((-1), z1.2) else (f_S_isSetOfLessons N x2 z1.2).bind fun z4 => if z4.1 = 0 then some ((-1), z4.2) else (f_L_walkAll N x1 x2 z4.2).bind fun z7 => if 4 < (z7.1 92 7) then some ((-3), z7) else some ((z7.1 92 7), z7)
/-! ShadowSchool.bars(II)I -/
def f_F_bars (N : Nat) (x1 : Int32) (x2 : Int32) (σ : jw_M) : Option (Int32 × jw_M) := (f_F_isWithin N x1 0 4 σ).bind fun z1 => if z1.1 = 0 then some ((-1), z1.2) else (f_S_isSetOfLessons N x2 z1.2).bind fun z4 => if z4.1 = 0 then some ((-1), z4.2) else (f_L_walkAll N x1 x2 z4.2).bind fun z7 => if (x2 &&& ((z7.1 92 8) ^^^ (-1))) = 0 then some ((-3), z7) else (f_J_numberOfTrailingZeros N (x2 &&& ((z7.1 92 8) ^^^ (-1))) z7).bind fun z10 => some (z10.1, z10.2)
/-! ShadowSchool.game(I)I -/
def f_F_game (N : Nat) (x1 : Int32) (σ : jw_M) : Option (Int32 × jw_M) := (f_F_isWithin N x1 1 4 σ).bind fun z1 => if z1.1 = 0 then some ((-1), z1.2) else (f_L_valueOfGame N x1 z1.2).bind fun z4 => some (z4.1, z4.2)
/-! ShadowSchool.play(I)I -/
def f_F_play (N : Nat) (x1 : Int32) (σ : jw_M) : Option (Int32 × jw_M) := (f_F_isWithin N x1 1 4 σ).bind fun z1 => if z1.1 = 0 then some ((-1), z1.2) else (f_S_isOver N 27 z1.2).bind fun z4 => if z4.1 = 0 then (f_L_valueOfGame N x1 z4.2).bind fun z7 => some ((z7.2.1 92 9), z7.2) else some ((-3), z4.2)
/-! ShadowSchool.report(IIII)I -/
def f_F_report (N : Nat) (x1 : Int32) (x2 : Int32) (x3 : Int32) (x4 : Int32) (σ : jw_M) : Option (Int32 × jw_M) := (f_F_isWithin N x1 1 5 σ).bind fun z1 => if z1.1 = 0 then some ((-1), z1.2) else (f_F_isWithin N x2 1 9 z1.2).bind fun z4 => if z4.1 = 0 then some ((-1), z4.2) else (f_F_isWithin N x3 0 999 z4.2).bind fun z7 => if z7.1 = 0 then some ((-1), z7.2) else (f_F_isWithin N x4 x3 999 z7.2).bind fun z10 => if z10.1 = 0 then some ((-1), z10.2) else if (z10.2.1 1 12) < 6 then (f_S_addReport N x1 x2 x3 x4 z10.2).bind fun z14 => some (z14.1, z14.2) else some ((-2), z10.2)
/-! ShadowSchool.forget()I -/
def f_F_forget (N : Nat) (σ : jw_M) : Option (Int32 × jw_M) := some ((σ.1 1 12), (jx_w σ 1 12 (0 : Int32)))
/-! ShadowSchool.span(I)I -/
def f_F_span (N : Nat) (x1 : Int32) (σ : jw_M) : Option (Int32 × jw_M) := (f_F_isWithin N x1 0 2 σ).bind fun z1 => if z1.1 = 0 then some ((-1), z1.2) else if x1 = 0 then (f_S_howManyFit N  z1.2).bind fun z5 => some (z5.1, z5.2) else (f_S_firstFit N (-3) z1.2).bind fun z7 => if 0 ≤ z7.1 then if x1 = 1 then some ((z7.1 / 5), z7.2) else some (((z7.1 - z7.1 / 5 * 5) + 1), z7.2) else some ((-3), z7.2)
/-! ShadowSchool.liar()I -/
def f_F_liar_17 (N : Nat) : Nat → Int32 → jw_M → Option (Int32 × jw_M)
  | 0, _, _ => none
  | k + 1, x1, σ => if (σ.1 1 12) ≤ x1 then some ((-3), σ) else (f_S_firstFit N x1 σ).bind fun z5 => if z5.1 < 0 then f_F_liar_17 N k (x1 + 1) z5.2 else some (x1, z5.2)
def f_F_liar (N : Nat) (σ : jw_M) : Option (Int32 × jw_M) := (f_S_firstFit N (-3) σ).bind fun z1 => if z1.1 < 0 then f_F_liar_17 N N 0 z1.2 else some ((-3), z1.2)
/-! ShadowSchool.seed(I)I -/
def f_F_seed (N : Nat) (x1 : Int32) (σ : jw_M) : Option (Int32 × jw_M) := some ((σ.1 1 15), (jx_w σ 1 15 x1))
/-! ShadowSchool.lot()I -/
def f_F_lot (N : Nat) (σ : jw_M) : Option (Int32 × jw_M) := (f_S_isOver N 27 σ).bind fun z1 => if z1.1 = 0 then (f_S_goByLot N 27 z1.2).bind fun z4 => some (z4.1, z4.2) else some ((-4), z1.2)
/-! ShadowSchool.often(II)I -/
def f_F_often_112 (N : Nat) (K37 : Int32 → Int32 → Int32 → Int32 → Int32 → jw_M → Option (Int32 × jw_M)) (x1 : Int32) (x2 : Int32) (x3 : Int32) (x4 : Int32) (x5 : Int32) (σ : jw_M) : Option (Int32 × jw_M) := K37 x1 x2 x3 x4 (x5 + 1) σ
def f_F_often_69 (N : Nat) (K37 : Int32 → Int32 → Int32 → Int32 → Int32 → jw_M → Option (Int32 × jw_M)) : Nat → Int32 → Int32 → Int32 → Int32 → Int32 → Int32 → Int32 → jw_M → Option (Int32 × jw_M)
  | 0, _, _, _, _, _, _, _, _ => none
  | k + 1, x1, x2, x3, x4, x5, x6, x7, σ => if (σ.1 1 14) ≤ x7 then if x6 < x2 then f_F_often_112 N K37 x1 x2 x3 x4 x5 σ else f_F_often_112 N K37 x1 x2 x3 (x4 + 1) x5 σ else (f_S_goByLot N 75 σ).bind fun z12 => f_F_often_69 N K37 k x1 x2 x3 x4 x5 (x6 + z12.1) (x7 + 1) z12.2
def f_F_often_37 (N : Nat) : Nat → Int32 → Int32 → Int32 → Int32 → Int32 → jw_M → Option (Int32 × jw_M)
  | 0, _, _, _, _, _, _ => none
  | k + 1, x1, x2, x3, x4, x5, σ => if x1 ≤ x5 then some (x4, (jx_w σ 1 15 x3)) else (f_P_copyFrom N 75 27 σ).bind fun z8 => f_F_often_69 N (f_F_often_37 N k) N x1 x2 x3 x4 x5 0 (z8.1 75 0) z8
def f_F_often (N : Nat) (x1 : Int32) (x2 : Int32) (σ : jw_M) : Option (Int32 × jw_M) := (f_F_isWithin N x1 1 40 σ).bind fun z1 => if z1.1 = 0 then some ((-1), z1.2) else (f_F_isWithin N x2 0 999 z1.2).bind fun z4 => if z4.1 = 0 then some ((-1), z4.2) else f_F_often_37 N N x1 x2 (z4.2.1 1 15) 0 0 z4.2
/-! ShadowSchool.prove(I)I -/
def f_F_prove (N : Nat) (x1 : Int32) (σ : jw_M) : Option (Int32 × jw_M) := (f_F_isWithin N x1 0 4 σ).bind fun z1 => if z1.1 = 0 then some ((-1), z1.2) else (f_L_walkAll N x1 0 z1.2).bind fun z4 => (f_L_makeRows N  z4).bind fun z6 => some (z6.1, z6.2)
/-! ShadowSchool.row(II)I -/
def f_F_row_21 (N : Nat) (x2 : Int32) (r_0 : Nat) (σ : jw_M) : Option (Int32 × jw_M) := bif jx_in x2 3 then some ((σ.1 r_0 (x2).toNatClampNeg), σ) else none
def f_F_row_20 (N : Nat) (x2 : Int32) (y1 : Int32) (σ : jw_M) : Option (Int32 × jw_M) := bif jx_in y1 4 then f_F_row_21 N x2 (117 + (y1).toNatClampNeg) σ else none
def f_F_row (N : Nat) (x1 : Int32) (x2 : Int32) (σ : jw_M) : Option (Int32 × jw_M) := (f_L_hasRowPart N x1 x2 σ).bind fun z1 => if z1.1 = 0 then some ((-9), z1.2) else f_F_row_20 N x2 x1 z1.2
/-! ShadowSchool.alterRow(III)I -/
def f_F_alterRow_37 (N : Nat) (x2 : Int32) (x3 : Int32) (x4 : Int32) (r_0 : Nat) (σ : jw_M) : Option (Int32 × jw_M) := bif jx_in x2 3 then some (x4, (jx_w σ r_0 (x2).toNatClampNeg x3)) else none
def f_F_alterRow_36 (N : Nat) (x2 : Int32) (x3 : Int32) (x4 : Int32) (y1 : Int32) (σ : jw_M) : Option (Int32 × jw_M) := bif jx_in y1 4 then f_F_alterRow_37 N x2 x3 x4 (117 + (y1).toNatClampNeg) σ else none
def f_F_alterRow_24 (N : Nat) (x1 : Int32) (x2 : Int32) (x3 : Int32) (r_0 : Nat) (σ : jw_M) : Option (Int32 × jw_M) := bif jx_in x2 3 then f_F_alterRow_36 N x2 x3 (σ.1 r_0 (x2).toNatClampNeg) x1 σ else none
def f_F_alterRow_23 (N : Nat) (x1 : Int32) (x2 : Int32) (x3 : Int32) (y1 : Int32) (σ : jw_M) : Option (Int32 × jw_M) := bif jx_in y1 4 then f_F_alterRow_24 N x1 x2 x3 (117 + (y1).toNatClampNeg) σ else none
def f_F_alterRow (N : Nat) (x1 : Int32) (x2 : Int32) (x3 : Int32) (σ : jw_M) : Option (Int32 × jw_M) := (f_L_hasRowPart N x1 x2 σ).bind fun z1 => if z1.1 = 0 then some ((-9), z1.2) else f_F_alterRow_23 N x1 x2 x3 x1 z1.2
/-! ShadowSchool.judge()I -/
def f_F_judge (N : Nat) (σ : jw_M) : Option (Int32 × jw_M) := (f_L_firstWrongRow N  σ).bind fun z1 => some (z1.1, z1.2)
/-! ShadowSchool.sheet(III)I -/
def f_F_sheet_47 (N : Nat) (x1 : Int32) (x2 : Int32) (x3 : Int32) (σ : jw_M) : Option (Int32 × jw_M) := (f_H_makeRow N x1 x2 x3 σ).bind fun z9 => some (1, z9)
def f_F_sheet_35 (N : Nat) (x1 : Int32) (x2 : Int32) (x3 : Int32) (σ : jw_M) : Option (Int32 × jw_M) := if x2 = (-1) then f_F_sheet_47 N x1 x2 x3 σ else if 0 ≤ x3 then f_F_sheet_47 N x1 x2 x3 σ else some ((-14), σ)
def f_F_sheet (N : Nat) (x1 : Int32) (x2 : Int32) (x3 : Int32) (σ : jw_M) : Option (Int32 × jw_M) := (f_H_isSheet N x1 σ).bind fun z1 => if z1.1 = 0 then some ((-1), z1.2) else (f_F_isWithin N x2 (-1) 4 z1.2).bind fun z4 => if z4.1 = 0 then some ((-1), z4.2) else if x2 = (-1) then f_F_sheet_35 N x1 x2 x3 z4.2 else if x3 ≤ 40 then f_F_sheet_35 N x1 x2 x3 z4.2 else some ((-1), z4.2)
/-! ShadowSchool.write(III)I -/
def f_F_write (N : Nat) (x1 : Int32) (x2 : Int32) (x3 : Int32) (σ : jw_M) : Option (Int32 × jw_M) := (f_H_isSheet N x1 σ).bind fun z1 => if z1.1 = 0 then some ((-1), z1.2) else bif jx_in x1 4 then if (z1.2.1 122 (x1).toNatClampNeg) = (-1) then some ((-11), z1.2) else (f_H_hasItem N x1 x2 z1.2).bind fun z6 => if z6.1 = 0 then some ((-12), z6.2) else (f_H_putItem N x1 x2 x3 z6.2).bind fun z9 => some (1, z9) else none
/-! ShadowSchool.item(III)I -/
def f_F_item (N : Nat) (x1 : Int32) (x2 : Int32) (x3 : Int32) (σ : jw_M) : Option (Int32 × jw_M) := (f_H_isSheet N x1 σ).bind fun z1 => if z1.1 = 0 then some ((-1), z1.2) else (f_F_isWithin N x2 0 4 z1.2).bind fun z4 => if z4.1 = 0 then some ((-1), z4.2) else (f_H_refusalAs N x1 x2 z4.2).bind fun z7 => if z7.1 = 0 then (f_H_hasItem N x1 x3 z7.2).bind fun z10 => if z10.1 = 0 then some ((-12), z10.2) else (f_H_itemAt N x1 x3 z10.2).bind fun z13 => some (z13.1, z13.2) else some (z7.1, z7.2)
/-! ShadowSchool.goAll(III)I -/
def f_F_goAll_136 (N : Nat) (K48 : Int32 → Int32 → Int32 → Int32 → Int32 → jw_M → Option (Int32 × jw_M)) (x1 : Int32) (x2 : Int32) (x3 : Int32) (x5 : Int32) (x6 : Int32) (σ : jw_M) : Option (Int32 × jw_M) := K48 x1 x2 x3 x5 (x6 + 1) σ
def f_F_goAll_48 (N : Nat) : Nat → Int32 → Int32 → Int32 → Int32 → Int32 → jw_M → Option (Int32 × jw_M)
  | 0, _, _, _, _, _, _ => none
  | k + 1, x1, x2, x3, x5, x6, σ => if x3 ≤ x6 then some (x5, σ) else (f_H_hasItem N x1 (x2 + x6) σ).bind fun z11 => if z11.1 = 0 then some ((-12), z11.2) else (f_H_itemAt N x1 (x2 + x6) z11.2).bind fun z14 => (f_S_isAct N (z14.1) z14.2).bind fun z16 => if z16.1 = 0 then f_F_goAll_136 N (f_F_goAll_48 N k) x1 x2 x3 x5 x6 z16.2 else (f_S_isOver N 27 z16.2).bind fun z19 => if z19.1 = 0 then (f_S_goBy N 27 (z14.1) z19.2).bind fun z22 => f_F_goAll_136 N (f_F_goAll_48 N k) x1 x2 x3 (x5 + z22.1) x6 z22.2 else f_F_goAll_136 N (f_F_goAll_48 N k) x1 x2 x3 x5 x6 z19.2
def f_F_goAll (N : Nat) (x1 : Int32) (x2 : Int32) (x3 : Int32) (σ : jw_M) : Option (Int32 × jw_M) := (f_H_isSheet N x1 σ).bind fun z1 => if z1.1 = 0 then some ((-1), z1.2) else (f_F_isWithin N x3 0 20 z1.2).bind fun z4 => if z4.1 = 0 then some ((-1), z4.2) else (f_H_refusalAs N x1 0 z4.2).bind fun z7 => if z7.1 = 0 then f_F_goAll_48 N N x1 x2 x3 0 0 z7.2 else some (z7.1, z7.2)
/-! ShadowSchool.wouldBe(III)I -/
def f_F_wouldBe_62 (N : Nat) : Nat → Int32 → Int32 → Int32 → Int32 → Int32 → jw_M → Option (Int32 × jw_M)
  | 0, _, _, _, _, _, _ => none
  | k + 1, x1, x2, x3, x5, x6, σ => if x3 ≤ x6 then some (x5, σ) else (f_H_hasItem N x1 (x2 + x6) σ).bind fun z13 => if z13.1 = 0 then some ((-12), z13.2) else (f_H_itemAt N x1 (x2 + x6) z13.2).bind fun z16 => (f_S_isAct N (z16.1) z16.2).bind fun z18 => if z18.1 = 0 then some ((-4), z18.2) else (f_S_isOver N 75 z18.2).bind fun z21 => if z21.1 = 0 then (f_S_goBy N 75 (z16.1) z21.2).bind fun z24 => f_F_wouldBe_62 N k x1 x2 x3 (x5 + z24.1) (x6 + 1) z24.2 else some ((-4), z21.2)
def f_F_wouldBe (N : Nat) (x1 : Int32) (x2 : Int32) (x3 : Int32) (σ : jw_M) : Option (Int32 × jw_M) := (f_H_isSheet N x1 σ).bind fun z1 => if z1.1 = 0 then some ((-1), z1.2) else (f_F_isWithin N x3 0 20 z1.2).bind fun z4 => if z4.1 = 0 then some ((-1), z4.2) else (f_H_refusalAs N x1 0 z4.2).bind fun z7 => if z7.1 = 0 then (f_P_copyFrom N 75 27 z7.2).bind fun z10 => f_F_wouldBe_62 N N x1 x2 x3 0 0 z10 else some (z7.1, z7.2)
/-! ShadowSchool.shelf(III)I -/
def f_F_shelf_54 (N : Nat) (x1 : Int32) (x2 : Int32) (x3 : Int32) (y0 : Int32) (σ : jw_M) : Option (Int32 × jw_M) := if y0 = 0 then some ((-1), σ) else (f_H_put N x1 x2 x3 σ).bind fun z14 => some (1, z14)
def f_F_shelf_49 (N : Nat) (x1 : Int32) (x2 : Int32) (x3 : Int32) (σ : jw_M) : Option (Int32 × jw_M) := f_F_shelf_54 N x1 x2 x3 1 σ
def f_F_shelf_44 (N : Nat) (x1 : Int32) (x2 : Int32) (x3 : Int32) (σ : jw_M) : Option (Int32 × jw_M) := if x2 = 2 then f_F_shelf_49 N x1 x2 x3 σ else f_F_shelf_54 N x1 x2 x3 0 σ
def f_F_shelf_28 (N : Nat) (x1 : Int32) (x2 : Int32) (x3 : Int32) (σ : jw_M) : Option (Int32 × jw_M) := if x2 = 1 then (f_H_isSheet N x3 σ).bind fun z9 => if z9.1 = 0 then f_F_shelf_44 N x1 x2 x3 z9.2 else f_F_shelf_49 N x1 x2 x3 z9.2 else f_F_shelf_44 N x1 x2 x3 σ
def f_F_shelf (N : Nat) (x1 : Int32) (x2 : Int32) (x3 : Int32) (σ : jw_M) : Option (Int32 × jw_M) := (f_H_isShelf N x1 σ).bind fun z1 => if z1.1 = 0 then some ((-1), z1.2) else if x2 = 0 then (f_S_isShadow N x3 z1.2).bind fun z5 => if z5.1 = 0 then f_F_shelf_28 N x1 x2 x3 z5.2 else f_F_shelf_49 N x1 x2 x3 z5.2 else f_F_shelf_28 N x1 x2 x3 z1.2
/-! ShadowSchool.taken(II)I -/
def f_F_taken_33 (N : Nat) (x1 : Int32) (x2 : Int32) (σ : jw_M) : Option (Int32 × jw_M) := bif jx_in x1 4 then if (σ.1 129 (x1).toNatClampNeg) = 1 then if (σ.1 131 (x1).toNatClampNeg) = (x2 - 10) then some ((σ.1 130 (x1).toNatClampNeg), σ) else some ((-13), σ) else (f_H_shadowOn N x1 σ).bind fun z13 => (f_S_isShadow N (z13.1) z13.2).bind fun z15 => if z15.1 = 0 then some ((-11), z15.2) else if 5 < x2 then some ((-13), z15.2) else bif jx_in (z13.1) 6 then (f_F_isOrIsUnder N (z15.2.1 2 (z13.1).toNatClampNeg) x2 z15.2).bind fun z20 => if z20.1 = 0 then some ((-13), z20.2) else some (z13.1, z20.2) else none else none
def f_F_taken (N : Nat) (x1 : Int32) (x2 : Int32) (σ : jw_M) : Option (Int32 × jw_M) := (f_H_isShelf N x1 σ).bind fun z1 => if z1.1 = 0 then some ((-1), z1.2) else (f_F_isWithin N x2 0 5 z1.2).bind fun z4 => if z4.1 = 0 then (f_F_isWithin N x2 10 14 z4.2).bind fun z7 => if z7.1 = 0 then some ((-1), z7.2) else f_F_taken_33 N x1 x2 z7.2 else f_F_taken_33 N x1 x2 z4.2
/-! ShadowSchool.act(III)I -/
def f_F_act_176 (N : Nat) (x6 : Int32) (σ : jw_M) : Option (Int32 × jw_M) := if (σ.1 121 8) = 0 then some (x6, σ) else some ((-15), σ)
def f_F_act_126 (N : Nat) (y0 : Int32) (σ : jw_M) : Option (Int32 × jw_M) := f_F_act_176 N y0 σ
def f_F_act_123 (N : Nat) (r_0 : Nat) (y2 : Int32) (σ : jw_M) : Option (Int32 × jw_M) := (if r_0 = 32 then f_Z_Shade_lies N r_0 y2 σ else if r_0 = 33 then f_Z_Joined_lies N y2 σ else if r_0 = 34 then f_Z_Shade_lies N r_0 y2 σ else if r_0 = 35 then f_Z_Coloured_lies N y2 σ else if r_0 = 36 then f_Z_Shade_lies N r_0 y2 σ else if r_0 = 37 then f_Z_Shade_lies N r_0 y2 σ else none).bind fun z12 => f_F_act_126 N (z12.1) z12.2
def f_F_act_141 (N : Nat) (y0 : Int32) (σ : jw_M) : Option (Int32 × jw_M) := f_F_act_176 N y0 σ
def f_F_act_138 (N : Nat) (r_0 : Nat) (y2 : Int32) (σ : jw_M) : Option (Int32 × jw_M) := (if r_0 = 32 then f_Z_Shade_turns N r_0 y2 σ else if r_0 = 33 then f_Z_Shade_turns N r_0 y2 σ else if r_0 = 34 then f_Z_Gifted_turns N r_0 y2 σ else if r_0 = 35 then f_Z_Gifted_turns N r_0 y2 σ else if r_0 = 36 then f_Z_Shade_turns N r_0 y2 σ else if r_0 = 37 then f_Z_Borrowed_turns N y2 σ else none).bind fun z15 => f_F_act_141 N (z15.1) z15.2
def f_F_act_156 (N : Nat) (y0 : Int32) (σ : jw_M) : Option (Int32 × jw_M) := f_F_act_176 N y0 σ
def f_F_act_153 (N : Nat) (r_0 : Nat) (y2 : Int32) (σ : jw_M) : Option (Int32 × jw_M) := (if r_0 = 32 then f_Z_Shade_folds N r_0 y2 σ else if r_0 = 33 then f_Z_Shade_folds N r_0 y2 σ else if r_0 = 34 then f_Z_Shade_folds N r_0 y2 σ else if r_0 = 35 then f_Z_Shade_folds N r_0 y2 σ else if r_0 = 36 then f_Z_Slow_folds N r_0 y2 σ else if r_0 = 37 then f_Z_Borrowed_folds N y2 σ else none).bind fun z17 => f_F_act_156 N (z17.1) z17.2
def f_F_act_171 (N : Nat) (y0 : Int32) (σ : jw_M) : Option (Int32 × jw_M) := f_F_act_176 N y0 σ
def f_F_act_168 (N : Nat) (r_0 : Nat) (y2 : Int32) (σ : jw_M) : Option (Int32 × jw_M) := (if r_0 = 32 then f_Z_Shade_asks N r_0 y2 σ else if r_0 = 33 then f_Z_Shade_asks N r_0 y2 σ else if r_0 = 34 then f_Z_Shade_asks N r_0 y2 σ else if r_0 = 35 then f_Z_Coloured_asks N y2 σ else if r_0 = 36 then f_Z_Shade_asks N r_0 y2 σ else if r_0 = 37 then f_Z_Shade_asks N r_0 y2 σ else none).bind fun z19 => f_F_act_171 N (z19.1) z19.2
def f_F_act_30 (N : Nat) (x2 : Int32) (x3 : Int32) (y0 : Int32) (σ : jw_M) : Option (Int32 × jw_M) := (f_S_isShadow N y0 σ).bind fun z6 => if z6.1 = 0 then some (0, z6.2) else bif jx_in y0 6 then (f_S_thing N y0 (jx_w (jx_w z6.2 121 9 y0) 121 10 ((jx_w z6.2 121 9 y0).1 3 (y0).toNatClampNeg))).bind fun z10 => if x2 = 0 then f_F_act_123 N z10.1 x3 z10.2 else if x2 = 1 then f_F_act_138 N z10.1 x3 z10.2 else if x2 = 2 then f_F_act_153 N z10.1 x3 z10.2 else if x2 = 3 then f_F_act_168 N z10.1 x3 z10.2 else f_F_act_176 N 0 z10.2 else none
def f_F_act (N : Nat) (x1 : Int32) (x2 : Int32) (x3 : Int32) (σ : jw_M) : Option (Int32 × jw_M) := (f_H_clearTrace N  σ).bind fun z1 => (f_H_isShelf N x1 z1).bind fun z3 => if z3.1 = 0 then f_F_act_30 N x2 x3 (-1) z3.2 else (f_H_shadowOn N x1 z3.2).bind fun z25 => f_F_act_30 N x2 x3 (z25.1) z25.2
/-! ShadowSchool.trace(I)I -/
def f_F_trace (N : Nat) (x1 : Int32) (σ : jw_M) : Option (Int32 × jw_M) := (f_F_isWithin N x1 0 ((σ.1 121 7) - 1) σ).bind fun z1 => if z1.1 = 0 then some ((-3), z1.2) else bif jx_in x1 30 then some ((z1.2.1 132 (x1).toNatClampNeg), z1.2) else none
/-! ShadowSchool.many(I)I -/
def f_F_many (N : Nat) (x1 : Int32) (σ : jw_M) : Option (Int32 × jw_M) := if x1 = 0 then some ((σ.1 1 0), σ) else if x1 = 1 then some ((σ.1 19 0), σ) else if x1 = 2 then some ((σ.1 1 5), σ) else if x1 = 3 then some ((σ.1 1 12), σ) else if x1 = 4 then some ((σ.1 92 10), σ) else if x1 = 5 then some ((σ.1 80 0), σ) else if x1 = 6 then some ((σ.1 121 7), σ) else if x1 = 7 then (f_S_howManyQuarrel N  σ).bind fun z1 => some (z1.1, z1.2) else some ((-1), σ)
/-! ShadowSchool.keep()I -/
def f_F_keep (N : Nat) (σ : jw_M) : Option (Int32 × jw_M) := (f_S_copyFrom_38_1 N  σ).bind fun z1 => some (1, (jx_w z1 0 2 (1 : Int32)))
/-! ShadowSchool.again()I -/
def f_F_again (N : Nat) (σ : jw_M) : Option (Int32 × jw_M) := if (σ.1 0 2) = 0 then some ((-3), σ) else (f_S_copyFrom_1_38 N  σ).bind fun z2 => some ((z2.1 1 0), z2)
/-! ShadowSchoolModel.in(III)Z -/
def f_M_in (N : Nat) (x0 : Int32) (x1 : Int32) (x2 : Int32) (σ : jw_M) : Option (Int32 × jw_M) := if x0 < x1 then some (0, σ) else if x2 < x0 then some (0, σ) else some (1, σ)
/-! ShadowSchoolModel.isShadow(I)Z -/
def f_M_isShadow (N : Nat) (x1 : Int32) (σ : jw_M) : Option (Int32 × jw_M) := (f_M_in N x1 0 ((σ.1 3 2) - 1) σ).bind fun z1 => if z1.1 = 0 ∨ z1.1 = 1 then some (z1.1, z1.2) else none
/-! ShadowSchoolModel.isLesson(I)Z -/
def f_M_isLesson (N : Nat) (x1 : Int32) (σ : jw_M) : Option (Int32 × jw_M) := (f_M_in N x1 0 ((σ.1 3 3) - 1) σ).bind fun z1 => if z1.1 = 0 ∨ z1.1 = 1 then some (z1.1, z1.2) else none
/-! ShadowSchoolModel.of(II)I -/
def f_M_of (N : Nat) (x1 : Int32) (x2 : Int32) (σ : jw_M) : Option (Int32 × jw_M) := bif jx_in ((6 + (3 * x1)) + x2) 526 then some ((σ.1 3 (((6 + (3 * x1)) + x2)).toNatClampNeg), σ) else none
/-! ShadowSchoolModel.lessonNumber(II)I -/
def f_M_lessonNumber (N : Nat) (x1 : Int32) (x2 : Int32) (σ : jw_M) : Option (Int32 × jw_M) := bif jx_in ((24 + (5 * x1)) + x2) 526 then some ((σ.1 3 (((24 + (5 * x1)) + x2)).toNatClampNeg), σ) else none
/-! ShadowSchoolModel.ones(I)I -/
def f_M_ones_4 (N : Nat) : Nat → Int32 → Int32 → jw_M → Option (Int32 × jw_M)
  | 0, _, _, _ => none
  | k + 1, x1, x2, σ => if x2 = 0 then some (x1, σ) else f_M_ones_4 N k (x1 + 1) (x2 &&& (x2 - 1)) σ
def f_M_ones (N : Nat) (x0 : Int32) (σ : jw_M) : Option (Int32 × jw_M) := f_M_ones_4 N N 0 x0 σ
/-! ShadowSchoolModel.isOver()Z -/
def f_M_isOver (N : Nat) (σ : jw_M) : Option (Int32 × jw_M) := if (σ.1 1 0) < (σ.1 3 0) then some (0, σ) else some (1, σ)
/-! ShadowSchoolModel.hasLearnt(II)Z -/
def f_M_hasLearnt (N : Nat) (x1 : Int32) (x2 : Int32) (σ : jw_M) : Option (Int32 × jw_M) := bif jx_in (2 + x1) 56 then if (((σ.1 1 ((2 + x1)).toNatClampNeg) >>> (x2 &&& 31)) &&& 1) = 1 then some (1, σ) else some (0, σ) else none
/-! ShadowSchoolModel.pointsOf(II)I -/
def f_M_pointsOf (N : Nat) (x1 : Int32) (x2 : Int32) (σ : jw_M) : Option (Int32 × jw_M) := bif jx_in ((8 + (8 * x1)) + x2) 56 then some ((σ.1 1 (((8 + (8 * x1)) + x2)).toNatClampNeg), σ) else none
/-! ShadowSchoolModel.save(I)V -/
def f_M_save_2 (N : Nat) : Nat → Int32 → Int32 → jw_M → Option jw_M
  | 0, _, _, _ => none
  | k + 1, x1, x2, σ => if 56 ≤ x2 then some σ else bif jx_in x2 56 then bif jx_in ((56 * x1) + x2) 392 then f_M_save_2 N k x1 (x2 + 1) (jx_w σ 2 (((56 * x1) + x2)).toNatClampNeg (σ.1 1 (x2).toNatClampNeg)) else none else none
def f_M_save (N : Nat) (x1 : Int32) (σ : jw_M) : Option jw_M := f_M_save_2 N N x1 0 σ
/-! ShadowSchoolModel.load(I)V -/
def f_M_load_2 (N : Nat) : Nat → Int32 → Int32 → jw_M → Option jw_M
  | 0, _, _, _ => none
  | k + 1, x1, x2, σ => if 56 ≤ x2 then some σ else bif jx_in ((56 * x1) + x2) 392 then bif jx_in x2 56 then f_M_load_2 N k x1 (x2 + 1) (jx_w σ 1 (x2).toNatClampNeg (σ.1 2 (((56 * x1) + x2)).toNatClampNeg)) else none else none
def f_M_load (N : Nat) (x1 : Int32) (σ : jw_M) : Option jw_M := f_M_load_2 N N x1 0 σ
/-! ShadowSchoolModel.paceBy(III)I -/
def f_M_paceBy (N : Nat) (x0 : Int32) (x1 : Int32) (x2 : Int32) (σ : jw_M) : Option (Int32 × jw_M) := if x0 = 1 then if (x2 - x2 / 4 * 4) = 3 then some (0, σ) else some (x1, σ) else if x0 = 2 then if x2 = 6 then some (0, σ) else some ((2 * x1), σ) else if x0 = 3 then if x2 = 6 then some ((0 + 1), σ) else some (((2 * x1) + 1), σ) else if x0 = 4 then some (((x1 / 2) + 1), σ) else if x0 = 5 then some ((((x1 / 2) + 1) + (x2 - x2 / 4 * 4)), σ) else some (x1, σ)
/-! ShadowSchoolModel.far(II)I -/
def f_M_far (N : Nat) (x0 : Int32) (x1 : Int32) (σ : jw_M) : Option (Int32 × jw_M) := if x1 ≤ x0 then some ((x0 - x1), σ) else some ((x1 - x0), σ)
/-! ShadowSchoolModel.lengthBy(III)I -/
def f_M_lengthBy (N : Nat) (x0 : Int32) (x1 : Int32) (x2 : Int32) (σ : jw_M) : Option (Int32 × jw_M) := if x0 = 3 then (f_M_far N x2 6 σ).bind fun z1 => if 0 ≤ ((x1 * z1.1) - 2) then some (((x1 * z1.1) - 2), z1.2) else some (0, z1.2) else if x0 = 4 then (f_M_far N x2 7 σ).bind fun z4 => some ((x1 * z4.1), z4.2) else if x0 = 5 then (f_M_far N x2 7 σ).bind fun z6 => some (((x1 * z6.1) + 3), z6.2) else (f_M_far N x2 6 σ).bind fun z8 => some ((x1 * z8.1), z8.2)
/-! ShadowSchoolModel.isUnder(II)Z -/
def f_M_isUnder_29 (N : Nat) (σ : jw_M) : Option (Int32 × jw_M) := some (1, σ)
def f_M_isUnder_19 (N : Nat) (x0 : Int32) (x1 : Int32) (σ : jw_M) : Option (Int32 × jw_M) := if x1 = 4 then if x0 = 5 then f_M_isUnder_29 N  σ else some (0, σ) else some (0, σ)
def f_M_isUnder (N : Nat) (x0 : Int32) (x1 : Int32) (σ : jw_M) : Option (Int32 × jw_M) := if x1 = 0 then f_M_isUnder_29 N  σ else if x1 = x0 then f_M_isUnder_29 N  σ else if x1 = 2 then if x0 = 3 then f_M_isUnder_29 N  σ else f_M_isUnder_19 N x0 x1 σ else f_M_isUnder_19 N x0 x1 σ
/-! ShadowSchoolModel.shadow(III)I -/
def f_M_shadow_120 (N : Nat) : Nat → Int32 → Int32 → jw_M → Option (Int32 × jw_M)
  | 0, _, _, _ => none
  | k + 1, x4, x5, σ => if 8 ≤ x5 then some (x4, (jx_w σ 3 2 ((σ.1 3 2) + 1))) else bif jx_in ((8 + (8 * x4)) + x5) 56 then f_M_shadow_120 N k x4 (x5 + 1) (jx_w σ 1 (((8 + (8 * x4)) + x5)).toNatClampNeg (0 : Int32)) else none
def f_M_shadow (N : Nat) (x1 : Int32) (x2 : Int32) (x3 : Int32) (σ : jw_M) : Option (Int32 × jw_M) := (f_M_in N x1 1 5 σ).bind fun z1 => if z1.1 = 0 then some ((-1), z1.2) else (f_M_in N x2 1 9 z1.2).bind fun z4 => if z4.1 = 0 then some ((-1), z4.2) else (f_M_in N x3 1 9 z4.2).bind fun z7 => if z7.1 = 0 then some ((-1), z7.2) else if (z7.2.1 3 2) = 6 then some ((-2), z7.2) else bif jx_in (6 + (3 * (z7.2.1 3 2))) 526 then bif jx_in ((6 + (3 * (z7.2.1 3 2))) + 1) 526 then bif jx_in ((6 + (3 * (z7.2.1 3 2))) + 2) 526 then bif jx_in (64 + (z7.2.1 3 2)) 526 then bif jx_in (2 + (z7.2.1 3 2)) 56 then f_M_shadow_120 N N (z7.2.1 3 2) 0 (jx_w (jx_w (jx_w (jx_w (jx_w z7.2 3 ((6 + (3 * (z7.2.1 3 2)))).toNatClampNeg x1) 3 (((6 + (3 * (z7.2.1 3 2))) + 1)).toNatClampNeg x2) 3 (((6 + (3 * (z7.2.1 3 2))) + 2)).toNatClampNeg x3) 3 ((64 + (z7.2.1 3 2))).toNatClampNeg (0 : Int32)) 1 ((2 + (z7.2.1 3 2))).toNatClampNeg (0 : Int32)) else none else none else none else none else none
/-! ShadowSchoolModel.emptySeats()V -/
def f_M_emptySeats_2 (N : Nat) : Nat → Int32 → jw_M → Option jw_M
  | 0, _, _ => none
  | k + 1, x1, σ => if 8 ≤ x1 then some σ else bif jx_in x1 8 then f_M_emptySeats_2 N k (x1 + 1) (jx_w σ 10 (x1).toNatClampNeg (0 : Int32)) else none
def f_M_emptySeats (N : Nat) (σ : jw_M) : Option jw_M := f_M_emptySeats_2 N N 0 σ
/-! ShadowSchoolModel.isOpen(II)Z -/
def f_M_isOpen_29 (N : Nat) (x2 : Int32) (σ : jw_M) : Option (Int32 × jw_M) := (f_M_lessonNumber N x2 2 σ).bind fun z7 => (f_M_lessonNumber N x2 3 z7.2).bind fun z9 => (f_M_in N (σ.1 1 0) (z7.1) (z9.1) z9.2).bind fun z11 => if z11.1 = 0 then some (0, z11.2) else bif jx_in x2 8 then (f_M_lessonNumber N x2 4 z11.2).bind fun z15 => if z15.1 ≤ (z11.2.1 10 (x2).toNatClampNeg) then some (0, z15.2) else some (1, z15.2) else none
def f_M_isOpen (N : Nat) (x1 : Int32) (x2 : Int32) (σ : jw_M) : Option (Int32 × jw_M) := (f_M_lessonNumber N x2 1 σ).bind fun z1 => (f_M_hasLearnt N x1 x2 z1.2).bind fun z3 => if z3.1 = 0 then if z1.1 < 0 then f_M_isOpen_29 N x2 z3.2 else (f_M_hasLearnt N x1 (z1.1) z3.2).bind fun z18 => if z18.1 = 0 then some (0, z18.2) else f_M_isOpen_29 N x2 z18.2 else some (0, z3.2)
/-! ShadowSchoolModel.factOf(II)I -/
def f_M_factOf (N : Nat) (x1 : Int32) (x2 : Int32) (σ : jw_M) : Option (Int32 × jw_M) := if x2 = 0 then some ((σ.1 1 0), σ) else if x2 = 1 then bif jx_in (2 + x1) 56 then (f_M_ones N (σ.1 1 ((2 + x1)).toNatClampNeg) σ).bind fun z2 => some (z2.1, z2.2) else none else if x2 = 2 then (f_M_of N x1 1 σ).bind fun z4 => some (z4.1, z4.2) else if x2 = 3 then (f_M_of N x1 2 σ).bind fun z6 => some (z6.1, z6.2) else some (x1, σ)
/-! ShadowSchoolModel.told(Z)I -/
def f_M_told (N : Nat) (x0 : Int32) (σ : jw_M) : Option (Int32 × jw_M) := if x0 = 0 then some (0, σ) else some (1, σ)
/-! ShadowSchoolModel.joined(IIII)I -/
def f_M_joined_76 (N : Nat) (y0 : Int32) (σ : jw_M) : Option (Int32 × jw_M) := (f_M_told N y0 σ).bind fun z3 => some (z3.1, z3.2)
def f_M_joined (N : Nat) (x0 : Int32) (x1 : Int32) (x2 : Int32) (x3 : Int32) (σ : jw_M) : Option (Int32 × jw_M) := if x0 = 2 then if x1 = 60 then if x3 ≤ x2 then f_M_joined_76 N 0 σ else f_M_joined_76 N 1 σ else if x1 = 61 then if x2 = x3 then f_M_joined_76 N 1 σ else f_M_joined_76 N 0 σ else if x2 ≤ x3 then f_M_joined_76 N 0 σ else f_M_joined_76 N 1 σ else if x0 = 4 then some ((x2 &&& x3), σ) else some ((x2 ||| x3), σ)
/-! ShadowSchoolModel.holds(II)Z -/
def f_M_holds_195 (N : Nat) (σ : jw_M) : Option (Int32 × jw_M) := some (1, σ)
def f_M_holds_174 (N : Nat) (K35 : Int32 → Int32 → Int32 → Int32 → Int32 → jw_M → Option (Int32 × jw_M)) (x2 : Int32) (x3 : Int32) (x4 : Int32) (x5 : Int32) (x6 : Int32) (σ : jw_M) : Option (Int32 × jw_M) := K35 x2 x3 x4 x5 (x6 + 1) σ
def f_M_holds_103 (N : Nat) (K35 : Int32 → Int32 → Int32 → Int32 → Int32 → jw_M → Option (Int32 × jw_M)) (x2 : Int32) (x3 : Int32) (x4 : Int32) (x5 : Int32) (x6 : Int32) (y1 : Int32) (y2 : Int32) (σ : jw_M) : Option (Int32 × jw_M) := bif jx_in y1 200 then f_M_holds_174 N K35 x2 x3 x4 (x5 + 1) x6 (jx_w σ 9 (y1).toNatClampNeg y2) else none
def f_M_holds_35 (N : Nat) : Nat → Int32 → Int32 → Int32 → Int32 → Int32 → jw_M → Option (Int32 × jw_M)
  | 0, _, _, _, _, _, _ => none
  | k + 1, x2, x3, x4, x5, x6, σ => if (x3 + x4) ≤ x6 then if x4 = 0 then f_M_holds_195 N  σ else if (σ.1 9 0) = 1 then f_M_holds_195 N  σ else some (0, σ) else bif jx_in (126 + (2 * x6)) 526 then bif jx_in ((126 + (2 * x6)) + 1) 526 then if 1 < (σ.1 3 ((126 + (2 * x6))).toNatClampNeg) then if (σ.1 3 ((126 + (2 * x6))).toNatClampNeg) = 3 then bif jx_in (x5 - 1) 200 then f_M_holds_174 N (f_M_holds_35 N k) x2 x3 x4 x5 x6 (jx_w σ 9 ((x5 - 1)).toNatClampNeg (1 - (σ.1 9 ((x5 - 1)).toNatClampNeg))) else none else bif jx_in ((x5 + (-1)) - 1) 200 then bif jx_in (x5 + (-1)) 200 then (f_M_joined N (σ.1 3 ((126 + (2 * x6))).toNatClampNeg) (σ.1 3 (((126 + (2 * x6)) + 1)).toNatClampNeg) (σ.1 9 (((x5 + (-1)) - 1)).toNatClampNeg) (σ.1 9 ((x5 + (-1))).toNatClampNeg) σ).bind fun z13 => f_M_holds_174 N (f_M_holds_35 N k) x2 x3 x4 (x5 + (-1)) x6 (jx_w z13.2 9 (((x5 + (-1)) - 1)).toNatClampNeg z13.1) else none else none else if (σ.1 3 ((126 + (2 * x6))).toNatClampNeg) = 0 then f_M_holds_103 N (f_M_holds_35 N k) x2 x3 x4 x5 x6 x5 (σ.1 3 (((126 + (2 * x6)) + 1)).toNatClampNeg) σ else (f_M_factOf N x2 (σ.1 3 (((126 + (2 * x6)) + 1)).toNatClampNeg) σ).bind fun z17 => f_M_holds_103 N (f_M_holds_35 N k) x2 x3 x4 x5 x6 x5 (z17.1) z17.2 else none else none
def f_M_holds (N : Nat) (x1 : Int32) (x2 : Int32) (σ : jw_M) : Option (Int32 × jw_M) := bif jx_in ((94 + (4 * x1)) + 2) 526 then bif jx_in ((94 + (4 * x1)) + 3) 526 then f_M_holds_35 N N x2 (σ.1 3 (((94 + (4 * x1)) + 2)).toNatClampNeg) (σ.1 3 (((94 + (4 * x1)) + 3)).toNatClampNeg) 0 (σ.1 3 (((94 + (4 * x1)) + 2)).toNatClampNeg) σ else none else none
/-! ShadowSchoolModel.ruleFor(I)I -/
def f_M_ruleFor_58 (N : Nat) (K2 : Int32 → Int32 → jw_M → Option (Int32 × jw_M)) (x1 : Int32) (x2 : Int32) (σ : jw_M) : Option (Int32 × jw_M) := K2 x1 (x2 + 1) σ
def f_M_ruleFor_2 (N : Nat) : Nat → Int32 → Int32 → jw_M → Option (Int32 × jw_M)
  | 0, _, _, _ => none
  | k + 1, x1, x2, σ => if (σ.1 3 4) ≤ x2 then some ((-1), σ) else (f_M_of N x1 0 σ).bind fun z2 => bif jx_in (94 + (4 * x2)) 526 then (f_M_isUnder N (z2.1) (z2.2.1 3 ((94 + (4 * x2))).toNatClampNeg) z2.2).bind fun z5 => if z5.1 = 0 then f_M_ruleFor_58 N (f_M_ruleFor_2 N k) x1 x2 z5.2 else (f_M_holds N x2 x1 z5.2).bind fun z8 => if z8.1 = 0 then f_M_ruleFor_58 N (f_M_ruleFor_2 N k) x1 x2 z8.2 else bif jx_in ((94 + (4 * x2)) + 1) 526 then some ((z8.2.1 3 (((94 + (4 * x2)) + 1)).toNatClampNeg), z8.2) else none else none
def f_M_ruleFor (N : Nat) (x1 : Int32) (σ : jw_M) : Option (Int32 × jw_M) := f_M_ruleFor_2 N N x1 0 σ
/-! ShadowSchoolModel.lacks(II)I -/
def f_M_lacks (N : Nat) (x1 : Int32) (x2 : Int32) (σ : jw_M) : Option (Int32 × jw_M) := (f_M_lessonNumber N x2 0 σ).bind fun z1 => (f_M_pointsOf N x1 x2 z1.2).bind fun z3 => some ((z1.1 - z3.1), z3.2)
/-! ShadowSchoolModel.choiceOf(I)I -/
def f_M_choiceOf_91 (N : Nat) (K12 : Int32 → Int32 → Int32 → Int32 → jw_M → Option (Int32 × jw_M)) (x1 : Int32) (x2 : Int32) (x3 : Int32) (x4 : Int32) (σ : jw_M) : Option (Int32 × jw_M) := K12 x1 x2 x3 (x4 + 1) σ
def f_M_choiceOf_90 (N : Nat) (K12 : Int32 → Int32 → Int32 → Int32 → jw_M → Option (Int32 × jw_M)) (x1 : Int32) (x2 : Int32) (x4 : Int32) (y0 : Int32) (σ : jw_M) : Option (Int32 × jw_M) := f_M_choiceOf_91 N K12 x1 x2 y0 x4 σ
def f_M_choiceOf_77 (N : Nat) (K12 : Int32 → Int32 → Int32 → Int32 → jw_M → Option (Int32 × jw_M)) (x1 : Int32) (x2 : Int32) (x3 : Int32) (x4 : Int32) (y0 : Int32) (σ : jw_M) : Option (Int32 × jw_M) := if y0 = 0 then f_M_choiceOf_90 N K12 x1 x2 x4 x3 σ else f_M_choiceOf_90 N K12 x1 x2 x4 x4 σ
def f_M_choiceOf_72 (N : Nat) (K12 : Int32 → Int32 → Int32 → Int32 → jw_M → Option (Int32 × jw_M)) (x1 : Int32) (x2 : Int32) (x3 : Int32) (x4 : Int32) (σ : jw_M) : Option (Int32 × jw_M) := f_M_choiceOf_77 N K12 x1 x2 x3 x4 1 σ
def f_M_choiceOf_76 (N : Nat) (K12 : Int32 → Int32 → Int32 → Int32 → jw_M → Option (Int32 × jw_M)) (x1 : Int32) (x2 : Int32) (x3 : Int32) (x4 : Int32) (σ : jw_M) : Option (Int32 × jw_M) := f_M_choiceOf_77 N K12 x1 x2 x3 x4 0 σ
def f_M_choiceOf_12 (N : Nat) : Nat → Int32 → Int32 → Int32 → Int32 → jw_M → Option (Int32 × jw_M)
  | 0, _, _, _, _, _ => none
  | k + 1, x1, x2, x3, x4, σ => if (σ.1 3 3) ≤ x4 then some (x3, σ) else if x2 = 2 then some (x3, σ) else (f_M_isOpen N x1 x4 σ).bind fun z5 => if z5.1 = 0 then f_M_choiceOf_91 N (f_M_choiceOf_12 N k) x1 x2 x3 x4 z5.2 else if x3 = 8 then f_M_choiceOf_72 N (f_M_choiceOf_12 N k) x1 x2 x3 x4 z5.2 else if x2 = 0 then f_M_choiceOf_72 N (f_M_choiceOf_12 N k) x1 x2 x3 x4 z5.2 else if x2 = 1 then (f_M_lacks N x1 x4 z5.2).bind fun z12 => (f_M_lacks N x1 x3 z12.2).bind fun z14 => if z14.1 ≤ z12.1 then f_M_choiceOf_76 N (f_M_choiceOf_12 N k) x1 x2 x3 x4 z14.2 else f_M_choiceOf_72 N (f_M_choiceOf_12 N k) x1 x2 x3 x4 z14.2 else f_M_choiceOf_76 N (f_M_choiceOf_12 N k) x1 x2 x3 x4 z5.2
def f_M_choiceOf (N : Nat) (x1 : Int32) (σ : jw_M) : Option (Int32 × jw_M) := (f_M_ruleFor N x1 σ).bind fun z1 => f_M_choiceOf_12 N N x1 (z1.1) 8 0 z1.2
/-! ShadowSchoolModel.shadowOf(II)I -/
def f_M_shadowOf (N : Nat) (x1 : Int32) (x2 : Int32) (σ : jw_M) : Option (Int32 × jw_M) := (f_M_isShadow N x1 σ).bind fun z1 => if z1.1 = 0 then some ((-1), z1.2) else (f_M_in N x2 0 6 z1.2).bind fun z4 => if z4.1 = 0 then some ((-1), z4.2) else if x2 = 3 then bif jx_in (2 + x1) 56 then (f_M_ones N (z4.2.1 1 ((2 + x1)).toNatClampNeg) z4.2).bind fun z8 => some (z8.1, z8.2) else none else if x2 = 4 then (f_M_of N x1 0 z4.2).bind fun z10 => (f_M_of N x1 1 z10.2).bind fun z12 => (f_M_paceBy N (z10.1) (z12.1) (z12.2.1 1 0) z12.2).bind fun z14 => some (z14.1, z14.2) else if x2 = 5 then (f_M_emptySeats N  z4.2).bind fun z16 => (f_M_choiceOf N x1 z16).bind fun z18 => some (z18.1, z18.2) else if x2 = 6 then (f_M_of N x1 0 z4.2).bind fun z20 => (f_M_of N x1 2 z20.2).bind fun z22 => (f_M_lengthBy N (z20.1) (z22.1) (z22.2.1 1 0) z22.2).bind fun z24 => some (z24.1, z24.2) else (f_M_of N x1 x2 z4.2).bind fun z26 => some (z26.1, z26.2)
/-! ShadowSchoolModel.becomes(II)I -/
def f_M_becomes (N : Nat) (x1 : Int32) (x2 : Int32) (σ : jw_M) : Option (Int32 × jw_M) := bif jx_in x1 526 then some ((σ.1 3 (x1).toNatClampNeg), (jx_w σ 3 (x1).toNatClampNeg x2)) else none
/-! ShadowSchoolModel.change(III)I -/
def f_M_change (N : Nat) (x1 : Int32) (x2 : Int32) (x3 : Int32) (σ : jw_M) : Option (Int32 × jw_M) := (f_M_isShadow N x1 σ).bind fun z1 => if z1.1 = 0 then some ((-1), z1.2) else (f_M_in N x2 1 2 z1.2).bind fun z4 => if z4.1 = 0 then some ((-1), z4.2) else (f_M_in N x3 1 9 z4.2).bind fun z7 => if z7.1 = 0 then some ((-1), z7.2) else (f_M_becomes N ((6 + (3 * x1)) + x2) x3 z7.2).bind fun z10 => some (z10.1, z10.2)
/-! ShadowSchoolModel.remake(II)I -/
def f_M_remake (N : Nat) (x1 : Int32) (x2 : Int32) (σ : jw_M) : Option (Int32 × jw_M) := (f_M_isShadow N x1 σ).bind fun z1 => if z1.1 = 0 then some ((-1), z1.2) else (f_M_in N x2 1 5 z1.2).bind fun z4 => if z4.1 = 0 then some ((-1), z4.2) else (f_M_becomes N (6 + (3 * x1)) x2 z4.2).bind fun z7 => some (z7.1, z7.2)
/-! ShadowSchoolModel.lesson(IIIII)I -/
def f_M_lesson (N : Nat) (x1 : Int32) (x2 : Int32) (x3 : Int32) (x4 : Int32) (x5 : Int32) (σ : jw_M) : Option (Int32 × jw_M) := (f_M_in N x1 1 20 σ).bind fun z1 => if z1.1 = 0 then some ((-1), z1.2) else (f_M_in N x2 (-1) ((z1.2.1 3 3) - 1) z1.2).bind fun z4 => if z4.1 = 0 then some ((-1), z4.2) else (f_M_in N x3 0 15 z4.2).bind fun z7 => if z7.1 = 0 then some ((-1), z7.2) else (f_M_in N x4 x3 15 z7.2).bind fun z10 => if z10.1 = 0 then some ((-1), z10.2) else (f_M_in N x5 1 6 z10.2).bind fun z13 => if z13.1 = 0 then some ((-1), z13.2) else if (z13.2.1 3 3) = 8 then some ((-2), z13.2) else bif jx_in (24 + (5 * (z13.2.1 3 3))) 526 then bif jx_in ((24 + (5 * (z13.2.1 3 3))) + 1) 526 then bif jx_in ((24 + (5 * (z13.2.1 3 3))) + 2) 526 then bif jx_in ((24 + (5 * (z13.2.1 3 3))) + 3) 526 then bif jx_in ((24 + (5 * (z13.2.1 3 3))) + 4) 526 then some ((((jx_w (jx_w (jx_w (jx_w (jx_w (jx_w z13.2 3 ((24 + (5 * (z13.2.1 3 3)))).toNatClampNeg x1) 3 (((24 + (5 * (z13.2.1 3 3))) + 1)).toNatClampNeg x2) 3 (((24 + (5 * (z13.2.1 3 3))) + 2)).toNatClampNeg x3) 3 (((24 + (5 * (z13.2.1 3 3))) + 3)).toNatClampNeg x4) 3 (((24 + (5 * (z13.2.1 3 3))) + 4)).toNatClampNeg x5) 3 3 (((jx_w (jx_w (jx_w (jx_w (jx_w z13.2 3 ((24 + (5 * (z13.2.1 3 3)))).toNatClampNeg x1) 3 (((24 + (5 * (z13.2.1 3 3))) + 1)).toNatClampNeg x2) 3 (((24 + (5 * (z13.2.1 3 3))) + 2)).toNatClampNeg x3) 3 (((24 + (5 * (z13.2.1 3 3))) + 3)).toNatClampNeg x4) 3 (((24 + (5 * (z13.2.1 3 3))) + 4)).toNatClampNeg x5).1 3 3) + 1)).1 3 3) - 1), (jx_w (jx_w (jx_w (jx_w (jx_w (jx_w z13.2 3 ((24 + (5 * (z13.2.1 3 3)))).toNatClampNeg x1) 3 (((24 + (5 * (z13.2.1 3 3))) + 1)).toNatClampNeg x2) 3 (((24 + (5 * (z13.2.1 3 3))) + 2)).toNatClampNeg x3) 3 (((24 + (5 * (z13.2.1 3 3))) + 3)).toNatClampNeg x4) 3 (((24 + (5 * (z13.2.1 3 3))) + 4)).toNatClampNeg x5) 3 3 (((jx_w (jx_w (jx_w (jx_w (jx_w z13.2 3 ((24 + (5 * (z13.2.1 3 3)))).toNatClampNeg x1) 3 (((24 + (5 * (z13.2.1 3 3))) + 1)).toNatClampNeg x2) 3 (((24 + (5 * (z13.2.1 3 3))) + 2)).toNatClampNeg x3) 3 (((24 + (5 * (z13.2.1 3 3))) + 3)).toNatClampNeg x4) 3 (((24 + (5 * (z13.2.1 3 3))) + 4)).toNatClampNeg x5).1 3 3) + 1))) else none else none else none else none else none
/-! ShadowSchoolModel.learntBy(I)I -/
def f_M_learntBy_29 (N : Nat) (K4 : Int32 → Int32 → Int32 → jw_M → Option (Int32 × jw_M)) (x1 : Int32) (x3 : Int32) (y0 : Int32) (y1 : Int32) (σ : jw_M) : Option (Int32 × jw_M) := K4 x1 (y0 + y1) (x3 + 1) σ
def f_M_learntBy_4 (N : Nat) : Nat → Int32 → Int32 → Int32 → jw_M → Option (Int32 × jw_M)
  | 0, _, _, _, _ => none
  | k + 1, x1, x2, x3, σ => if (σ.1 3 2) ≤ x3 then some (x2, σ) else (f_M_hasLearnt N x3 x1 σ).bind fun z2 => if z2.1 = 0 then f_M_learntBy_29 N (f_M_learntBy_4 N k) x1 x3 x2 0 z2.2 else f_M_learntBy_29 N (f_M_learntBy_4 N k) x1 x3 x2 1 z2.2
def f_M_learntBy (N : Nat) (x1 : Int32) (σ : jw_M) : Option (Int32 × jw_M) := f_M_learntBy_4 N N x1 0 0 σ
/-! ShadowSchoolModel.lessonOf(II)I -/
def f_M_lessonOf (N : Nat) (x1 : Int32) (x2 : Int32) (σ : jw_M) : Option (Int32 × jw_M) := (f_M_isLesson N x1 σ).bind fun z1 => if z1.1 = 0 then some ((-1), z1.2) else (f_M_in N x2 0 5 z1.2).bind fun z4 => if z4.1 = 0 then some ((-1), z4.2) else if 5 ≤ x2 then (f_M_learntBy N x1 z4.2).bind fun z8 => some (z8.1, z8.2) else (f_M_lessonNumber N x1 x2 z4.2).bind fun z10 => some (z10.1, z10.2)
/-! ShadowSchoolModel.points(II)I -/
def f_M_points (N : Nat) (x1 : Int32) (x2 : Int32) (σ : jw_M) : Option (Int32 × jw_M) := (f_M_isShadow N x1 σ).bind fun z1 => if z1.1 = 0 then some ((-1), z1.2) else (f_M_isLesson N x2 z1.2).bind fun z4 => if z4.1 = 0 then some ((-1), z4.2) else (f_M_pointsOf N x1 x2 z4.2).bind fun z7 => some (z7.1, z7.2)
/-! ShadowSchoolModel.dusk(I)I -/
def f_M_dusk (N : Nat) (x1 : Int32) (σ : jw_M) : Option (Int32 × jw_M) := (f_M_in N x1 1 16 σ).bind fun z1 => if z1.1 = 0 then some ((-1), z1.2) else if (z1.2.1 1 0) ≤ x1 then (f_M_becomes N 0 x1 z1.2).bind fun z5 => some (z5.1, z5.2) else some ((-4), z1.2)
/-! ShadowSchoolModel.anew()I -/
def f_M_anew_9 (N : Nat) : Nat → Int32 → Int32 → jw_M → Option (Int32 × jw_M)
  | 0, _, _, _ => none
  | k + 1, x1, x2, σ => if 56 ≤ x2 then some (x1, σ) else bif jx_in x2 56 then f_M_anew_9 N k x1 (x2 + 1) (jx_w σ 1 (x2).toNatClampNeg (0 : Int32)) else none
def f_M_anew (N : Nat) (σ : jw_M) : Option (Int32 × jw_M) := f_M_anew_9 N N (σ.1 1 0) 0 σ
/-! ShadowSchoolModel.state(I)I -/
def f_M_state (N : Nat) (x1 : Int32) (σ : jw_M) : Option (Int32 × jw_M) := if x1 = 0 then some ((σ.1 1 0), σ) else if x1 = 1 then some ((σ.1 3 0), σ) else if x1 = 2 then some ((σ.1 1 1), σ) else if x1 = 3 then (f_M_isOver N  σ).bind fun z1 => if z1.1 = 0 then some (0, z1.2) else some (1, z1.2) else some ((-1), σ)
/-! ShadowSchoolModel.feed(JI)I -/
def f_M_feed_30 (N : Nat) : Nat → Int64 → Int32 → Int32 → jw_M → Option (Int32 × jw_M)
  | 0, _, _, _, _ => none
  | k + 1, x1, x3, x4, σ => if x3 ≤ x4 then some ((σ.1 0 7), σ) else bif jx_in (σ.1 0 7) 200 then f_M_feed_30 N k (x1) x3 (x4 + 1) (jx_w (jx_w σ 6 ((σ.1 0 7)).toNatClampNeg (((((x1 : Int64) >>> ((8 * x4).toInt64 &&& 63)) : Int64) &&& 255)).toInt32) 0 7 (((jx_w σ 6 ((σ.1 0 7)).toNatClampNeg (((((x1 : Int64) >>> ((8 * x4).toInt64 &&& 63)) : Int64) &&& 255)).toInt32).1 0 7) + 1)) else none
def f_M_feed (N : Nat) (x1 : Int64) (x3 : Int32) (σ : jw_M) : Option (Int32 × jw_M) := (f_M_in N x3 1 8 σ).bind fun z1 => if z1.1 = 0 then some ((-1), z1.2) else if ((z1.2.1 0 7) + x3) ≤ 200 then f_M_feed_30 N N (x1) x3 0 z1.2 else some ((-2), z1.2)
/-! ShadowSchoolModel.byteAt(I)I -/
def f_M_byteAt (N : Nat) (x1 : Int32) (σ : jw_M) : Option (Int32 × jw_M) := if (σ.1 0 7) ≤ x1 then some ((-1), σ) else bif jx_in x1 200 then some ((σ.1 6 (x1).toNatClampNeg), σ) else none
/-! ShadowSchoolModel.isLetter(I)Z -/
def f_M_isLetter (N : Nat) (x0 : Int32) (σ : jw_M) : Option (Int32 × jw_M) := (f_M_in N x0 97 122 σ).bind fun z1 => if z1.1 = 0 ∨ z1.1 = 1 then some (z1.1, z1.2) else none
/-! ShadowSchoolModel.isDigit(I)Z -/
def f_M_isDigit (N : Nat) (x0 : Int32) (σ : jw_M) : Option (Int32 × jw_M) := (f_M_in N x0 48 57 σ).bind fun z1 => if z1.1 = 0 ∨ z1.1 = 1 then some (z1.1, z1.2) else none
/-! ShadowSchoolModel.advance()V -/
def f_M_advance_266 (N : Nat) (K207 : jw_M → Option jw_M) (y1 : Int32) (σ : jw_M) : Option jw_M := K207  (jx_w (jx_w σ 0 12 y1) 0 10 (((jx_w σ 0 12 y1).1 0 10) + 1))
def f_M_advance_207 (N : Nat) : Nat → jw_M → Option jw_M
  | 0, _ => none
  | k + 1, σ => if (σ.1 0 8) = 2 then (f_M_byteAt N (σ.1 0 10) σ).bind fun z22 => (f_M_isDigit N (z22.1) z22.2).bind fun z24 => if z24.1 = 0 then some z24.2 else if 4 ≤ ((z24.2.1 0 10) - (z24.2.1 0 9)) then f_M_advance_266 N (f_M_advance_207 N k) (-1) z24.2 else (f_M_byteAt N (z24.2.1 0 10) z24.2).bind fun z28 => f_M_advance_266 N (f_M_advance_207 N k) (((10 * (z24.2.1 0 12)) + z28.1) - 48) z28.2 else some σ
def f_M_advance_191 (N : Nat) (K126 : jw_M → Option jw_M) (y1 : Int64) (σ : jw_M) : Option jw_M := K126  (jx_w (jx_wl σ 0 11 y1) 0 10 (((jx_wl σ 0 11 y1).1 0 10) + 1))
def f_M_advance_126 (N : Nat) : Nat → jw_M → Option jw_M
  | 0, _ => none
  | k + 1, σ => if (σ.1 0 8) = 1 then (f_M_byteAt N (σ.1 0 10) σ).bind fun z16 => (f_M_isLetter N (z16.1) z16.2).bind fun z18 => if z18.1 = 0 then f_M_advance_207 N N  z18.2 else if 8 ≤ ((z18.2.1 0 10) - (z18.2.1 0 9)) then f_M_advance_191 N (f_M_advance_126 N k) ((-1)) z18.2 else (f_M_byteAt N (z18.2.1 0 10) z18.2).bind fun z31 => f_M_advance_191 N (f_M_advance_126 N k) (((((((27 : Int64) * (z18.2.2 0 11)) : Int64) + (z31.1).toInt64) : Int64) - 96)) z31.2 else f_M_advance_207 N N  σ
def f_M_advance_105 (N : Nat) (y1 : Int32) (σ : jw_M) : Option jw_M := if ((jx_w σ 0 12 y1).1 0 8) = 3 then f_M_advance_126 N N  (jx_w (jx_w σ 0 12 y1) 0 10 (((jx_w σ 0 12 y1).1 0 10) + 1)) else f_M_advance_126 N N  (jx_w σ 0 12 y1)
def f_M_advance_83 (N : Nat) (x1 : Int32) (y1 : Int32) (σ : jw_M) : Option jw_M := if ((jx_wl (jx_w σ 0 8 y1) 0 11 0).1 0 8) = 2 then f_M_advance_105 N 0 (jx_wl (jx_w σ 0 8 y1) 0 11 0) else f_M_advance_105 N x1 (jx_wl (jx_w σ 0 8 y1) 0 11 0)
def f_M_advance_8 (N : Nat) : Nat → jw_M → Option jw_M
  | 0, _ => none
  | k + 1, σ => (f_M_byteAt N (σ.1 0 9) σ).bind fun z1 => if z1.1 = 32 then f_M_advance_8 N k  (jx_w z1.2 0 9 ((z1.2.1 0 9) + 1)) else (f_M_byteAt N ((jx_w z1.2 0 10 (z1.2.1 0 9)).1 0 9) (jx_w z1.2 0 10 (z1.2.1 0 9))).bind fun z4 => if 0 ≤ z4.1 then (f_M_isLetter N (z4.1) z4.2).bind fun z7 => if z7.1 = 0 then (f_M_isDigit N (z4.1) z7.2).bind fun z10 => if z10.1 = 0 then f_M_advance_83 N (z4.1) 3 z10.2 else f_M_advance_83 N (z4.1) 2 z10.2 else f_M_advance_83 N (z4.1) 1 z7.2 else f_M_advance_83 N (z4.1) 0 z4.2
def f_M_advance (N : Nat) (σ : jw_M) : Option jw_M := f_M_advance_8 N N  (jx_w σ 0 9 (σ.1 0 10))
/-! ShadowSchoolModel.isWord(J)Z -/
def f_M_isWord (N : Nat) (x1 : Int64) (σ : jw_M) : Option (Int32 × jw_M) := if (σ.1 0 8) = 1 then if (lg_cmp (σ.2 0 11) x1) = 0 then some (1, σ) else some (0, σ) else some (0, σ)
/-! ShadowSchoolModel.isMark(I)Z -/
def f_M_isMark (N : Nat) (x1 : Int32) (σ : jw_M) : Option (Int32 × jw_M) := if (σ.1 0 8) = 3 then if (σ.1 0 12) = x1 then some (1, σ) else some (0, σ) else some (0, σ)
/-! ShadowSchoolModel.step(II)V -/
def f_M_step (N : Nat) (x1 : Int32) (x2 : Int32) (σ : jw_M) : Option jw_M := bif jx_in (2 * (σ.1 0 16)) 400 then bif jx_in ((2 * ((jx_w σ 8 ((2 * (σ.1 0 16))).toNatClampNeg x1).1 0 16)) + 1) 400 then some (jx_w (jx_w (jx_w σ 8 ((2 * (σ.1 0 16))).toNatClampNeg x1) 8 (((2 * ((jx_w σ 8 ((2 * (σ.1 0 16))).toNatClampNeg x1).1 0 16)) + 1)).toNatClampNeg x2) 0 16 (((jx_w (jx_w σ 8 ((2 * (σ.1 0 16))).toNatClampNeg x1) 8 (((2 * ((jx_w σ 8 ((2 * (σ.1 0 16))).toNatClampNeg x1).1 0 16)) + 1)).toNatClampNeg x2).1 0 16) + 1)) else none else none
/-! ShadowSchoolModel.kindSeen()I -/
def f_M_kindSeen (N : Nat) (σ : jw_M) : Option (Int32 × jw_M) := (f_M_isWord N 276903788 σ).bind fun z1 => if z1.1 = 0 then (f_M_isWord N 151648177 z1.2).bind fun z4 => if z4.1 = 0 then (f_M_isWord N 105358135 z4.2).bind fun z7 => if z7.1 = 0 then (f_M_isWord N 37372952047 z7.2).bind fun z10 => if z10.1 = 0 then (f_M_isWord N 383153 z10.2).bind fun z13 => if z13.1 = 0 then (f_M_isWord N 27000172156 z13.2).bind fun z16 => if z16.1 = 0 then some ((-1), z16.2) else some (5, z16.2) else some (4, z13.2) else some (3, z10.2) else some (2, z7.2) else some (1, z4.2) else some (0, z1.2)
/-! ShadowSchoolModel.factSeen()I -/
def f_M_factSeen (N : Nat) (σ : jw_M) : Option (Int32 × jw_M) := (f_M_isWord N 168984 σ).bind fun z1 => if z1.1 = 0 then (f_M_isWord N 174877292 z1.2).bind fun z4 => if z4.1 = 0 then (f_M_isWord N 9454493 z4.2).bind fun z7 => if z7.1 = 0 then (f_M_isWord N 394725 z7.2).bind fun z10 => if z10.1 = 0 then (f_M_isWord N 212302449 z10.2).bind fun z13 => if z13.1 = 0 then some ((-1), z13.2) else some (4, z13.2) else some (3, z10.2) else some (2, z7.2) else some (1, z4.2) else some (0, z1.2)
/-! ShadowSchoolModel.readValue()V -/
def f_M_readValue_69 (N : Nat) (y1 : Int32) (y2 : Int32) (σ : jw_M) : Option jw_M := (f_M_step N y1 y2 σ).bind fun z8 => (f_M_advance N  z8).bind fun z10 => some z10
def f_M_readValue_57 (N : Nat) (x1 : Int32) (y1 : Int32) (σ : jw_M) : Option jw_M := if x1 < 0 then f_M_readValue_69 N y1 (σ.1 0 12) σ else f_M_readValue_69 N y1 x1 σ
def f_M_readValue_37 (N : Nat) (x1 : Int32) (y1 : Int32) (σ : jw_M) : Option jw_M := if y1 = 0 ∨ y1 = 1 then if ((jx_w σ 0 13 y1).1 0 13) = 0 then some (jx_w σ 0 13 y1) else if x1 < 0 then f_M_readValue_57 N x1 0 (jx_w σ 0 13 y1) else f_M_readValue_57 N x1 1 (jx_w σ 0 13 y1) else none
def f_M_readValue_36 (N : Nat) (x1 : Int32) (σ : jw_M) : Option jw_M := f_M_readValue_37 N x1 0 σ
def f_M_readValue_32 (N : Nat) (x1 : Int32) (σ : jw_M) : Option jw_M := f_M_readValue_37 N x1 1 σ
def f_M_readValue (N : Nat) (σ : jw_M) : Option jw_M := (f_M_factSeen N  σ).bind fun z1 => if (z1.2.1 0 13) = 0 then f_M_readValue_36 N (z1.1) z1.2 else if 0 ≤ z1.1 then f_M_readValue_32 N (z1.1) z1.2 else if (z1.2.1 0 8) = 2 then if (z1.2.1 0 12) < 0 then f_M_readValue_36 N (z1.1) z1.2 else f_M_readValue_32 N (z1.1) z1.2 else f_M_readValue_36 N (z1.1) z1.2
/-! ShadowSchoolModel.readTest()V -/
def f_M_readTest_63 (N : Nat) (x1 : Int32) (σ : jw_M) : Option jw_M := (f_M_readValue N  σ).bind fun z6 => if (z6.1 0 13) = 0 then some z6 else (f_M_step N 2 x1 z6).bind fun z9 => some z9
def f_M_readTest_44 (N : Nat) (y1 : Int32) (σ : jw_M) : Option jw_M := if y1 = 0 ∨ y1 = 1 then if ((jx_w σ 0 13 y1).1 0 13) = 0 then f_M_readTest_63 N ((jx_w σ 0 13 y1).1 0 12) (jx_w σ 0 13 y1) else (f_M_advance N  (jx_w σ 0 13 y1)).bind fun z11 => f_M_readTest_63 N ((jx_w σ 0 13 y1).1 0 12) z11 else none
def f_M_readTest_43 (N : Nat) (σ : jw_M) : Option jw_M := f_M_readTest_44 N 0 σ
def f_M_readTest_39 (N : Nat) (σ : jw_M) : Option jw_M := f_M_readTest_44 N 1 σ
def f_M_readTest (N : Nat) (σ : jw_M) : Option jw_M := (f_M_readValue N  σ).bind fun z1 => if (z1.1 0 13) = 0 then f_M_readTest_43 N  z1 else (f_M_isMark N 60 z1).bind fun z13 => if z13.1 = 0 then (f_M_isMark N 61 z13.2).bind fun z16 => if z16.1 = 0 then (f_M_isMark N 62 z16.2).bind fun z19 => if z19.1 = 0 then f_M_readTest_43 N  z19.2 else f_M_readTest_39 N  z19.2 else f_M_readTest_39 N  z16.2 else f_M_readTest_39 N  z13.2
/-! ShadowSchoolModel.readOne()V -/
def f_M_readOne_140 (N : Nat) (Rec : jw_M → Option jw_M) (x1 : Int32) (σ : jw_M) : Option jw_M := if (σ.1 0 13) = 0 then some σ else if (x1 - x1 / 2 * 2) = 1 then (f_M_step N 3 0 σ).bind fun z7 => some z7 else some σ
def f_M_readOne_136 (N : Nat) (Rec : jw_M → Option jw_M) (x1 : Int32) (σ : jw_M) : Option jw_M := (f_M_readTest N  σ).bind fun z3 => f_M_readOne_140 N Rec x1 z3
def f_M_readOne_109 (N : Nat) (Rec : jw_M → Option jw_M) (x1 : Int32) (y1 : Int32) (σ : jw_M) : Option jw_M := if y1 = 0 ∨ y1 = 1 then if ((jx_w σ 0 13 y1).1 0 13) = 0 then f_M_readOne_140 N Rec x1 (jx_w σ 0 13 y1) else (f_M_advance N  (jx_w (jx_w σ 0 13 y1) 0 17 (((jx_w σ 0 13 y1).1 0 17) - 1))).bind fun z20 => f_M_readOne_140 N Rec x1 z20 else none
def f_M_readOne_108 (N : Nat) (Rec : jw_M → Option jw_M) (x1 : Int32) (σ : jw_M) : Option jw_M := f_M_readOne_109 N Rec x1 0 σ
def f_M_readOne_83 (N : Nat) (Rec : jw_M → Option jw_M) (x1 : Int32) (σ : jw_M) : Option jw_M := (Rec  σ).bind fun z15 => if (z15.1 0 13) = 0 then f_M_readOne_108 N Rec x1 z15 else (f_M_isMark N 41 z15).bind fun z22 => if z22.1 = 0 then f_M_readOne_108 N Rec x1 z22.2 else f_M_readOne_109 N Rec x1 1 z22.2
def f_M_readOne_59 (N : Nat) (Rec : jw_M → Option jw_M) (x1 : Int32) (y1 : Int32) (σ : jw_M) : Option jw_M := if y1 = 0 ∨ y1 = 1 then if ((jx_w σ 0 13 y1).1 0 13) = 0 then f_M_readOne_83 N Rec x1 (jx_w σ 0 13 y1) else (f_M_advance N  (jx_w (jx_w σ 0 13 y1) 0 17 (((jx_w σ 0 13 y1).1 0 17) + 1))).bind fun z25 => f_M_readOne_83 N Rec x1 z25 else none
def f_M_readOne_29 (N : Nat) (Rec : jw_M → Option jw_M) (x1 : Int32) (σ : jw_M) : Option jw_M := if (σ.1 0 13) = 0 then f_M_readOne_136 N Rec x1 σ else (f_M_isMark N 40 σ).bind fun z9 => if z9.1 = 0 then f_M_readOne_136 N Rec x1 z9.2 else if 3 ≤ (z9.2.1 0 17) then f_M_readOne_59 N Rec x1 0 z9.2 else f_M_readOne_59 N Rec x1 1 z9.2
def f_M_readOne_2 (N : Nat) (Rec : jw_M → Option jw_M) : Nat → Int32 → jw_M → Option jw_M
  | 0, _, _ => none
  | k + 1, x1, σ => if (σ.1 0 13) = 0 then f_M_readOne_29 N Rec x1 σ else (f_M_isWord N 10631 σ).bind fun z27 => if z27.1 = 0 then f_M_readOne_29 N Rec x1 z27.2 else (f_M_advance N  z27.2).bind fun z30 => f_M_readOne_2 N Rec k (x1 + 1) z30
def f_M_readOne (N : Nat) (Rec : jw_M → Option jw_M) (σ : jw_M) : Option jw_M := f_M_readOne_2 N Rec N 0 σ
/-! ShadowSchoolModel.readAll()V -/
def f_M_readAll_4 (N : Nat) (Rec : jw_M → Option jw_M) : Nat → jw_M → Option jw_M
  | 0, _ => none
  | k + 1, σ => if (σ.1 0 13) = 0 then some σ else (f_M_isWord N 1111 σ).bind fun z4 => if z4.1 = 0 then some z4.2 else (f_M_advance N  z4.2).bind fun z7 => (f_M_readOne N Rec  z7).bind fun z9 => if (z9.1 0 13) = 0 then f_M_readAll_4 N Rec k  z9 else (f_M_step N 4 0 z9).bind fun z12 => f_M_readAll_4 N Rec k  z12
def f_M_readAll (N : Nat) (Rec : jw_M → Option jw_M) (σ : jw_M) : Option jw_M := (f_M_readOne N Rec  σ).bind fun z1 => f_M_readAll_4 N Rec N  z1
/-! ShadowSchoolModel.readCondition()V -/
def f_M_readCondition_12 (N : Nat) (Rec : jw_M → Option jw_M) : Nat → jw_M → Option jw_M
  | 0, _ => none
  | k + 1, σ => if (σ.1 0 13) = 0 then some σ else (f_M_isWord N 423 σ).bind fun z5 => if z5.1 = 0 then some z5.2 else (f_M_advance N  z5.2).bind fun z8 => (f_M_readAll N Rec  z8).bind fun z10 => if (z10.1 0 13) = 0 then f_M_readCondition_12 N Rec k  z10 else (f_M_step N 5 0 z10).bind fun z13 => f_M_readCondition_12 N Rec k  z13
def f_M_readCondition (N : Nat) : Nat → jw_M → Option jw_M
  | 0, _ => none
  | r + 1, σ => if (σ.1 0 13) = 0 then some σ else (f_M_readAll N (f_M_readCondition N r)  σ).bind fun z2 => f_M_readCondition_12 N (f_M_readCondition N r) N  z2
/-! ShadowSchoolModel.readRule(I)V -/
def f_M_readRule_164 (N : Nat) (x1 : Int32) (x2 : Int32) (x3 : Int32) (x4 : Int32) (y1 : Int32) (σ : jw_M) : Option jw_M := if y1 = 0 ∨ y1 = 1 then if ((jx_w σ 0 13 y1).1 0 13) = 0 then some (jx_w σ 0 13 y1) else (f_M_advance N  (jx_w σ 0 13 y1)).bind fun z22 => bif jx_in (4 * x1) 32 then bif jx_in ((4 * x1) + 1) 32 then bif jx_in ((4 * x1) + 2) 32 then bif jx_in ((4 * x1) + 3) 32 then some (jx_w (jx_w (jx_w (jx_w z22 7 ((4 * x1)).toNatClampNeg x2) 7 (((4 * x1) + 1)).toNatClampNeg x4) 7 (((4 * x1) + 2)).toNatClampNeg x3) 7 (((4 * x1) + 3)).toNatClampNeg (((jx_w (jx_w (jx_w z22 7 ((4 * x1)).toNatClampNeg x2) 7 (((4 * x1) + 1)).toNatClampNeg x4) 7 (((4 * x1) + 2)).toNatClampNeg x3).1 0 16) - x3)) else none else none else none else none else none
def f_M_readRule_163 (N : Nat) (x1 : Int32) (x2 : Int32) (x3 : Int32) (x4 : Int32) (σ : jw_M) : Option jw_M := f_M_readRule_164 N x1 x2 x3 x4 0 σ
def f_M_readRule_142 (N : Nat) (x1 : Int32) (x2 : Int32) (x3 : Int32) (x4 : Int32) (σ : jw_M) : Option jw_M := if (σ.1 0 13) = 0 then f_M_readRule_163 N x1 x2 x3 x4 σ else (f_M_isMark N 59 σ).bind fun z28 => if z28.1 = 0 then f_M_readRule_163 N x1 x2 x3 x4 z28.2 else f_M_readRule_164 N x1 x2 x3 x4 1 z28.2
def f_M_readRule_128 (N : Nat) (x1 : Int32) (x2 : Int32) (x3 : Int32) (x4 : Int32) (y1 : Int32) (σ : jw_M) : Option jw_M := if y1 = 0 ∨ y1 = 1 then if ((jx_w σ 0 13 y1).1 0 13) = 0 then f_M_readRule_142 N x1 x2 x3 x4 (jx_w σ 0 13 y1) else (f_M_advance N  (jx_w σ 0 13 y1)).bind fun z31 => f_M_readRule_142 N x1 x2 x3 x4 z31 else none
def f_M_readRule_127 (N : Nat) (x1 : Int32) (x2 : Int32) (x3 : Int32) (x4 : Int32) (σ : jw_M) : Option jw_M := f_M_readRule_128 N x1 x2 x3 x4 0 σ
def f_M_readRule_108 (N : Nat) (x1 : Int32) (x2 : Int32) (x3 : Int32) (y0 : Int32) (σ : jw_M) : Option jw_M := if (σ.1 0 13) = 0 then f_M_readRule_127 N x1 x2 x3 y0 σ else if y0 < 0 then f_M_readRule_127 N x1 x2 x3 y0 σ else f_M_readRule_128 N x1 x2 x3 y0 1 σ
def f_M_readRule_65 (N : Nat) (x1 : Int32) (x2 : Int32) (x3 : Int32) (σ : jw_M) : Option jw_M := (f_M_isWord N 237458 σ).bind fun z7 => if z7.1 = 0 then (f_M_isWord N 99682 z7.2).bind fun z10 => if z10.1 = 0 then (f_M_isWord N 323728 z10.2).bind fun z13 => if z13.1 = 0 then f_M_readRule_108 N x1 x2 x3 (-1) z13.2 else f_M_readRule_108 N x1 x2 x3 2 z13.2 else f_M_readRule_108 N x1 x2 x3 1 z10.2 else f_M_readRule_108 N x1 x2 x3 0 z7.2
def f_M_readRule_40 (N : Nat) (x1 : Int32) (x2 : Int32) (x3 : Int32) (σ : jw_M) : Option jw_M := if (σ.1 0 13) = 0 then f_M_readRule_65 N x1 x2 x3 σ else (f_M_isWord N 249 σ).bind fun z34 => if z34.1 = 0 then f_M_readRule_65 N x1 x2 x3 z34.2 else (f_M_advance N  z34.2).bind fun z37 => (f_M_readCondition N 64  z37).bind fun z39 => f_M_readRule_65 N x1 x2 x3 z39
def f_M_readRule_21 (N : Nat) (x1 : Int32) (x2 : Int32) (y1 : Int32) (σ : jw_M) : Option jw_M := if y1 = 0 ∨ y1 = 1 then if ((jx_w σ 0 13 y1).1 0 13) = 0 then f_M_readRule_40 N x1 x2 ((jx_w σ 0 13 y1).1 0 16) (jx_w σ 0 13 y1) else (f_M_advance N  (jx_w σ 0 13 y1)).bind fun z41 => f_M_readRule_40 N x1 x2 ((jx_w σ 0 13 y1).1 0 16) z41 else none
def f_M_readRule_20 (N : Nat) (x1 : Int32) (x2 : Int32) (σ : jw_M) : Option jw_M := f_M_readRule_21 N x1 x2 0 σ
def f_M_readRule (N : Nat) (x1 : Int32) (σ : jw_M) : Option jw_M := (f_M_kindSeen N  σ).bind fun z1 => if z1.1 < 0 then f_M_readRule_20 N x1 (z1.1) z1.2 else if 8 ≤ x1 then f_M_readRule_20 N x1 (z1.1) z1.2 else f_M_readRule_21 N x1 (z1.1) 1 z1.2
/-! ShadowSchoolModel.rules()I -/
def f_M_rules_110 (N : Nat) : Nat → Int32 → Int32 → jw_M → Option (Int32 × jw_M)
  | 0, _, _, _ => none
  | k + 1, x1, x2, σ => if (2 * (σ.1 0 16)) ≤ x2 then some (x1, σ) else bif jx_in x2 400 then bif jx_in (126 + x2) 526 then f_M_rules_110 N k x1 (x2 + 1) (jx_w σ 3 ((126 + x2)).toNatClampNeg (σ.1 8 (x2).toNatClampNeg)) else none else none
def f_M_rules_80 (N : Nat) : Nat → Int32 → Int32 → jw_M → Option (Int32 × jw_M)
  | 0, _, _, _ => none
  | k + 1, x1, x2, σ => if (4 * x1) ≤ x2 then f_M_rules_110 N N x1 0 σ else bif jx_in x2 32 then bif jx_in (94 + x2) 526 then f_M_rules_80 N k x1 (x2 + 1) (jx_w σ 3 ((94 + x2)).toNatClampNeg (σ.1 7 (x2).toNatClampNeg)) else none else none
def f_M_rules_51 (N : Nat) (x1 : Int32) (σ : jw_M) : Option (Int32 × jw_M) := if ((jx_w σ 0 7 (0 : Int32)).1 0 13) = 0 then some (((-100) - ((jx_w σ 0 7 (0 : Int32)).1 0 9)), (jx_w σ 0 7 (0 : Int32))) else f_M_rules_80 N N x1 0 (jx_w (jx_w σ 0 7 (0 : Int32)) 3 4 x1)
def f_M_rules_26 (N : Nat) : Nat → Int32 → jw_M → Option (Int32 × jw_M)
  | 0, _, _ => none
  | k + 1, x1, σ => if (σ.1 0 13) = 0 then f_M_rules_51 N x1 σ else if (σ.1 0 8) = 0 then f_M_rules_51 N x1 σ else (f_M_readRule N x1 σ).bind fun z12 => f_M_rules_26 N k (x1 + 1) z12
def f_M_rules (N : Nat) (σ : jw_M) : Option (Int32 × jw_M) := (f_M_advance N  (jx_w (jx_w (jx_w (jx_w σ 0 10 (0 : Int32)) 0 13 (1 : Int32)) 0 16 (0 : Int32)) 0 17 (0 : Int32))).bind fun z1 => f_M_rules_26 N N 0 z1
/-! ShadowSchoolModel.sits(II)I -/
def f_M_sits (N : Nat) (x1 : Int32) (x2 : Int32) (σ : jw_M) : Option (Int32 × jw_M) := bif jx_in x2 8 then bif jx_in ((8 + (8 * x1)) + x2) 56 then (f_M_of N x1 0 (jx_w σ 10 (x2).toNatClampNeg ((σ.1 10 (x2).toNatClampNeg) + 1))).bind fun z3 => (f_M_of N x1 1 z3.2).bind fun z5 => (f_M_paceBy N (z3.1) (z5.1) (z5.2.1 1 0) z5.2).bind fun z7 => (f_M_lessonNumber N x2 0 (jx_w z7.2 1 (((8 + (8 * x1)) + x2)).toNatClampNeg (((jx_w σ 10 (x2).toNatClampNeg ((σ.1 10 (x2).toNatClampNeg) + 1)).1 1 (((8 + (8 * x1)) + x2)).toNatClampNeg) + z7.1))).bind fun z9 => if z9.1 ≤ ((jx_w z7.2 1 (((8 + (8 * x1)) + x2)).toNatClampNeg (((jx_w σ 10 (x2).toNatClampNeg ((σ.1 10 (x2).toNatClampNeg) + 1)).1 1 (((8 + (8 * x1)) + x2)).toNatClampNeg) + z7.1)).1 1 (((8 + (8 * x1)) + x2)).toNatClampNeg) then bif jx_in (2 + x1) 56 then (f_M_lessonNumber N x2 0 (jx_w z9.2 1 ((2 + x1)).toNatClampNeg ((z9.2.1 1 ((2 + x1)).toNatClampNeg) ||| ((1 : Int32) <<< (x2 &&& 31))))).bind fun z13 => some (z13.1, z13.2) else none else some (0, z9.2) else none else none
/-! ShadowSchoolModel.goes(I)I -/
def f_M_goes_56 (N : Nat) (K8 : Int32 → Int32 → Int32 → jw_M → Option (Int32 × jw_M)) (x1 : Int32) (x3 : Int32) (y0 : Int32) (y1 : Int32) (σ : jw_M) : Option (Int32 × jw_M) := K8 x1 (y0 + y1) (x3 + 1) σ
def f_M_goes_35 (N : Nat) (K8 : Int32 → Int32 → Int32 → jw_M → Option (Int32 × jw_M)) (x1 : Int32) (x2 : Int32) (x3 : Int32) (y0 : Int32) (σ : jw_M) : Option (Int32 × jw_M) := if y0 = 8 then f_M_goes_56 N K8 x1 x3 x2 0 σ else (f_M_sits N x3 y0 σ).bind fun z6 => f_M_goes_56 N K8 x1 x3 x2 (z6.1) z6.2
def f_M_goes_8 (N : Nat) : Nat → Int32 → Int32 → Int32 → jw_M → Option (Int32 × jw_M)
  | 0, _, _, _, _ => none
  | k + 1, x1, x2, x3, σ => if (σ.1 3 2) ≤ x3 then some (x2, (jx_w (jx_w σ 1 0 ((σ.1 1 0) + 1)) 1 1 (((jx_w σ 1 0 ((σ.1 1 0) + 1)).1 1 1) + x2))) else if (x3 + 1) = x1 then f_M_goes_35 N (f_M_goes_8 N k) x1 x2 x3 8 σ else (f_M_choiceOf N x3 σ).bind fun z8 => f_M_goes_35 N (f_M_goes_8 N k) x1 x2 x3 (z8.1) z8.2
def f_M_goes (N : Nat) (x1 : Int32) (σ : jw_M) : Option (Int32 × jw_M) := (f_M_emptySeats N  σ).bind fun z1 => f_M_goes_8 N N x1 0 0 z1
/-! ShadowSchoolModel.hour()I -/
def f_M_hour (N : Nat) (σ : jw_M) : Option (Int32 × jw_M) := (f_M_isOver N  σ).bind fun z1 => if z1.1 = 0 then (f_M_goes N 0 z1.2).bind fun z4 => some (z4.1, z4.2) else some ((-4), z1.2)
/-! ShadowSchoolModel.learnt(I)I -/
def f_M_learnt (N : Nat) (x1 : Int32) (σ : jw_M) : Option (Int32 × jw_M) := (f_M_isShadow N x1 σ).bind fun z1 => if z1.1 = 0 then some ((-1), z1.2) else bif jx_in (2 + x1) 56 then some ((z1.2.1 1 ((2 + x1)).toNatClampNeg), z1.2) else none
/-! ShadowSchoolModel.rest(I)I -/
def f_M_rest_4 (N : Nat) : Nat → Int32 → Int32 → Int32 → jw_M → Option (Int32 × jw_M)
  | 0, _, _, _, _ => none
  | k + 1, x1, x2, x3, σ => if x1 ≤ x3 then some (x2, σ) else (f_M_isOver N  σ).bind fun z2 => if z2.1 = 0 then (f_M_goes N 0 z2.2).bind fun z5 => f_M_rest_4 N k x1 (x2 + z5.1) (x3 + 1) z5.2 else some (x2, z2.2)
def f_M_rest (N : Nat) (x1 : Int32) (σ : jw_M) : Option (Int32 × jw_M) := f_M_rest_4 N N x1 0 0 σ
/-! ShadowSchoolModel.restWorth(I)I -/
def f_M_restWorth (N : Nat) (x1 : Int32) (σ : jw_M) : Option (Int32 × jw_M) := (f_M_save N 0 σ).bind fun z1 => (f_M_rest N x1 z1).bind fun z3 => (f_M_load N 0 z3.2).bind fun z5 => some (z3.1, z5)
/-! ShadowSchoolModel.on(I)I -/
def f_M_on (N : Nat) (x1 : Int32) (σ : jw_M) : Option (Int32 × jw_M) := (f_M_in N x1 0 16 σ).bind fun z1 => if z1.1 = 0 then some ((-1), z1.2) else (f_M_restWorth N x1 z1.2).bind fun z4 => some (z4.1, z4.2)
/-! ShadowSchoolModel.when(II)I -/
def f_M_when_82 (N : Nat) (y0 : Int32) (σ : jw_M) : Option (Int32 × jw_M) := (f_M_load N 0 σ).bind fun z23 => some (y0, z23)
def f_M_when_60 (N : Nat) (x1 : Int32) (x2 : Int32) (σ : jw_M) : Option (Int32 × jw_M) := (f_M_hasLearnt N x1 x2 σ).bind fun z20 => if z20.1 = 0 then f_M_when_82 N (-3) z20.2 else f_M_when_82 N ((z20.2.1 1 0) - 1) z20.2
def f_M_when_35 (N : Nat) : Nat → Int32 → Int32 → jw_M → Option (Int32 × jw_M)
  | 0, _, _, _ => none
  | k + 1, x1, x2, σ => (f_M_isOver N  σ).bind fun z12 => if z12.1 = 0 then (f_M_hasLearnt N x1 x2 z12.2).bind fun z15 => if z15.1 = 0 then (f_M_goes N 0 z15.2).bind fun z18 => f_M_when_35 N k x1 x2 z18.2 else f_M_when_60 N x1 x2 z15.2 else f_M_when_60 N x1 x2 z12.2
def f_M_when (N : Nat) (x1 : Int32) (x2 : Int32) (σ : jw_M) : Option (Int32 × jw_M) := (f_M_isShadow N x1 σ).bind fun z1 => if z1.1 = 0 then some ((-1), z1.2) else (f_M_isLesson N x2 z1.2).bind fun z4 => if z4.1 = 0 then some ((-1), z4.2) else (f_M_hasLearnt N x1 x2 z4.2).bind fun z7 => if z7.1 = 0 then (f_M_save N 0 z7.2).bind fun z10 => f_M_when_35 N N x1 x2 z10 else some ((-3), z7.2)
/-! ShadowSchoolModel.allLessons()I -/
def f_M_allLessons (N : Nat) (σ : jw_M) : Option (Int32 × jw_M) := some ((((1 : Int32) <<< ((σ.1 3 3) &&& 31)) - 1), σ)
/-! ShadowSchoolModel.letGo()I -/
def f_M_letGo_49 (N : Nat) (K16 : Int32 → Int32 → jw_M → Option (Int32 × jw_M)) (x3 : Int32) (y0 : Int32) (y1 : Int32) (σ : jw_M) : Option (Int32 × jw_M) := K16 (y0 ||| y1) (x3 + 1) σ
def f_M_letGo_16 (N : Nat) : Nat → Int32 → Int32 → jw_M → Option (Int32 × jw_M)
  | 0, _, _, _ => none
  | k + 1, x2, x3, σ => if (σ.1 3 2) ≤ x3 then (f_M_load N 0 σ).bind fun z6 => some (x2, z6) else bif jx_in (2 + x3) 56 then (f_M_allLessons N  σ).bind fun z9 => if (σ.1 1 ((2 + x3)).toNatClampNeg) = z9.1 then f_M_letGo_49 N (f_M_letGo_16 N k) x3 x2 ((1 : Int32) <<< (x3 &&& 31)) z9.2 else f_M_letGo_49 N (f_M_letGo_16 N k) x3 x2 0 z9.2 else none
def f_M_letGo (N : Nat) (σ : jw_M) : Option (Int32 × jw_M) := (f_M_save N 0 σ).bind fun z1 => (f_M_rest N 16 z1).bind fun z3 => f_M_letGo_16 N N 0 0 z3.2
/-! ShadowSchoolModel.crowd(I)I -/
def f_M_crowd_88 (N : Nat) (K29 : Int32 → Int32 → Int32 → jw_M → Option (Int32 × jw_M)) (x1 : Int32) (x2 : Int32) (y0 : Int32) (σ : jw_M) : Option (Int32 × jw_M) := K29 x1 x2 y0 σ
def f_M_crowd_67 (N : Nat) (K29 : Int32 → Int32 → Int32 → jw_M → Option (Int32 × jw_M)) (x1 : Int32) (x3 : Int32) (y0 : Int32) (σ : jw_M) : Option (Int32 × jw_M) := bif jx_in x1 8 then if (σ.1 10 (x1).toNatClampNeg) ≤ x3 then f_M_crowd_88 N K29 x1 y0 x3 σ else f_M_crowd_88 N K29 x1 y0 (σ.1 10 (x1).toNatClampNeg) σ else none
def f_M_crowd_29 (N : Nat) : Nat → Int32 → Int32 → Int32 → jw_M → Option (Int32 × jw_M)
  | 0, _, _, _, _ => none
  | k + 1, x1, x2, x3, σ => (f_M_isOver N  σ).bind fun z9 => if z9.1 = 0 then (f_M_goes N 0 z9.2).bind fun z12 => bif jx_in x1 8 then if (z12.2.1 10 (x1).toNatClampNeg) ≤ x3 then f_M_crowd_67 N (f_M_crowd_29 N k) x1 x3 x2 z12.2 else f_M_crowd_67 N (f_M_crowd_29 N k) x1 x3 (z9.2.1 1 0) z12.2 else none else (f_M_load N 0 z9.2).bind fun z18 => some (x2, z18)
def f_M_crowd (N : Nat) (x1 : Int32) (σ : jw_M) : Option (Int32 × jw_M) := (f_M_isLesson N x1 σ).bind fun z1 => if z1.1 = 0 then some ((-1), z1.2) else (f_M_isOver N  z1.2).bind fun z4 => if z4.1 = 0 then (f_M_save N 0 z4.2).bind fun z7 => f_M_crowd_29 N N x1 (-1) (-1) z7 else some ((-3), z4.2)
/-! ShadowSchoolModel.dearest(II)I -/
def f_M_dearest_68 (N : Nat) (K16 : Int32 → Int32 → Int32 → Int32 → Int32 → Int32 → jw_M → Option (Int32 × jw_M)) (x1 : Int32) (x2 : Int32) (x3 : Int32) (x4 : Int32) (x6 : Int32) (y0 : Int32) (σ : jw_M) : Option (Int32 × jw_M) := K16 x1 x2 x3 x4 y0 (x6 + 1) σ
def f_M_dearest_52 (N : Nat) (K16 : Int32 → Int32 → Int32 → Int32 → Int32 → Int32 → jw_M → Option (Int32 × jw_M)) (x1 : Int32) (x2 : Int32) (x3 : Int32) (x5 : Int32) (x6 : Int32) (x7 : Int32) (y0 : Int32) (σ : jw_M) : Option (Int32 × jw_M) := if x7 ≤ x5 then f_M_dearest_68 N K16 x1 x2 x3 y0 x6 x5 σ else f_M_dearest_68 N K16 x1 x2 x3 y0 x6 x7 σ
def f_M_dearest_16 (N : Nat) : Nat → Int32 → Int32 → Int32 → Int32 → Int32 → Int32 → jw_M → Option (Int32 × jw_M)
  | 0, _, _, _, _, _, _, _ => none
  | k + 1, x1, x2, x3, x4, x5, x6, σ => if x2 < x6 then bif jx_in x1 526 then some (x4, (jx_w σ 3 (x1).toNatClampNeg x3)) else none else bif jx_in x1 526 then (f_M_restWorth N 16 (jx_w σ 3 (x1).toNatClampNeg x6)).bind fun z5 => if z5.1 ≤ x5 then f_M_dearest_52 N (f_M_dearest_16 N k) x1 x2 x3 x5 x6 (z5.1) x4 z5.2 else f_M_dearest_52 N (f_M_dearest_16 N k) x1 x2 x3 x5 x6 (z5.1) x6 z5.2 else none
def f_M_dearest (N : Nat) (x1 : Int32) (x2 : Int32) (σ : jw_M) : Option (Int32 × jw_M) := bif jx_in x1 526 then f_M_dearest_16 N N x1 x2 (σ.1 3 (x1).toNatClampNeg) 0 (-1) 1 σ else none
/-! ShadowSchoolModel.quickFor(I)I -/
def f_M_quickFor (N : Nat) (x1 : Int32) (σ : jw_M) : Option (Int32 × jw_M) := (f_M_isShadow N x1 σ).bind fun z1 => if z1.1 = 0 then some ((-1), z1.2) else (f_M_dearest N ((6 + (3 * x1)) + 1) 9 z1.2).bind fun z4 => some (z4.1, z4.2)
/-! ShadowSchoolModel.roomFor(I)I -/
def f_M_roomFor (N : Nat) (x1 : Int32) (σ : jw_M) : Option (Int32 × jw_M) := (f_M_isLesson N x1 σ).bind fun z1 => if z1.1 = 0 then some ((-1), z1.2) else (f_M_dearest N ((24 + (5 * x1)) + 4) 6 z1.2).bind fun z4 => some (z4.1, z4.2)
/-! ShadowSchoolModel.letGoBy(I)I -/
def f_M_letGoBy_67 (N : Nat) (K34 : Int32 → Int32 → Int32 → Int32 → Int32 → jw_M → Option (Int32 × jw_M)) (x1 : Int32) (x2 : Int32) (x3 : Int32) (x5 : Int32) (y0 : Int32) (σ : jw_M) : Option (Int32 × jw_M) := K34 x1 x2 x3 y0 (x5 + (-1)) σ
def f_M_letGoBy_34 (N : Nat) : Nat → Int32 → Int32 → Int32 → Int32 → Int32 → jw_M → Option (Int32 × jw_M)
  | 0, _, _, _, _, _, _ => none
  | k + 1, x1, x2, x3, x4, x5, σ => if x5 < 1 then bif jx_in x2 526 then some (x4, (jx_w σ 3 (x2).toNatClampNeg x3)) else none else bif jx_in x2 526 then (f_M_letGo N  (jx_w σ 3 (x2).toNatClampNeg x5)).bind fun z8 => if ((z8.1 >>> (x1 &&& 31)) &&& 1) = 1 then f_M_letGoBy_67 N (f_M_letGoBy_34 N k) x1 x2 x3 x5 x5 z8.2 else f_M_letGoBy_67 N (f_M_letGoBy_34 N k) x1 x2 x3 x5 x4 z8.2 else none
def f_M_letGoBy (N : Nat) (x1 : Int32) (σ : jw_M) : Option (Int32 × jw_M) := (f_M_isShadow N x1 σ).bind fun z1 => if z1.1 = 0 then some ((-1), z1.2) else bif jx_in ((6 + (3 * x1)) + 1) 526 then f_M_letGoBy_34 N N x1 ((6 + (3 * x1)) + 1) (z1.2.1 3 (((6 + (3 * x1)) + 1)).toNatClampNeg) (-3) 9 z1.2 else none
/-! ShadowSchoolModel.quarrel(III)I -/
def f_M_quarrel (N : Nat) (x1 : Int32) (x2 : Int32) (x3 : Int32) (σ : jw_M) : Option (Int32 × jw_M) := (f_M_isShadow N x1 σ).bind fun z1 => if z1.1 = 0 then some ((-1), z1.2) else (f_M_isShadow N x2 z1.2).bind fun z4 => if z4.1 = 0 then some ((-1), z4.2) else if x1 = x2 then some ((-1), z4.2) else (f_M_in N x3 0 1 z4.2).bind fun z8 => if z8.1 = 0 then some ((-1), z8.2) else bif jx_in (64 + x1) 526 then bif jx_in (64 + x2) 526 then some ((((z8.2.1 3 ((64 + x1)).toNatClampNeg) >>> (x2 &&& 31)) &&& 1), (jx_w (jx_w z8.2 3 ((64 + x1)).toNatClampNeg (((z8.2.1 3 ((64 + x1)).toNatClampNeg) &&& (((1 : Int32) <<< (x2 &&& 31)) ^^^ (-1))) ||| (x3 <<< (x2 &&& 31)))) 3 ((64 + x2)).toNatClampNeg ((((jx_w z8.2 3 ((64 + x1)).toNatClampNeg (((z8.2.1 3 ((64 + x1)).toNatClampNeg) &&& (((1 : Int32) <<< (x2 &&& 31)) ^^^ (-1))) ||| (x3 <<< (x2 &&& 31)))).1 3 ((64 + x2)).toNatClampNeg) &&& (((1 : Int32) <<< (x1 &&& 31)) ^^^ (-1))) ||| (x3 <<< (x1 &&& 31))))) else none else none
/-! ShadowSchoolModel.quarrels(I)I -/
def f_M_quarrels (N : Nat) (x1 : Int32) (σ : jw_M) : Option (Int32 × jw_M) := (f_M_isShadow N x1 σ).bind fun z1 => if z1.1 = 0 then some ((-1), z1.2) else bif jx_in (64 + x1) 526 then some ((z1.2.1 3 ((64 + x1)).toNatClampNeg), z1.2) else none
/-! ShadowSchoolModel.isSeating()Z -/
def f_M_isSeating_61 (N : Nat) (K4 : Int32 → Int32 → jw_M → Option (Int32 × jw_M)) (K16 : Int32 → Int32 → Int32 → jw_M → Option (Int32 × jw_M)) (x2 : Int32) (x3 : Int32) (y0 : Int32) (σ : jw_M) : Option (Int32 × jw_M) := K16 y0 x2 (x3 + 1) σ
def f_M_isSeating_60 (N : Nat) (K4 : Int32 → Int32 → jw_M → Option (Int32 × jw_M)) (K16 : Int32 → Int32 → Int32 → jw_M → Option (Int32 × jw_M)) (x2 : Int32) (x3 : Int32) (σ : jw_M) : Option (Int32 × jw_M) := f_M_isSeating_61 N K4 K16 x2 x3 0 σ
def f_M_isSeating_56 (N : Nat) (K4 : Int32 → Int32 → jw_M → Option (Int32 × jw_M)) (K16 : Int32 → Int32 → Int32 → jw_M → Option (Int32 × jw_M)) (x2 : Int32) (x3 : Int32) (σ : jw_M) : Option (Int32 × jw_M) := f_M_isSeating_61 N K4 K16 x2 x3 1 σ
def f_M_isSeating_16 (N : Nat) (K4 : Int32 → Int32 → jw_M → Option (Int32 × jw_M)) : Nat → Int32 → Int32 → Int32 → jw_M → Option (Int32 × jw_M)
  | 0, _, _, _, _ => none
  | k + 1, x1, x2, x3, σ => if x2 ≤ x3 then K4 x1 (x2 + 1) σ else if x1 = 0 then f_M_isSeating_60 N K4 (f_M_isSeating_16 N K4 k) x2 x3 σ else bif jx_in x2 6 then bif jx_in x3 6 then if (σ.1 11 (x2).toNatClampNeg) = (σ.1 11 (x3).toNatClampNeg) then bif jx_in (64 + x2) 526 then if (((σ.1 3 ((64 + x2)).toNatClampNeg) >>> (x3 &&& 31)) &&& 1) = 0 then f_M_isSeating_56 N K4 (f_M_isSeating_16 N K4 k) x2 x3 σ else f_M_isSeating_60 N K4 (f_M_isSeating_16 N K4 k) x2 x3 σ else none else f_M_isSeating_56 N K4 (f_M_isSeating_16 N K4 k) x2 x3 σ else none else none
def f_M_isSeating_4 (N : Nat) : Nat → Int32 → Int32 → jw_M → Option (Int32 × jw_M)
  | 0, _, _, _ => none
  | k + 1, x1, x2, σ => if (σ.1 3 2) ≤ x2 then if x1 = 0 ∨ x1 = 1 then some (x1, σ) else none else f_M_isSeating_16 N (f_M_isSeating_4 N k) N x1 x2 0 σ
def f_M_isSeating (N : Nat) (σ : jw_M) : Option (Int32 × jw_M) := f_M_isSeating_4 N N 1 0 σ
/-! ShadowSchoolModel.isNextWay(I)Z -/
def f_M_isNextWay_52 (N : Nat) (x2 : Int32) (σ : jw_M) : Option (Int32 × jw_M) := if x2 < 0 then some (0, σ) else some (1, σ)
def f_M_isNextWay_38 (N : Nat) (x2 : Int32) (σ : jw_M) : Option (Int32 × jw_M) := if x2 < 0 then f_M_isNextWay_52 N x2 σ else bif jx_in x2 6 then f_M_isNextWay_52 N x2 (jx_w σ 11 (x2).toNatClampNeg ((σ.1 11 (x2).toNatClampNeg) + 1)) else none
def f_M_isNextWay_9 (N : Nat) : Nat → Int32 → Int32 → jw_M → Option (Int32 × jw_M)
  | 0, _, _, _ => none
  | k + 1, x1, x2, σ => if x2 < 0 then f_M_isNextWay_38 N x2 σ else bif jx_in x2 6 then if (σ.1 11 (x2).toNatClampNeg) = (x1 - 1) then f_M_isNextWay_9 N k x1 (x2 + (-1)) (jx_w σ 11 (x2).toNatClampNeg (0 : Int32)) else f_M_isNextWay_38 N x2 σ else none
def f_M_isNextWay (N : Nat) (x1 : Int32) (σ : jw_M) : Option (Int32 × jw_M) := f_M_isNextWay_9 N N x1 ((σ.1 3 2) - 1) σ
/-! ShadowSchoolModel.allInFirst()V -/
def f_M_allInFirst_2 (N : Nat) : Nat → Int32 → jw_M → Option jw_M
  | 0, _, _ => none
  | k + 1, x1, σ => if 6 ≤ x1 then some σ else bif jx_in x1 6 then f_M_allInFirst_2 N k (x1 + 1) (jx_w σ 11 (x1).toNatClampNeg (0 : Int32)) else none
def f_M_allInFirst (N : Nat) (σ : jw_M) : Option jw_M := f_M_allInFirst_2 N N 0 σ
/-! ShadowSchoolModel.isFirstSeating(I)Z -/
def f_M_isFirstSeating_4 (N : Nat) : Nat → Int32 → jw_M → Option (Int32 × jw_M)
  | 0, _, _ => none
  | k + 1, x1, σ => (f_M_isSeating N  σ).bind fun z3 => if z3.1 = 0 then (f_M_isNextWay N x1 z3.2).bind fun z6 => if z6.1 = 0 then some (0, z6.2) else f_M_isFirstSeating_4 N k x1 z6.2 else some (1, z3.2)
def f_M_isFirstSeating (N : Nat) (x1 : Int32) (σ : jw_M) : Option (Int32 × jw_M) := (f_M_allInFirst N  σ).bind fun z1 => f_M_isFirstSeating_4 N N x1 z1
/-! ShadowSchoolModel.rooms()I -/
def f_M_rooms_13 (N : Nat) : Nat → Int32 → jw_M → Option (Int32 × jw_M)
  | 0, _, _ => none
  | k + 1, x1, σ => (f_M_isFirstSeating N x1 σ).bind fun z2 => if z2.1 = 0 then f_M_rooms_13 N k (x1 + 1) z2.2 else some (x1, z2.2)
def f_M_rooms (N : Nat) (σ : jw_M) : Option (Int32 × jw_M) := if (σ.1 3 2) = 0 then some (0, σ) else f_M_rooms_13 N N 1 σ
/-! ShadowSchoolModel.seat(I)I -/
def f_M_seat (N : Nat) (x1 : Int32) (σ : jw_M) : Option (Int32 × jw_M) := (f_M_isShadow N x1 σ).bind fun z1 => if z1.1 = 0 then some ((-1), z1.2) else (f_M_rooms N  z1.2).bind fun z4 => bif jx_in x1 6 then some ((z4.2.1 11 (x1).toNatClampNeg), z4.2) else none
/-! ShadowSchoolModel.seatings(I)I -/
def f_M_seatings_36 (N : Nat) (K19 : Int32 → Int32 → Int32 → jw_M → Option (Int32 × jw_M)) (x1 : Int32) (y0 : Int32) (y1 : Int32) (σ : jw_M) : Option (Int32 × jw_M) := (f_M_isNextWay N x1 σ).bind fun z10 => K19 x1 (y0 + y1) (z10.1) z10.2
def f_M_seatings_19 (N : Nat) : Nat → Int32 → Int32 → Int32 → jw_M → Option (Int32 × jw_M)
  | 0, _, _, _, _ => none
  | k + 1, x1, x2, x3, σ => if x3 = 0 then some (x2, σ) else (f_M_isSeating N  σ).bind fun z7 => if z7.1 = 0 then f_M_seatings_36 N (f_M_seatings_19 N k) x1 x2 0 z7.2 else f_M_seatings_36 N (f_M_seatings_19 N k) x1 x2 1 z7.2
def f_M_seatings (N : Nat) (x1 : Int32) (σ : jw_M) : Option (Int32 × jw_M) := (f_M_in N x1 1 4 σ).bind fun z1 => if z1.1 = 0 then some ((-1), z1.2) else (f_M_allInFirst N  z1.2).bind fun z4 => f_M_seatings_19 N N x1 0 1 z4
/-! ShadowSchoolModel.isSheet(I)Z -/
def f_M_isSheet (N : Nat) (x0 : Int32) (σ : jw_M) : Option (Int32 × jw_M) := (f_M_in N x0 0 3 σ).bind fun z1 => if z1.1 = 0 ∨ z1.1 = 1 then some (z1.1, z1.2) else none
/-! ShadowSchoolModel.lacksSort(II)I -/
def f_M_lacksSort (N : Nat) (x1 : Int32) (x2 : Int32) (σ : jw_M) : Option (Int32 × jw_M) := bif jx_in x1 4 then if 0 ≤ (σ.1 14 (x1).toNatClampNeg) then if (σ.1 14 (x1).toNatClampNeg) = x2 then some (0, σ) else some ((-13), σ) else some ((-11), σ) else none
/-! ShadowSchoolModel.match(III)I -/
def f_M_match_227 (N : Nat) (K103 : Int32 → Int32 → Int32 → Int32 → Int32 → jw_M → Option (Int32 × jw_M)) (K135 : Int32 → Int32 → Int32 → Int32 → Int32 → Int32 → Int32 → jw_M → Option (Int32 × jw_M)) (x1 : Int32) (x2 : Int32) (x3 : Int32) (x5 : Int32) (x6 : Int32) (x7 : Int32) (x8 : Int32) (y1 : Int32) (y2 : Int32) (y3 : Int32) (σ : jw_M) : Option (Int32 × jw_M) := bif jx_in y1 64 then K135 x1 x2 x3 x5 x6 x7 (x8 + 1) (jx_w σ 12 (y1).toNatClampNeg (y2 + y3)) else none
def f_M_match_194 (N : Nat) (K103 : Int32 → Int32 → Int32 → Int32 → Int32 → jw_M → Option (Int32 × jw_M)) (K135 : Int32 → Int32 → Int32 → Int32 → Int32 → Int32 → Int32 → jw_M → Option (Int32 × jw_M)) (x1 : Int32) (x2 : Int32) (x3 : Int32) (x5 : Int32) (x6 : Int32) (x7 : Int32) (x8 : Int32) (y0 : Int32) (σ : jw_M) : Option (Int32 × jw_M) := bif jx_in x6 64 then if y0 = 0 then f_M_match_227 N K103 K135 x1 x2 x3 x5 x6 x7 x8 x6 (σ.1 12 (x6).toNatClampNeg) 0 σ else bif jx_in (x6 &&& (((1 : Int32) <<< (x8 &&& 31)) ^^^ (-1))) 64 then f_M_match_227 N K103 K135 x1 x2 x3 x5 x6 x7 x8 x6 (σ.1 12 (x6).toNatClampNeg) (σ.1 12 ((x6 &&& (((1 : Int32) <<< (x8 &&& 31)) ^^^ (-1)))).toNatClampNeg) σ else none else none
def f_M_match_193 (N : Nat) (K103 : Int32 → Int32 → Int32 → Int32 → Int32 → jw_M → Option (Int32 × jw_M)) (K135 : Int32 → Int32 → Int32 → Int32 → Int32 → Int32 → Int32 → jw_M → Option (Int32 × jw_M)) (x1 : Int32) (x2 : Int32) (x3 : Int32) (x5 : Int32) (x6 : Int32) (x7 : Int32) (x8 : Int32) (σ : jw_M) : Option (Int32 × jw_M) := f_M_match_194 N K103 K135 x1 x2 x3 x5 x6 x7 x8 0 σ
def f_M_match_135 (N : Nat) (K103 : Int32 → Int32 → Int32 → Int32 → Int32 → jw_M → Option (Int32 × jw_M)) : Nat → Int32 → Int32 → Int32 → Int32 → Int32 → Int32 → Int32 → jw_M → Option (Int32 × jw_M)
  | 0, _, _, _, _, _, _, _, _ => none
  | k + 1, x1, x2, x3, x5, x6, x7, x8, σ => if (σ.1 3 2) ≤ x8 then K103 x1 x2 x3 x5 (x6 + 1) σ else if ((x6 >>> (x8 &&& 31)) &&& 1) = 1 then (f_M_of N x8 0 σ).bind fun z21 => (f_M_of N x8 2 z21.2).bind fun z23 => (f_M_lengthBy N (z21.1) (z23.1) (z23.2.1 1 0) z23.2).bind fun z25 => (f_M_far N x7 (z25.1) z25.2).bind fun z27 => if x3 < z27.1 then f_M_match_193 N K103 (f_M_match_135 N K103 k) x1 x2 x3 x5 x6 x7 x8 z27.2 else f_M_match_194 N K103 (f_M_match_135 N K103 k) x1 x2 x3 x5 x6 x7 x8 1 z27.2 else f_M_match_193 N K103 (f_M_match_135 N K103 k) x1 x2 x3 x5 x6 x7 x8 σ
def f_M_match_103 (N : Nat) : Nat → Int32 → Int32 → Int32 → Int32 → Int32 → jw_M → Option (Int32 × jw_M)
  | 0, _, _, _, _, _, _ => none
  | k + 1, x1, x2, x3, x5, x6, σ => if x5 ≤ x6 then bif jx_in (x5 - 1) 64 then some ((σ.1 12 ((x5 - 1)).toNatClampNeg), σ) else none else (f_M_ones N x6 σ).bind fun z16 => bif jx_in ((((40 * x1) + x2) + z16.1) - 1) 160 then f_M_match_135 N (f_M_match_103 N k) N x1 x2 x3 x5 x6 ((z16.2.2 16 (((((40 * x1) + x2) + z16.1) - 1)).toNatClampNeg)).toInt32 0 z16.2 else none
def f_M_match_72 (N : Nat) : Nat → Int32 → Int32 → Int32 → Int32 → Int32 → jw_M → Option (Int32 × jw_M)
  | 0, _, _, _, _, _, _ => none
  | k + 1, x1, x2, x3, x5, x6, σ => if x5 ≤ x6 then f_M_match_103 N N x1 x2 x3 x5 1 (jx_w σ 12 0 (1 : Int32)) else bif jx_in x6 64 then f_M_match_72 N k x1 x2 x3 x5 (x6 + 1) (jx_w σ 12 (x6).toNatClampNeg (0 : Int32)) else none
def f_M_match (N : Nat) (x1 : Int32) (x2 : Int32) (x3 : Int32) (σ : jw_M) : Option (Int32 × jw_M) := (f_M_isSheet N x1 σ).bind fun z1 => if z1.1 = 0 then some ((-1), z1.2) else (f_M_in N x3 0 99 z1.2).bind fun z4 => if z4.1 = 0 then some ((-1), z4.2) else (f_M_lacksSort N x1 0 z4.2).bind fun z7 => if z7.1 = 0 then if x2 < 0 then some ((-12), z7.2) else bif jx_in x1 4 then if x2 ≤ ((z7.2.1 15 (x1).toNatClampNeg) - (z7.2.1 3 2)) then f_M_match_72 N N x1 x2 x3 ((1 : Int32) <<< ((z7.2.1 3 2) &&& 31)) 1 z7.2 else some ((-12), z7.2) else none else some (z7.1, z7.2)
/-! ShadowSchoolModel.planHours(I)I -/
def f_M_planHours (N : Nat) (x1 : Int32) (σ : jw_M) : Option (Int32 × jw_M) := if x1 ≤ ((σ.1 3 0) - (σ.1 1 0)) then some (x1, σ) else if 0 ≤ ((σ.1 3 0) - (σ.1 1 0)) then some (((σ.1 3 0) - (σ.1 1 0)), σ) else some (0, σ)
/-! ShadowSchoolModel.plans(I)I -/
def f_M_plans_4 (N : Nat) : Nat → Int32 → Int32 → Int32 → jw_M → Option (Int32 × jw_M)
  | 0, _, _, _, _ => none
  | k + 1, x1, x2, x3, σ => if x1 ≤ x3 then some (x2, σ) else f_M_plans_4 N k x1 (x2 * ((σ.1 3 2) + 1)) (x3 + 1) σ
def f_M_plans (N : Nat) (x1 : Int32) (σ : jw_M) : Option (Int32 × jw_M) := f_M_plans_4 N N x1 1 0 σ
/-! ShadowSchoolModel.actIn(III)I -/
def f_M_actIn_8 (N : Nat) : Nat → Int32 → Int32 → Int32 → jw_M → Option (Int32 × jw_M)
  | 0, _, _, _, _ => none
  | k + 1, x3, x4, x5, σ => if x5 ≤ x3 then if ((σ.1 3 2) + 1) = 0 then none else some ((x4 - x4 / ((σ.1 3 2) + 1) * ((σ.1 3 2) + 1)), σ) else if ((σ.1 3 2) + 1) = 0 then none else f_M_actIn_8 N k x3 (x4 / ((σ.1 3 2) + 1)) (x5 + (-1)) σ
def f_M_actIn (N : Nat) (x1 : Int32) (x2 : Int32) (x3 : Int32) (σ : jw_M) : Option (Int32 × jw_M) := f_M_actIn_8 N N x3 x1 (x2 - 1) σ
/-! ShadowSchoolModel.plays(II)I -/
def f_M_plays_5 (N : Nat) : Nat → Int32 → Int32 → Int32 → Int32 → jw_M → Option (Int32 × jw_M)
  | 0, _, _, _, _, _ => none
  | k + 1, x1, x2, x3, x4, σ => if x2 ≤ x4 then some (x3, σ) else (f_M_actIn N x1 x2 x4 σ).bind fun z2 => (f_M_goes N (z2.1) z2.2).bind fun z4 => f_M_plays_5 N k x1 x2 (x3 + z4.1) (x4 + 1) z4.2
def f_M_plays (N : Nat) (x1 : Int32) (x2 : Int32) (σ : jw_M) : Option (Int32 × jw_M) := f_M_plays_5 N N x1 x2 0 0 σ
/-! ShadowSchoolModel.findBest(I)V -/
def f_M_findBest_84 (N : Nat) (K22 : Int32 → Int32 → jw_M → Option jw_M) (x1 : Int32) (x2 : Int32) (y1 : Int32) (y2 : Int32) (σ : jw_M) : Option jw_M := K22 x1 (x2 + 1) (jx_w σ 0 24 (y1 + y2))
def f_M_findBest_66 (N : Nat) (K22 : Int32 → Int32 → jw_M → Option jw_M) (x1 : Int32) (x2 : Int32) (x3 : Int32) (σ : jw_M) : Option jw_M := if x3 = (σ.1 0 22) then f_M_findBest_84 N K22 x1 x2 (σ.1 0 24) 1 σ else f_M_findBest_84 N K22 x1 x2 (σ.1 0 24) 0 σ
def f_M_findBest_22 (N : Nat) : Nat → Int32 → Int32 → jw_M → Option jw_M
  | 0, _, _, _ => none
  | k + 1, x1, x2, σ => (f_M_plans N x1 σ).bind fun z3 => if z3.1 ≤ x2 then some z3.2 else (f_M_plays N x2 x1 z3.2).bind fun z6 => (f_M_load N 0 z6.2).bind fun z8 => if z6.1 ≤ (z8.1 0 22) then f_M_findBest_66 N (f_M_findBest_22 N k) x1 x2 (z6.1) z8 else f_M_findBest_66 N (f_M_findBest_22 N k) x1 x2 (z6.1) (jx_w (jx_w (jx_w z8 0 22 z6.1) 0 23 x2) 0 24 (0 : Int32))
def f_M_findBest (N : Nat) (x1 : Int32) (σ : jw_M) : Option jw_M := (f_M_save N 0 (jx_w (jx_w (jx_w σ 0 22 ((-1) : Int32)) 0 23 (0 : Int32)) 0 24 (0 : Int32))).bind fun z1 => f_M_findBest_22 N N x1 0 z1
/-! ShadowSchoolModel.best(I)I -/
def f_M_best (N : Nat) (x1 : Int32) (σ : jw_M) : Option (Int32 × jw_M) := (f_M_in N x1 0 4 σ).bind fun z1 => if z1.1 = 0 then some ((-1), z1.2) else (f_M_planHours N x1 z1.2).bind fun z4 => (f_M_findBest N (z4.1) z4.2).bind fun z6 => some ((z6.1 0 22), z6)
/-! ShadowSchoolModel.ith(II)I -/
def f_M_ith (N : Nat) (x1 : Int32) (x2 : Int32) (σ : jw_M) : Option (Int32 × jw_M) := (f_M_in N x1 0 4 σ).bind fun z1 => if z1.1 = 0 then some ((-1), z1.2) else (f_M_in N x2 0 3 z1.2).bind fun z4 => if z4.1 = 0 then some ((-1), z4.2) else (f_M_planHours N x1 z4.2).bind fun z7 => if x2 < z7.1 then (f_M_findBest N (z7.1) z7.2).bind fun z10 => (f_M_actIn N (z10.1 0 23) (z7.1) x2 z10).bind fun z12 => some (z12.1, z12.2) else some ((-3), z7.2)
/-! ShadowSchoolModel.ways(I)I -/
def f_M_ways (N : Nat) (x1 : Int32) (σ : jw_M) : Option (Int32 × jw_M) := (f_M_in N x1 0 4 σ).bind fun z1 => if z1.1 = 0 then some ((-1), z1.2) else (f_M_planHours N x1 z1.2).bind fun z4 => (f_M_findBest N (z4.1) z4.2).bind fun z6 => some ((z6.1 0 24), z6)
/-! ShadowSchoolModel.someLearnt()I -/
def f_M_someLearnt_4 (N : Nat) : Nat → Int32 → Int32 → jw_M → Option (Int32 × jw_M)
  | 0, _, _, _ => none
  | k + 1, x1, x2, σ => if (σ.1 3 2) ≤ x2 then some (x1, σ) else bif jx_in (2 + x2) 56 then f_M_someLearnt_4 N k (x1 ||| (σ.1 1 ((2 + x2)).toNatClampNeg)) (x2 + 1) σ else none
def f_M_someLearnt (N : Nat) (σ : jw_M) : Option (Int32 × jw_M) := f_M_someLearnt_4 N N 0 0 σ
/-! ShadowSchoolModel.actsOf(II)I -/
def f_M_actsOf_28 (N : Nat) (K5 : Int32 → Int32 → Int32 → Int32 → jw_M → Option (Int32 × jw_M)) (x1 : Int32) (x2 : Int32) (x4 : Int32) (y0 : Int32) (y1 : Int32) (σ : jw_M) : Option (Int32 × jw_M) := K5 x1 x2 (y0 + y1) (x4 + 1) σ
def f_M_actsOf_5 (N : Nat) : Nat → Int32 → Int32 → Int32 → Int32 → jw_M → Option (Int32 × jw_M)
  | 0, _, _, _, _, _ => none
  | k + 1, x1, x2, x3, x4, σ => if x2 ≤ x4 then some (x3, σ) else (f_M_actIn N x1 x2 x4 σ).bind fun z2 => if z2.1 ≤ 0 then f_M_actsOf_28 N (f_M_actsOf_5 N k) x1 x2 x4 x3 0 z2.2 else f_M_actsOf_28 N (f_M_actsOf_5 N k) x1 x2 x4 x3 1 z2.2
def f_M_actsOf (N : Nat) (x1 : Int32) (x2 : Int32) (σ : jw_M) : Option (Int32 × jw_M) := f_M_actsOf_5 N N x1 x2 0 0 σ
/-! ShadowSchoolModel.findTaught(II)V -/
def f_M_findTaught_99 (N : Nat) (K18 : Int32 → Int32 → Int32 → jw_M → Option jw_M) (x1 : Int32) (x2 : Int32) (x3 : Int32) (y1 : Int32) (σ : jw_M) : Option jw_M := K18 x1 x2 (x3 + 1) (jx_w σ 0 25 y1)
def f_M_findTaught_90 (N : Nat) (K18 : Int32 → Int32 → Int32 → jw_M → Option jw_M) (x1 : Int32) (x2 : Int32) (x3 : Int32) (x6 : Int32) (σ : jw_M) : Option jw_M := f_M_findTaught_99 N K18 x1 x2 x3 x6 σ
def f_M_findTaught_95 (N : Nat) (K18 : Int32 → Int32 → Int32 → jw_M → Option jw_M) (x1 : Int32) (x2 : Int32) (x3 : Int32) (σ : jw_M) : Option jw_M := f_M_findTaught_99 N K18 x1 x2 x3 (σ.1 0 25) σ
def f_M_findTaught_18 (N : Nat) : Nat → Int32 → Int32 → Int32 → jw_M → Option jw_M
  | 0, _, _, _, _ => none
  | k + 1, x1, x2, x3, σ => (f_M_plans N x1 σ).bind fun z3 => if z3.1 ≤ x3 then some z3.2 else (f_M_plays N x3 x1 z3.2).bind fun z6 => (f_M_someLearnt N  z6.2).bind fun z8 => (f_M_load N 0 z8.2).bind fun z10 => (f_M_actsOf N x3 x1 (jx_w z10 0 26 ((z10.1 0 26) ||| z8.1))).bind fun z12 => if (z8.1 &&& x2) = x2 then if (z12.2.1 0 25) < 0 then f_M_findTaught_90 N (f_M_findTaught_18 N k) x1 x2 x3 (z12.1) z12.2 else if (z12.2.1 0 25) ≤ z12.1 then f_M_findTaught_95 N (f_M_findTaught_18 N k) x1 x2 x3 z12.2 else f_M_findTaught_90 N (f_M_findTaught_18 N k) x1 x2 x3 (z12.1) z12.2 else f_M_findTaught_95 N (f_M_findTaught_18 N k) x1 x2 x3 z12.2
def f_M_findTaught (N : Nat) (x1 : Int32) (x2 : Int32) (σ : jw_M) : Option jw_M := (f_M_save N 0 (jx_w (jx_w σ 0 25 ((-3) : Int32)) 0 26 (0 : Int32))).bind fun z1 => f_M_findTaught_18 N N x1 x2 0 z1
/-! ShadowSchoolModel.taught(II)I -/
def f_M_taught (N : Nat) (x1 : Int32) (x2 : Int32) (σ : jw_M) : Option (Int32 × jw_M) := (f_M_in N x1 0 4 σ).bind fun z1 => if z1.1 = 0 then some ((-1), z1.2) else (f_M_allLessons N  z1.2).bind fun z4 => (f_M_in N x2 0 (z4.1) z4.2).bind fun z6 => if z6.1 = 0 then some ((-1), z6.2) else (f_M_planHours N x1 z6.2).bind fun z9 => (f_M_findTaught N (z9.1) x2 z9.2).bind fun z11 => some ((z11.1 0 25), z11)
/-! ShadowSchoolModel.bars(II)I -/
def f_M_bars_67 (N : Nat) (x4 : Int32) (σ : jw_M) : Option (Int32 × jw_M) := if 8 ≤ x4 then some ((-3), σ) else some (x4, σ)
def f_M_bars_45 (N : Nat) : Nat → Int32 → Int32 → jw_M → Option (Int32 × jw_M)
  | 0, _, _, _ => none
  | k + 1, x3, x4, σ => if 8 ≤ x4 then f_M_bars_67 N x4 σ else if ((x3 >>> (x4 &&& 31)) &&& 1) = 0 then f_M_bars_45 N k x3 (x4 + 1) σ else f_M_bars_67 N x4 σ
def f_M_bars (N : Nat) (x1 : Int32) (x2 : Int32) (σ : jw_M) : Option (Int32 × jw_M) := (f_M_in N x1 0 4 σ).bind fun z1 => if z1.1 = 0 then some ((-1), z1.2) else (f_M_allLessons N  z1.2).bind fun z4 => (f_M_in N x2 0 (z4.1) z4.2).bind fun z6 => if z6.1 = 0 then some ((-1), z6.2) else (f_M_planHours N x1 z6.2).bind fun z9 => (f_M_findTaught N (z9.1) x2 z9.2).bind fun z11 => f_M_bars_45 N N (x2 &&& ((z11.1 0 26) ^^^ (-1))) 0 z11
/-! ShadowSchoolModel.valueOf(IIZ)I -/
def f_M_valueOf_123 (N : Nat) (Rec : Int32 → Int32 → Int32 → jw_M → Option (Int32 × jw_M)) (K20 : Int32 → Int32 → Int32 → Int32 → Int32 → Int32 → jw_M → Option (Int32 × jw_M)) (x1 : Int32) (x2 : Int32) (x3 : Int32) (x4 : Int32) (x6 : Int32) (y0 : Int32) (σ : jw_M) : Option (Int32 × jw_M) := K20 x1 x2 x3 x4 y0 (x6 + 1) σ
def f_M_valueOf_109 (N : Nat) (Rec : Int32 → Int32 → Int32 → jw_M → Option (Int32 × jw_M)) (K20 : Int32 → Int32 → Int32 → Int32 → Int32 → Int32 → jw_M → Option (Int32 × jw_M)) (x1 : Int32) (x2 : Int32) (x3 : Int32) (x5 : Int32) (x6 : Int32) (x7 : Int32) (x8 : Int32) (y0 : Int32) (σ : jw_M) : Option (Int32 × jw_M) := if x8 = 0 then f_M_valueOf_123 N Rec K20 x1 x2 x3 y0 x6 x5 σ else f_M_valueOf_123 N Rec K20 x1 x2 x3 y0 x6 x7 σ
def f_M_valueOf_95 (N : Nat) (Rec : Int32 → Int32 → Int32 → jw_M → Option (Int32 × jw_M)) (K20 : Int32 → Int32 → Int32 → Int32 → Int32 → Int32 → jw_M → Option (Int32 × jw_M)) (x1 : Int32) (x2 : Int32) (x3 : Int32) (x4 : Int32) (x5 : Int32) (x6 : Int32) (x7 : Int32) (y0 : Int32) (σ : jw_M) : Option (Int32 × jw_M) := if y0 = 0 then f_M_valueOf_109 N Rec K20 x1 x2 x3 x5 x6 x7 y0 x4 σ else f_M_valueOf_109 N Rec K20 x1 x2 x3 x5 x6 x7 y0 x6 σ
def f_M_valueOf_90 (N : Nat) (Rec : Int32 → Int32 → Int32 → jw_M → Option (Int32 × jw_M)) (K20 : Int32 → Int32 → Int32 → Int32 → Int32 → Int32 → jw_M → Option (Int32 × jw_M)) (x1 : Int32) (x2 : Int32) (x3 : Int32) (x4 : Int32) (x5 : Int32) (x6 : Int32) (x7 : Int32) (σ : jw_M) : Option (Int32 × jw_M) := f_M_valueOf_95 N Rec K20 x1 x2 x3 x4 x5 x6 x7 1 σ
def f_M_valueOf_94 (N : Nat) (Rec : Int32 → Int32 → Int32 → jw_M → Option (Int32 × jw_M)) (K20 : Int32 → Int32 → Int32 → Int32 → Int32 → Int32 → jw_M → Option (Int32 × jw_M)) (x1 : Int32) (x2 : Int32) (x3 : Int32) (x4 : Int32) (x5 : Int32) (x6 : Int32) (x7 : Int32) (σ : jw_M) : Option (Int32 × jw_M) := f_M_valueOf_95 N Rec K20 x1 x2 x3 x4 x5 x6 x7 0 σ
def f_M_valueOf_53 (N : Nat) (Rec : Int32 → Int32 → Int32 → jw_M → Option (Int32 × jw_M)) (K20 : Int32 → Int32 → Int32 → Int32 → Int32 → Int32 → jw_M → Option (Int32 × jw_M)) (x1 : Int32) (x2 : Int32) (x3 : Int32) (x4 : Int32) (x5 : Int32) (x6 : Int32) (y0 : Int32) (y2 : Int32) (y3 : Int32) (y4 : Int32) (σ : jw_M) : Option (Int32 × jw_M) := (Rec y2 y3 y4 σ).bind fun z8 => (f_M_load N x1 z8.2).bind fun z10 => if x4 < 0 then f_M_valueOf_90 N Rec K20 x1 x2 x3 x4 x5 x6 (y0 + z8.1) z10 else if x3 = 0 then if x5 ≤ (y0 + z8.1) then f_M_valueOf_94 N Rec K20 x1 x2 x3 x4 x5 x6 (y0 + z8.1) z10 else f_M_valueOf_90 N Rec K20 x1 x2 x3 x4 x5 x6 (y0 + z8.1) z10 else if (y0 + z8.1) ≤ x5 then f_M_valueOf_94 N Rec K20 x1 x2 x3 x4 x5 x6 (y0 + z8.1) z10 else f_M_valueOf_90 N Rec K20 x1 x2 x3 x4 x5 x6 (y0 + z8.1) z10
def f_M_valueOf_20 (N : Nat) (Rec : Int32 → Int32 → Int32 → jw_M → Option (Int32 × jw_M)) : Nat → Int32 → Int32 → Int32 → Int32 → Int32 → Int32 → jw_M → Option (Int32 × jw_M)
  | 0, _, _, _, _, _, _, _ => none
  | k + 1, x1, x2, x3, x4, x5, x6, σ => if (σ.1 3 2) < x6 then some (x5, (jx_w σ 0 27 x4)) else (f_M_goes N x6 σ).bind fun z5 => if x3 = 0 then f_M_valueOf_53 N Rec (f_M_valueOf_20 N Rec k) x1 x2 x3 x4 x5 x6 (z5.1) (x1 + 1) (x2 - 1) 1 z5.2 else f_M_valueOf_53 N Rec (f_M_valueOf_20 N Rec k) x1 x2 x3 x4 x5 x6 (z5.1) (x1 + 1) (x2 - 1) 0 z5.2
def f_M_valueOf (N : Nat) : Nat → Int32 → Int32 → Int32 → jw_M → Option (Int32 × jw_M)
  | 0, _, _, _, _ => none
  | r + 1, x1, x2, x3, σ => if x2 = 0 then some (0, σ) else (f_M_save N x1 σ).bind fun z2 => f_M_valueOf_20 N (f_M_valueOf N r) N x1 x2 x3 (-1) 0 0 z2
/-! ShadowSchoolModel.game(I)I -/
def f_M_game (N : Nat) (x1 : Int32) (σ : jw_M) : Option (Int32 × jw_M) := (f_M_in N x1 1 4 σ).bind fun z1 => if z1.1 = 0 then some ((-1), z1.2) else (f_M_planHours N x1 z1.2).bind fun z4 => (f_M_valueOf N 64 0 (z4.1) 1 z4.2).bind fun z6 => some (z6.1, z6.2)
/-! ShadowSchoolModel.play(I)I -/
def f_M_play (N : Nat) (x1 : Int32) (σ : jw_M) : Option (Int32 × jw_M) := (f_M_in N x1 1 4 σ).bind fun z1 => if z1.1 = 0 then some ((-1), z1.2) else (f_M_isOver N  z1.2).bind fun z4 => if z4.1 = 0 then (f_M_planHours N x1 z4.2).bind fun z7 => (f_M_valueOf N 64 0 (z7.1) 1 z7.2).bind fun z9 => some ((z9.2.1 0 27), z9.2) else some ((-3), z4.2)
/-! ShadowSchoolModel.report(IIII)I -/
def f_M_report (N : Nat) (x1 : Int32) (x2 : Int32) (x3 : Int32) (x4 : Int32) (σ : jw_M) : Option (Int32 × jw_M) := (f_M_in N x1 1 5 σ).bind fun z1 => if z1.1 = 0 then some ((-1), z1.2) else (f_M_in N x2 1 9 z1.2).bind fun z4 => if z4.1 = 0 then some ((-1), z4.2) else (f_M_in N x3 0 999 z4.2).bind fun z7 => if z7.1 = 0 then some ((-1), z7.2) else (f_M_in N x4 x3 999 z7.2).bind fun z10 => if z10.1 = 0 then some ((-1), z10.2) else if (z10.2.1 3 5) = 6 then some ((-2), z10.2) else bif jx_in (70 + (4 * (z10.2.1 3 5))) 526 then bif jx_in ((70 + (4 * (z10.2.1 3 5))) + 1) 526 then bif jx_in ((70 + (4 * (z10.2.1 3 5))) + 2) 526 then bif jx_in ((70 + (4 * (z10.2.1 3 5))) + 3) 526 then some ((((jx_w (jx_w (jx_w (jx_w (jx_w z10.2 3 ((70 + (4 * (z10.2.1 3 5)))).toNatClampNeg x1) 3 (((70 + (4 * (z10.2.1 3 5))) + 1)).toNatClampNeg x2) 3 (((70 + (4 * (z10.2.1 3 5))) + 2)).toNatClampNeg x3) 3 (((70 + (4 * (z10.2.1 3 5))) + 3)).toNatClampNeg x4) 3 5 (((jx_w (jx_w (jx_w (jx_w z10.2 3 ((70 + (4 * (z10.2.1 3 5)))).toNatClampNeg x1) 3 (((70 + (4 * (z10.2.1 3 5))) + 1)).toNatClampNeg x2) 3 (((70 + (4 * (z10.2.1 3 5))) + 2)).toNatClampNeg x3) 3 (((70 + (4 * (z10.2.1 3 5))) + 3)).toNatClampNeg x4).1 3 5) + 1)).1 3 5) - 1), (jx_w (jx_w (jx_w (jx_w (jx_w z10.2 3 ((70 + (4 * (z10.2.1 3 5)))).toNatClampNeg x1) 3 (((70 + (4 * (z10.2.1 3 5))) + 1)).toNatClampNeg x2) 3 (((70 + (4 * (z10.2.1 3 5))) + 2)).toNatClampNeg x3) 3 (((70 + (4 * (z10.2.1 3 5))) + 3)).toNatClampNeg x4) 3 5 (((jx_w (jx_w (jx_w (jx_w z10.2 3 ((70 + (4 * (z10.2.1 3 5)))).toNatClampNeg x1) 3 (((70 + (4 * (z10.2.1 3 5))) + 1)).toNatClampNeg x2) 3 (((70 + (4 * (z10.2.1 3 5))) + 2)).toNatClampNeg x3) 3 (((70 + (4 * (z10.2.1 3 5))) + 3)).toNatClampNeg x4).1 3 5) + 1))) else none else none else none else none
/-! ShadowSchoolModel.forget()I -/
def f_M_forget (N : Nat) (σ : jw_M) : Option (Int32 × jw_M) := (f_M_becomes N 5 0 σ).bind fun z1 => some (z1.1, z1.2)
/-! ShadowSchoolModel.fits(II)Z -/
def f_M_fits_96 (N : Nat) (K5 : Int32 → Int32 → Int32 → Int32 → jw_M → Option (Int32 × jw_M)) (x1 : Int32) (x2 : Int32) (x4 : Int32) (y0 : Int32) (σ : jw_M) : Option (Int32 × jw_M) := K5 x1 x2 y0 (x4 + 1) σ
def f_M_fits_95 (N : Nat) (K5 : Int32 → Int32 → Int32 → Int32 → jw_M → Option (Int32 × jw_M)) (x1 : Int32) (x2 : Int32) (x4 : Int32) (σ : jw_M) : Option (Int32 × jw_M) := f_M_fits_96 N K5 x1 x2 x4 0 σ
def f_M_fits_91 (N : Nat) (K5 : Int32 → Int32 → Int32 → Int32 → jw_M → Option (Int32 × jw_M)) (x1 : Int32) (x2 : Int32) (x4 : Int32) (σ : jw_M) : Option (Int32 × jw_M) := f_M_fits_96 N K5 x1 x2 x4 1 σ
def f_M_fits_5 (N : Nat) : Nat → Int32 → Int32 → Int32 → Int32 → jw_M → Option (Int32 × jw_M)
  | 0, _, _, _, _, _ => none
  | k + 1, x1, x2, x3, x4, σ => if (σ.1 3 5) ≤ x4 then if x3 = 0 ∨ x3 = 1 then some (x3, σ) else none else bif jx_in (70 + (4 * x4)) 526 then bif jx_in ((70 + (4 * x4)) + 1) 526 then (f_M_lengthBy N (σ.1 3 ((70 + (4 * x4))).toNatClampNeg) (σ.1 3 (((70 + (4 * x4)) + 1)).toNatClampNeg) (x1 / 5) σ).bind fun z5 => if x3 = 0 then f_M_fits_95 N (f_M_fits_5 N k) x1 x2 x4 z5.2 else if x4 = x2 then f_M_fits_91 N (f_M_fits_5 N k) x1 x2 x4 z5.2 else bif jx_in ((70 + (4 * x4)) + 2) 526 then bif jx_in ((70 + (4 * x4)) + 3) 526 then (f_M_in N (z5.1 * ((x1 - x1 / 5 * 5) + 1)) (z5.2.1 3 (((70 + (4 * x4)) + 2)).toNatClampNeg) (z5.2.1 3 (((70 + (4 * x4)) + 3)).toNatClampNeg) z5.2).bind fun z11 => if z11.1 = 0 then f_M_fits_95 N (f_M_fits_5 N k) x1 x2 x4 z11.2 else f_M_fits_91 N (f_M_fits_5 N k) x1 x2 x4 z11.2 else none else none else none else none
def f_M_fits (N : Nat) (x1 : Int32) (x2 : Int32) (σ : jw_M) : Option (Int32 × jw_M) := f_M_fits_5 N N x1 x2 1 0 σ
/-! ShadowSchoolModel.firstMoment(I)I -/
def f_M_firstMoment_2 (N : Nat) : Nat → Int32 → Int32 → jw_M → Option (Int32 × jw_M)
  | 0, _, _, _ => none
  | k + 1, x1, x2, σ => if 80 ≤ x2 then some ((-1), σ) else (f_M_fits N x2 x1 σ).bind fun z2 => if z2.1 = 0 then f_M_firstMoment_2 N k x1 (x2 + 1) z2.2 else some (x2, z2.2)
def f_M_firstMoment (N : Nat) (x1 : Int32) (σ : jw_M) : Option (Int32 × jw_M) := f_M_firstMoment_2 N N x1 0 σ
/-! ShadowSchoolModel.span(I)I -/
def f_M_span_40 (N : Nat) (K19 : Int32 → Int32 → jw_M → Option (Int32 × jw_M)) (x3 : Int32) (y0 : Int32) (y1 : Int32) (σ : jw_M) : Option (Int32 × jw_M) := K19 (y0 + y1) (x3 + 1) σ
def f_M_span_19 (N : Nat) : Nat → Int32 → Int32 → jw_M → Option (Int32 × jw_M)
  | 0, _, _, _ => none
  | k + 1, x2, x3, σ => if 80 ≤ x3 then some (x2, σ) else (f_M_fits N x3 (-1) σ).bind fun z6 => if z6.1 = 0 then f_M_span_40 N (f_M_span_19 N k) x3 x2 0 z6.2 else f_M_span_40 N (f_M_span_19 N k) x3 x2 1 z6.2
def f_M_span (N : Nat) (x1 : Int32) (σ : jw_M) : Option (Int32 × jw_M) := (f_M_in N x1 0 2 σ).bind fun z1 => if z1.1 = 0 then some ((-1), z1.2) else if x1 = 0 then f_M_span_19 N N 0 0 z1.2 else (f_M_firstMoment N (-1) z1.2).bind fun z9 => if 0 ≤ z9.1 then if x1 = 1 then some ((z9.1 / 5), z9.2) else some (((z9.1 - z9.1 / 5 * 5) + 1), z9.2) else some ((-3), z9.2)
/-! ShadowSchoolModel.liar()I -/
def f_M_liar_13 (N : Nat) : Nat → Int32 → jw_M → Option (Int32 × jw_M)
  | 0, _, _ => none
  | k + 1, x1, σ => if (σ.1 3 5) ≤ x1 then some ((-3), σ) else (f_M_firstMoment N x1 σ).bind fun z5 => if z5.1 < 0 then f_M_liar_13 N k (x1 + 1) z5.2 else some (x1, z5.2)
def f_M_liar (N : Nat) (σ : jw_M) : Option (Int32 × jw_M) := (f_M_firstMoment N (-1) σ).bind fun z1 => if z1.1 < 0 then f_M_liar_13 N N 0 z1.2 else some ((-3), z1.2)
/-! ShadowSchoolModel.seed(I)I -/
def f_M_seed (N : Nat) (x1 : Int32) (σ : jw_M) : Option (Int32 × jw_M) := (f_M_becomes N 1 x1 σ).bind fun z1 => some (z1.1, z1.2)
/-! ShadowSchoolModel.lotGoes()I -/
def f_M_lotGoes (N : Nat) (σ : jw_M) : Option (Int32 × jw_M) := if (((jx_w σ 3 1 (((σ.1 3 1) * 1103515245) + 12345)).1 3 2) + 1) = 0 then none else (f_M_goes N ((Int32.toUInt32 ((jx_w σ 3 1 (((σ.1 3 1) * 1103515245) + 12345)).1 3 1) >>> (Int32.toUInt32 16 &&& Int32.toUInt32 31)).toInt32 - (Int32.toUInt32 ((jx_w σ 3 1 (((σ.1 3 1) * 1103515245) + 12345)).1 3 1) >>> (Int32.toUInt32 16 &&& Int32.toUInt32 31)).toInt32 / (((jx_w σ 3 1 (((σ.1 3 1) * 1103515245) + 12345)).1 3 2) + 1) * (((jx_w σ 3 1 (((σ.1 3 1) * 1103515245) + 12345)).1 3 2) + 1)) (jx_w σ 3 1 (((σ.1 3 1) * 1103515245) + 12345))).bind fun z2 => some (z2.1, z2.2)
/-! ShadowSchoolModel.lot()I -/
def f_M_lot (N : Nat) (σ : jw_M) : Option (Int32 × jw_M) := (f_M_isOver N  σ).bind fun z1 => if z1.1 = 0 then (f_M_lotGoes N  z1.2).bind fun z4 => some (z4.1, z4.2) else some ((-4), z1.2)
/-! ShadowSchoolModel.often(II)I -/
def f_M_often_87 (N : Nat) (K41 : Int32 → Int32 → Int32 → Int32 → Int32 → jw_M → Option (Int32 × jw_M)) (x1 : Int32) (x2 : Int32) (x3 : Int32) (x5 : Int32) (y0 : Int32) (y1 : Int32) (σ : jw_M) : Option (Int32 × jw_M) := K41 x1 x2 x3 (y0 + y1) (x5 + 1) σ
def f_M_often_50 (N : Nat) (K41 : Int32 → Int32 → Int32 → Int32 → Int32 → jw_M → Option (Int32 × jw_M)) : Nat → Int32 → Int32 → Int32 → Int32 → Int32 → Int32 → jw_M → Option (Int32 × jw_M)
  | 0, _, _, _, _, _, _, _ => none
  | k + 1, x1, x2, x3, x4, x5, x6, σ => (f_M_isOver N  σ).bind fun z10 => if z10.1 = 0 then (f_M_lotGoes N  z10.2).bind fun z13 => f_M_often_50 N K41 k x1 x2 x3 x4 x5 (x6 + z13.1) z13.2 else (f_M_load N 0 z10.2).bind fun z15 => if x6 < x2 then f_M_often_87 N K41 x1 x2 x3 x5 x4 0 z15 else f_M_often_87 N K41 x1 x2 x3 x5 x4 1 z15
def f_M_often_41 (N : Nat) : Nat → Int32 → Int32 → Int32 → Int32 → Int32 → jw_M → Option (Int32 × jw_M)
  | 0, _, _, _, _, _, _ => none
  | k + 1, x1, x2, x3, x4, x5, σ => if x1 ≤ x5 then some (x4, (jx_w σ 3 1 x3)) else f_M_often_50 N (f_M_often_41 N k) N x1 x2 x3 x4 x5 0 σ
def f_M_often (N : Nat) (x1 : Int32) (x2 : Int32) (σ : jw_M) : Option (Int32 × jw_M) := (f_M_in N x1 1 40 σ).bind fun z1 => if z1.1 = 0 then some ((-1), z1.2) else (f_M_in N x2 0 999 z1.2).bind fun z4 => if z4.1 = 0 then some ((-1), z4.2) else (f_M_save N 0 z4.2).bind fun z7 => f_M_often_41 N N x1 x2 (z4.2.1 3 1) 0 0 z7
/-! ShadowSchoolModel.prove(I)I -/
def f_M_prove_24 (N : Nat) : Nat → Int32 → Int32 → jw_M → Option (Int32 × jw_M)
  | 0, _, _, _ => none
  | k + 1, x2, x3, σ => if x2 ≤ x3 then (f_M_load N 0 σ).bind fun z9 => some (x2, (jx_w z9 0 29 x2)) else (f_M_actIn N (σ.1 0 23) x2 x3 σ).bind fun z11 => bif jx_in (3 * x3) 12 then (f_M_goes N ((jx_w z11.2 13 ((3 * x3)).toNatClampNeg z11.1).1 13 ((3 * x3)).toNatClampNeg) (jx_w z11.2 13 ((3 * x3)).toNatClampNeg z11.1)).bind fun z14 => bif jx_in ((3 * x3) + 1) 12 then (f_M_someLearnt N  (jx_w z14.2 13 (((3 * x3) + 1)).toNatClampNeg z14.1)).bind fun z17 => bif jx_in ((3 * x3) + 2) 12 then f_M_prove_24 N k x2 (x3 + 1) (jx_w z17.2 13 (((3 * x3) + 2)).toNatClampNeg z17.1) else none else none else none
def f_M_prove (N : Nat) (x1 : Int32) (σ : jw_M) : Option (Int32 × jw_M) := (f_M_in N x1 0 4 σ).bind fun z1 => if z1.1 = 0 then some ((-1), z1.2) else (f_M_planHours N x1 z1.2).bind fun z4 => (f_M_findBest N (z4.1) z4.2).bind fun z6 => f_M_prove_24 N N (z4.1) 0 z6
/-! ShadowSchoolModel.isCell(II)Z -/
def f_M_isCell (N : Nat) (x1 : Int32) (x2 : Int32) (σ : jw_M) : Option (Int32 × jw_M) := (f_M_in N x1 0 ((σ.1 0 29) - 1) σ).bind fun z1 => if z1.1 = 0 then some (0, z1.2) else (f_M_in N x2 0 2 z1.2).bind fun z4 => if z4.1 = 0 then some (0, z4.2) else some (1, z4.2)
/-! ShadowSchoolModel.row(II)I -/
def f_M_row (N : Nat) (x1 : Int32) (x2 : Int32) (σ : jw_M) : Option (Int32 × jw_M) := (f_M_isCell N x1 x2 σ).bind fun z1 => if z1.1 = 0 then some ((-9), z1.2) else bif jx_in ((3 * x1) + x2) 12 then some ((z1.2.1 13 (((3 * x1) + x2)).toNatClampNeg), z1.2) else none
/-! ShadowSchoolModel.alterRow(III)I -/
def f_M_alterRow (N : Nat) (x1 : Int32) (x2 : Int32) (x3 : Int32) (σ : jw_M) : Option (Int32 × jw_M) := (f_M_isCell N x1 x2 σ).bind fun z1 => if z1.1 = 0 then some ((-9), z1.2) else bif jx_in ((3 * x1) + x2) 12 then some ((z1.2.1 13 (((3 * x1) + x2)).toNatClampNeg), (jx_w z1.2 13 (((3 * x1) + x2)).toNatClampNeg x3)) else none
/-! ShadowSchoolModel.isRight(I)Z -/
def f_M_isRight (N : Nat) (x1 : Int32) (σ : jw_M) : Option (Int32 × jw_M) := bif jx_in (3 * x1) 12 then (f_M_in N (σ.1 13 ((3 * x1)).toNatClampNeg) 0 (σ.1 3 2) σ).bind fun z2 => if z2.1 = 0 then some (0, z2.2) else (f_M_isOver N  z2.2).bind fun z5 => if z5.1 = 0 then (f_M_goes N (z5.2.1 13 ((3 * x1)).toNatClampNeg) z5.2).bind fun z8 => bif jx_in ((3 * x1) + 1) 12 then if z8.1 = (z8.2.1 13 (((3 * x1) + 1)).toNatClampNeg) then (f_M_someLearnt N  z8.2).bind fun z12 => bif jx_in ((3 * x1) + 2) 12 then if z12.1 = (z12.2.1 13 (((3 * x1) + 2)).toNatClampNeg) then some (1, z12.2) else some (0, z12.2) else none else some (0, z8.2) else none else some (0, z5.2) else none
/-! ShadowSchoolModel.judge()I -/
def f_M_judge_29 (N : Nat) (x1 : Int32) (σ : jw_M) : Option (Int32 × jw_M) := (f_M_load N 0 σ).bind fun z4 => if x1 = (z4.1 0 29) then some (0, z4) else some ((x1 + 1), z4)
def f_M_judge_7 (N : Nat) : Nat → Int32 → jw_M → Option (Int32 × jw_M)
  | 0, _, _ => none
  | k + 1, x1, σ => if (σ.1 0 29) ≤ x1 then f_M_judge_29 N x1 σ else (f_M_isRight N x1 σ).bind fun z7 => if z7.1 = 0 then f_M_judge_29 N x1 z7.2 else f_M_judge_7 N k (x1 + 1) z7.2
def f_M_judge (N : Nat) (σ : jw_M) : Option (Int32 × jw_M) := (f_M_save N 0 σ).bind fun z1 => f_M_judge_7 N N 0 z1
/-! ShadowSchoolModel.sheet(III)I -/
def f_M_sheet_64 (N : Nat) : Nat → Int32 → Int32 → jw_M → Option (Int32 × jw_M)
  | 0, _, _, _ => none
  | k + 1, x1, x4, σ => if 40 ≤ x4 then some (1, σ) else bif jx_in ((40 * x1) + x4) 160 then f_M_sheet_64 N k x1 (x4 + 1) (jx_wl σ 16 (((40 * x1) + x4)).toNatClampNeg 0) else none
def f_M_sheet_60 (N : Nat) (x1 : Int32) (y1 : Int32) (y2 : Int32) (σ : jw_M) : Option (Int32 × jw_M) := bif jx_in y1 4 then f_M_sheet_64 N N x1 0 (jx_w σ 15 (y1).toNatClampNeg y2) else none
def f_M_sheet_39 (N : Nat) (x1 : Int32) (x2 : Int32) (x3 : Int32) (σ : jw_M) : Option (Int32 × jw_M) := bif jx_in x1 4 then if 0 ≤ x2 then f_M_sheet_60 N x1 x1 x3 (jx_w σ 14 (x1).toNatClampNeg x2) else f_M_sheet_60 N x1 x1 0 (jx_w σ 14 (x1).toNatClampNeg x2) else none
def f_M_sheet_28 (N : Nat) (x1 : Int32) (x2 : Int32) (x3 : Int32) (σ : jw_M) : Option (Int32 × jw_M) := if x2 < 0 then f_M_sheet_39 N x1 x2 x3 σ else if 0 ≤ x3 then f_M_sheet_39 N x1 x2 x3 σ else some ((-14), σ)
def f_M_sheet (N : Nat) (x1 : Int32) (x2 : Int32) (x3 : Int32) (σ : jw_M) : Option (Int32 × jw_M) := (f_M_isSheet N x1 σ).bind fun z1 => if z1.1 = 0 then some ((-1), z1.2) else (f_M_in N x2 (-1) 4 z1.2).bind fun z4 => if z4.1 = 0 then some ((-1), z4.2) else if x2 < 0 then f_M_sheet_28 N x1 x2 x3 z4.2 else if x3 ≤ 40 then f_M_sheet_28 N x1 x2 x3 z4.2 else some ((-1), z4.2)
/-! ShadowSchoolModel.narrowed(II)J -/
def f_M_narrowed (N : Nat) (x0 : Int32) (x1 : Int32) (σ : jw_M) : Option (Int64 × jw_M) := if x0 = 0 then some (((x1).toInt8.toInt32).toInt64, σ) else if x0 = 1 then some (((x1).toInt16.toInt32).toInt64, σ) else if x0 = 4 then if x1 = 0 then some (0, σ) else some (1, σ) else some ((x1).toInt64, σ)
/-! ShadowSchoolModel.write(III)I -/
def f_M_write (N : Nat) (x1 : Int32) (x2 : Int32) (x3 : Int32) (σ : jw_M) : Option (Int32 × jw_M) := (f_M_isSheet N x1 σ).bind fun z1 => if z1.1 = 0 then some ((-1), z1.2) else bif jx_in x1 4 then if 0 ≤ (z1.2.1 14 (x1).toNatClampNeg) then (f_M_in N x2 0 ((z1.2.1 15 (x1).toNatClampNeg) - 1) z1.2).bind fun z6 => if z6.1 = 0 then some ((-12), z6.2) else (f_M_narrowed N (z6.2.1 14 (x1).toNatClampNeg) x3 z6.2).bind fun z9 => bif jx_in ((40 * x1) + x2) 160 then some (1, (jx_wl z9.2 16 (((40 * x1) + x2)).toNatClampNeg z9.1)) else none else some ((-11), z1.2) else none
/-! ShadowSchoolModel.item(III)I -/
def f_M_item (N : Nat) (x1 : Int32) (x2 : Int32) (x3 : Int32) (σ : jw_M) : Option (Int32 × jw_M) := (f_M_isSheet N x1 σ).bind fun z1 => if z1.1 = 0 then some ((-1), z1.2) else (f_M_in N x2 0 4 z1.2).bind fun z4 => if z4.1 = 0 then some ((-1), z4.2) else (f_M_lacksSort N x1 x2 z4.2).bind fun z7 => if z7.1 = 0 then bif jx_in x1 4 then (f_M_in N x3 0 ((z7.2.1 15 (x1).toNatClampNeg) - 1) z7.2).bind fun z11 => if z11.1 = 0 then some ((-12), z11.2) else bif jx_in ((40 * x1) + x3) 160 then some (((z11.2.2 16 (((40 * x1) + x3)).toNatClampNeg)).toInt32, z11.2) else none else none else some (z7.1, z7.2)
/-! ShadowSchoolModel.goAll(III)I -/
def f_M_goAll_129 (N : Nat) (K41 : Int32 → Int32 → Int32 → Int32 → Int32 → jw_M → Option (Int32 × jw_M)) (x1 : Int32) (x2 : Int32) (x3 : Int32) (x6 : Int32) (y0 : Int32) (y1 : Int32) (σ : jw_M) : Option (Int32 × jw_M) := K41 x1 x2 x3 (y0 + y1) (x6 + 1) σ
def f_M_goAll_128 (N : Nat) (K41 : Int32 → Int32 → Int32 → Int32 → Int32 → jw_M → Option (Int32 × jw_M)) (x1 : Int32) (x2 : Int32) (x3 : Int32) (x6 : Int32) (y0 : Int32) (σ : jw_M) : Option (Int32 × jw_M) := f_M_goAll_129 N K41 x1 x2 x3 x6 y0 0 σ
def f_M_goAll_41 (N : Nat) : Nat → Int32 → Int32 → Int32 → Int32 → Int32 → jw_M → Option (Int32 × jw_M)
  | 0, _, _, _, _, _, _ => none
  | k + 1, x1, x2, x3, x5, x6, σ => if x3 ≤ x6 then some (x5, σ) else if (lg_cmp (((x2).toInt64 : Int64) + (x6).toInt64) 0) < 0 then some ((-12), σ) else bif jx_in x1 4 then if (lg_cmp (((x2).toInt64 : Int64) + (x6).toInt64) ((σ.1 15 (x1).toNatClampNeg)).toInt64) < 0 then bif jx_in (((40 * x1) + x2) + x6) 160 then (f_M_in N ((σ.2 16 ((((40 * x1) + x2) + x6)).toNatClampNeg)).toInt32 0 (σ.1 3 2) σ).bind fun z15 => if z15.1 = 0 then f_M_goAll_128 N (f_M_goAll_41 N k) x1 x2 x3 x6 x5 z15.2 else (f_M_isOver N  z15.2).bind fun z18 => if z18.1 = 0 then (f_M_goes N ((σ.2 16 ((((40 * x1) + x2) + x6)).toNatClampNeg)).toInt32 z18.2).bind fun z21 => f_M_goAll_129 N (f_M_goAll_41 N k) x1 x2 x3 x6 x5 (z21.1) z21.2 else f_M_goAll_128 N (f_M_goAll_41 N k) x1 x2 x3 x6 x5 z18.2 else none else some ((-12), σ) else none
def f_M_goAll (N : Nat) (x1 : Int32) (x2 : Int32) (x3 : Int32) (σ : jw_M) : Option (Int32 × jw_M) := (f_M_isSheet N x1 σ).bind fun z1 => if z1.1 = 0 then some ((-1), z1.2) else (f_M_in N x3 0 20 z1.2).bind fun z4 => if z4.1 = 0 then some ((-1), z4.2) else (f_M_lacksSort N x1 0 z4.2).bind fun z7 => if z7.1 = 0 then f_M_goAll_41 N N x1 x2 x3 0 0 z7.2 else some (z7.1, z7.2)
/-! ShadowSchoolModel.wouldGo(III)I -/
def f_M_wouldGo_6 (N : Nat) : Nat → Int32 → Int32 → Int32 → Int32 → Int32 → jw_M → Option (Int32 × jw_M)
  | 0, _, _, _, _, _, _ => none
  | k + 1, x1, x2, x3, x4, x5, σ => if x3 ≤ x5 then some (x4, σ) else if (lg_cmp (((x2).toInt64 : Int64) + (x5).toInt64) 0) < 0 then some ((-12), σ) else bif jx_in x1 4 then if (lg_cmp (((x2).toInt64 : Int64) + (x5).toInt64) ((σ.1 15 (x1).toNatClampNeg)).toInt64) < 0 then bif jx_in (((40 * x1) + x2) + x5) 160 then (f_M_in N ((σ.2 16 ((((40 * x1) + x2) + x5)).toNatClampNeg)).toInt32 0 (σ.1 3 2) σ).bind fun z6 => if z6.1 = 0 then some ((-4), z6.2) else (f_M_isOver N  z6.2).bind fun z9 => if z9.1 = 0 then (f_M_goes N ((σ.2 16 ((((40 * x1) + x2) + x5)).toNatClampNeg)).toInt32 z9.2).bind fun z12 => f_M_wouldGo_6 N k x1 x2 x3 (x4 + z12.1) (x5 + 1) z12.2 else some ((-4), z9.2) else none else some ((-12), σ) else none
def f_M_wouldGo (N : Nat) (x1 : Int32) (x2 : Int32) (x3 : Int32) (σ : jw_M) : Option (Int32 × jw_M) := f_M_wouldGo_6 N N x1 x2 x3 0 0 σ
/-! ShadowSchoolModel.wouldBe(III)I -/
def f_M_wouldBe (N : Nat) (x1 : Int32) (x2 : Int32) (x3 : Int32) (σ : jw_M) : Option (Int32 × jw_M) := (f_M_isSheet N x1 σ).bind fun z1 => if z1.1 = 0 then some ((-1), z1.2) else (f_M_in N x3 0 20 z1.2).bind fun z4 => if z4.1 = 0 then some ((-1), z4.2) else (f_M_lacksSort N x1 0 z4.2).bind fun z7 => if z7.1 = 0 then (f_M_save N 0 z7.2).bind fun z10 => (f_M_wouldGo N x1 x2 x3 z10).bind fun z12 => (f_M_load N 0 z12.2).bind fun z14 => some (z12.1, z14) else some (z7.1, z7.2)
/-! ShadowSchoolModel.isHeld(II)Z -/
def f_M_isHeld (N : Nat) (x1 : Int32) (x2 : Int32) (σ : jw_M) : Option (Int32 × jw_M) := if x1 = 0 then (f_M_isShadow N x2 σ).bind fun z2 => if z2.1 = 0 ∨ z2.1 = 1 then some (z2.1, z2.2) else none else if x1 = 1 then (f_M_isSheet N x2 σ).bind fun z6 => if z6.1 = 0 ∨ z6.1 = 1 then some (z6.1, z6.2) else none else if x1 = 2 then some (1, σ) else some (0, σ)
/-! ShadowSchoolModel.shelf(III)I -/
def f_M_shelf_89 (N : Nat) (y1 : Int32) (y2 : Int32) (σ : jw_M) : Option (Int32 × jw_M) := bif jx_in y1 4 then some (1, (jx_w σ 19 (y1).toNatClampNeg y2)) else none
def f_M_shelf_68 (N : Nat) (x1 : Int32) (x2 : Int32) (x3 : Int32) (y1 : Int32) (y2 : Int32) (σ : jw_M) : Option (Int32 × jw_M) := bif jx_in y1 4 then if x2 = 1 then bif jx_in x3 4 then f_M_shelf_89 N x1 ((jx_w σ 18 (y1).toNatClampNeg y2).1 15 (x3).toNatClampNeg) (jx_w σ 18 (y1).toNatClampNeg y2) else none else f_M_shelf_89 N x1 0 (jx_w σ 18 (y1).toNatClampNeg y2) else none
def f_M_shelf_47 (N : Nat) (x1 : Int32) (x2 : Int32) (x3 : Int32) (y1 : Int32) (y2 : Int32) (σ : jw_M) : Option (Int32 × jw_M) := bif jx_in y1 4 then if x2 = 1 then bif jx_in x3 4 then f_M_shelf_68 N x1 x2 x3 x1 ((jx_w σ 17 (y1).toNatClampNeg y2).1 14 (x3).toNatClampNeg) (jx_w σ 17 (y1).toNatClampNeg y2) else none else f_M_shelf_68 N x1 x2 x3 x1 x3 (jx_w σ 17 (y1).toNatClampNeg y2) else none
def f_M_shelf_42 (N : Nat) (x1 : Int32) (x2 : Int32) (x3 : Int32) (y1 : Int32) (σ : jw_M) : Option (Int32 × jw_M) := f_M_shelf_47 N x1 x2 x3 y1 (-1) σ
def f_M_shelf_46 (N : Nat) (x1 : Int32) (x2 : Int32) (x3 : Int32) (y1 : Int32) (σ : jw_M) : Option (Int32 × jw_M) := f_M_shelf_47 N x1 x2 x3 y1 x2 σ
def f_M_shelf (N : Nat) (x1 : Int32) (x2 : Int32) (x3 : Int32) (σ : jw_M) : Option (Int32 × jw_M) := (f_M_isSheet N x1 σ).bind fun z1 => if z1.1 = 0 then some ((-1), z1.2) else (f_M_isHeld N x2 x3 z1.2).bind fun z4 => if z4.1 = 0 then some ((-1), z4.2) else if x2 = 2 then f_M_shelf_42 N x1 x2 x3 x1 z4.2 else if x2 = 1 then bif jx_in x3 4 then if 0 ≤ (z4.2.1 14 (x3).toNatClampNeg) then f_M_shelf_46 N x1 x2 x3 x1 z4.2 else f_M_shelf_42 N x1 x2 x3 x1 z4.2 else none else f_M_shelf_46 N x1 x2 x3 x1 z4.2
/-! ShadowSchoolModel.kindOn(I)I -/
def f_M_kindOn (N : Nat) (x1 : Int32) (σ : jw_M) : Option (Int32 × jw_M) := bif jx_in x1 4 then if (σ.1 17 (x1).toNatClampNeg) = 0 then (f_M_isShadow N (σ.1 18 (x1).toNatClampNeg) σ).bind fun z3 => if z3.1 = 0 then some ((-1), z3.2) else (f_M_of N (z3.2.1 18 (x1).toNatClampNeg) 0 z3.2).bind fun z6 => some (z6.1, z6.2) else if 0 ≤ (σ.1 17 (x1).toNatClampNeg) then some (9, σ) else some ((-1), σ) else none
/-! ShadowSchoolModel.taken(II)I -/
def f_M_taken_29 (N : Nat) (x1 : Int32) (x2 : Int32) (σ : jw_M) : Option (Int32 × jw_M) := (f_M_kindOn N x1 σ).bind fun z10 => if 0 ≤ z10.1 then if z10.1 = 9 then bif jx_in x1 4 then if x2 = (10 + (z10.2.1 18 (x1).toNatClampNeg)) then some ((z10.2.1 19 (x1).toNatClampNeg), z10.2) else some ((-13), z10.2) else none else if 10 ≤ x2 then some ((-13), z10.2) else (f_M_isUnder N (z10.1) x2 z10.2).bind fun z17 => if z17.1 = 0 then some ((-13), z17.2) else bif jx_in x1 4 then some ((z17.2.1 18 (x1).toNatClampNeg), z17.2) else none else some ((-11), z10.2)
def f_M_taken (N : Nat) (x1 : Int32) (x2 : Int32) (σ : jw_M) : Option (Int32 × jw_M) := (f_M_isSheet N x1 σ).bind fun z1 => if z1.1 = 0 then some ((-1), z1.2) else (f_M_in N x2 0 5 z1.2).bind fun z4 => if z4.1 = 0 then (f_M_in N x2 10 14 z4.2).bind fun z7 => if z7.1 = 0 then some ((-1), z7.2) else f_M_taken_29 N x1 x2 z7.2 else f_M_taken_29 N x1 x2 z4.2
/-! ShadowSchoolModel.ran(I)V -/
def f_M_ran (N : Nat) (x1 : Int32) (σ : jw_M) : Option jw_M := if 30 ≤ (σ.1 0 40) then some σ else bif jx_in (σ.1 0 40) 30 then some (jx_w (jx_w σ 20 ((σ.1 0 40)).toNatClampNeg x1) 0 40 (((jx_w σ 20 ((σ.1 0 40)).toNatClampNeg x1).1 0 40) + 1)) else none
/-! ShadowSchoolModel.plainLies(I)I -/
def f_M_plainLies (N : Nat) (x1 : Int32) (σ : jw_M) : Option (Int32 × jw_M) := (f_M_ran N 10 σ).bind fun z1 => some (((x1 * 2) + (z1.1 0 37)), z1)
/-! ShadowSchoolModel.lies(I)I -/
def f_M_lies (N : Nat) (x1 : Int32) (σ : jw_M) : Option (Int32 × jw_M) := if (σ.1 0 36) = 1 then (f_M_ran N 20 σ).bind fun z1 => (f_M_plainLies N x1 z1).bind fun z3 => some ((z3.1 ^^^ (z3.2.1 0 38)), z3.2) else if (σ.1 0 36) = 3 then (f_M_ran N 50 σ).bind fun z5 => (f_M_plainLies N x1 z5).bind fun z7 => some ((0 - z7.1), z7.2) else (f_M_plainLies N x1 σ).bind fun z9 => some (z9.1, z9.2)
/-! ShadowSchoolModel.plainTurns(I)I -/
def f_M_plainTurns (N : Nat) (x1 : Int32) (σ : jw_M) : Option (Int32 × jw_M) := (f_M_ran N 11 σ).bind fun z1 => (f_M_lies N x1 z1).bind fun z3 => some ((z3.1 - (z3.2.1 0 38)), z3.2)
/-! ShadowSchoolModel.turns(I)I -/
def f_M_turns (N : Nat) (x1 : Int32) (σ : jw_M) : Option (Int32 × jw_M) := if (σ.1 0 36) = 2 then (f_M_ran N 30 σ).bind fun z1 => (f_M_plainTurns N x1 z1).bind fun z3 => some ((z3.1 + 9), z3.2) else if (σ.1 0 36) = 3 then (f_M_ran N 30 σ).bind fun z5 => (f_M_plainTurns N x1 z5).bind fun z7 => some ((z7.1 + 9), z7.2) else if (σ.1 0 36) = 4 then (f_M_plainTurns N x1 σ).bind fun z9 => some (z9.1, z9.2) else if (σ.1 0 36) = 5 then (f_M_ran N 60 σ).bind fun z11 => (f_M_plainTurns N x1 z11).bind fun z13 => some ((z13.1 * 2), z13.2) else (f_M_plainTurns N x1 σ).bind fun z15 => some (z15.1, z15.2)
/-! ShadowSchoolModel.plainFolds(I)I -/
def f_M_plainFolds_30 (N : Nat) (x1 : Int32) (y1 : Int32) (σ : jw_M) : Option (Int32 × jw_M) := if y1 = 0 ∨ y1 = 1 then if ((jx_w σ 0 41 y1).1 0 41) = 0 then if (((jx_w σ 0 41 y1).1 0 37) - ((jx_w σ 0 41 y1).1 0 38)) = 0 then none else some ((x1 / (((jx_w σ 0 41 y1).1 0 37) - ((jx_w σ 0 41 y1).1 0 38))), (jx_w σ 0 41 y1)) else some (0, (jx_w σ 0 41 y1)) else none
def f_M_plainFolds_25 (N : Nat) (x1 : Int32) (σ : jw_M) : Option (Int32 × jw_M) := f_M_plainFolds_30 N x1 1 σ
def f_M_plainFolds (N : Nat) (x1 : Int32) (σ : jw_M) : Option (Int32 × jw_M) := (f_M_ran N 12 σ).bind fun z1 => if (z1.1 0 41) = 0 then if (z1.1 0 37) = (z1.1 0 38) then f_M_plainFolds_25 N x1 z1 else f_M_plainFolds_30 N x1 0 z1 else f_M_plainFolds_25 N x1 z1
/-! ShadowSchoolModel.slowFolds(I)I -/
def f_M_slowFolds (N : Nat) (x1 : Int32) (σ : jw_M) : Option (Int32 × jw_M) := (f_M_ran N 40 σ).bind fun z1 => (f_M_plainFolds N x1 z1).bind fun z3 => some ((z3.1 - 1), z3.2)
/-! ShadowSchoolModel.folds(I)I -/
def f_M_folds (N : Nat) (x1 : Int32) (σ : jw_M) : Option (Int32 × jw_M) := if (σ.1 0 36) = 4 then (f_M_slowFolds N x1 σ).bind fun z2 => some (z2.1, z2.2) else if (σ.1 0 36) = 5 then (f_M_ran N 61 σ).bind fun z5 => (f_M_slowFolds N x1 z5).bind fun z7 => if (z7.2.1 0 41) = 0 then (f_M_lies N (z7.2.1 0 38) z7.2).bind fun z10 => some ((z7.1 ^^^ z10.1), z10.2) else some (0, z7.2) else (f_M_plainFolds N x1 σ).bind fun z12 => some (z12.1, z12.2)
/-! ShadowSchoolModel.plainAsks(I)I -/
def f_M_plainAsks (N : Nat) (x1 : Int32) (σ : jw_M) : Option (Int32 × jw_M) := (f_M_ran N 13 σ).bind fun z1 => (f_M_turns N x1 z1).bind fun z3 => some ((z3.1 * 3), z3.2)
/-! ShadowSchoolModel.asks(I)I -/
def f_M_asks (N : Nat) (x1 : Int32) (σ : jw_M) : Option (Int32 × jw_M) := if (σ.1 0 36) = 3 then (f_M_ran N 51 σ).bind fun z2 => (f_M_plainAsks N x1 z2).bind fun z4 => (f_M_folds N (z4.2.1 0 37) z4.2).bind fun z6 => some ((z4.1 + z6.1), z6.2) else (f_M_plainAsks N x1 σ).bind fun z8 => some (z8.1, z8.2)
/-! ShadowSchoolModel.act(III)I -/
def f_M_act_121 (N : Nat) (y0 : Int32) (σ : jw_M) : Option (Int32 × jw_M) := if (σ.1 0 41) = 0 then some (y0, σ) else some ((-15), σ)
def f_M_act_21 (N : Nat) (x1 : Int32) (x2 : Int32) (x3 : Int32) (y0 : Int32) (σ : jw_M) : Option (Int32 × jw_M) := (f_M_in N x2 0 3 σ).bind fun z4 => if z4.1 = 0 then some (0, z4.2) else (f_M_in N y0 1 5 z4.2).bind fun z7 => if z7.1 = 0 then some (0, z7.2) else bif jx_in x1 4 then (f_M_of N ((jx_w (jx_w z7.2 0 36 y0) 0 37 ((jx_w z7.2 0 36 y0).1 18 (x1).toNatClampNeg)).1 0 37) 1 (jx_w (jx_w z7.2 0 36 y0) 0 37 ((jx_w z7.2 0 36 y0).1 18 (x1).toNatClampNeg))).bind fun z11 => if x2 = 0 then (f_M_lies N x3 (jx_w (jx_w z11.2 0 38 z11.1) 0 41 (0 : Int32))).bind fun z14 => f_M_act_121 N (z14.1) z14.2 else if x2 = 1 then (f_M_turns N x3 (jx_w (jx_w z11.2 0 38 z11.1) 0 41 (0 : Int32))).bind fun z18 => f_M_act_121 N (z18.1) z18.2 else if x2 = 2 then (f_M_folds N x3 (jx_w (jx_w z11.2 0 38 z11.1) 0 41 (0 : Int32))).bind fun z21 => f_M_act_121 N (z21.1) z21.2 else (f_M_asks N x3 (jx_w (jx_w z11.2 0 38 z11.1) 0 41 (0 : Int32))).bind fun z23 => f_M_act_121 N (z23.1) z23.2 else none
def f_M_act (N : Nat) (x1 : Int32) (x2 : Int32) (x3 : Int32) (σ : jw_M) : Option (Int32 × jw_M) := (f_M_isSheet N x1 (jx_w σ 0 40 (0 : Int32))).bind fun z1 => if z1.1 = 0 then f_M_act_21 N x1 x2 x3 (-1) z1.2 else (f_M_kindOn N x1 z1.2).bind fun z25 => f_M_act_21 N x1 x2 x3 (z25.1) z25.2
/-! ShadowSchoolModel.trace(I)I -/
def f_M_trace (N : Nat) (x1 : Int32) (σ : jw_M) : Option (Int32 × jw_M) := (f_M_in N x1 0 ((σ.1 0 40) - 1) σ).bind fun z1 => if z1.1 = 0 then some ((-3), z1.2) else bif jx_in x1 30 then some ((z1.2.1 20 (x1).toNatClampNeg), z1.2) else none
/-! ShadowSchoolModel.pairsThatQuarrel()I -/
def f_M_pairsThatQuarrel_4 (N : Nat) : Nat → Int32 → Int32 → jw_M → Option (Int32 × jw_M)
  | 0, _, _, _ => none
  | k + 1, x1, x2, σ => if (σ.1 3 2) ≤ x2 then some ((x1 / 2), σ) else bif jx_in (64 + x2) 526 then (f_M_ones N (σ.1 3 ((64 + x2)).toNatClampNeg) σ).bind fun z3 => f_M_pairsThatQuarrel_4 N k (x1 + z3.1) (x2 + 1) z3.2 else none
def f_M_pairsThatQuarrel (N : Nat) (σ : jw_M) : Option (Int32 × jw_M) := f_M_pairsThatQuarrel_4 N N 0 0 σ
/-! ShadowSchoolModel.many(I)I -/
def f_M_many (N : Nat) (x1 : Int32) (σ : jw_M) : Option (Int32 × jw_M) := if x1 = 0 then some ((σ.1 3 2), σ) else if x1 = 1 then some ((σ.1 3 4), σ) else if x1 = 2 then some ((σ.1 3 3), σ) else if x1 = 3 then some ((σ.1 3 5), σ) else if x1 = 4 then some ((σ.1 0 29), σ) else if x1 = 5 then some ((σ.1 0 7), σ) else if x1 = 6 then some ((σ.1 0 40), σ) else if x1 = 7 then (f_M_pairsThatQuarrel N  σ).bind fun z1 => some (z1.1, z1.2) else some ((-1), σ)
/-! ShadowSchoolModel.keep()I -/
def f_M_keep_28 (N : Nat) : Nat → Int32 → jw_M → Option (Int32 × jw_M)
  | 0, _, _ => none
  | k + 1, x1, σ => if 526 ≤ x1 then some (1, (jx_w σ 0 5 (1 : Int32))) else bif jx_in x1 526 then f_M_keep_28 N k (x1 + 1) (jx_w σ 5 (x1).toNatClampNeg (σ.1 3 (x1).toNatClampNeg)) else none
def f_M_keep_2 (N : Nat) : Nat → Int32 → jw_M → Option (Int32 × jw_M)
  | 0, _, _ => none
  | k + 1, x1, σ => if 56 ≤ x1 then f_M_keep_28 N N 0 σ else bif jx_in x1 56 then f_M_keep_2 N k (x1 + 1) (jx_w σ 4 (x1).toNatClampNeg (σ.1 1 (x1).toNatClampNeg)) else none
def f_M_keep (N : Nat) (σ : jw_M) : Option (Int32 × jw_M) := f_M_keep_2 N N 0 σ
/-! ShadowSchoolModel.again()I -/
def f_M_again_38 (N : Nat) : Nat → Int32 → jw_M → Option (Int32 × jw_M)
  | 0, _, _ => none
  | k + 1, x1, σ => if 526 ≤ x1 then some ((σ.1 3 2), σ) else bif jx_in x1 526 then f_M_again_38 N k (x1 + 1) (jx_w σ 3 (x1).toNatClampNeg (σ.1 5 (x1).toNatClampNeg)) else none
def f_M_again_12 (N : Nat) : Nat → Int32 → jw_M → Option (Int32 × jw_M)
  | 0, _, _ => none
  | k + 1, x1, σ => if 56 ≤ x1 then f_M_again_38 N N 0 σ else bif jx_in x1 56 then f_M_again_12 N k (x1 + 1) (jx_w σ 1 (x1).toNatClampNeg (σ.1 4 (x1).toNatClampNeg)) else none
def f_M_again (N : Nat) (σ : jw_M) : Option (Int32 × jw_M) := if (σ.1 0 5) = 0 then some ((-3), σ) else f_M_again_12 N N 0 σ
