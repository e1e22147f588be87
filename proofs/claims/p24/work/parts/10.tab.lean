/-! TABLES: of each method its instructions, resolved (by wip/p24/gentab.py) -/
def noE : Ent := (.nop, 1, 0, 0, 0)
def br (k : Nat) (l r : Nat → Ent) : Nat → Ent := fun pc => cond (Nat.blt pc k) (l pc) (r pc)
def lf (q : Nat) (e : Ent) : Nat → Ent := fun pc => cond (Nat.beq pc q) e noE
def OKF (own : String) (ini : Bool) (nL : Nat) (cc : ByteArray) (ret : Option FieldType) (md : Nat → MD) (E : Nat → Ent) : Prop := ∀ pc, entOK own ini nL cc ret md pc (E pc)
theorem ok_br {own : String} {ini : Bool} {nL : Nat} {cc : ByteArray} {ret : Option FieldType} {md : Nat → MD} {k : Nat} {a b : Nat → Ent} (h1 : OKF own ini nL cc ret md a) (h2 : OKF own ini nL cc ret md b) : OKF own ini nL cc ret md (br k a b) := by
  intro pc
  unfold br
  cases Nat.blt pc k
  · exact h2 pc
  · exact h1 pc
theorem ok_lf {own : String} {ini : Bool} {nL : Nat} {cc : ByteArray} {ret : Option FieldType} {md : Nat → MD} {q : Nat} {e : Ent} (len : Nat) (h1 : decode cc q = .ok (e.1, len)) (h0 : e.2.1 = q + len) (h2 : ilen e.1 = len ∨ ilen e.1 = 0) (h3 : lk own ini nL cc ret md q e) : OKF own ini nL cc ret md (lf q e) := by
  intro pc
  unfold lf
  cases hb : Nat.beq pc q with
  | true => rw [Nat.eq_of_beq_eq_true hb]; exact Or.inr ⟨len, h1, h0, h2, h3⟩
  | false => exact Or.inl rfl
abbrev mX0_init : MD := (yX0_init, cX0_init, 6, (Option.none : Option Jvm.ClassFile.FieldType))
theorem moX0_init : mOK mX0_init 2 := ⟨(List.mem_of_getElem? (i := 282) (by decide +kernel)), (List.mem_of_getElem? (i := 25) (by decide +kernel)), ⟨by decide +kernel, by decide +kernel⟩, by decide +kernel, by decide⟩
abbrev mX0_shapeOf : MD := (yX0_shapeOf, cX0_shapeOf, 4, (Option.some (Jvm.ClassFile.FieldType.object "Threadneedle$Shape")))
theorem moX0_shapeOf : mOK mX0_shapeOf 1 := ⟨(List.mem_of_getElem? (i := 452) (by decide +kernel)), (List.mem_of_getElem? (i := 25) (by decide +kernel)), ⟨by decide +kernel, by decide +kernel⟩, by decide +kernel, by decide⟩
abbrev mX0_need : MD := (yX0_need, cX0_need, 5, (Option.some Jvm.ClassFile.FieldType.int))
theorem moX0_need : mOK mX0_need 1 := ⟨(List.mem_of_getElem? (i := 442) (by decide +kernel)), (List.mem_of_getElem? (i := 25) (by decide +kernel)), ⟨by decide +kernel, by decide +kernel⟩, by decide +kernel, by decide⟩
abbrev mX0_cellsOf : MD := (yX0_cellsOf, cX0_cellsOf, 5, (Option.some (Jvm.ClassFile.FieldType.array Jvm.ClassFile.FieldType.int)))
theorem moX0_cellsOf : mOK mX0_cellsOf 1 := ⟨(List.mem_of_getElem? (i := 335) (by decide +kernel)), (List.mem_of_getElem? (i := 25) (by decide +kernel)), ⟨by decide +kernel, by decide +kernel⟩, by decide +kernel, by decide⟩
abbrev mX0_countChanges : MD := (yX0_countChanges, cX0_countChanges, 3, (Option.some Jvm.ClassFile.FieldType.int))
theorem moX0_countChanges : mOK mX0_countChanges 1 := ⟨(List.mem_of_getElem? (i := 364) (by decide +kernel)), (List.mem_of_getElem? (i := 25) (by decide +kernel)), ⟨by decide +kernel, by decide +kernel⟩, by decide +kernel, by decide⟩
abbrev mX0_countJumps : MD := (yX0_countJumps, cX0_countJumps, 8, (Option.some Jvm.ClassFile.FieldType.int))
theorem moX0_countJumps : mOK mX0_countJumps 3 := ⟨(List.mem_of_getElem? (i := 368) (by decide +kernel)), (List.mem_of_getElem? (i := 25) (by decide +kernel)), ⟨by decide +kernel, by decide +kernel⟩, by decide +kernel, by decide⟩
abbrev mX0_isFar : MD := (yX0_isFar, cX0_isFar, 2, (Option.some Jvm.ClassFile.FieldType.boolean))
theorem moX0_isFar : mOK mX0_isFar 2 := ⟨(List.mem_of_getElem? (i := 377) (by decide +kernel)), (List.mem_of_getElem? (i := 25) (by decide +kernel)), ⟨by decide +kernel, by decide +kernel⟩, by decide +kernel, by decide⟩
abbrev mX0_isHiddenJump : MD := (yX0_isHiddenJump, cX0_isHiddenJump, 7, (Option.some Jvm.ClassFile.FieldType.boolean))
theorem moX0_isHiddenJump : mOK mX0_isHiddenJump 4 := ⟨(List.mem_of_getElem? (i := 385) (by decide +kernel)), (List.mem_of_getElem? (i := 25) (by decide +kernel)), ⟨by decide +kernel, by decide +kernel⟩, by decide +kernel, by decide⟩
abbrev mX1_init : MD := (yX1_init, cX1_init, 5, (Option.none : Option Jvm.ClassFile.FieldType))
theorem moX1_init : mOK mX1_init 4 := ⟨(List.mem_of_getElem? (i := 495) (by decide +kernel)), (List.mem_of_getElem? (i := 27) (by decide +kernel)), ⟨by decide +kernel, by decide +kernel⟩, by decide +kernel, by decide⟩
abbrev mX1_sew : MD := (yX1_sew, cX1_sew, 3, (Option.none : Option Jvm.ClassFile.FieldType))
theorem moX1_sew : mOK mX1_sew 2 := ⟨(List.mem_of_getElem? (i := 651) (by decide +kernel)), (List.mem_of_getElem? (i := 27) (by decide +kernel)), ⟨by decide +kernel, by decide +kernel⟩, by decide +kernel, by decide⟩
abbrev mX1_load : MD := (yX1_load, cX1_load, 2, (Option.none : Option Jvm.ClassFile.FieldType))
theorem moX1_load : mOK mX1_load 1 := ⟨(List.mem_of_getElem? (i := 656) (by decide +kernel)), (List.mem_of_getElem? (i := 27) (by decide +kernel)), ⟨by decide +kernel, by decide +kernel⟩, by decide +kernel, by decide⟩
abbrev mX1_longestAgo : MD := (yX1_longestAgo, cX1_longestAgo, 3, (Option.some Jvm.ClassFile.FieldType.int))
theorem moX1_longestAgo : mOK mX1_longestAgo 0 := ⟨(List.mem_of_getElem? (i := 666) (by decide +kernel)), (List.mem_of_getElem? (i := 27) (by decide +kernel)), ⟨by decide +kernel, by decide +kernel⟩, by decide +kernel, by decide⟩
abbrev mX2_init : MD := (yX2_init, cX2_init, 5, (Option.none : Option Jvm.ClassFile.FieldType))
theorem moX2_init : mOK mX2_init 3 := ⟨(List.mem_of_getElem? (i := 556) (by decide +kernel)), (List.mem_of_getElem? (i := 28) (by decide +kernel)), ⟨by decide +kernel, by decide +kernel⟩, by decide +kernel, by decide⟩
abbrev mX2_need : MD := (yX2_need, cX2_need, 2, (Option.some Jvm.ClassFile.FieldType.int))
theorem moX2_need : mOK mX2_need 1 := ⟨(List.mem_of_getElem? (i := 622) (by decide +kernel)), (List.mem_of_getElem? (i := 28) (by decide +kernel)), ⟨by decide +kernel, by decide +kernel⟩, by decide +kernel, by decide⟩
abbrev mX2_shade : MD := (yX2_shade, cX2_shade, 2, (Option.some Jvm.ClassFile.FieldType.int))
theorem moX2_shade : mOK mX2_shade 1 := ⟨(List.mem_of_getElem? (i := 609) (by decide +kernel)), (List.mem_of_getElem? (i := 28) (by decide +kernel)), ⟨by decide +kernel, by decide +kernel⟩, by decide +kernel, by decide⟩
abbrev mX2_setShade : MD := (yX2_setShade, cX2_setShade, 3, (Option.none : Option Jvm.ClassFile.FieldType))
theorem moX2_setShade : mOK mX2_setShade 2 := ⟨(List.mem_of_getElem? (i := 632) (by decide +kernel)), (List.mem_of_getElem? (i := 28) (by decide +kernel)), ⟨by decide +kernel, by decide +kernel⟩, by decide +kernel, by decide⟩
abbrev mX2_sew : MD := (yX2_sew, cX2_sew, 2, (Option.none : Option Jvm.ClassFile.FieldType))
theorem moX2_sew : mOK mX2_sew 1 := ⟨(List.mem_of_getElem? (i := 670) (by decide +kernel)), (List.mem_of_getElem? (i := 28) (by decide +kernel)), ⟨by decide +kernel, by decide +kernel⟩, by decide +kernel, by decide⟩
abbrev mX2_hasSewn : MD := (yX2_hasSewn, cX2_hasSewn, 5, (Option.some Jvm.ClassFile.FieldType.boolean))
theorem moX2_hasSewn : mOK mX2_hasSewn 1 := ⟨(List.mem_of_getElem? (i := 688) (by decide +kernel)), (List.mem_of_getElem? (i := 28) (by decide +kernel)), ⟨by decide +kernel, by decide +kernel⟩, by decide +kernel, by decide⟩
abbrev mX2_wasteAll : MD := (yX2_wasteAll, cX2_wasteAll, 2, (Option.some Jvm.ClassFile.FieldType.int))
theorem moX2_wasteAll : mOK mX2_wasteAll 0 := ⟨(List.mem_of_getElem? (i := 692) (by decide +kernel)), (List.mem_of_getElem? (i := 28) (by decide +kernel)), ⟨by decide +kernel, by decide +kernel⟩, by decide +kernel, by decide⟩
abbrev mX3_init : MD := (yX3_init, cX3_init, 5, (Option.none : Option Jvm.ClassFile.FieldType))
theorem moX3_init : mOK mX3_init 1 := ⟨(List.mem_of_getElem? (i := 288) (by decide +kernel)), (List.mem_of_getElem? (i := 26) (by decide +kernel)), ⟨by decide +kernel, by decide +kernel⟩, by decide +kernel, by decide⟩
abbrev mX3_bestOrder : MD := (yX3_bestOrder, cX3_bestOrder, 6, (Option.some (Jvm.ClassFile.FieldType.array (Jvm.ClassFile.FieldType.object "Threadneedle$Shape"))))
theorem moX3_bestOrder : mOK mX3_bestOrder 0 := ⟨(List.mem_of_getElem? (i := 311) (by decide +kernel)), (List.mem_of_getElem? (i := 26) (by decide +kernel)), ⟨by decide +kernel, by decide +kernel⟩, by decide +kernel, by decide⟩
abbrev mX3_fewestOfAllOrders : MD := (yX3_fewestOfAllOrders, cX3_fewestOfAllOrders, 1, (Option.some Jvm.ClassFile.FieldType.int))
theorem moX3_fewestOfAllOrders : mOK mX3_fewestOfAllOrders 0 := ⟨(List.mem_of_getElem? (i := 471) (by decide +kernel)), (List.mem_of_getElem? (i := 26) (by decide +kernel)), ⟨by decide +kernel, by decide +kernel⟩, by decide +kernel, by decide⟩
abbrev mX3_tryOrders : MD := (yX3_tryOrders, cX3_tryOrders, 8, (Option.some Jvm.ClassFile.FieldType.int))
theorem moX3_tryOrders : mOK mX3_tryOrders 4 := ⟨(List.mem_of_getElem? (i := 474) (by decide +kernel)), (List.mem_of_getElem? (i := 26) (by decide +kernel)), ⟨by decide +kernel, by decide +kernel⟩, by decide +kernel, by decide⟩
abbrev mX3_fewestByBegin : MD := (yX3_fewestByBegin, cX3_fewestByBegin, 6, (Option.some (Jvm.ClassFile.FieldType.array Jvm.ClassFile.FieldType.int)))
theorem moX3_fewestByBegin : mOK mX3_fewestByBegin 0 := ⟨(List.mem_of_getElem? (i := 315) (by decide +kernel)), (List.mem_of_getElem? (i := 26) (by decide +kernel)), ⟨by decide +kernel, by decide +kernel⟩, by decide +kernel, by decide⟩
abbrev mX3_bestNext : MD := (yX3_bestNext, cX3_bestNext, 7, (Option.some Jvm.ClassFile.FieldType.int))
theorem moX3_bestNext : mOK mX3_bestNext 3 := ⟨(List.mem_of_getElem? (i := 319) (by decide +kernel)), (List.mem_of_getElem? (i := 26) (by decide +kernel)), ⟨by decide +kernel, by decide +kernel⟩, by decide +kernel, by decide⟩
abbrev mX3_changesBy : MD := (yX3_changesBy, cX3_changesBy, 6, (Option.some Jvm.ClassFile.FieldType.int))
theorem moX3_changesBy : mOK mX3_changesBy 4 := ⟨(List.mem_of_getElem? (i := 327) (by decide +kernel)), (List.mem_of_getElem? (i := 26) (by decide +kernel)), ⟨by decide +kernel, by decide +kernel⟩, by decide +kernel, by decide⟩
abbrev mX3_mayFollow : MD := (yX3_mayFollow, cX3_mayFollow, 3, (Option.some Jvm.ClassFile.FieldType.boolean))
theorem moX3_mayFollow : mOK mX3_mayFollow 2 := ⟨(List.mem_of_getElem? (i := 323) (by decide +kernel)), (List.mem_of_getElem? (i := 26) (by decide +kernel)), ⟨by decide +kernel, by decide +kernel⟩, by decide +kernel, by decide⟩
abbrev mX3_change : MD := (yX3_change, cX3_change, 3, (Option.some Jvm.ClassFile.FieldType.int))
theorem moX3_change : mOK mX3_change 2 := ⟨(List.mem_of_getElem? (i := 331) (by decide +kernel)), (List.mem_of_getElem? (i := 26) (by decide +kernel)), ⟨by decide +kernel, by decide +kernel⟩, by decide +kernel, by decide⟩
abbrev mX4_init : MD := (yX4_init, cX4_init, 4, (Option.none : Option Jvm.ClassFile.FieldType))
theorem moX4_init : mOK mX4_init 3 := ⟨(List.mem_of_getElem? (i := 243) (by decide +kernel)), (List.mem_of_getElem? (i := 24) (by decide +kernel)), ⟨by decide +kernel, by decide +kernel⟩, by decide +kernel, by decide⟩
abbrev mX4_hasCell : MD := (yX4_hasCell, cX4_hasCell, 3, (Option.some Jvm.ClassFile.FieldType.boolean))
theorem moX4_hasCell : mOK mX4_hasCell 2 := ⟨(List.mem_of_getElem? (i := 349) (by decide +kernel)), (List.mem_of_getElem? (i := 24) (by decide +kernel)), ⟨by decide +kernel, by decide +kernel⟩, by decide +kernel, by decide⟩
abbrev mX4_isEdge : MD := (yX4_isEdge, cX4_isEdge, 4, (Option.some Jvm.ClassFile.FieldType.boolean))
theorem moX4_isEdge : mOK mX4_isEdge 2 := ⟨(List.mem_of_getElem? (i := 353) (by decide +kernel)), (List.mem_of_getElem? (i := 24) (by decide +kernel)), ⟨by decide +kernel, by decide +kernel⟩, by decide +kernel, by decide⟩
abbrev mX4_meets : MD := (yX4_meets, cX4_meets, 3, (Option.some Jvm.ClassFile.FieldType.boolean))
theorem moX4_meets : mOK mX4_meets 1 := ⟨(List.mem_of_getElem? (i := 293) (by decide +kernel)), (List.mem_of_getElem? (i := 24) (by decide +kernel)), ⟨by decide +kernel, by decide +kernel⟩, by decide +kernel, by decide⟩
abbrev mX4_isUnlike : MD := (yX4_isUnlike, cX4_isUnlike, 2, (Option.some Jvm.ClassFile.FieldType.boolean))
theorem moX4_isUnlike : mOK mX4_isUnlike 1 := ⟨(List.mem_of_getElem? (i := 297) (by decide +kernel)), (List.mem_of_getElem? (i := 24) (by decide +kernel)), ⟨by decide +kernel, by decide +kernel⟩, by decide +kernel, by decide⟩
abbrev mX4_stitchCount : MD := (yX4_stitchCount, cX4_stitchCount, 3, (Option.some Jvm.ClassFile.FieldType.int))
theorem moX4_stitchCount : mOK mX4_stitchCount 0 := ⟨(List.mem_of_getElem? (i := 339) (by decide +kernel)), (List.mem_of_getElem? (i := 24) (by decide +kernel)), ⟨by decide +kernel, by decide +kernel⟩, by decide +kernel, by decide⟩
abbrev mX4_putStitches : MD := (yX4_putStitches, cX4_putStitches, 7, (Option.none : Option Jvm.ClassFile.FieldType))
theorem moX4_putStitches : mOK mX4_putStitches 2 := ⟨(List.mem_of_getElem? (i := 357) (by decide +kernel)), (List.mem_of_getElem? (i := 24) (by decide +kernel)), ⟨by decide +kernel, by decide +kernel⟩, by decide +kernel, by decide⟩
abbrev mX4_putStitch : MD := (yX4_putStitch, cX4_putStitch, 4, (Option.none : Option Jvm.ClassFile.FieldType))
theorem moX4_putStitch : mOK mX4_putStitch 3 := ⟨(List.mem_of_getElem? (i := 361) (by decide +kernel)), (List.mem_of_getElem? (i := 24) (by decide +kernel)), ⟨by decide +kernel, by decide +kernel⟩, by decide +kernel, by decide⟩
abbrev mX5_init : MD := (yX5_init, cX5_init, 1, (Option.none : Option Jvm.ClassFile.FieldType))
theorem moX5_init : mOK mX5_init 0 := ⟨(List.mem_of_getElem? (i := 50) (by decide +kernel)), (List.mem_of_getElem? (i := 16) (by decide +kernel)), ⟨by decide +kernel, by decide +kernel⟩, by decide +kernel, by decide⟩
abbrev mX5_count : MD := (yX5_count, cX5_count, 3, (Option.some Jvm.ClassFile.FieldType.int))
theorem moX5_count : mOK mX5_count 2 := ⟨(List.mem_of_getElem? (i := 190) (by decide +kernel)), (List.mem_of_getElem? (i := 16) (by decide +kernel)), ⟨by decide +kernel, by decide +kernel⟩, by decide +kernel, by decide⟩
abbrev mX5_add : MD := (yX5_add, cX5_add, 4, (Option.none : Option Jvm.ClassFile.FieldType))
theorem moX5_add : mOK mX5_add 3 := ⟨(List.mem_of_getElem? (i := 213) (by decide +kernel)), (List.mem_of_getElem? (i := 16) (by decide +kernel)), ⟨by decide +kernel, by decide +kernel⟩, by decide +kernel, by decide⟩
abbrev mX6_init : MD := (yX6_init, cX6_init, 1, (Option.none : Option Jvm.ClassFile.FieldType))
theorem moX6_init : mOK mX6_init 0 := ⟨(List.mem_of_getElem? (i := 34) (by decide +kernel)), (List.mem_of_getElem? (i := 15) (by decide +kernel)), ⟨by decide +kernel, by decide +kernel⟩, by decide +kernel, by decide⟩
abbrev mX6_shape : MD := (yX6_shape, cX6_shape, 10, (Option.some Jvm.ClassFile.FieldType.int))
theorem moX6_shape : mOK mX6_shape 6 := ⟨(List.mem_of_getElem? (i := 230) (by decide +kernel)), (List.mem_of_getElem? (i := 15) (by decide +kernel)), ⟨by decide +kernel, by decide +kernel⟩, by decide +kernel, by decide⟩
abbrev mX6_wipe : MD := (yX6_wipe, cX6_wipe, 2, (Option.some Jvm.ClassFile.FieldType.int))
theorem moX6_wipe : mOK mX6_wipe 0 := ⟨(List.mem_of_getElem? (i := 88) (by decide +kernel)), (List.mem_of_getElem? (i := 15) (by decide +kernel)), ⟨by decide +kernel, by decide +kernel⟩, by decide +kernel, by decide⟩
abbrev mX6_design : MD := (yX6_design, cX6_design, 3, (Option.some Jvm.ClassFile.FieldType.int))
theorem moX6_design : mOK mX6_design 0 := ⟨(List.mem_of_getElem? (i := 276) (by decide +kernel)), (List.mem_of_getElem? (i := 15) (by decide +kernel)), ⟨by decide +kernel, by decide +kernel⟩, by decide +kernel, by decide⟩
abbrev mX6_machine : MD := (yX6_machine, cX6_machine, 4, (Option.some Jvm.ClassFile.FieldType.int))
theorem moX6_machine : mOK mX6_machine 3 := ⟨(List.mem_of_getElem? (i := 489) (by decide +kernel)), (List.mem_of_getElem? (i := 15) (by decide +kernel)), ⟨by decide +kernel, by decide +kernel⟩, by decide +kernel, by decide⟩
abbrev mX6_stock : MD := (yX6_stock, cX6_stock, 4, (Option.some Jvm.ClassFile.FieldType.int))
theorem moX6_stock : mOK mX6_stock 3 := ⟨(List.mem_of_getElem? (i := 92) (by decide +kernel)), (List.mem_of_getElem? (i := 15) (by decide +kernel)), ⟨by decide +kernel, by decide +kernel⟩, by decide +kernel, by decide⟩
abbrev mX6_order : MD := (yX6_order, cX6_order, 4, (Option.some Jvm.ClassFile.FieldType.int))
theorem moX6_order : mOK mX6_order 2 := ⟨(List.mem_of_getElem? (i := 550) (by decide +kernel)), (List.mem_of_getElem? (i := 15) (by decide +kernel)), ⟨by decide +kernel, by decide +kernel⟩, by decide +kernel, by decide⟩
abbrev mX6_start : MD := (yX6_start, cX6_start, 6, (Option.none : Option Jvm.ClassFile.FieldType))
theorem moX6_start : mOK mX6_start 2 := ⟨(List.mem_of_getElem? (i := 616) (by decide +kernel)), (List.mem_of_getElem? (i := 15) (by decide +kernel)), ⟨by decide +kernel, by decide +kernel⟩, by decide +kernel, by decide⟩
abbrev mX6_run : MD := (yX6_run, cX6_run, 7, (Option.some Jvm.ClassFile.FieldType.int))
theorem moX6_run : mOK mX6_run 2 := ⟨(List.mem_of_getElem? (i := 642) (by decide +kernel)), (List.mem_of_getElem? (i := 15) (by decide +kernel)), ⟨by decide +kernel, by decide +kernel⟩, by decide +kernel, by decide⟩
abbrev mX6_snap : MD := (yX6_snap, cX6_snap, 5, (Option.some Jvm.ClassFile.FieldType.int))
theorem moX6_snap : mOK mX6_snap 1 := ⟨(List.mem_of_getElem? (i := 677) (by decide +kernel)), (List.mem_of_getElem? (i := 15) (by decide +kernel)), ⟨by decide +kernel, by decide +kernel⟩, by decide +kernel, by decide⟩
abbrev mX6_match : MD := (yX6_match, cX6_match, 6, (Option.some Jvm.ClassFile.FieldType.int))
theorem moX6_match : mOK mX6_match 3 := ⟨(List.mem_of_getElem? (i := 682) (by decide +kernel)), (List.mem_of_getElem? (i := 15) (by decide +kernel)), ⟨by decide +kernel, by decide +kernel⟩, by decide +kernel, by decide⟩
abbrev mX6_cancel : MD := (yX6_cancel, cX6_cancel, 3, (Option.some Jvm.ClassFile.FieldType.int))
theorem moX6_cancel : mOK mX6_cancel 1 := ⟨(List.mem_of_getElem? (i := 696) (by decide +kernel)), (List.mem_of_getElem? (i := 15) (by decide +kernel)), ⟨by decide +kernel, by decide +kernel⟩, by decide +kernel, by decide⟩
abbrev mX6_stitches : MD := (yX6_stitches, cX6_stitches, 4, (Option.some Jvm.ClassFile.FieldType.int))
theorem moX6_stitches : mOK mX6_stitches 2 := ⟨(List.mem_of_getElem? (i := 432) (by decide +kernel)), (List.mem_of_getElem? (i := 15) (by decide +kernel)), ⟨by decide +kernel, by decide +kernel⟩, by decide +kernel, by decide⟩
abbrev mX6_stitch : MD := (yX6_stitch, cX6_stitch, 6, (Option.some Jvm.ClassFile.FieldType.int))
theorem moX6_stitch : mOK mX6_stitch 3 := ⟨(List.mem_of_getElem? (i := 446) (by decide +kernel)), (List.mem_of_getElem? (i := 15) (by decide +kernel)), ⟨by decide +kernel, by decide +kernel⟩, by decide +kernel, by decide⟩
abbrev mX6_sequence : MD := (yX6_sequence, cX6_sequence, 5, (Option.some Jvm.ClassFile.FieldType.int))
theorem moX6_sequence : mOK mX6_sequence 2 := ⟨(List.mem_of_getElem? (i := 458) (by decide +kernel)), (List.mem_of_getElem? (i := 15) (by decide +kernel)), ⟨by decide +kernel, by decide +kernel⟩, by decide +kernel, by decide⟩
abbrev mX6_changes : MD := (yX6_changes, cX6_changes, 2, (Option.some Jvm.ClassFile.FieldType.int))
theorem moX6_changes : mOK mX6_changes 1 := ⟨(List.mem_of_getElem? (i := 463) (by decide +kernel)), (List.mem_of_getElem? (i := 15) (by decide +kernel)), ⟨by decide +kernel, by decide +kernel⟩, by decide +kernel, by decide⟩
abbrev mX6_changesAnew : MD := (yX6_changesAnew, cX6_changesAnew, 2, (Option.some Jvm.ClassFile.FieldType.int))
theorem moX6_changesAnew : mOK mX6_changesAnew 1 := ⟨(List.mem_of_getElem? (i := 467) (by decide +kernel)), (List.mem_of_getElem? (i := 15) (by decide +kernel)), ⟨by decide +kernel, by decide +kernel⟩, by decide +kernel, by decide⟩
abbrev mX6_jumps : MD := (yX6_jumps, cX6_jumps, 4, (Option.some Jvm.ClassFile.FieldType.int))
theorem moX6_jumps : mOK mX6_jumps 2 := ⟨(List.mem_of_getElem? (i := 482) (by decide +kernel)), (List.mem_of_getElem? (i := 15) (by decide +kernel)), ⟨by decide +kernel, by decide +kernel⟩, by decide +kernel, by decide⟩
abbrev mX6_ofOrder : MD := (yX6_ofOrder, cX6_ofOrder, 4, (Option.some Jvm.ClassFile.FieldType.int))
theorem moX6_ofOrder : mOK mX6_ofOrder 2 := ⟨(List.mem_of_getElem? (i := 596) (by decide +kernel)), (List.mem_of_getElem? (i := 15) (by decide +kernel)), ⟨by decide +kernel, by decide +kernel⟩, by decide +kernel, by decide⟩
abbrev mX6_shadeOf : MD := (yX6_shadeOf, cX6_shadeOf, 4, (Option.some Jvm.ClassFile.FieldType.int))
theorem moX6_shadeOf : mOK mX6_shadeOf 2 := ⟨(List.mem_of_getElem? (i := 605) (by decide +kernel)), (List.mem_of_getElem? (i := 15) (by decide +kernel)), ⟨by decide +kernel, by decide +kernel⟩, by decide +kernel, by decide⟩
abbrev mX6_ofMachine : MD := (yX6_ofMachine, cX6_ofMachine, 4, (Option.some Jvm.ClassFile.FieldType.int))
theorem moX6_ofMachine : mOK mX6_ofMachine 2 := ⟨(List.mem_of_getElem? (i := 534) (by decide +kernel)), (List.mem_of_getElem? (i := 15) (by decide +kernel)), ⟨by decide +kernel, by decide +kernel⟩, by decide +kernel, by decide⟩
abbrev mX6_left : MD := (yX6_left, cX6_left, 3, (Option.some Jvm.ClassFile.FieldType.int))
theorem moX6_left : mOK mX6_left 2 := ⟨(List.mem_of_getElem? (i := 543) (by decide +kernel)), (List.mem_of_getElem? (i := 15) (by decide +kernel)), ⟨by decide +kernel, by decide +kernel⟩, by decide +kernel, by decide⟩
abbrev mX6_isColour : MD := (yX6_isColour, cX6_isColour, 1, (Option.some Jvm.ClassFile.FieldType.boolean))
theorem moX6_isColour : mOK mX6_isColour 1 := ⟨(List.mem_of_getElem? (i := 95) (by decide +kernel)), (List.mem_of_getElem? (i := 15) (by decide +kernel)), ⟨by decide +kernel, by decide +kernel⟩, by decide +kernel, by decide⟩
abbrev mX6_isShade : MD := (yX6_isShade, cX6_isShade, 1, (Option.some Jvm.ClassFile.FieldType.boolean))
theorem moX6_isShade : mOK mX6_isShade 1 := ⟨(List.mem_of_getElem? (i := 98) (by decide +kernel)), (List.mem_of_getElem? (i := 15) (by decide +kernel)), ⟨by decide +kernel, by decide +kernel⟩, by decide +kernel, by decide⟩
abbrev mX6_isFrom1To : MD := (yX6_isFrom1To, cX6_isFrom1To, 2, (Option.some Jvm.ClassFile.FieldType.boolean))
theorem moX6_isFrom1To : mOK mX6_isFrom1To 2 := ⟨(List.mem_of_getElem? (i := 170) (by decide +kernel)), (List.mem_of_getElem? (i := 15) (by decide +kernel)), ⟨by decide +kernel, by decide +kernel⟩, by decide +kernel, by decide⟩
abbrev mX6_isSpan : MD := (yX6_isSpan, cX6_isSpan, 2, (Option.some Jvm.ClassFile.FieldType.boolean))
theorem moX6_isSpan : mOK mX6_isSpan 2 := ⟨(List.mem_of_getElem? (i := 234) (by decide +kernel)), (List.mem_of_getElem? (i := 15) (by decide +kernel)), ⟨by decide +kernel, by decide +kernel⟩, by decide +kernel, by decide⟩
abbrev mX6_xOf : MD := (yX6_xOf, cX6_xOf, 1, (Option.some Jvm.ClassFile.FieldType.int))
theorem moX6_xOf : mOK mX6_xOf 1 := ⟨(List.mem_of_getElem? (i := 342) (by decide +kernel)), (List.mem_of_getElem? (i := 15) (by decide +kernel)), ⟨by decide +kernel, by decide +kernel⟩, by decide +kernel, by decide⟩
abbrev mX6_yOf : MD := (yX6_yOf, cX6_yOf, 1, (Option.some Jvm.ClassFile.FieldType.int))
theorem moX6_yOf : mOK mX6_yOf 1 := ⟨(List.mem_of_getElem? (i := 345) (by decide +kernel)), (List.mem_of_getElem? (i := 15) (by decide +kernel)), ⟨by decide +kernel, by decide +kernel⟩, by decide +kernel, by decide⟩
abbrev mX6_shapeAt : MD := (yX6_shapeAt, cX6_shapeAt, 2, (Option.some (Jvm.ClassFile.FieldType.object "Threadneedle$Shape")))
theorem moX6_shapeAt : mOK mX6_shapeAt 2 := ⟨(List.mem_of_getElem? (i := 374) (by decide +kernel)), (List.mem_of_getElem? (i := 15) (by decide +kernel)), ⟨by decide +kernel, by decide +kernel⟩, by decide +kernel, by decide⟩
abbrev mX6_designAt : MD := (yX6_designAt, cX6_designAt, 2, (Option.some (Jvm.ClassFile.FieldType.object "Threadneedle$Design")))
theorem moX6_designAt : mOK mX6_designAt 1 := ⟨(List.mem_of_getElem? (i := 436) (by decide +kernel)), (List.mem_of_getElem? (i := 15) (by decide +kernel)), ⟨by decide +kernel, by decide +kernel⟩, by decide +kernel, by decide⟩
abbrev mX6_machineAt : MD := (yX6_machineAt, cX6_machineAt, 2, (Option.some (Jvm.ClassFile.FieldType.object "Threadneedle$Machine")))
theorem moX6_machineAt : mOK mX6_machineAt 1 := ⟨(List.mem_of_getElem? (i := 538) (by decide +kernel)), (List.mem_of_getElem? (i := 15) (by decide +kernel)), ⟨by decide +kernel, by decide +kernel⟩, by decide +kernel, by decide⟩
abbrev mX6_orderAt : MD := (yX6_orderAt, cX6_orderAt, 2, (Option.some (Jvm.ClassFile.FieldType.object "Threadneedle$Order")))
theorem moX6_orderAt : mOK mX6_orderAt 1 := ⟨(List.mem_of_getElem? (i := 600) (by decide +kernel)), (List.mem_of_getElem? (i := 15) (by decide +kernel)), ⟨by decide +kernel, by decide +kernel⟩, by decide +kernel, by decide⟩
abbrev mX6_shadeFor : MD := (yX6_shadeFor, cX6_shadeFor, 4, (Option.some Jvm.ClassFile.FieldType.int))
theorem moX6_shadeFor : mOK mX6_shadeFor 2 := ⟨(List.mem_of_getElem? (i := 627) (by decide +kernel)), (List.mem_of_getElem? (i := 15) (by decide +kernel)), ⟨by decide +kernel, by decide +kernel⟩, by decide +kernel, by decide⟩
abbrev mX6_sewStretch : MD := (yX6_sewStretch, cX6_sewStretch, 8, (Option.some Jvm.ClassFile.FieldType.int))
theorem moX6_sewStretch : mOK mX6_sewStretch 2 := ⟨(List.mem_of_getElem? (i := 647) (by decide +kernel)), (List.mem_of_getElem? (i := 15) (by decide +kernel)), ⟨by decide +kernel, by decide +kernel⟩, by decide +kernel, by decide⟩
abbrev mX6_end : MD := (yX6_end, cX6_end, 2, (Option.none : Option Jvm.ClassFile.FieldType))
theorem moX6_end : mOK mX6_end 2 := ⟨(List.mem_of_getElem? (i := 673) (by decide +kernel)), (List.mem_of_getElem? (i := 15) (by decide +kernel)), ⟨by decide +kernel, by decide +kernel⟩, by decide +kernel, by decide⟩
abbrev mJ6_bitCount_0f7a4 : MD := (yJ6_bitCount_0f7a4, cJ6_bitCount_0f7a4, 1, (Option.some Jvm.ClassFile.FieldType.int))
theorem moJ6_bitCount_0f7a4 : mOK mJ6_bitCount_0f7a4 1 := ⟨(List.mem_of_getElem? (i := 659) (by decide +kernel)), (List.mem_of_getElem? (i := 29) (by decide +kernel)), ⟨by decide +kernel, by decide +kernel⟩, by decide +kernel, by decide⟩
abbrev mJ9_abs_0f7a4 : MD := (yJ9_abs_0f7a4, cJ9_abs_0f7a4, 1, (Option.some Jvm.ClassFile.FieldType.int))
theorem moJ9_abs_0f7a4 : mOK mJ9_abs_0f7a4 1 := ⟨(List.mem_of_getElem? (i := 381) (by decide +kernel)), (List.mem_of_getElem? (i := 23) (by decide +kernel)), ⟨by decide +kernel, by decide +kernel⟩, by decide +kernel, by decide⟩
abbrev mJ9_max_7cf53 : MD := (yJ9_max_7cf53, cJ9_max_7cf53, 2, (Option.some Jvm.ClassFile.FieldType.int))
theorem moJ9_max_7cf53 : mOK mJ9_max_7cf53 2 := ⟨(List.mem_of_getElem? (i := 371) (by decide +kernel)), (List.mem_of_getElem? (i := 23) (by decide +kernel)), ⟨by decide +kernel, by decide +kernel⟩, by decide +kernel, by decide⟩
abbrev mJ9_min_7cf53 : MD := (yJ9_min_7cf53, cJ9_min_7cf53, 2, (Option.some Jvm.ClassFile.FieldType.int))
theorem moJ9_min_7cf53 : mOK mJ9_min_7cf53 2 := ⟨(List.mem_of_getElem? (i := 239) (by decide +kernel)), (List.mem_of_getElem? (i := 23) (by decide +kernel)), ⟨by decide +kernel, by decide +kernel⟩, by decide +kernel, by decide⟩
abbrev mL_draw : MD := (yL_draw, cL_draw, 2, (Option.some Jvm.ClassFile.FieldType.int))
theorem moL_draw : mOK mL_draw 2 := ⟨(List.mem_of_getElem? (i := 216) (by decide +kernel)), (List.mem_of_getElem? (i := 14) (by decide +kernel)), ⟨by decide +kernel, by decide +kernel⟩, by decide +kernel, by decide⟩
abbrev mL_step : MD := (yL_step, cL_step, 37, (Option.some Jvm.ClassFile.FieldType.boolean))
theorem moL_step : mOK mL_step 5 := ⟨(List.mem_of_getElem? (i := 222) rfl), (List.mem_of_getElem? (i := 14) (by decide +kernel)), ⟨by decide +kernel, by decide +kernel⟩, by decide +kernel, by decide⟩
abbrev mL_areShades : MD := (yL_areShades, cL_areShades, 7, (Option.some Jvm.ClassFile.FieldType.boolean))
theorem moL_areShades : mOK mL_areShades 2 := ⟨(List.mem_of_getElem? (i := 635) (by decide +kernel)), (List.mem_of_getElem? (i := 14) (by decide +kernel)), ⟨by decide +kernel, by decide +kernel⟩, by decide +kernel, by decide⟩
abbrev mL_isDesign : MD := (yL_isDesign, cL_isDesign, 13, (Option.some Jvm.ClassFile.FieldType.boolean))
theorem moL_isDesign : mOK mL_isDesign 3 := ⟨(List.mem_of_getElem? (i := 428) (by decide +kernel)), (List.mem_of_getElem? (i := 14) (by decide +kernel)), ⟨by decide +kernel, by decide +kernel⟩, by decide +kernel, by decide⟩
abbrev mL_off : MD := (yL_off, cL_off, 1, (Option.some Jvm.ClassFile.FieldType.boolean))
theorem moL_off : mOK mL_off 1 := ⟨(List.mem_of_getElem? (i := 478) (by decide +kernel)), (List.mem_of_getElem? (i := 14) (by decide +kernel)), ⟨by decide +kernel, by decide +kernel⟩, by decide +kernel, by decide⟩
abbrev mL_isWhole : MD := (yL_isWhole, cL_isWhole, 8, (Option.some Jvm.ClassFile.FieldType.boolean))
theorem moL_isWhole : mOK mL_isWhole 2 := ⟨(List.mem_of_getElem? (i := 700) (by decide +kernel)), (List.mem_of_getElem? (i := 14) (by decide +kernel)), ⟨by decide +kernel, by decide +kernel⟩, by decide +kernel, by decide⟩
def md0 : MD := mX6_isColour
