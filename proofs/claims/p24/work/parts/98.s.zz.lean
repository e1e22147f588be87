/-! TABLES of the law itself (by wip/p24/mklaw.py) -/
def mdLW_law : Nat → MD := fun i => match i with
  | 1 => mX6_init
  | 2 => mX6_wipe
  | 3 => mX6_stock
  | 4 => mL_draw
  | 5 => mL_step
  | 6 => mL_isWhole
  | _ => md0
def eLW_law_0 : Nat → Ent := (br 36 (br 19 (br 9 (br 4 (br 3 (lf 0 (.new 11, 3, 6, 0, 0)) (lf 3 (.dup, 4, 0, 0, 0))) (br 7 (lf 4 (.invokespecial 121, 7, 1, 1, 0)) (br 8 (lf 7 (.astore_n 1, 8, 0, 0, 0)) (lf 8 (.iconst 5, 9, 0, 0, 0))))) (br 12 (br 11 (lf 9 (.newarray .int, 11, 100, 0, 0)) (lf 11 (.astore_n 2, 12, 0, 0, 0))) (br 13 (lf 12 (.aload_n 1, 13, 0, 0, 0)) (br 16 (lf 13 (.invokevirtual 61, 16, 2, 1, 6)) (lf 16 (.ifCond .ne (7), 19, 23, 0, 0)))))) (br 26 (br 23 (br 20 (lf 19 (.iconst 1, 20, 0, 0, 0)) (lf 20 (.goto (4), 23, 24, 0, 0))) (br 24 (lf 23 (.iconst 0, 24, 0, 0, 0)) (br 25 (lf 24 (.istore_n 3, 25, 0, 0, 0)) (lf 25 (.iconst 0, 26, 0, 0, 0))))) (br 30 (br 28 (lf 26 (.istore 4, 28, 0, 0, 0)) (lf 28 (.iload 4, 30, 0, 0, 0))) (br 32 (lf 30 (.bipush (18), 32, 0, 0, 0)) (br 35 (lf 32 (.if_icmp .ge (70), 35, 102, 0, 0)) (lf 35 (.iload_n 3, 36, 0, 0, 0))))))) (br 52 (br 44 (br 40 (br 39 (lf 36 (.ifCond .eq (42), 39, 78, 0, 0)) (lf 39 (.aload_n 1, 40, 0, 0, 0))) (br 42 (lf 40 (.iload 4, 42, 0, 0, 0)) (br 43 (lf 42 (.iconst 3, 43, 0, 0, 0)) (lf 43 (.idiv, 44, 0, 0, 0))))) (br 47 (br 46 (lf 44 (.iload 4, 46, 0, 0, 0)) (lf 46 (.iconst 3, 47, 0, 0, 0))) (br 48 (lf 47 (.irem, 48, 0, 0, 0)) (br 51 (lf 48 (.sipush (150), 51, 0, 0, 0)) (lf 51 (.iconst 1, 52, 0, 0, 0)))))) (br 58 (br 55 (br 54 (lf 52 (.iload 4, 54, 0, 0, 0)) (lf 54 (.iconst 3, 55, 0, 0, 0))) (br 56 (lf 55 (.irem, 56, 0, 0, 0)) (br 57 (lf 56 (.iadd, 57, 0, 0, 0)) (lf 57 (.imul, 58, 0, 0, 0))))) (br 64 (br 61 (lf 58 (.invokevirtual 74, 61, 3, 4, 6)) (lf 61 (.sipush (150), 64, 0, 0, 0))) (br 65 (lf 64 (.iconst 1, 65, 0, 0, 0)) (br 67 (lf 65 (.iload 4, 67, 0, 0, 0)) (lf 67 (.iconst 3, 68, 0, 0, 0))))))))
def eLW_law_1 : Nat → Ent := (br 95 (br 82 (br 75 (br 70 (br 69 (lf 68 (.irem, 69, 0, 0, 0)) (lf 69 (.iadd, 70, 0, 0, 0))) (br 71 (lf 70 (.imul, 71, 0, 0, 0)) (br 74 (lf 71 (.if_icmp .ne (7), 74, 78, 0, 0)) (lf 74 (.iconst 1, 75, 0, 0, 0))))) (br 79 (br 78 (lf 75 (.goto (4), 78, 79, 0, 0)) (lf 78 (.iconst 0, 79, 0, 0, 0))) (br 80 (lf 79 (.istore_n 3, 80, 0, 0, 0)) (br 81 (lf 80 (.aload_n 2, 81, 0, 0, 0)) (lf 81 (.iconst 4, 82, 0, 0, 0)))))) (br 90 (br 84 (br 83 (lf 82 (.dup2, 83, 0, 0, 0)) (lf 83 (.iaload, 84, 0, 0, 0))) (br 87 (lf 84 (.sipush (150), 87, 0, 0, 0)) (br 88 (lf 87 (.iconst 1, 88, 0, 0, 0)) (lf 88 (.iload 4, 90, 0, 0, 0))))) (br 92 (br 91 (lf 90 (.iconst 3, 91, 0, 0, 0)) (lf 91 (.irem, 92, 0, 0, 0))) (br 93 (lf 92 (.iadd, 93, 0, 0, 0)) (br 94 (lf 93 (.imul, 94, 0, 0, 0)) (lf 94 (.iadd, 95, 0, 0, 0))))))) (br 113 (br 104 (br 99 (br 96 (lf 95 (.iastore, 96, 0, 0, 0)) (lf 96 (.iinc 4 (1), 99, 0, 0, 0))) (br 102 (lf 99 (.goto (-71), 102, 28, 0, 0)) (br 103 (lf 102 (.aload_n 0, 103, 0, 0, 0)) (lf 103 (.arraylength, 104, 0, 0, 0))))) (br 106 (br 105 (lf 104 (.iconst 3, 105, 0, 0, 0)) (lf 105 (.idiv, 106, 0, 0, 0))) (br 108 (lf 106 (.bipush (50), 108, 0, 0, 0)) (br 111 (lf 108 (.if_icmp .le (8), 111, 116, 0, 0)) (lf 111 (.bipush (50), 113, 0, 0, 0)))))) (br 120 (br 117 (br 116 (lf 113 (.goto (7), 116, 120, 0, 0)) (lf 116 (.aload_n 0, 117, 0, 0, 0))) (br 118 (lf 117 (.arraylength, 118, 0, 0, 0)) (br 119 (lf 118 (.iconst 3, 119, 0, 0, 0)) (lf 119 (.idiv, 120, 0, 0, 0))))) (br 123 (br 122 (lf 120 (.istore 4, 122, 0, 0, 0)) (lf 122 (.iconst 0, 123, 0, 0, 0))) (br 125 (lf 123 (.istore 5, 125, 0, 0, 0)) (br 127 (lf 125 (.iload 5, 127, 0, 0, 0)) (lf 127 (.iload 4, 129, 0, 0, 0))))))))
def eLW_law_2 : Nat → Ent := (br 158 (br 143 (br 137 (br 133 (br 132 (lf 129 (.if_icmp .ge (63), 132, 192, 0, 0)) (lf 132 (.iload_n 3, 133, 0, 0, 0))) (br 136 (lf 133 (.ifCond .eq (59), 136, 192, 0, 0)) (lf 136 (.aload_n 1, 137, 0, 0, 0)))) (br 139 (br 138 (lf 137 (.aload_n 2, 138, 0, 0, 0)) (lf 138 (.aload_n 0, 139, 0, 0, 0))) (br 140 (lf 139 (.iconst 3, 140, 0, 0, 0)) (br 142 (lf 140 (.iload 5, 142, 0, 0, 0)) (lf 142 (.imul, 143, 0, 0, 0)))))) (br 151 (br 147 (br 146 (lf 143 (.invokestatic 122, 146, 4, 2, 0)) (lf 146 (.aload_n 0, 147, 0, 0, 0))) (br 148 (lf 147 (.iconst 3, 148, 0, 0, 0)) (br 150 (lf 148 (.iload 5, 150, 0, 0, 0)) (lf 150 (.imul, 151, 0, 0, 0))))) (br 153 (br 152 (lf 151 (.iconst 1, 152, 0, 0, 0)) (lf 152 (.iadd, 153, 0, 0, 0))) (br 156 (lf 153 (.invokestatic 122, 156, 4, 2, 0)) (br 157 (lf 156 (.aload_n 0, 157, 0, 0, 0)) (lf 157 (.iconst 3, 158, 0, 0, 0))))))) (br 174 (br 163 (br 161 (br 160 (lf 158 (.iload 5, 160, 0, 0, 0)) (lf 160 (.imul, 161, 0, 0, 0))) (br 162 (lf 161 (.iconst 2, 162, 0, 0, 0)) (lf 162 (.iadd, 163, 0, 0, 0)))) (br 169 (br 166 (lf 163 (.invokestatic 122, 166, 4, 2, 0)) (lf 166 (.invokestatic 126, 169, 5, 5, 0))) (br 172 (lf 169 (.ifCond .eq (15), 172, 184, 0, 0)) (br 173 (lf 172 (.aload_n 1, 173, 0, 0, 0)) (lf 173 (.aload_n 2, 174, 0, 0, 0)))))) (br 185 (br 180 (br 177 (lf 174 (.invokestatic 130, 177, 6, 2, 0)) (lf 177 (.ifCond .eq (7), 180, 184, 0, 0))) (br 181 (lf 180 (.iconst 1, 181, 0, 0, 0)) (br 184 (lf 181 (.goto (4), 184, 185, 0, 0)) (lf 184 (.iconst 0, 185, 0, 0, 0))))) (br 189 (br 186 (lf 185 (.istore_n 3, 186, 0, 0, 0)) (lf 186 (.iinc 5 (1), 189, 0, 0, 0))) (br 192 (lf 189 (.goto (-64), 192, 125, 0, 0)) (br 193 (lf 192 (.iload_n 3, 193, 0, 0, 0)) (lf 193 (.ireturn, 194, 1, 0, 0))))))))
set_option maxRecDepth 100000 in
set_option maxHeartbeats 4000000 in
theorem okLW_law_0 : OKF RL false 6 code (some .boolean) mdLW_law eLW_law_0 :=
  (ok_br (ok_br (ok_br (ok_br (ok_br (ok_lf 3 (by decide +kernel) rfl (Or.inl rfl) (Or.inr ⟨rfl, by decide, (List.mem_of_getElem? (i := 30) (by decide +kernel)), (List.mem_of_getElem? (i := 31) (by decide +kernel)), (List.mem_of_getElem? (i := 15) (by decide +kernel))⟩)) (ok_lf 1 (by decide +kernel) rfl (Or.inl rfl) trivial)) (ok_br (ok_lf 3 (by decide +kernel) rfl (Or.inl rfl) (Or.inr ⟨by decide, Or.inl (List.mem_of_getElem? (i := 32) (by decide +kernel)), (List.mem_of_getElem? (i := 33) (by decide +kernel)), rfl, rfl, 0, rfl, moX6_init⟩)) (ok_br (ok_lf 1 (by decide +kernel) rfl (Or.inl rfl) (Nat.le_of_ble_eq_true rfl)) (ok_lf 1 (by decide +kernel) rfl (Or.inl rfl) trivial)))) (ok_br (ok_br (ok_lf 2 (by decide +kernel) rfl (Or.inl rfl) ⟨Or.inl ⟨rfl, rfl⟩, (List.mem_of_getElem? (i := 56) (by decide +kernel))⟩) (ok_lf 1 (by decide +kernel) rfl (Or.inl rfl) (Nat.le_of_ble_eq_true rfl))) (ok_br (ok_lf 1 (by decide +kernel) rfl (Or.inl rfl) trivial) (ok_br (ok_lf 3 (by decide +kernel) rfl (Or.inl rfl) ⟨(List.mem_of_getElem? (i := 85) (by decide +kernel)), (List.mem_of_getElem? (i := 86) (by decide +kernel)), (List.mem_of_getElem? (i := 87) (by decide +kernel)), rfl, by decide, 0, rfl, moX6_wipe⟩) (ok_lf 3 (by decide +kernel) rfl (Or.inl rfl) (show ((16 : Nat) : Int) + (7) = ((23 : Nat) : Int) by decide)))))) (ok_br (ok_br (ok_br (ok_lf 1 (by decide +kernel) rfl (Or.inl rfl) trivial) (ok_lf 3 (by decide +kernel) rfl (Or.inl rfl) (show ((20 : Nat) : Int) + (4) = ((24 : Nat) : Int) by decide))) (ok_br (ok_lf 1 (by decide +kernel) rfl (Or.inl rfl) trivial) (ok_br (ok_lf 1 (by decide +kernel) rfl (Or.inl rfl) (Nat.le_of_ble_eq_true rfl)) (ok_lf 1 (by decide +kernel) rfl (Or.inl rfl) trivial)))) (ok_br (ok_br (ok_lf 2 (by decide +kernel) rfl (Or.inl rfl) (Nat.le_of_ble_eq_true rfl)) (ok_lf 2 (by decide +kernel) rfl (Or.inl rfl) trivial)) (ok_br (ok_lf 2 (by decide +kernel) rfl (Or.inl rfl) (show (Int8.ofInt (18)).toInt32 = Int32.ofInt (18) by decide +kernel)) (ok_br (ok_lf 3 (by decide +kernel) rfl (Or.inl rfl) (show ((32 : Nat) : Int) + (70) = ((102 : Nat) : Int) by decide)) (ok_lf 1 (by decide +kernel) rfl (Or.inl rfl) trivial)))))) (ok_br (ok_br (ok_br (ok_br (ok_lf 3 (by decide +kernel) rfl (Or.inl rfl) (show ((36 : Nat) : Int) + (42) = ((78 : Nat) : Int) by decide)) (ok_lf 1 (by decide +kernel) rfl (Or.inl rfl) trivial)) (ok_br (ok_lf 2 (by decide +kernel) rfl (Or.inl rfl) trivial) (ok_br (ok_lf 1 (by decide +kernel) rfl (Or.inl rfl) trivial) (ok_lf 1 (by decide +kernel) rfl (Or.inl rfl) trivial)))) (ok_br (ok_br (ok_lf 2 (by decide +kernel) rfl (Or.inl rfl) trivial) (ok_lf 1 (by decide +kernel) rfl (Or.inl rfl) trivial)) (ok_br (ok_lf 1 (by decide +kernel) rfl (Or.inl rfl) trivial) (ok_br (ok_lf 3 (by decide +kernel) rfl (Or.inl rfl) (show (Int16.ofInt (150)).toInt32 = Int32.ofInt (150) by decide +kernel)) (ok_lf 1 (by decide +kernel) rfl (Or.inl rfl) trivial))))) (ok_br (ok_br (ok_br (ok_lf 2 (by decide +kernel) rfl (Or.inl rfl) trivial) (ok_lf 1 (by decide +kernel) rfl (Or.inl rfl) trivial)) (ok_br (ok_lf 1 (by decide +kernel) rfl (Or.inl rfl) trivial) (ok_br (ok_lf 1 (by decide +kernel) rfl (Or.inl rfl) trivial) (ok_lf 1 (by decide +kernel) rfl (Or.inl rfl) trivial)))) (ok_br (ok_br (ok_lf 3 (by decide +kernel) rfl (Or.inl rfl) ⟨(List.mem_of_getElem? (i := 89) (by decide +kernel)), (List.mem_of_getElem? (i := 90) (by decide +kernel)), (List.mem_of_getElem? (i := 91) (by decide +kernel)), rfl, by decide, 3, rfl, moX6_stock⟩) (ok_lf 3 (by decide +kernel) rfl (Or.inl rfl) (show (Int16.ofInt (150)).toInt32 = Int32.ofInt (150) by decide +kernel))) (ok_br (ok_lf 1 (by decide +kernel) rfl (Or.inl rfl) trivial) (ok_br (ok_lf 2 (by decide +kernel) rfl (Or.inl rfl) trivial) (ok_lf 1 (by decide +kernel) rfl (Or.inl rfl) trivial)))))))
set_option maxRecDepth 100000 in
set_option maxHeartbeats 4000000 in
theorem okLW_law_1 : OKF RL false 6 code (some .boolean) mdLW_law eLW_law_1 :=
  (ok_br (ok_br (ok_br (ok_br (ok_br (ok_lf 1 (by decide +kernel) rfl (Or.inl rfl) trivial) (ok_lf 1 (by decide +kernel) rfl (Or.inl rfl) trivial)) (ok_br (ok_lf 1 (by decide +kernel) rfl (Or.inl rfl) trivial) (ok_br (ok_lf 3 (by decide +kernel) rfl (Or.inl rfl) (show ((71 : Nat) : Int) + (7) = ((78 : Nat) : Int) by decide)) (ok_lf 1 (by decide +kernel) rfl (Or.inl rfl) trivial)))) (ok_br (ok_br (ok_lf 3 (by decide +kernel) rfl (Or.inl rfl) (show ((75 : Nat) : Int) + (4) = ((79 : Nat) : Int) by decide)) (ok_lf 1 (by decide +kernel) rfl (Or.inl rfl) trivial)) (ok_br (ok_lf 1 (by decide +kernel) rfl (Or.inl rfl) (Nat.le_of_ble_eq_true rfl)) (ok_br (ok_lf 1 (by decide +kernel) rfl (Or.inl rfl) trivial) (ok_lf 1 (by decide +kernel) rfl (Or.inl rfl) trivial))))) (ok_br (ok_br (ok_br (ok_lf 1 (by decide +kernel) rfl (Or.inl rfl) trivial) (ok_lf 1 (by decide +kernel) rfl (Or.inl rfl) trivial)) (ok_br (ok_lf 3 (by decide +kernel) rfl (Or.inl rfl) (show (Int16.ofInt (150)).toInt32 = Int32.ofInt (150) by decide +kernel)) (ok_br (ok_lf 1 (by decide +kernel) rfl (Or.inl rfl) trivial) (ok_lf 2 (by decide +kernel) rfl (Or.inl rfl) trivial)))) (ok_br (ok_br (ok_lf 1 (by decide +kernel) rfl (Or.inl rfl) trivial) (ok_lf 1 (by decide +kernel) rfl (Or.inl rfl) trivial)) (ok_br (ok_lf 1 (by decide +kernel) rfl (Or.inl rfl) trivial) (ok_br (ok_lf 1 (by decide +kernel) rfl (Or.inl rfl) trivial) (ok_lf 1 (by decide +kernel) rfl (Or.inl rfl) trivial)))))) (ok_br (ok_br (ok_br (ok_br (ok_lf 1 (by decide +kernel) rfl (Or.inl rfl) trivial) (ok_lf 3 (by decide +kernel) rfl (Or.inl rfl) (Nat.le_of_ble_eq_true rfl))) (ok_br (ok_lf 3 (by decide +kernel) rfl (Or.inl rfl) (show ((99 : Nat) : Int) + (-71) = ((28 : Nat) : Int) by decide)) (ok_br (ok_lf 1 (by decide +kernel) rfl (Or.inl rfl) trivial) (ok_lf 1 (by decide +kernel) rfl (Or.inl rfl) trivial)))) (ok_br (ok_br (ok_lf 1 (by decide +kernel) rfl (Or.inl rfl) trivial) (ok_lf 1 (by decide +kernel) rfl (Or.inl rfl) trivial)) (ok_br (ok_lf 2 (by decide +kernel) rfl (Or.inl rfl) (show (Int8.ofInt (50)).toInt32 = Int32.ofInt (50) by decide +kernel)) (ok_br (ok_lf 3 (by decide +kernel) rfl (Or.inl rfl) (show ((108 : Nat) : Int) + (8) = ((116 : Nat) : Int) by decide)) (ok_lf 2 (by decide +kernel) rfl (Or.inl rfl) (show (Int8.ofInt (50)).toInt32 = Int32.ofInt (50) by decide +kernel)))))) (ok_br (ok_br (ok_br (ok_lf 3 (by decide +kernel) rfl (Or.inl rfl) (show ((113 : Nat) : Int) + (7) = ((120 : Nat) : Int) by decide)) (ok_lf 1 (by decide +kernel) rfl (Or.inl rfl) trivial)) (ok_br (ok_lf 1 (by decide +kernel) rfl (Or.inl rfl) trivial) (ok_br (ok_lf 1 (by decide +kernel) rfl (Or.inl rfl) trivial) (ok_lf 1 (by decide +kernel) rfl (Or.inl rfl) trivial)))) (ok_br (ok_br (ok_lf 2 (by decide +kernel) rfl (Or.inl rfl) (Nat.le_of_ble_eq_true rfl)) (ok_lf 1 (by decide +kernel) rfl (Or.inl rfl) trivial)) (ok_br (ok_lf 2 (by decide +kernel) rfl (Or.inl rfl) (Nat.le_of_ble_eq_true rfl)) (ok_br (ok_lf 2 (by decide +kernel) rfl (Or.inl rfl) trivial) (ok_lf 2 (by decide +kernel) rfl (Or.inl rfl) trivial)))))))
set_option maxRecDepth 100000 in
set_option maxHeartbeats 4000000 in
theorem okLW_law_2 : OKF RL false 6 code (some .boolean) mdLW_law eLW_law_2 :=
  (ok_br (ok_br (ok_br (ok_br (ok_br (ok_lf 3 (by decide +kernel) rfl (Or.inl rfl) (show ((129 : Nat) : Int) + (63) = ((192 : Nat) : Int) by decide)) (ok_lf 1 (by decide +kernel) rfl (Or.inl rfl) trivial)) (ok_br (ok_lf 3 (by decide +kernel) rfl (Or.inl rfl) (show ((133 : Nat) : Int) + (59) = ((192 : Nat) : Int) by decide)) (ok_lf 1 (by decide +kernel) rfl (Or.inl rfl) trivial))) (ok_br (ok_br (ok_lf 1 (by decide +kernel) rfl (Or.inl rfl) trivial) (ok_lf 1 (by decide +kernel) rfl (Or.inl rfl) trivial)) (ok_br (ok_lf 1 (by decide +kernel) rfl (Or.inl rfl) trivial) (ok_br (ok_lf 2 (by decide +kernel) rfl (Or.inl rfl) trivial) (ok_lf 1 (by decide +kernel) rfl (Or.inl rfl) trivial))))) (ok_br (ok_br (ok_br (ok_lf 3 (by decide +kernel) rfl (Or.inl rfl) ⟨Or.inl (List.mem_of_getElem? (i := 214) (by decide +kernel)), (List.mem_of_getElem? (i := 215) (by decide +kernel)), moL_draw⟩) (ok_lf 1 (by decide +kernel) rfl (Or.inl rfl) trivial)) (ok_br (ok_lf 1 (by decide +kernel) rfl (Or.inl rfl) trivial) (ok_br (ok_lf 2 (by decide +kernel) rfl (Or.inl rfl) trivial) (ok_lf 1 (by decide +kernel) rfl (Or.inl rfl) trivial)))) (ok_br (ok_br (ok_lf 1 (by decide +kernel) rfl (Or.inl rfl) trivial) (ok_lf 1 (by decide +kernel) rfl (Or.inl rfl) trivial)) (ok_br (ok_lf 3 (by decide +kernel) rfl (Or.inl rfl) ⟨Or.inl (List.mem_of_getElem? (i := 214) (by decide +kernel)), (List.mem_of_getElem? (i := 215) (by decide +kernel)), moL_draw⟩) (ok_br (ok_lf 1 (by decide +kernel) rfl (Or.inl rfl) trivial) (ok_lf 1 (by decide +kernel) rfl (Or.inl rfl) trivial)))))) (ok_br (ok_br (ok_br (ok_br (ok_lf 2 (by decide +kernel) rfl (Or.inl rfl) trivial) (ok_lf 1 (by decide +kernel) rfl (Or.inl rfl) trivial)) (ok_br (ok_lf 1 (by decide +kernel) rfl (Or.inl rfl) trivial) (ok_lf 1 (by decide +kernel) rfl (Or.inl rfl) trivial))) (ok_br (ok_br (ok_lf 3 (by decide +kernel) rfl (Or.inl rfl) ⟨Or.inl (List.mem_of_getElem? (i := 214) (by decide +kernel)), (List.mem_of_getElem? (i := 215) (by decide +kernel)), moL_draw⟩) (ok_lf 3 (by decide +kernel) rfl (Or.inl rfl) ⟨Or.inl (List.mem_of_getElem? (i := 220) (by decide +kernel)), (List.mem_of_getElem? (i := 221) (by decide +kernel)), moL_step⟩)) (ok_br (ok_lf 3 (by decide +kernel) rfl (Or.inl rfl) (show ((169 : Nat) : Int) + (15) = ((184 : Nat) : Int) by decide)) (ok_br (ok_lf 1 (by decide +kernel) rfl (Or.inl rfl) trivial) (ok_lf 1 (by decide +kernel) rfl (Or.inl rfl) trivial))))) (ok_br (ok_br (ok_br (ok_lf 3 (by decide +kernel) rfl (Or.inl rfl) ⟨Or.inl (List.mem_of_getElem? (i := 698) (by decide +kernel)), (List.mem_of_getElem? (i := 699) (by decide +kernel)), moL_isWhole⟩) (ok_lf 3 (by decide +kernel) rfl (Or.inl rfl) (show ((177 : Nat) : Int) + (7) = ((184 : Nat) : Int) by decide))) (ok_br (ok_lf 1 (by decide +kernel) rfl (Or.inl rfl) trivial) (ok_br (ok_lf 3 (by decide +kernel) rfl (Or.inl rfl) (show ((181 : Nat) : Int) + (4) = ((185 : Nat) : Int) by decide)) (ok_lf 1 (by decide +kernel) rfl (Or.inl rfl) trivial)))) (ok_br (ok_br (ok_lf 1 (by decide +kernel) rfl (Or.inl rfl) (Nat.le_of_ble_eq_true rfl)) (ok_lf 3 (by decide +kernel) rfl (Or.inl rfl) (Nat.le_of_ble_eq_true rfl))) (ok_br (ok_lf 3 (by decide +kernel) rfl (Or.inl rfl) (show ((189 : Nat) : Int) + (-64) = ((125 : Nat) : Int) by decide)) (ok_br (ok_lf 1 (by decide +kernel) rfl (Or.inl rfl) trivial) (ok_lf 1 (by decide +kernel) rfl (Or.inl rfl) (Or.inr ⟨by decide, rfl⟩))))))))
def eLW_law : Nat → Ent := (br 68 eLW_law_0 (br 129 eLW_law_1 eLW_law_2))
set_option maxRecDepth 100000 in
theorem okLW_law : OKF RL false 6 code (some .boolean) mdLW_law eLW_law :=
  (ok_br okLW_law_0 (ok_br okLW_law_1 okLW_law_2))
theorem sat_L_step : Sat mL_step s_step 16 6400 14 := satN_step
def spLW : Nat → CD := spF mdLW_law fun i => match i with
  | 1 => (frS s_initC, 6, 56, 2)
  | 2 => (frS s_wipeC, 0, 0, 12)
  | 3 => (frS s_stockC, 1, 6, 12)
  | 4 => (s_draw, 0, 0, 1)
  | 5 => (s_step, 16, 6400, 14)
  | 6 => (s_isWhole, 0, 0, 13)
  | _ => noR
theorem rm1 {d : Nat} (h : d ≤ 20) : roomOK room_1 d := ⟨by show 10 + d + 1 ≤ 2048; omega, by show 8 + (40 + 11) + (300 + 60 * d) ≤ 84000; omega⟩
theorem satLW : ∀ i, Sat (spLW i).1 (spLW i).2.1 (spLW i).2.2.1 (spLW i).2.2.2.1 (spLW i).2.2.2.2 ∧ roomOK room_1 (spLW i).2.2.2.2 := fun i => match i with
  | 1 => ⟨frS_sat sat_X6_init, rm1 (Nat.le_of_ble_eq_true rfl)⟩
  | 2 => ⟨frS_sat sat_X6_wipe, rm1 (Nat.le_of_ble_eq_true rfl)⟩
  | 3 => ⟨frS_sat sat_X6_stock, rm1 (Nat.le_of_ble_eq_true rfl)⟩
  | 4 => ⟨sat_L_draw, rm1 (Nat.le_of_ble_eq_true rfl)⟩
  | 5 => ⟨sat_L_step, rm1 (Nat.le_of_ble_eq_true rfl)⟩
  | 6 => ⟨sat_L_isWhole, rm1 (Nat.le_of_ble_eq_true rfl)⟩
  | i + 7 => ⟨sat_no _, rm1 (Nat.le_of_ble_eq_true rfl)⟩
  | 0 => ⟨sat_no _, rm1 (Nat.le_of_ble_eq_true rfl)⟩

/-! THE LAW: its beginning -/
/-- the class is made -/
def INI1 (xs : Nat → Int) (Ln : Nat) (S : Sto) : Prop := ∃ C0 : Sto, (C0.1 1 = some (6, 9) ∧ (∀ t, t ≠ 1 → C0.1 t = none) ∧ ∀ k, C0.2.1 1 k = 0) ∧ subS (clNew C0) S ∧ cloS (clNew C0) ∧ (S.1 10 = some (102, Ln) ∧ ∀ j, S.2.1 10 j = xs j) ∧ ∀ t, S.1 t ≠ none → (clNew C0).1 t ≠ none ∨ t = 10
theorem clNew_t {C : Sto} {t : Nat} (h : t < 4 ∨ 9 < t) : (clNew C).1 t = C.1 t := by
  show (if t = 9 then _ else if t = 8 then _ else if t = 7 then _ else if t = 6 then _ else if t = 5 then _ else if t = 4 then _ else C.1 t) = _
  rw [if_neg (by omega), if_neg (by omega), if_neg (by omega), if_neg (by omega), if_neg (by omega), if_neg (by omega)]
theorem lw_ini1 {xs : Nat → Int} {Ln : Nat} {S : Sto} (h1 : S.1 1 = none) (h10 : S.1 10 = some (102, Ln) ∧ ∀ j, S.2.1 10 j = xs j) (hS : ∀ t, t ≠ 10 → S.1 t = none) {post : Res → Sto → Prop} (hp : ∀ S2, INI1 xs Ln S2 → post (.inl none) S2) : frS s_initC [vT 1] (newS S 1 (6, 9)) post := by
  have g1 : (newS S 1 (6, 9)).1 1 = some (6, 9) := rfl
  have g3 : ∀ j, (newS S 1 (6, 9)).2.2 1 j = none := fun _ => rfl
  have g2 : ∀ j, (newS S 1 (6, 9)).2.1 1 j = 0 := fun _ => rfl
  obtain ⟨C, hC⟩ : ∃ C : Sto, C = (fun t => if t = 1 then some (6, 9) else none, (newS S 1 (6, 9)).2.1, (newS S 1 (6, 9)).2.2) := ⟨_, rfl⟩
  have c1 : ∀ t, C.1 t = if t = 1 then some (6, 9) else none := fun t => by rw [hC]
  have c2 : C.2 = (newS S 1 (6, 9)).2 := by rw [hC]
  have o1 : ∀ t, t ≠ 1 → C.1 t = none := fun t ht => by rw [c1, if_neg ht]
  have d1 : ∀ t x, C.1 t = some x → t = 1 := fun t x e => by
    by_cases z : t = 1
    · exact z
    · rw [o1 t z] at e; cases e
  refine ⟨C, fun t x e => ?_, fun t x j t' e e' => ?_, fun a ha t e => ?_, ⟨by rw [c1, if_pos rfl], fun k k4 k9 => o1 k (by omega)⟩, fun t t1 t2 => ?_, fun hcl hex => hp _ ⟨C, ⟨by rw [c1, if_pos rfl], o1, fun k => by rw [c2]; exact g2 k⟩, fun t x e => ovS_s e, hcl, ⟨?_, fun j => ?_⟩, fun t ht => ?_⟩⟩
  · have := d1 t x e
    subst this
    rw [c1, if_pos rfl] at e
    exact ⟨g1.trans e, by rw [c2], by rw [c2]⟩
  · have := d1 t x e
    subst this
    rw [c2, g3] at e'
    cases e'
  · rw [List.mem_singleton.mp ha] at e
    cases e
    rw [c1, if_pos rfl]; exact fun z => by cases z
  · have ht1 : t ≠ 1 := fun z => by rw [c1, if_pos z] at t1; cases t1
    have h9 : t = 10 := by
      by_cases z : t = 10
      · exact z
      · rw [newS_1, if_neg ht1, hS t z] at t2; exact absurd rfl t2
    rw [clNew_t (by omega)]; exact t1
  · rw [(ovS_n (by rw [clNew_t (by omega)]; exact o1 10 (by omega))).1, newS_1, if_neg (by omega)]; exact h10.1
  · rw [(ovS_n (by rw [clNew_t (by omega)]; exact o1 10 (by omega))).2.1, newS_2, if_neg (by omega)]; exact h10.2 j
  · cases e9 : (clNew C).1 t with
    | some x => exact Or.inl (by rw [e9] at *; exact fun z => by cases z)
    | none =>
      rw [(ovS_n e9).1] at ht
      by_cases z : t = 1
      · subst z
        rw [clNew_t (by omega), c1, if_pos rfl] at e9; cases e9
      · rw [newS_1, if_neg z] at ht
        by_cases z2 : t = 10
        · exact Or.inr z2
        · rw [hS t z2] at ht; exact absurd rfl ht
theorem INI1.o2 {xs : Nat → Int} {Ln : Nat} {S : Sto} (h : INI1 xs Ln S) {t : Nat} (ht : (t < 4 ∨ 9 < t) ∧ t ≠ 1 ∧ t ≠ 10) : S.1 t = none := by
  obtain ⟨C0, ⟨h1, h2, h3⟩, -, -, -, h6⟩ := h
  cases e : S.1 t with
  | none => rfl
  | some x =>
    rcases h6 t (by rw [e]; exact fun z => by cases z) with z | z
    · rw [clNew_t ht.1] at z; exact absurd (h2 t ht.2.1) z
    · omega
/-- the reference as it begins -/
def R0 : Sto := (fun t => if t = 2 then some (7, 33) else some (100, mLen (t - 20)), fun t _ => if t = 51 then -1 else 0, fun t => if t = 2 then mRef else fun _ => none)
theorem R0_MI : MI 0 R0 := by
  refine ⟨⟨rfl, rfl, fun k _ _ => ?_⟩, ⟨by decide, by decide, by decide, by decide, by decide, by decide, by decide, by decide⟩, ⟨by decide, by decide, fun k k0 k1 => ?_⟩, fun d d0 d1 => ?_, fun i i0 i1 => ?_, fun o o0 o1 => ?_, ⟨fun d _ _ => rfl, fun i _ _ => ⟨rfl, rfl, fun k _ _ => rfl⟩, fun o _ _ => ⟨rfl, rfl, rfl, rfl, fun c _ _ => rfl⟩⟩, fun k _ _ => ⟨show (0 : Int) ≤ 0 by decide, show (0 : Int) ≤ 1000000 by decide⟩⟩
  · show (if 20 + k = 2 then some (7, 33) else some (100, mLen (20 + k - 20))) = _
    rw [if_neg (by omega), Nat.add_sub_cancel_left]
  · rw [show shN R0 6 = 0 from rfl] at k1; omega
  · rw [show nD R0 = 0 from rfl] at d1; omega
  · rw [show nM R0 = 0 from rfl] at i1; omega
  · rw [show nO R0 = 0 from rfl] at o1; omega
theorem R0_SI : SI0 R0 := fun o ho => by rw [show nO R0 = 0 from rfl] at ho; omega
theorem R0_QI : QI R0 0 := ⟨rfl, rfl, fun i i0 i1 => by rw [show nM R0 = 0 from rfl] at i1; omega⟩
theorem lw_pi {xs : Nat → Int} {Ln : Nat} {S : Sto} (h : INI1 xs Ln S) : PI xs Ln 0 R0 (newS S 3 (100, 5)) := by
  obtain ⟨C0, ⟨h1, h2, h3⟩, h4, h5, ⟨h6, h7⟩, h8⟩ := h
  have cF : ∀ t, inF t → (clNew C0).1 t = none := fun t ht => by rw [clNew_t (by omega)]; exact h2 t (by omega)
  refine ⟨clNew C0, ⟨fun t x e => ?_, h5⟩, cF, fun t ht => ?_, ⟨?_, ?_, fun j => ?_⟩, R0_MI, R0_SI, fun _ => 0, 0, CI.new h1 h2 rfl rfl rfl rfl (fun _ => rfl) h3⟩
  · have hnF : ¬ inF t := fun z => by rw [cF t z] at e; cases e
    obtain ⟨p1, p2, p3⟩ := h4 t x e
    have e3 : t ≠ 3 := by omega
    refine ⟨?_, ?_, ?_⟩
    · rw [newS_1, if_neg e3]; exact p1
    · funext k; rw [newS_2, if_neg e3, p2]
    · funext k; rw [newS_3, if_neg e3, p3]
  · rw [newS_1] at ht
    by_cases e3 : t = 3
    · exact Or.inr (by omega)
    · rw [if_neg e3] at ht
      rcases h8 t ht with z | z
      · exact Or.inl z
      · exact Or.inr (by omega)
  · rw [newS_1, if_pos rfl]
  · rw [newS_1, if_neg (by omega)]; exact h6
  · rw [newS_2, if_neg (by omega)]; exact h7 j
theorem lw_pd {S : Sto} : PD R0 (newS S 3 (100, 5)) := by
  have e : ∀ j, (newS S 3 (100, 5)).2.1 3 j = 0 := fun j => by rw [newS_2, if_pos rfl]
  refine ⟨⟨?_, ?_, ?_, ?_⟩, ?_⟩
  · rw [e]; rfl
  · rw [e]; rfl
  · rw [e]; rfl
  · rw [e]; rfl
  · rw [e]; exact R0_QI
theorem lw_d4 {S : Sto} : (newS S 3 (100, 5)).2.1 3 4 = 0 := by rw [newS_2, if_pos rfl]
theorem op_wipe22 {R R' : Sto} {k v : Int} (ho : wipeR R k v R') : ∀ j : Int, mg R' 22 j = mg R 22 j := by
  obtain ⟨h1, h2, rfl⟩ := ho
  intro j
  rw [mgU, if_neg (by omega)]; exact th_mg'
theorem op_stock22 {R R' : Sto} {c s x v : Int} (hc : 0 ≤ c ∧ c < 6 ∧ 0 ≤ s ∧ s < 3) (ho : stockR R c s x 0 v R') : ∀ j : Int, 0 ≤ j → j ≠ 3 * c + s → mg R' 22 j = mg R 22 j := by
  obtain ⟨h1, h2, h3⟩ := ho
  obtain ⟨e1, e2⟩ := h3 rfl
  intro j j0 j1
  rw [e2, mgU, if_neg (by omega)]; exact th_mg'
theorem pl_wipe {xs : Nat → Int} {Ln : Nat} {n : Int} {R S : Sto} (h : PI xs Ln n R S) (hn : n + 1 ≤ 15000) {post : Res → Sto → Prop} (h0 : ∀ S1 R', PI xs Ln (n + 1) R' S1 → S1.2.1 3 = S.2.1 3 → cntR R' 0 (nD R) (nM R) (nO R) → (∀ b, QI R b → QI R' b) → (∀ j : Int, mg R' 22 j = mg R 22 j) → post (.inl (some (vI (shN R 6)))) S1) : frS s_wipeC [vT 1] S post := by
  have hI := h.mi
  refine pw_cls (op := wipeR) (em := em1) (ok := okr []) (fun hC hI _ _ hq => ag_wipe hC hI hq) good_wipe (fun C h => CL.cons (fun t e => by cases e; rw [h]; exact fun z => by cases z) (fun a ha => by cases ha)) h hn (ex_wipe R) fun r S1 k v R' hok ho ha hP h3 => ?_
  obtain ⟨f1, f2, f3⟩ := op_wipe ho
  have hd := hI.2.2.1
  have hd1 := hd.1
  have hd2 := hd.2.1
  match r, hok, ha with
  | .inl (some (.inl x)), _, ha =>
    have hx : v = x := ha.2
    subst hx
    subst f2
    have e : nrm (.inl (some (.inl (shN R 6)))) = .inl (some (vI (wr (shN R 6)))) := rfl
    rw [e, wr_id ⟨by omega, by omega⟩]
    exact h0 S1 R' hP h3 f3 (fun b hb => hb.wipe ho) (op_wipe22 ho)
theorem pl_stock {xs : Nat → Int} {Ln : Nat} {n : Int} {R S : Sto} {c s x : Int} (h : PI xs Ln n R S) (hn : n + 1 ≤ 15000) (hc : 0 ≤ c ∧ c < 6 ∧ 0 ≤ s ∧ s < 3) (hx : 1 ≤ x ∧ x ≤ 100000) (hl : mg R 22 (3 * c + s) + x ≤ 1000000) {post : Res → Sto → Prop} (h0 : ∀ S1 R', PI xs Ln (n + 1) R' S1 → S1.2.1 3 = S.2.1 3 → cntR R' (shN R 6) (nD R) (nM R) (nO R) → (∀ b, QI R b → QI R' (b + x)) → (∀ j : Int, 0 ≤ j → j ≠ 3 * c + s → mg R' 22 j = mg R 22 j) → post (.inl (some (vI (mg R 22 (3 * c + s) + x)))) S1) : frS s_stockC [vT 1, vI c, vI s, vI x] S post := by
  have hI := h.mi
  refine pw_cls (op := fun R => stockR R c s x) (em := em1) (ok := okr [0, 1, 2]) (fun hC hI _ _ hq => ag_stock hC hI ⟨by omega, by omega⟩ ⟨by omega, by omega⟩ ⟨by omega, by omega⟩ hq) good_stock (fun C h => CL.cons (fun t e => by cases e; rw [h]; exact fun z => by cases z) (CL.cons VOK.i (CL.cons VOK.i (CL.cons VOK.i (fun a ha => by cases ha))))) h hn (ex_stock R c s x) fun r S1 k v R' hok ho ha hP h3 => ?_
  obtain ⟨f1, f2, f3, f4⟩ := op_stock (n := n) hc hx hl ho
  have h22 := hI.2.2.2.2.2.2.2 (3 * c + s) (by omega) (by omega)
  subst f1
  match r, hok, ha with
  | .inl (some (.inl y)), _, ha =>
    have hy : v = y := ha.2
    subst hy
    subst f2
    have e : nrm (.inl (some (.inl (mg R 22 (3 * c + s) + x)))) = .inl (some (vI (wr (mg R 22 (3 * c + s) + x)))) := rfl
    rw [e, wr_id ⟨by omega, by omega⟩]
    exact h0 S1 R' hP h3 f3 f4 (op_stock22 hc ho)
  | .inr e, _, ha =>
    exfalso
    have ha' : (0 : Int) = em1 e := ha
    unfold em1 at ha'
    omega

/-- behind a stock: the array has what was bought -/
theorem PD.buy {R R1 S S1 : Sto} {x : Int} (h : PD R S) (h3 : S1.2.1 3 = S.2.1 3) (hc : cntR R1 (shN R 6) (nD R) (nM R) (nO R)) (hq : ∀ b, QI R b → QI R1 (b + x)) : PD R1 (updI S1 3 (Int.toNat 4) (S1.2.1 3 (Int.toNat 4) + x)) ∧ (updI S1 3 (Int.toNat 4) (S1.2.1 3 (Int.toNat 4) + x)).2.1 3 4 = S.2.1 3 4 + x := by
  have e : ∀ i : Nat, (updI S1 3 (Int.toNat 4) (S1.2.1 3 (Int.toNat 4) + x)).2.1 3 i = if i = 4 then S.2.1 3 4 + x else S.2.1 3 i := fun i => by
    rw [updI_2, h3]
    by_cases z : i = 4
    · rw [if_pos ⟨rfl, z⟩, if_pos z]; rfl
    · rw [if_neg (fun y => z y.2), if_neg z]
  obtain ⟨⟨a0, a1, a2, a3⟩, q⟩ := h
  obtain ⟨c0, c1, c2, c3⟩ := hc
  have e4 : (updI S1 3 (Int.toNat 4) (S1.2.1 3 (Int.toNat 4) + x)).2.1 3 4 = S.2.1 3 4 + x := by rw [e, if_pos rfl]
  refine ⟨⟨⟨?_, ?_, ?_, ?_⟩, ?_⟩, e4⟩
  · rw [e, if_neg (by omega), c0]; exact a0
  · rw [e, if_neg (by omega), c1]; exact a1
  · rw [e, if_neg (by omega), c2]; exact a2
  · rw [e, if_neg (by omega), c3]; exact a3
  · rw [e4]; exact hq _ q

/-! THE LAW: its two loops -/
def krL : Option AV → Sto → Nat × Nat → Prop := fun v _ c => v = some (vI 1) ∧ c.1 ≤ 600074 ∧ c.2 ≤ 7301550
theorem krL_i {v : Option AV} {S : Sto} {c : Nat × Nat} (h : v = some (vI 1)) (h1 : c.1 ≤ 600074) (h2 : c.2 ≤ 7301550) : krL v S c := ⟨h, h1, h2⟩
def iBuy (xs : Nat → Int) (Ln : Nat) : InvF := fun ms L st S c => ∃ (k : Nat) (x5 : AV) (R : Sto), L = [vT 10, vT 1, vT 3, vI 1, vI k, x5] ∧ st = [] ∧ (c.1 ≤ 100 + k ∧ c.2 ≤ 1000 + 6 * k) ∧ (PI xs Ln ((k : Int) + 1) R S ∧ PD R S ∧ (∀ j : Int, (k : Int) ≤ j → j < 18 → mg R 22 j = 0) ∧ 0 ≤ S.2.1 3 4 ∧ S.2.1 3 4 ≤ 450 * k) ∧ ms = 1000 + (18 - k) ∧ k ≤ 18
def iStep (xs : Nat → Int) (Ln : Nat) : InvF := fun ms L st S c => ∃ (k : Nat) (all n : Int) (R : Sto), L = [vT 10, vT 1, vT 3, vI 1, vI all, vI k] ∧ st = [] ∧ (c.1 ≤ 200 + 16 * k ∧ c.2 ≤ 2000 + 6400 * k) ∧ (PI xs Ln n R S ∧ PD R S ∧ (0 ≤ n ∧ n ≤ 19 + 3 * k) ∧ S.2.1 3 4 ≤ 5000 * n) ∧ ms = 500 - k ∧ (all ≤ 50 ∧ 3 * all ≤ Ln) ∧ (k : Int) ≤ all
def cutT (xs : Nat → Int) (Ln : Nat) : List (Nat × InvF) := [(28, iBuy xs Ln), (125, iStep xs Ln)]
set_option maxHeartbeats 16000000 in
set_option maxRecDepth 100000 in
theorem cs_buy {xs : Nat → Int} {Ln : Nat} (hLn : Ln ≤ 260) : ∀ N L st S c, iBuy xs Ln N L st S c → st1 spLW (600074, 7301550) krL (fun _ _ _ => False) (fun _ _ _ _ _ => False) (wp eLW_law spLW (600074, 7301550) krL (fun _ _ _ => False) (fun _ _ _ _ _ => False) (cutL (cutT xs Ln)) N 200) 28 (eLW_law 28) L st S c := by
  rintro N L st S c ⟨k, x5, R, rfl, rfl, ⟨c1, c2⟩, ⟨hP, hPD, h22, hb0, hb1⟩, rfl, hk⟩
  have hx := hP.x
  have t1 : ∃ n, S.1 1 = some (6, n) := ⟨9, hP.t1⟩
  have l10 : ∃ cd n, S.1 10 = some (cd, n) := ⟨102, Ln, hx.2.1⟩
  have ea1 : (spLW 1).2.2.1 = 6 := rfl
  have eb1 : (spLW 1).2.2.2.1 = 56 := rfl
  have ea2 : (spLW 2).2.2.1 = 0 := rfl
  have eb2 : (spLW 2).2.2.2.1 = 0 := rfl
  have ea3 : (spLW 3).2.2.1 = 1 := rfl
  have eb3 : (spLW 3).2.2.2.1 = 6 := rfl
  have ea4 : (spLW 4).2.2.1 = 0 := rfl
  have eb4 : (spLW 4).2.2.2.1 = 0 := rfl
  have ea5 : (spLW 5).2.2.1 = 16 := rfl
  have eb5 : (spLW 5).2.2.2.1 = 6400 := rfl
  have ea6 : (spLW 6).2.2.1 = 0 := rfl
  have eb6 : (spLW 6).2.2.2.1 = 0 := rfl
  by_cases hk18 : k < 18
  · have e9 : 3 * ((k : Int) / 3) + (k : Int) % 3 = k := by omega
    have hz := h22 (3 * ((k : Int) / 3) + (k : Int) % 3) (by omega) (by omega)
    repeat' (first
        | omega
        | with_reducible apply And.intro
        | intro c9
        | exact ⟨100, 5, hx.1, Or.inl rfl, by omega, by omega⟩
        | exact ⟨5, hx.1, by omega, by omega⟩
        | exact t1
        | exact ⟨100, 5, hP1.x.1, Or.inl rfl, by omega, by omega⟩
        | exact ⟨5, hP1.x.1, by omega, by omega⟩
        | (refine pl_stock hP (by omega) ⟨by omega, by omega, by omega, by omega⟩ ⟨by omega, by omega⟩ (by omega) (fun S1 R1 hP1 h3 hc hq hs => ?_); rw [hz]; have hd4 : S1.2.1 3 (Int.toNat 4) = S.2.1 3 4 := congrFun h3 4; obtain ⟨y1, y2⟩ := hPD.buy h3 hc hq)
        | exact ⟨1000 + (18 - (k + 1)), by omega, k + 1, _, R1, by rw [Int.natCast_add]; rfl, rfl, ⟨by omega, by omega⟩, ⟨by rw [Int.natCast_add]; exact hP1.put, y1, fun j j0 j1 => by rw [hs j (by omega) (by omega)]; exact h22 j (by omega) j1, by first | omega | (rw [y2]; omega), by first | omega | (rw [y2]; omega)⟩, rfl, by omega⟩
        | ((with_reducible show wp _ _ _ _ _ _ _ _ _ _ _ _ _ _); conv => whnf)
        | ((with_reducible show callK _ _ _ _ _ _ _ _ _); conv => whnf)
        | ((with_reducible show condK _ _ _ _ _); conv => whnf)
        | refine Exists.intro _ (And.intro rfl ?_)
        | ((with_reducible show st1 _ _ _ _ _ _ _ _ _ _ _ _); conv => whnf)
        | ((with_reducible show (Prod.fst _ : Spec) _ _ _); conv => whnf)
        | ((with_reducible show shortK _ _); conv => whnf)
        | exact Nat.le_of_ble_eq_true rfl)
  · have e18 : k = 18 := by omega
    subst e18
    repeat' (first
        | omega
        | with_reducible apply And.intro
        | intro c9
        | exact ⟨100, 5, hx.1, Or.inl rfl, by omega, by omega⟩
        | exact ⟨5, hx.1, by omega, by omega⟩
        | exact t1
        | exact ⟨102, Ln, hx.2.1, by omega, by omega⟩
        | refine ⟨102, Ln, hx.2.1, by omega, ?_⟩
        | exact ⟨500, by omega, 0, _, _, R, rfl, rfl, ⟨by omega, by omega⟩, ⟨hP, hPD, ⟨by omega, by omega⟩, by omega⟩, rfl, ⟨by omega, by omega⟩, by omega⟩
        | ((with_reducible show wp _ _ _ _ _ _ _ _ _ _ _ _ _ _); conv => whnf)
        | ((with_reducible show callK _ _ _ _ _ _ _ _ _); conv => whnf)
        | ((with_reducible show condK _ _ _ _ _); conv => whnf)
        | refine Exists.intro _ (And.intro rfl ?_)
        | ((with_reducible show st1 _ _ _ _ _ _ _ _ _ _ _ _); conv => whnf)
        | ((with_reducible show (Prod.fst _ : Spec) _ _ _); conv => whnf)
        | ((with_reducible show shortK _ _); conv => whnf)
        | exact Nat.le_of_ble_eq_true rfl)
set_option maxHeartbeats 16000000 in
set_option maxRecDepth 100000 in
theorem cs_step {xs : Nat → Int} {Ln : Nat} (hLn : Ln ≤ 260) : ∀ N L st S c, iStep xs Ln N L st S c → st1 spLW (600074, 7301550) krL (fun _ _ _ => False) (fun _ _ _ _ _ => False) (wp eLW_law spLW (600074, 7301550) krL (fun _ _ _ => False) (fun _ _ _ _ _ => False) (cutL (cutT xs Ln)) N 200) 125 (eLW_law 125) L st S c := by
  rintro N L st S c ⟨k, all, n, R, rfl, rfl, ⟨c1, c2⟩, ⟨hP, hPD, hn, hb⟩, rfl, hall, hk⟩
  have hx := hP.x
  have t1 : ∃ n, S.1 1 = some (6, n) := ⟨9, hP.t1⟩
  have ea1 : (spLW 1).2.2.1 = 6 := rfl
  have eb1 : (spLW 1).2.2.2.1 = 56 := rfl
  have ea2 : (spLW 2).2.2.1 = 0 := rfl
  have eb2 : (spLW 2).2.2.2.1 = 0 := rfl
  have ea3 : (spLW 3).2.2.1 = 1 := rfl
  have eb3 : (spLW 3).2.2.2.1 = 6 := rfl
  have ea4 : (spLW 4).2.2.1 = 0 := rfl
  have eb4 : (spLW 4).2.2.2.1 = 0 := rfl
  have ea5 : (spLW 5).2.2.1 = 16 := rfl
  have eb5 : (spLW 5).2.2.2.1 = 6400 := rfl
  have ea6 : (spLW 6).2.2.1 = 0 := rfl
  have eb6 : (spLW 6).2.2.2.1 = 0 := rfl
  repeat' (first
      | omega
      | with_reducible apply And.intro
      | intro c9
      | exact ⟨100, 5, hx.1, Or.inl rfl, by omega, by omega⟩
      | exact ⟨5, hx.1, by omega, by omega⟩
      | exact t1
      | exact ⟨5, hP1.x.1, by omega, by omega⟩
      | refine krL_i rfl ?_ ?_
      | refine ⟨Ln, hx.2.1, ⟨by omega, by omega, by omega⟩, fun w hw => ?_⟩
      | refine ⟨xs, Ln, n, R, hP, hPD, ⟨⟨by omega, by omega⟩, ⟨by omega, by omega⟩, by omega, by omega⟩, ⟨by omega, by omega⟩, hb, fun S1 R1 n1 hP1 hPD1 hn1 hb1 => ?_⟩
      | refine ⟨xs, Ln, n1, R1, hP1, ⟨hPD1.1.2.2.1, hPD1.1.2.2.2⟩, hPD1.2, by omega, ?_⟩
      | exact ⟨500 - (k + 1), by omega, k + 1, all, n1, R1, by rw [Int.natCast_add]; rfl, rfl, ⟨by omega, by omega⟩, ⟨hP1, hPD1, ⟨hP1.mi.2.1.1, by omega⟩, hb1⟩, rfl, hall, by omega⟩
      | ((with_reducible show wp _ _ _ _ _ _ _ _ _ _ _ _ _ _); conv => whnf)
      | ((with_reducible show callK _ _ _ _ _ _ _ _ _); conv => whnf)
      | ((with_reducible show condK _ _ _ _ _); conv => whnf)
      | refine Exists.intro _ (And.intro rfl ?_)
      | ((with_reducible show st1 _ _ _ _ _ _ _ _ _ _ _ _); conv => whnf)
      | ((with_reducible show (Prod.fst _ : Spec) _ _ _); conv => whnf)
      | ((with_reducible show shortK _ _); conv => whnf)
      | exact Nat.le_of_ble_eq_true rfl)
theorem law_vc {xs : Nat → Int} {Ln : Nat} (hLn : Ln ≤ 260) : ∀ q ∈ cutT xs Ln, ∀ N L st S c, q.2 N L st S c → st1 spLW (600074, 7301550) krL (fun _ _ _ => False) (fun _ _ _ _ _ => False) (wp eLW_law spLW (600074, 7301550) krL (fun _ _ _ => False) (fun _ _ _ _ _ => False) (cutL (cutT xs Ln)) N 200) q.1 (eLW_law q.1) L st S c :=
  List.forall_mem_cons.mpr ⟨cs_buy hLn, List.forall_mem_cons.mpr ⟨cs_step hLn, fun q hq => by cases hq⟩⟩
set_option maxHeartbeats 16000000 in
set_option maxRecDepth 100000 in
theorem law_begin {xs : Nat → Int} {Ln : Nat} {S0 : Sto} (h10 : S0.1 10 = some (102, Ln) ∧ ∀ j, S0.2.1 10 j = xs j) (hS : ∀ t, t ≠ 10 → S0.1 t = none) : wp eLW_law spLW (600074, 7301550) krL (fun _ _ _ => False) (fun _ _ _ _ _ => False) (cutL (cutT xs Ln)) 2001 200 0 (entL 6 [vT 10]) [] S0 (0, 0) := by
  have s1 := hS 1 (by omega)
  have e6 : clN 6 = 9 := rfl
  have ea1 : (spLW 1).2.2.1 = 6 := rfl
  have eb1 : (spLW 1).2.2.2.1 = 56 := rfl
  have ea2 : (spLW 2).2.2.1 = 0 := rfl
  have eb2 : (spLW 2).2.2.2.1 = 0 := rfl
  have ea3 : (spLW 3).2.2.1 = 1 := rfl
  have eb3 : (spLW 3).2.2.2.1 = 6 := rfl
  have ea4 : (spLW 4).2.2.1 = 0 := rfl
  have eb4 : (spLW 4).2.2.2.1 = 0 := rfl
  have ea5 : (spLW 5).2.2.1 = 16 := rfl
  have eb5 : (spLW 5).2.2.2.1 = 6400 := rfl
  have ea6 : (spLW 6).2.2.1 = 0 := rfl
  have eb6 : (spLW 6).2.2.2.1 = 0 := rfl
  repeat' (first
      | omega
      | with_reducible apply And.intro
      | intro c9
      | refine ⟨1, s1, ?_⟩
      | refine ⟨3, hI1.o2 (by omega), ?_⟩
      | (refine lw_ini1 s1 h10 hS ?_; intro S2 hI1)
      | (refine pl_wipe (lw_pi hI1) (by omega) (fun S3 R1 hP1 h3 hc hq h22 => ?_); rw [show shN R0 6 = 0 from rfl]; have q4 : S3.2.1 3 4 = 0 := (congrFun h3 4).trans lw_d4)
      | exact ⟨9, (lw_pi hI1).t1⟩
      | exact ⟨1018, by omega, 0, _, R1, rfl, rfl, ⟨by omega, by omega⟩, ⟨hP1, lw_pd.mk' h3 hc hq, fun j _ _ => by rw [h22]; rfl, by omega, by omega⟩, rfl, by omega⟩
      | ((with_reducible show wp _ _ _ _ _ _ _ _ _ _ _ _ _ _); conv => whnf)
      | ((with_reducible show callK _ _ _ _ _ _ _ _ _); conv => whnf)
      | ((with_reducible show condK _ _ _ _ _); conv => whnf)
      | refine Exists.intro _ (And.intro rfl ?_)
      | ((with_reducible show st1 _ _ _ _ _ _ _ _ _ _ _ _); conv => whnf)
      | ((with_reducible show (Prod.fst _ : Spec) _ _ _); conv => whnf)
      | ((with_reducible show shortK _ _); conv => whnf)
      | exact Nat.le_of_ble_eq_true rfl)

def R_law : String := "ThreadneedleLaw"
def lw_P (b : Addr) (xs : List Int32) (args : Array Value) (s : State) : Prop := args = #[.ref b] ∧ s.IntsAt b xs ∧ xs.length ≤ 260 ∧ (Jvm.Cond.and given_1 narrow_1).before args s = true
def lw_Q (_ : Array Value) (s : State) (o : Outcome) (t : State) : Prop := o = .returned (some (.int 1)) ∧ Framed s o t [] 600074 7301550
def lw_Z (below : List Frame) (a : Array Value) (s : State) : State → Prop := fun t => ∃ o, t.status = .running ∧ Ended t below o ∧ lw_Q a s o t
/-- the law's own end, with 1 on the stack, nothing written that was there before, its room as the claim has it -/
theorem lw_ret {p : Program} {l : Launch} {e : Env} {s : State} {m : MethodId} {below : List Frame} {meth : Method} {c : Code} {b : Nat} (hx : p.tables.exec = Jvm.exec) (hb : c.code = code) (hr : meth.sig.returnType = ret) (hlocks : meth.locks = false) {pc : Nat} {H : Heap} {ls : Array Slot} (hdg : decode code pc = .ok (.ireturn, 1)) : W p l e room_1 s m #[Value.ref b] below meth c H [] 600074 7301550 (lw_Z below #[Value.ref b] s) (F0 m pc ls [.int 1]) := by
  intro T hT X
  obtain ⟨fs, hret, hrun, hended, hW, hframe⟩ := X.leave (v := some (.int 1)) (hlocks := hlocks) (fun h => by rw [hr] at h; cases h)
  have hmeth' : T.vm.method? m = some meth := X.method'
  refine ⟨T.setFrames fs, ?_, .returned (some (.int 1)), hrun, hended, rfl, ⟨_, rfl⟩, hW, hframe⟩
  jvm_step X.here [X.here.top, hx, hb, hdg, hmeth', hr, ret, narrow_b1]
  (try refine ⟨rfl, ?_⟩); (try refine ⟨rfl, ?_⟩)
  first | (intro acts; rw [hret _ acts rfl rfl rfl]) | rw [hret _ _ rfl rfl rfl]
  exact Steps.refl _
/-- what holds at the law's entry: the machine, the code, the tables' words (any of lw_tbl by 'hts w (by decide +kernel)'), the script of L ints xs at the cell b, what the Statement gives of the start (any of its parts by flat_of_before) -/
def lw_At (p : Program) (s : State) (m : MethodId) (meth : Method) (c : Code) (b L : Nat) (xs : Nat → Int32) : Prop :=
  p.tables.exec = Jvm.exec ∧ c.code = code ∧ meth.sig.returnType = ret ∧ c.maxLocals = 6 ∧ s.vm.findClass R_law = some m.cls ∧ (∀ w ∈ lw_tbl, w.before #[Value.ref b] s = true) ∧ va_X b L xs s s.heap ∧ b < s.heap.size ∧ meth.locks = false ∧ (Jvm.Cond.and given_1 narrow_1).before #[Value.ref b] s = true
theorem law_G {p : Program} {l : Launch} {e : Env} {s : State} {m : MethodId} {below : List Frame} {meth : Method} {c : Code} {b : Nat} {D : DD} {ad0 : Nat → Nat} {S0 : Sto} {cut : CutF} (C : CX p l s m meth c D ad0 S0 6 code RL false) (hr : meth.sig.returnType = ret) (hlocks : meth.locks = false) (hfoot : ∀ q, foot ad0 S0 s.heap.size q → s.heap.size ≤ q)
    (hVC : ∀ pc I, cut pc = some I → ∀ n L st S c, I n L st S c → ∃ f, st1 spLW (600074, 7301550) krL (fun _ _ _ => False) (fun _ _ _ _ _ => False) (wp eLW_law spLW (600074, 7301550) krL (fun _ _ _ => False) (fun _ _ _ _ _ => False) cut n f) pc (eLW_law pc) L st S c) :
    ∀ n f pc L st S cs, wp eLW_law spLW (600074, 7301550) krL (fun _ _ _ => False) (fun _ _ _ _ _ => False) cut n f pc L st S cs → G p l e room_1 s m #[Value.ref b] below meth c (lw_Z below #[Value.ref b] s) D ad0 S0 6 pc L st S cs := by
  refine wp_sound (fun pc L st S cs k hk hst => ?_) hVC
  refine st1_sound C rfl satLW ⟨by show 1 ≤ 2048; omega, by show 20 ≤ 84000; omega⟩ (okLW_law pc) hk (fun _ _ _ _ q => q.elim) (fun _ _ _ _ _ _ _ _ _ _ q => q.elim) (fun v L' st' S' c' hd hkr => ?_) hst
  obtain ⟨hv, k1, k2⟩ := hkr
  intro ad H locs ls hL hC hcl hR hE hS
  rcases hd with ⟨e1, -⟩ | ⟨z, ty, e1, e2, e3, -⟩ | ⟨z, ty, e1, -⟩
  · rw [hv] at e1; cases e1
  · rw [hv] at e1
    cases e1
    subst e2
    refine va_forget (fun q hq => hfoot _ (hS.2.2 q hq)) ?_
    refine W.widen (k := 600074) (n := 7301550) k1 k2 ?_
    exact lw_ret C.1 C.2.1 hr hlocks e3
  · rw [hv] at e1; cases e1
/-- the law, from its entry, for every script -/
theorem whole_start {p : Program} {e : Env} {s : State} {m : MethodId} {below : List Frame} {meth : Method} {c : Code} (l : Launch) (hflags : l.flags = flags0) {b L : Nat} {xs : Nat → Int32} (hL : L ≤ 260) (C0 : lw_At p s m meth c b L xs) : W p l e room_1 s m #[Value.ref b] below meth c s.heap [] 0 0 (lw_Z below #[Value.ref b] s) (entryFrame m ([Value.ref b] : List Value).toArray 6) := by
  obtain ⟨hx, hb, hr, hml, hown, hts, hX, hbl, hlocks, hgv⟩ := id C0
  obtain ⟨scr, x1, x2, x3, x4, x5⟩ := hX
  obtain ⟨D, hKC, hD2⟩ := KC.of hts
  obtain ⟨S0, hS0⟩ : ∃ S0 : Sto, S0 = (fun t => if t = 10 then some (102, L) else none, fun _ j => (xs j).toInt, fun _ _ => none) := ⟨_, rfl⟩
  have q1 : ∀ t, S0.1 t = if t = 10 then some (102, L) else none := fun t => by rw [hS0]
  have q2 : ∀ t j, S0.2.1 t j = (xs j).toInt := fun t j => by rw [hS0]
  have q3 : ∀ t j, S0.2.2 t j = none := fun t j => by rw [hS0]
  have qn : ∀ t, t ≠ 10 → S0.1 t = none := fun t ht => by rw [q1, if_neg ht]
  have qs : ∀ t x, S0.1 t = some x → t = 10 ∧ x = (102, L) := fun t x e => by
    by_cases z : t = 10
    · rw [q1, if_pos z] at e; exact ⟨z, (Option.some.inj e).symm⟩
    · rw [qn t z] at e; cases e
  have hRep : Rep D (fun _ => b) S0 s.heap := by
    refine ⟨fun t x e => ?_, fun t t' x x' e e' _ => (qs t x e).1.trans (qs t' x' e').1.symm, fun t x j t' _ e => by rw [q3] at e; cases e⟩
    obtain ⟨rfl, rfl⟩ := qs t x e
    refine ⟨by simp [okTy, isA]; omega, ?_⟩
    unfold RepAt
    rw [if_neg (show ¬ (102, L).1 < 8 by show ¬ 102 < 8; omega), if_pos rfl]
    refine ⟨scr, x1, by rw [hD2]; exact x2, x3, x4, fun j hj => ?_⟩
    rw [x5 j hj, q2, Int32.ofInt_toInt]
  have hfoot : ∀ q, foot (fun _ => b) S0 s.heap.size q → s.heap.size ≤ q := by
    rintro q (⟨t, x, e, hne, rfl⟩ | hq)
    · obtain ⟨-, rfl⟩ := qs t x e
      exact absurd rfl hne
    · exact hq
  have htr : l.stackTraces = false := by
    have := hflags
    simp [Launch.stackTraces, hflags, flags0]
  have C : CX p l s m meth c D (fun _ => b) S0 6 code RL false := ⟨hx, hb, hml, hown, ⟨VKw.of hts, hKC, KS.of hts, KT.of hts hgv (fun q hq hf => by have := hfoot q hf; omega)⟩, (fun h => by cases h), htr⟩
  have key := law_G (e := e) (below := below) (b := b) (cut := cutL (cutT (fun j => (xs j).toInt) L)) C hr hlocks hfoot (fun pc I hI n L st S c hi => ⟨200, law_vc hL (pc, I) (cutL_e hI) n L st S c hi⟩)
  have hwp := law_begin (xs := fun j => (xs j).toInt) (Ln := L) (S0 := S0) ⟨by rw [q1, if_pos rfl], fun j => q2 10 j⟩ qn
  rw [lg_entry_eq]
  exact key 2001 200 0 _ _ _ _ hwp (fun _ => b) s.heap [] _ (ent_loc (as := [vT 10]) rfl) (ent_cls (fun a ha t e => by rw [List.mem_singleton.mp ha] at e; cases e; rw [q1, if_pos rfl]; exact fun z => by cases z)) (fun a ha => by cases ha) hRep Ext.rf va_S.rf

