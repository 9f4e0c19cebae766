theorem cd_0 : pj_cd 0 "WaverTax$Desk" qT0 4 qY0 := ⟨rfl, by decide, ql0, qn0, qy0, by decide +kernel⟩
theorem cn_0 {G : Cx} (j : Nat) (hj : j < 4) : defaultValue (qY0 j) = pj_f G (pj_new 0) j := by
  rcases (show j = 0 ∨ j = 1 ∨ j = 2 ∨ j = 3 by omega) with rfl | rfl | rfl | rfl <;> rfl
theorem cd_1 : pj_cd 1 "WaverTax$Law" qT1 13 qY1 := ⟨rfl, by decide, ql1, qn1, qy1, by decide +kernel⟩
theorem cn_1 {G : Cx} (j : Nat) (hj : j < 13) : defaultValue (qY1 j) = pj_f G (pj_new 1) j := by
  rcases (show j = 0 ∨ j = 1 ∨ j = 2 ∨ j = 3 ∨ j = 4 ∨ j = 5 ∨ j = 6 ∨ j = 7 ∨ j = 8 ∨ j = 9 ∨ j = 10 ∨ j = 11 ∨ j = 12 by omega) with rfl | rfl | rfl | rfl | rfl | rfl | rfl | rfl | rfl | rfl | rfl | rfl | rfl <;> rfl
theorem cd_2 : pj_cd 2 "WaverTax$Now" qT2 7 qY2 := ⟨rfl, by decide, ql2, qn2, qy2, by decide +kernel⟩
theorem cn_2 {G : Cx} (j : Nat) (hj : j < 7) : defaultValue (qY2 j) = pj_f G (pj_new 2) j := by
  rcases (show j = 0 ∨ j = 1 ∨ j = 2 ∨ j = 3 ∨ j = 4 ∨ j = 5 ∨ j = 6 by omega) with rfl | rfl | rfl | rfl | rfl | rfl | rfl <;> rfl
theorem cd_3 : pj_cd 3 "WaverTax$Past" qT3 4 qY3 := ⟨rfl, by decide, ql3, qn3, qy3, by decide +kernel⟩
theorem cn_3 {G : Cx} (j : Nat) (hj : j < 4) : defaultValue (qY3 j) = pj_f G (pj_new 3) j := by
  rcases (show j = 0 ∨ j = 1 ∨ j = 2 ∨ j = 3 by omega) with rfl | rfl | rfl | rfl <;> rfl
theorem cd_4 : pj_cd 4 "WaverTax$Planner" qT4 4 qY4 := ⟨rfl, by decide, ql4, qn4, qy4, by decide +kernel⟩
theorem cn_4 {G : Cx} (j : Nat) (hj : j < 4) : defaultValue (qY4 j) = pj_f G (pj_new 4) j := by
  rcases (show j = 0 ∨ j = 1 ∨ j = 2 ∨ j = 3 by omega) with rfl | rfl | rfl | rfl <;> rfl
theorem cd_5 : pj_cd 5 "WaverTax$Reader" qT5 14 qY5 := ⟨rfl, by decide, ql5, qn5, qy5, by decide +kernel⟩
theorem cn_5 {G : Cx} (j : Nat) (hj : j < 14) : defaultValue (qY5 j) = pj_f G (pj_new 5) j := by
  rcases (show j = 0 ∨ j = 1 ∨ j = 2 ∨ j = 3 ∨ j = 4 ∨ j = 5 ∨ j = 6 ∨ j = 7 ∨ j = 8 ∨ j = 9 ∨ j = 10 ∨ j = 11 ∨ j = 12 ∨ j = 13 by omega) with rfl | rfl | rfl | rfl | rfl | rfl | rfl | rfl | rfl | rfl | rfl | rfl | rfl | rfl <;> rfl
theorem cd_6 : pj_cd 6 "WaverTax$Reasons" qT6 6 qY6 := ⟨rfl, by decide, ql6, qn6, qy6, by decide +kernel⟩
theorem cn_6 {G : Cx} (j : Nat) (hj : j < 6) : defaultValue (qY6 j) = pj_f G (pj_new 6) j := by
  rcases (show j = 0 ∨ j = 1 ∨ j = 2 ∨ j = 3 ∨ j = 4 ∨ j = 5 by omega) with rfl | rfl | rfl | rfl | rfl | rfl <;> rfl
theorem cd_7 : pj_cd 7 "WaverTax$Receipts" qT7 4 qY7 := ⟨rfl, by decide, ql7, qn7, qy7, by decide +kernel⟩
theorem cn_7 {G : Cx} (j : Nat) (hj : j < 4) : defaultValue (qY7 j) = pj_f G (pj_new 7) j := by
  rcases (show j = 0 ∨ j = 1 ∨ j = 2 ∨ j = 3 by omega) with rfl | rfl | rfl | rfl <;> rfl
theorem cd_8 : pj_cd 8 "WaverTax$Rows" qT8 9 qY8 := ⟨rfl, by decide, ql8, qn8, qy8, by decide +kernel⟩
theorem cn_8 {G : Cx} (j : Nat) (hj : j < 9) : defaultValue (qY8 j) = pj_f G (pj_new 8) j := by
  rcases (show j = 0 ∨ j = 1 ∨ j = 2 ∨ j = 3 ∨ j = 4 ∨ j = 5 ∨ j = 6 ∨ j = 7 ∨ j = 8 by omega) with rfl | rfl | rfl | rfl | rfl | rfl | rfl | rfl | rfl <;> rfl
theorem cd_9 : pj_cd 9 "WaverTax$Shops" qT9 4 qY9 := ⟨rfl, by decide, ql9, qn9, qy9, by decide +kernel⟩
theorem cn_9 {G : Cx} (j : Nat) (hj : j < 4) : defaultValue (qY9 j) = pj_f G (pj_new 9) j := by
  rcases (show j = 0 ∨ j = 1 ∨ j = 2 ∨ j = 3 by omega) with rfl | rfl | rfl | rfl <;> rfl
theorem cd_10 : pj_cd 10 "WaverTax" qT10 15 qY10 := ⟨rfl, by decide, ql10, qn10, qy10, by decide +kernel⟩
theorem cn_10 {G : Cx} (j : Nat) (hj : j < 15) : defaultValue (qY10 j) = pj_f G (pj_new 10) j := by
  rcases (show j = 0 ∨ j = 1 ∨ j = 2 ∨ j = 3 ∨ j = 4 ∨ j = 5 ∨ j = 6 ∨ j = 7 ∨ j = 8 ∨ j = 9 ∨ j = 10 ∨ j = 11 ∨ j = 12 ∨ j = 13 ∨ j = 14 by omega) with rfl | rfl | rfl | rfl | rfl | rfl | rfl | rfl | rfl | rfl | rfl | rfl | rfl | rfl | rfl <;> rfl
theorem cd_11 : pj_cd 11 "WaverTaxModel$Law" qT11 27 qY11 := ⟨rfl, by decide, ql11, qn11, qy11, by decide +kernel⟩
theorem cn_11 {G : Cx} (j : Nat) (hj : j < 27) : defaultValue (qY11 j) = pj_f G (pj_new 11) j := by
  rcases (show j = 0 ∨ j = 1 ∨ j = 2 ∨ j = 3 ∨ j = 4 ∨ j = 5 ∨ j = 6 ∨ j = 7 ∨ j = 8 ∨ j = 9 ∨ j = 10 ∨ j = 11 ∨ j = 12 ∨ j = 13 ∨ j = 14 ∨ j = 15 ∨ j = 16 ∨ j = 17 ∨ j = 18 ∨ j = 19 ∨ j = 20 ∨ j = 21 ∨ j = 22 ∨ j = 23 ∨ j = 24 ∨ j = 25 ∨ j = 26 by omega) with rfl | rfl | rfl | rfl | rfl | rfl | rfl | rfl | rfl | rfl | rfl | rfl | rfl | rfl | rfl | rfl | rfl | rfl | rfl | rfl | rfl | rfl | rfl | rfl | rfl | rfl | rfl <;> rfl
theorem cd_12 : pj_cd 12 "WaverTaxModel" qT12 32 qY12 := ⟨rfl, by decide, ql12, qn12, qy12, by decide +kernel⟩
theorem cn_12 {G : Cx} (j : Nat) (hj : j < 32) : defaultValue (qY12 j) = pj_f G (pj_new 12) j := by
  rcases (show j = 0 ∨ j = 1 ∨ j = 2 ∨ j = 3 ∨ j = 4 ∨ j = 5 ∨ j = 6 ∨ j = 7 ∨ j = 8 ∨ j = 9 ∨ j = 10 ∨ j = 11 ∨ j = 12 ∨ j = 13 ∨ j = 14 ∨ j = 15 ∨ j = 16 ∨ j = 17 ∨ j = 18 ∨ j = 19 ∨ j = 20 ∨ j = 21 ∨ j = 22 ∨ j = 23 ∨ j = 24 ∨ j = 25 ∨ j = 26 ∨ j = 27 ∨ j = 28 ∨ j = 29 ∨ j = 30 ∨ j = 31 by omega) with rfl | rfl | rfl | rfl | rfl | rfl | rfl | rfl | rfl | rfl | rfl | rfl | rfl | rfl | rfl | rfl | rfl | rfl | rfl | rfl | rfl | rfl | rfl | rfl | rfl | rfl | rfl | rfl | rfl | rfl | rfl | rfl <;> rfl
-- sites and methods: meth
abbrev Y_Reasons_init : MI := (⟨"WaverTax$Reasons", "<init>", "()V"⟩, prog_8_method_1_code, 1, (none : Option FieldType))
abbrev Y_Receipts_init : MI := (⟨"WaverTax$Receipts", "<init>", "()V"⟩, prog_9_method_1_code, 1, (none : Option FieldType))
abbrev Y_Shops_init : MI := (⟨"WaverTax$Shops", "<init>", "()V"⟩, prog_11_method_1_code, 1, (none : Option FieldType))
abbrev Y_Law_init : MI := (⟨"WaverTax$Law", "<init>", "()V"⟩, prog_3_method_1_code, 1, (none : Option FieldType))
abbrev Y_Reader_init : MI := (⟨"WaverTax$Reader", "<init>", "([BLWaverTax$Law;)V"⟩, prog_7_method_1_code, 3, (none : Option FieldType))
abbrev Y_Now_init : MI := (⟨"WaverTax$Now", "<init>", "()V"⟩, prog_4_method_1_code, 1, (none : Option FieldType))
abbrev Y_Desk_init : MI := (⟨"WaverTax$Desk", "<init>", "(LWaverTax$Law;LWaverTax$Now;)V"⟩, prog_2_method_1_code, 3, (none : Option FieldType))
abbrev Y_Planner_init : MI := (⟨"WaverTax$Planner", "<init>", "(LWaverTax$Law;LWaverTax$Desk;LWaverTax$Now;)V"⟩, prog_6_method_1_code, 4, (none : Option FieldType))
abbrev Y_Rows_init : MI := (⟨"WaverTax$Rows", "<init>", "(LWaverTax$Law;LWaverTax$Desk;LWaverTax$Now;)V"⟩, prog_10_method_1_code, 4, (none : Option FieldType))
abbrev Y_Past_init : MI := (⟨"WaverTax$Past", "<init>", "()V"⟩, prog_5_method_1_code, 2, (none : Option FieldType))
abbrev Y_T_init : MI := (⟨"WaverTax", "<init>", "()V"⟩, prog_1_method_1_code, 1, (none : Option FieldType))
abbrev Y_T_tapeFour : MI := (⟨"WaverTax", "tapeFour", "(I)V"⟩, prog_1_method_3_code, 3, (none : Option FieldType))
abbrev Y_T_feed : MI := (⟨"WaverTax", "feed", "(IIIII)I"⟩, prog_1_method_2_code, 6, (some .int))
abbrev Y_T_refuse : MI := (⟨"WaverTax", "refuse", "(I)I"⟩, prog_1_method_73_code, 2, (some .int))
abbrev Y_Arrays_fill : MI := (⟨"java/util/Arrays", "fill", "([II)V"⟩, prog_29_method_103_code, 4, (none : Option FieldType))
theorem cm_Reasons_init : (Cond.code Y_Reasons_init.1 Y_Reasons_init.2.1 Y_Reasons_init.2.2.1 Y_Reasons_init.2.2.2 ∈ pj_ws) ∧ (Cond.initialized Y_Reasons_init.1.cls ∈ pj_ws) ∧ (Y_Reasons_init.1.cls ≠ "java/lang/invoke/MethodHandle" ∧ Y_Reasons_init.1.cls ≠ "java/lang/invoke/VarHandle" ∧ (parseMethodDescriptor Y_Reasons_init.1.desc).map (fun d => d.parameters.length) = some 0) ∧ (Cond.instanceMethod Y_Reasons_init.1 ∈ pj_ws) ∧ True := ⟨pj_mem 175 (by decide +kernel) rfl, pj_mem 132 (by decide +kernel) rfl, ⟨by decide +kernel, by decide +kernel, by decide +kernel⟩, pj_mem 174 (by decide +kernel) rfl, trivial⟩
theorem cm_Receipts_init : (Cond.code Y_Receipts_init.1 Y_Receipts_init.2.1 Y_Receipts_init.2.2.1 Y_Receipts_init.2.2.2 ∈ pj_ws) ∧ (Cond.initialized Y_Receipts_init.1.cls ∈ pj_ws) ∧ (Y_Receipts_init.1.cls ≠ "java/lang/invoke/MethodHandle" ∧ Y_Receipts_init.1.cls ≠ "java/lang/invoke/VarHandle" ∧ (parseMethodDescriptor Y_Receipts_init.1.desc).map (fun d => d.parameters.length) = some 0) ∧ (Cond.instanceMethod Y_Receipts_init.1 ∈ pj_ws) ∧ True := ⟨pj_mem 223 (by decide +kernel) rfl, pj_mem 133 (by decide +kernel) rfl, ⟨by decide +kernel, by decide +kernel, by decide +kernel⟩, pj_mem 222 (by decide +kernel) rfl, trivial⟩
theorem cm_Shops_init : (Cond.code Y_Shops_init.1 Y_Shops_init.2.1 Y_Shops_init.2.2.1 Y_Shops_init.2.2.2 ∈ pj_ws) ∧ (Cond.initialized Y_Shops_init.1.cls ∈ pj_ws) ∧ (Y_Shops_init.1.cls ≠ "java/lang/invoke/MethodHandle" ∧ Y_Shops_init.1.cls ≠ "java/lang/invoke/VarHandle" ∧ (parseMethodDescriptor Y_Shops_init.1.desc).map (fun d => d.parameters.length) = some 0) ∧ (Cond.instanceMethod Y_Shops_init.1 ∈ pj_ws) ∧ True := ⟨pj_mem 253 (by decide +kernel) rfl, pj_mem 134 (by decide +kernel) rfl, ⟨by decide +kernel, by decide +kernel, by decide +kernel⟩, pj_mem 252 (by decide +kernel) rfl, trivial⟩
theorem cm_Now_init : (Cond.code Y_Now_init.1 Y_Now_init.2.1 Y_Now_init.2.2.1 Y_Now_init.2.2.2 ∈ pj_ws) ∧ (Cond.initialized Y_Now_init.1.cls ∈ pj_ws) ∧ (Y_Now_init.1.cls ≠ "java/lang/invoke/MethodHandle" ∧ Y_Now_init.1.cls ≠ "java/lang/invoke/VarHandle" ∧ (parseMethodDescriptor Y_Now_init.1.desc).map (fun d => d.parameters.length) = some 0) ∧ (Cond.instanceMethod Y_Now_init.1 ∈ pj_ws) ∧ True := ⟨pj_mem 405 (by decide +kernel) rfl, pj_mem 136 (by decide +kernel) rfl, ⟨by decide +kernel, by decide +kernel, by decide +kernel⟩, pj_mem 404 (by decide +kernel) rfl, trivial⟩
theorem cm_Law_init : (Cond.code Y_Law_init.1 Y_Law_init.2.1 Y_Law_init.2.2.1 Y_Law_init.2.2.2 ∈ pj_ws) ∧ (Cond.initialized Y_Law_init.1.cls ∈ pj_ws) ∧ (Y_Law_init.1.cls ≠ "java/lang/invoke/MethodHandle" ∧ Y_Law_init.1.cls ≠ "java/lang/invoke/VarHandle" ∧ (parseMethodDescriptor Y_Law_init.1.desc).map (fun d => d.parameters.length) = some 0) ∧ (Cond.instanceMethod Y_Law_init.1 ∈ pj_ws) ∧ True := ⟨pj_mem 167 (by decide +kernel) rfl, pj_mem 131 (by decide +kernel) rfl, ⟨by decide +kernel, by decide +kernel, by decide +kernel⟩, pj_mem 166 (by decide +kernel) rfl, trivial⟩
theorem cm_Reader_init : (Cond.code Y_Reader_init.1 Y_Reader_init.2.1 Y_Reader_init.2.2.1 Y_Reader_init.2.2.2 ∈ pj_ws) ∧ (Cond.initialized Y_Reader_init.1.cls ∈ pj_ws) ∧ (Y_Reader_init.1.cls ≠ "java/lang/invoke/MethodHandle" ∧ Y_Reader_init.1.cls ≠ "java/lang/invoke/VarHandle" ∧ (parseMethodDescriptor Y_Reader_init.1.desc).map (fun d => d.parameters.length) = some 2) ∧ (Cond.instanceMethod Y_Reader_init.1 ∈ pj_ws) ∧ True := ⟨pj_mem 355 (by decide +kernel) rfl, pj_mem 135 (by decide +kernel) rfl, ⟨by decide +kernel, by decide +kernel, by decide +kernel⟩, pj_mem 354 (by decide +kernel) rfl, trivial⟩
theorem cm_Desk_init : (Cond.code Y_Desk_init.1 Y_Desk_init.2.1 Y_Desk_init.2.2.1 Y_Desk_init.2.2.2 ∈ pj_ws) ∧ (Cond.initialized Y_Desk_init.1.cls ∈ pj_ws) ∧ (Y_Desk_init.1.cls ≠ "java/lang/invoke/MethodHandle" ∧ Y_Desk_init.1.cls ≠ "java/lang/invoke/VarHandle" ∧ (parseMethodDescriptor Y_Desk_init.1.desc).map (fun d => d.parameters.length) = some 2) ∧ (Cond.instanceMethod Y_Desk_init.1 ∈ pj_ws) ∧ True := ⟨pj_mem 452 (by decide +kernel) rfl, pj_mem 137 (by decide +kernel) rfl, ⟨by decide +kernel, by decide +kernel, by decide +kernel⟩, pj_mem 451 (by decide +kernel) rfl, trivial⟩
theorem cm_Planner_init : (Cond.code Y_Planner_init.1 Y_Planner_init.2.1 Y_Planner_init.2.2.1 Y_Planner_init.2.2.2 ∈ pj_ws) ∧ (Cond.initialized Y_Planner_init.1.cls ∈ pj_ws) ∧ (Y_Planner_init.1.cls ≠ "java/lang/invoke/MethodHandle" ∧ Y_Planner_init.1.cls ≠ "java/lang/invoke/VarHandle" ∧ (parseMethodDescriptor Y_Planner_init.1.desc).map (fun d => d.parameters.length) = some 3) ∧ (Cond.instanceMethod Y_Planner_init.1 ∈ pj_ws) ∧ True := ⟨pj_mem 473 (by decide +kernel) rfl, pj_mem 138 (by decide +kernel) rfl, ⟨by decide +kernel, by decide +kernel, by decide +kernel⟩, pj_mem 472 (by decide +kernel) rfl, trivial⟩
theorem cm_Rows_init : (Cond.code Y_Rows_init.1 Y_Rows_init.2.1 Y_Rows_init.2.2.1 Y_Rows_init.2.2.2 ∈ pj_ws) ∧ (Cond.initialized Y_Rows_init.1.cls ∈ pj_ws) ∧ (Y_Rows_init.1.cls ≠ "java/lang/invoke/MethodHandle" ∧ Y_Rows_init.1.cls ≠ "java/lang/invoke/VarHandle" ∧ (parseMethodDescriptor Y_Rows_init.1.desc).map (fun d => d.parameters.length) = some 3) ∧ (Cond.instanceMethod Y_Rows_init.1 ∈ pj_ws) ∧ True := ⟨pj_mem 492 (by decide +kernel) rfl, pj_mem 139 (by decide +kernel) rfl, ⟨by decide +kernel, by decide +kernel, by decide +kernel⟩, pj_mem 491 (by decide +kernel) rfl, trivial⟩
theorem cm_Past_init : (Cond.code Y_Past_init.1 Y_Past_init.2.1 Y_Past_init.2.2.1 Y_Past_init.2.2.2 ∈ pj_ws) ∧ (Cond.initialized Y_Past_init.1.cls ∈ pj_ws) ∧ (Y_Past_init.1.cls ≠ "java/lang/invoke/MethodHandle" ∧ Y_Past_init.1.cls ≠ "java/lang/invoke/VarHandle" ∧ (parseMethodDescriptor Y_Past_init.1.desc).map (fun d => d.parameters.length) = some 0) ∧ (Cond.instanceMethod Y_Past_init.1 ∈ pj_ws) ∧ True := ⟨pj_mem 530 (by decide +kernel) rfl, pj_mem 140 (by decide +kernel) rfl, ⟨by decide +kernel, by decide +kernel, by decide +kernel⟩, pj_mem 529 (by decide +kernel) rfl, trivial⟩
theorem cm_T_tapeFour : (Cond.code Y_T_tapeFour.1 Y_T_tapeFour.2.1 Y_T_tapeFour.2.2.1 Y_T_tapeFour.2.2.2 ∈ pj_ws) ∧ (Cond.initialized Y_T_tapeFour.1.cls ∈ pj_ws) ∧ (Y_T_tapeFour.1.cls ≠ "java/lang/invoke/MethodHandle" ∧ Y_T_tapeFour.1.cls ≠ "java/lang/invoke/VarHandle" ∧ (parseMethodDescriptor Y_T_tapeFour.1.desc).map (fun d => d.parameters.length) = some 1) ∧ (Cond.instanceMethod Y_T_tapeFour.1 ∈ pj_ws) ∧ (Cond.selects Y_T_tapeFour.1.cls Y_T_tapeFour.1 Y_T_tapeFour.1 ∈ pj_ws) := ⟨pj_mem 603 (by decide +kernel) rfl, pj_mem 130 (by decide +kernel) rfl, ⟨by decide +kernel, by decide +kernel, by decide +kernel⟩, pj_mem 602 (by decide +kernel) rfl, pj_mem 0 (by decide +kernel) rfl⟩
theorem cs_Law_47 : pj_cI "WaverTax$Law" 47 Y_Reasons_init 0 := ⟨⟨cm_Reasons_init.1, cm_Reasons_init.2.1, cm_Reasons_init.2.2.1, Or.inr ⟨_, List.mem_of_getElem? (i := 1) rfl⟩⟩, rfl, rfl, cm_Reasons_init.2.2.2.1⟩
theorem cs_Law_54 : pj_cI "WaverTax$Law" 54 Y_Receipts_init 0 := ⟨⟨cm_Receipts_init.1, cm_Receipts_init.2.1, cm_Receipts_init.2.2.1, Or.inr ⟨_, List.mem_of_getElem? (i := 2) rfl⟩⟩, rfl, rfl, cm_Receipts_init.2.2.2.1⟩
theorem cs_Law_61 : pj_cI "WaverTax$Law" 61 Y_Shops_init 0 := ⟨⟨cm_Shops_init.1, cm_Shops_init.2.1, cm_Shops_init.2.2.1, Or.inr ⟨_, List.mem_of_getElem? (i := 3) rfl⟩⟩, rfl, rfl, cm_Shops_init.2.2.2.1⟩
theorem cs_Past_27 : pj_cI "WaverTax$Past" 27 Y_Now_init 0 := ⟨⟨cm_Now_init.1, cm_Now_init.2.1, cm_Now_init.2.2.1, Or.inr ⟨_, List.mem_of_getElem? (i := 5) rfl⟩⟩, rfl, rfl, cm_Now_init.2.2.2.1⟩
theorem cs_T_19 : pj_cI "WaverTax" 19 Y_Law_init 0 := ⟨⟨cm_Law_init.1, cm_Law_init.2.1, cm_Law_init.2.2.1, Or.inr ⟨_, List.mem_of_getElem? (i := 0) rfl⟩⟩, rfl, rfl, cm_Law_init.2.2.2.1⟩
theorem cs_T_29 : pj_cI "WaverTax" 29 Y_Reader_init 2 := ⟨⟨cm_Reader_init.1, cm_Reader_init.2.1, cm_Reader_init.2.2.1, Or.inl (pj_mem 353 (by decide +kernel) rfl)⟩, rfl, rfl, cm_Reader_init.2.2.2.1⟩
theorem cs_T_42 : pj_cI "WaverTax" 42 Y_Now_init 0 := ⟨⟨cm_Now_init.1, cm_Now_init.2.1, cm_Now_init.2.2.1, Or.inr ⟨_, List.mem_of_getElem? (i := 4) rfl⟩⟩, rfl, rfl, cm_Now_init.2.2.2.1⟩
theorem cs_T_52 : pj_cI "WaverTax" 52 Y_Desk_init 2 := ⟨⟨cm_Desk_init.1, cm_Desk_init.2.1, cm_Desk_init.2.2.1, Or.inl (pj_mem 450 (by decide +kernel) rfl)⟩, rfl, rfl, cm_Desk_init.2.2.2.1⟩
theorem cs_T_61 : pj_cI "WaverTax" 61 Y_Planner_init 3 := ⟨⟨cm_Planner_init.1, cm_Planner_init.2.1, cm_Planner_init.2.2.1, Or.inl (pj_mem 471 (by decide +kernel) rfl)⟩, rfl, rfl, cm_Planner_init.2.2.2.1⟩
theorem cs_T_70 : pj_cI "WaverTax" 70 Y_Rows_init 3 := ⟨⟨cm_Rows_init.1, cm_Rows_init.2.1, cm_Rows_init.2.2.1, Or.inl (pj_mem 490 (by decide +kernel) rfl)⟩, rfl, rfl, cm_Rows_init.2.2.2.1⟩
theorem cs_T_77 : pj_cI "WaverTax" 77 Y_Past_init 0 := ⟨⟨cm_Past_init.1, cm_Past_init.2.1, cm_Past_init.2.2.1, Or.inl (pj_mem 528 (by decide +kernel) rfl)⟩, rfl, rfl, cm_Past_init.2.2.2.1⟩
theorem cs_T_91 : pj_cV "WaverTax" 91 Y_T_tapeFour 1 10 := ⟨⟨cm_T_tapeFour.1, cm_T_tapeFour.2.1, cm_T_tapeFour.2.2.1, Or.inl (pj_mem 600 (by decide +kernel) rfl)⟩, by decide, cm_T_tapeFour.2.2.2.1, cm_T_tapeFour.2.2.2.2, ⟨_, rfl, rfl⟩⟩
theorem fs_Past_11 : pj_fs "WaverTax$Past" 3 0 11 (.array (.object "WaverTax$Now")) := ⟨_, _, _, _, cd_3, by decide, rfl, Or.inl (pj_mem 535 (by decide +kernel) rfl)⟩
theorem fs_Past_17 : pj_fs "WaverTax$Past" 3 1 17 (.array (.object "WaverTax$Now")) := ⟨_, _, _, _, cd_3, by decide, rfl, Or.inl (pj_mem 536 (by decide +kernel) rfl)⟩
theorem fs_T_13 : pj_fs "WaverTax" 10 1 13 (.int) := ⟨_, _, _, _, cd_10, by decide, rfl, Or.inl (pj_mem 551 (by decide +kernel) rfl)⟩
theorem fs_T_20 : pj_fs "WaverTax" 10 2 20 (.object "WaverTax$Law") := ⟨_, _, _, _, cd_10, by decide, rfl, Or.inl (pj_mem 552 (by decide +kernel) rfl)⟩
theorem fs_T_24 : pj_fs "WaverTax" 10 3 24 (.object "WaverTax$Law") := ⟨_, _, _, _, cd_10, by decide, rfl, Or.inl (pj_mem 553 (by decide +kernel) rfl)⟩
theorem fs_T_43 : pj_fs "WaverTax" 10 6 43 (.object "WaverTax$Now") := ⟨_, _, _, _, cd_10, by decide, rfl, Or.inl (pj_mem 556 (by decide +kernel) rfl)⟩
theorem fs_T_47 : pj_fs "WaverTax" 10 7 47 (.object "WaverTax$Now") := ⟨_, _, _, _, cd_10, by decide, rfl, Or.inl (pj_mem 557 (by decide +kernel) rfl)⟩
theorem fs_T_55 : pj_fs "WaverTax" 10 8 55 (.object "WaverTax$Desk") := ⟨_, _, _, _, cd_10, by decide, rfl, Or.inl (pj_mem 558 (by decide +kernel) rfl)⟩
theorem fs_T_9 : pj_fs "WaverTax" 10 0 9 (.array (.byte)) := ⟨_, _, _, _, cd_10, by decide, rfl, Or.inl (pj_mem 550 (by decide +kernel) rfl)⟩
theorem ps_Desk_15 {mn : String} : pj_ps "WaverTax$Desk" mn 0 3 15 (.int) := ⟨_, _, _, _, cd_0, by decide, rfl, Or.inl ⟨rfl, Or.inl (pj_mem 458 (by decide +kernel) rfl)⟩⟩
theorem ps_Desk_18 {mn : String} : pj_ps "WaverTax$Desk" mn 0 0 18 (.object "WaverTax$Law") := ⟨_, _, _, _, cd_0, by decide, rfl, Or.inl ⟨rfl, Or.inl (pj_mem 454 (by decide +kernel) rfl)⟩⟩
theorem ps_Desk_22 {mn : String} : pj_ps "WaverTax$Desk" mn 0 1 22 (.object "WaverTax$Now") := ⟨_, _, _, _, cd_0, by decide, rfl, Or.inl ⟨rfl, Or.inl (pj_mem 455 (by decide +kernel) rfl)⟩⟩
theorem ps_Desk_9 {mn : String} : pj_ps "WaverTax$Desk" mn 0 2 9 (.int) := ⟨_, _, _, _, cd_0, by decide, rfl, Or.inl ⟨rfl, Or.inl (pj_mem 456 (by decide +kernel) rfl)⟩⟩
theorem ps_Law_15 {mn : String} : pj_ps "WaverTax$Law" mn 1 1 15 (.int) := ⟨_, _, _, _, cd_1, by decide, rfl, Or.inl ⟨rfl, Or.inl (pj_mem 278 (by decide +kernel) rfl)⟩⟩
theorem ps_Law_18 {mn : String} : pj_ps "WaverTax$Law" mn 1 2 18 (.int) := ⟨_, _, _, _, cd_1, by decide, rfl, Or.inl ⟨rfl, Or.inl (pj_mem 282 (by decide +kernel) rfl)⟩⟩
theorem ps_Law_21 {mn : String} : pj_ps "WaverTax$Law" mn 1 3 21 (.int) := ⟨_, _, _, _, cd_1, by decide, rfl, Or.inl ⟨rfl, Or.inl (pj_mem 288 (by decide +kernel) rfl)⟩⟩
theorem ps_Law_24 {mn : String} : pj_ps "WaverTax$Law" mn 1 4 24 (.int) := ⟨_, _, _, _, cd_1, by decide, rfl, Or.inl ⟨rfl, Or.inl (pj_mem 293 (by decide +kernel) rfl)⟩⟩
theorem ps_Law_29 : pj_ps "WaverTax$Law" "<init>" 1 5 29 (.array (.array (.int))) := ⟨_, _, _, _, cd_1, by decide, rfl, Or.inr ⟨rfl, rfl, rfl, pj_mem 296 (by decide +kernel) rfl⟩⟩
theorem ps_Law_32 : pj_ps "WaverTax$Law" "<init>" 1 6 32 (.array (.int)) := ⟨_, _, _, _, cd_1, by decide, rfl, Or.inr ⟨rfl, rfl, rfl, pj_mem 298 (by decide +kernel) rfl⟩⟩
theorem ps_Law_36 : pj_ps "WaverTax$Law" "<init>" 1 7 36 (.array (.int)) := ⟨_, _, _, _, cd_1, by decide, rfl, Or.inr ⟨rfl, rfl, rfl, pj_mem 302 (by decide +kernel) rfl⟩⟩
theorem ps_Law_39 : pj_ps "WaverTax$Law" "<init>" 1 8 39 (.array (.array (.int))) := ⟨_, _, _, _, cd_1, by decide, rfl, Or.inr ⟨rfl, rfl, rfl, pj_mem 307 (by decide +kernel) rfl⟩⟩
theorem ps_Law_42 : pj_ps "WaverTax$Law" "<init>" 1 9 42 (.array (.int)) := ⟨_, _, _, _, cd_1, by decide, rfl, Or.inr ⟨rfl, rfl, rfl, pj_mem 310 (by decide +kernel) rfl⟩⟩
theorem ps_Law_48 : pj_ps "WaverTax$Law" "<init>" 1 10 48 (.object "WaverTax$Reasons") := ⟨_, _, _, _, cd_1, by decide, rfl, Or.inr ⟨rfl, rfl, rfl, pj_mem 312 (by decide +kernel) rfl⟩⟩
theorem ps_Law_55 : pj_ps "WaverTax$Law" "<init>" 1 11 55 (.object "WaverTax$Receipts") := ⟨_, _, _, _, cd_1, by decide, rfl, Or.inr ⟨rfl, rfl, rfl, pj_mem 317 (by decide +kernel) rfl⟩⟩
theorem ps_Law_62 : pj_ps "WaverTax$Law" "<init>" 1 12 62 (.object "WaverTax$Shops") := ⟨_, _, _, _, cd_1, by decide, rfl, Or.inr ⟨rfl, rfl, rfl, pj_mem 321 (by decide +kernel) rfl⟩⟩
theorem ps_Law_9 {mn : String} : pj_ps "WaverTax$Law" mn 1 0 9 (.int) := ⟨_, _, _, _, cd_1, by decide, rfl, Or.inl ⟨rfl, Or.inl (pj_mem 274 (by decide +kernel) rfl)⟩⟩
theorem ps_Now_15 {mn : String} : pj_ps "WaverTax$Now" mn 2 1 15 (.int) := ⟨_, _, _, _, cd_2, by decide, rfl, Or.inl ⟨rfl, Or.inl (pj_mem 412 (by decide +kernel) rfl)⟩⟩
theorem ps_Now_18 {mn : String} : pj_ps "WaverTax$Now" mn 2 2 18 (.int) := ⟨_, _, _, _, cd_2, by decide, rfl, Or.inl ⟨rfl, Or.inl (pj_mem 414 (by decide +kernel) rfl)⟩⟩
theorem ps_Now_21 : pj_ps "WaverTax$Now" "<init>" 2 3 21 (.array (.int)) := ⟨_, _, _, _, cd_2, by decide, rfl, Or.inr ⟨rfl, rfl, rfl, pj_mem 416 (by decide +kernel) rfl⟩⟩
theorem ps_Now_25 : pj_ps "WaverTax$Now" "<init>" 2 4 25 (.array (.int)) := ⟨_, _, _, _, cd_2, by decide, rfl, Or.inr ⟨rfl, rfl, rfl, pj_mem 421 (by decide +kernel) rfl⟩⟩
theorem ps_Now_28 : pj_ps "WaverTax$Now" "<init>" 2 5 28 (.array (.int)) := ⟨_, _, _, _, cd_2, by decide, rfl, Or.inr ⟨rfl, rfl, rfl, pj_mem 426 (by decide +kernel) rfl⟩⟩
theorem ps_Now_31 : pj_ps "WaverTax$Now" "<init>" 2 6 31 (.array (.int)) := ⟨_, _, _, _, cd_2, by decide, rfl, Or.inr ⟨rfl, rfl, rfl, pj_mem 428 (by decide +kernel) rfl⟩⟩
theorem ps_Now_9 {mn : String} : pj_ps "WaverTax$Now" mn 2 0 9 (.int) := ⟨_, _, _, _, cd_2, by decide, rfl, Or.inl ⟨rfl, Or.inl (pj_mem 407 (by decide +kernel) rfl)⟩⟩
theorem ps_Past_11 : pj_ps "WaverTax$Past" "<init>" 3 0 11 (.array (.object "WaverTax$Now")) := ⟨_, _, _, _, cd_3, by decide, rfl, Or.inr ⟨rfl, rfl, rfl, pj_mem 535 (by decide +kernel) rfl⟩⟩
theorem ps_Past_17 : pj_ps "WaverTax$Past" "<init>" 3 1 17 (.array (.object "WaverTax$Now")) := ⟨_, _, _, _, cd_3, by decide, rfl, Or.inr ⟨rfl, rfl, rfl, pj_mem 536 (by decide +kernel) rfl⟩⟩
theorem ps_Past_20 {mn : String} : pj_ps "WaverTax$Past" mn 3 2 20 (.int) := ⟨_, _, _, _, cd_3, by decide, rfl, Or.inl ⟨rfl, Or.inl (pj_mem 537 (by decide +kernel) rfl)⟩⟩
theorem ps_Past_24 {mn : String} : pj_ps "WaverTax$Past" mn 3 3 24 (.int) := ⟨_, _, _, _, cd_3, by decide, rfl, Or.inl ⟨rfl, Or.inl (pj_mem 539 (by decide +kernel) rfl)⟩⟩
theorem ps_Planner_13 {mn : String} : pj_ps "WaverTax$Planner" mn 4 0 13 (.object "WaverTax$Law") := ⟨_, _, _, _, cd_4, by decide, rfl, Or.inl ⟨rfl, Or.inl (pj_mem 475 (by decide +kernel) rfl)⟩⟩
theorem ps_Planner_17 : pj_ps "WaverTax$Planner" "<init>" 4 1 17 (.object "WaverTax$Desk") := ⟨_, _, _, _, cd_4, by decide, rfl, Or.inr ⟨rfl, rfl, rfl, pj_mem 476 (by decide +kernel) rfl⟩⟩
theorem ps_Planner_21 : pj_ps "WaverTax$Planner" "<init>" 4 2 21 (.object "WaverTax$Now") := ⟨_, _, _, _, cd_4, by decide, rfl, Or.inr ⟨rfl, rfl, rfl, pj_mem 477 (by decide +kernel) rfl⟩⟩
theorem ps_Planner_7 {mn : String} : pj_ps "WaverTax$Planner" mn 4 3 7 (.int) := ⟨_, _, _, _, cd_4, by decide, rfl, Or.inl ⟨rfl, Or.inl (pj_mem 478 (by decide +kernel) rfl)⟩⟩
theorem ps_Reader_15 {mn : String} : pj_ps "WaverTax$Reader" mn 5 3 15 (.boolean) := ⟨_, _, _, _, cd_5, by decide, rfl, Or.inl ⟨rfl, Or.inl (pj_mem 360 (by decide +kernel) rfl)⟩⟩
theorem ps_Reader_19 {mn : String} : pj_ps "WaverTax$Reader" mn 5 4 19 (.int) := ⟨_, _, _, _, cd_5, by decide, rfl, Or.inl ⟨rfl, Or.inl (pj_mem 361 (by decide +kernel) rfl)⟩⟩
theorem ps_Reader_22 {mn : String} : pj_ps "WaverTax$Reader" mn 5 5 22 (.int) := ⟨_, _, _, _, cd_5, by decide, rfl, Or.inl ⟨rfl, Or.inl (pj_mem 362 (by decide +kernel) rfl)⟩⟩
theorem ps_Reader_25 {mn : String} : pj_ps "WaverTax$Reader" mn 5 6 25 (.int) := ⟨_, _, _, _, cd_5, by decide, rfl, Or.inl ⟨rfl, Or.inl (pj_mem 363 (by decide +kernel) rfl)⟩⟩
theorem ps_Reader_28 {mn : String} : pj_ps "WaverTax$Reader" mn 5 7 28 (.int) := ⟨_, _, _, _, cd_5, by decide, rfl, Or.inl ⟨rfl, Or.inl (pj_mem 364 (by decide +kernel) rfl)⟩⟩
theorem ps_Reader_31 {mn : String} : pj_ps "WaverTax$Reader" mn 5 8 31 (.int) := ⟨_, _, _, _, cd_5, by decide, rfl, Or.inl ⟨rfl, Or.inl (pj_mem 365 (by decide +kernel) rfl)⟩⟩
theorem ps_Reader_34 {mn : String} : pj_ps "WaverTax$Reader" mn 5 9 34 (.int) := ⟨_, _, _, _, cd_5, by decide, rfl, Or.inl ⟨rfl, Or.inl (pj_mem 367 (by decide +kernel) rfl)⟩⟩
theorem ps_Reader_37 : pj_ps "WaverTax$Reader" "<init>" 5 10 37 (.array (.int)) := ⟨_, _, _, _, cd_5, by decide, rfl, Or.inr ⟨rfl, rfl, rfl, pj_mem 368 (by decide +kernel) rfl⟩⟩
theorem ps_Reader_41 : pj_ps "WaverTax$Reader" "<init>" 5 11 41 (.array (.int)) := ⟨_, _, _, _, cd_5, by decide, rfl, Or.inr ⟨rfl, rfl, rfl, pj_mem 369 (by decide +kernel) rfl⟩⟩
theorem ps_Reader_44 : pj_ps "WaverTax$Reader" "<init>" 5 12 44 (.array (.int)) := ⟨_, _, _, _, cd_5, by decide, rfl, Or.inr ⟨rfl, rfl, rfl, pj_mem 370 (by decide +kernel) rfl⟩⟩
theorem ps_Reader_47 : pj_ps "WaverTax$Reader" "<init>" 5 13 47 (.array (.int)) := ⟨_, _, _, _, cd_5, by decide, rfl, Or.inr ⟨rfl, rfl, rfl, pj_mem 371 (by decide +kernel) rfl⟩⟩
theorem ps_Reader_50 : pj_ps "WaverTax$Reader" "<init>" 5 0 50 (.array (.byte)) := ⟨_, _, _, _, cd_5, by decide, rfl, Or.inr ⟨rfl, rfl, rfl, pj_mem 357 (by decide +kernel) rfl⟩⟩
theorem ps_Reader_54 {mn : String} : pj_ps "WaverTax$Reader" mn 5 2 54 (.object "WaverTax$Law") := ⟨_, _, _, _, cd_5, by decide, rfl, Or.inl ⟨rfl, Or.inl (pj_mem 359 (by decide +kernel) rfl)⟩⟩
theorem ps_Reader_9 {mn : String} : pj_ps "WaverTax$Reader" mn 5 1 9 (.int) := ⟨_, _, _, _, cd_5, by decide, rfl, Or.inl ⟨rfl, Or.inl (pj_mem 358 (by decide +kernel) rfl)⟩⟩
theorem ps_Reasons_15 : pj_ps "WaverTax$Reasons" "<init>" 6 1 15 (.array (.int)) := ⟨_, _, _, _, cd_6, by decide, rfl, Or.inr ⟨rfl, rfl, rfl, pj_mem 184 (by decide +kernel) rfl⟩⟩
theorem ps_Reasons_19 : pj_ps "WaverTax$Reasons" "<init>" 6 2 19 (.array (.int)) := ⟨_, _, _, _, cd_6, by decide, rfl, Or.inr ⟨rfl, rfl, rfl, pj_mem 188 (by decide +kernel) rfl⟩⟩
theorem ps_Reasons_22 : pj_ps "WaverTax$Reasons" "<init>" 6 3 22 (.array (.int)) := ⟨_, _, _, _, cd_6, by decide, rfl, Or.inr ⟨rfl, rfl, rfl, pj_mem 192 (by decide +kernel) rfl⟩⟩
theorem ps_Reasons_25 : pj_ps "WaverTax$Reasons" "<init>" 6 4 25 (.array (.int)) := ⟨_, _, _, _, cd_6, by decide, rfl, Or.inr ⟨rfl, rfl, rfl, pj_mem 196 (by decide +kernel) rfl⟩⟩
theorem ps_Reasons_28 : pj_ps "WaverTax$Reasons" "<init>" 6 5 28 (.array (.int)) := ⟨_, _, _, _, cd_6, by decide, rfl, Or.inr ⟨rfl, rfl, rfl, pj_mem 200 (by decide +kernel) rfl⟩⟩
theorem ps_Reasons_9 {mn : String} : pj_ps "WaverTax$Reasons" mn 6 0 9 (.int) := ⟨_, _, _, _, cd_6, by decide, rfl, Or.inl ⟨rfl, Or.inl (pj_mem 177 (by decide +kernel) rfl)⟩⟩
theorem ps_Receipts_15 : pj_ps "WaverTax$Receipts" "<init>" 7 1 15 (.array (.int)) := ⟨_, _, _, _, cd_7, by decide, rfl, Or.inr ⟨rfl, rfl, rfl, pj_mem 230 (by decide +kernel) rfl⟩⟩
theorem ps_Receipts_19 : pj_ps "WaverTax$Receipts" "<init>" 7 2 19 (.array (.int)) := ⟨_, _, _, _, cd_7, by decide, rfl, Or.inr ⟨rfl, rfl, rfl, pj_mem 234 (by decide +kernel) rfl⟩⟩
theorem ps_Receipts_22 : pj_ps "WaverTax$Receipts" "<init>" 7 3 22 (.array (.int)) := ⟨_, _, _, _, cd_7, by decide, rfl, Or.inr ⟨rfl, rfl, rfl, pj_mem 237 (by decide +kernel) rfl⟩⟩
theorem ps_Receipts_9 {mn : String} : pj_ps "WaverTax$Receipts" mn 7 0 9 (.int) := ⟨_, _, _, _, cd_7, by decide, rfl, Or.inl ⟨rfl, Or.inl (pj_mem 225 (by decide +kernel) rfl)⟩⟩
theorem ps_Rows_15 {mn : String} : pj_ps "WaverTax$Rows" mn 8 4 15 (.int) := ⟨_, _, _, _, cd_8, by decide, rfl, Or.inl ⟨rfl, Or.inl (pj_mem 499 (by decide +kernel) rfl)⟩⟩
theorem ps_Rows_18 : pj_ps "WaverTax$Rows" "<init>" 8 5 18 (.array (.int)) := ⟨_, _, _, _, cd_8, by decide, rfl, Or.inr ⟨rfl, rfl, rfl, pj_mem 501 (by decide +kernel) rfl⟩⟩
theorem ps_Rows_22 : pj_ps "WaverTax$Rows" "<init>" 8 6 22 (.array (.int)) := ⟨_, _, _, _, cd_8, by decide, rfl, Or.inr ⟨rfl, rfl, rfl, pj_mem 503 (by decide +kernel) rfl⟩⟩
theorem ps_Rows_25 : pj_ps "WaverTax$Rows" "<init>" 8 7 25 (.array (.int)) := ⟨_, _, _, _, cd_8, by decide, rfl, Or.inr ⟨rfl, rfl, rfl, pj_mem 505 (by decide +kernel) rfl⟩⟩
theorem ps_Rows_30 : pj_ps "WaverTax$Rows" "<init>" 8 8 30 (.array (.array (.int))) := ⟨_, _, _, _, cd_8, by decide, rfl, Or.inr ⟨rfl, rfl, rfl, pj_mem 506 (by decide +kernel) rfl⟩⟩
theorem ps_Rows_33 {mn : String} : pj_ps "WaverTax$Rows" mn 8 0 33 (.object "WaverTax$Law") := ⟨_, _, _, _, cd_8, by decide, rfl, Or.inl ⟨rfl, Or.inl (pj_mem 495 (by decide +kernel) rfl)⟩⟩
theorem ps_Rows_37 : pj_ps "WaverTax$Rows" "<init>" 8 1 37 (.object "WaverTax$Desk") := ⟨_, _, _, _, cd_8, by decide, rfl, Or.inr ⟨rfl, rfl, rfl, pj_mem 496 (by decide +kernel) rfl⟩⟩
theorem ps_Rows_41 : pj_ps "WaverTax$Rows" "<init>" 8 2 41 (.object "WaverTax$Now") := ⟨_, _, _, _, cd_8, by decide, rfl, Or.inr ⟨rfl, rfl, rfl, pj_mem 497 (by decide +kernel) rfl⟩⟩
theorem ps_Rows_9 {mn : String} : pj_ps "WaverTax$Rows" mn 8 3 9 (.int) := ⟨_, _, _, _, cd_8, by decide, rfl, Or.inl ⟨rfl, Or.inl (pj_mem 498 (by decide +kernel) rfl)⟩⟩
theorem ps_Shops_15 {mn : String} : pj_ps "WaverTax$Shops" mn 9 1 15 (.int) := ⟨_, _, _, _, cd_9, by decide, rfl, Or.inl ⟨rfl, Or.inl (pj_mem 258 (by decide +kernel) rfl)⟩⟩
theorem ps_Shops_18 : pj_ps "WaverTax$Shops" "<init>" 9 2 18 (.array (.int)) := ⟨_, _, _, _, cd_9, by decide, rfl, Or.inr ⟨rfl, rfl, rfl, pj_mem 261 (by decide +kernel) rfl⟩⟩
theorem ps_Shops_22 : pj_ps "WaverTax$Shops" "<init>" 9 3 22 (.array (.int)) := ⟨_, _, _, _, cd_9, by decide, rfl, Or.inr ⟨rfl, rfl, rfl, pj_mem 263 (by decide +kernel) rfl⟩⟩
theorem ps_Shops_9 {mn : String} : pj_ps "WaverTax$Shops" mn 9 0 9 (.int) := ⟨_, _, _, _, cd_9, by decide, rfl, Or.inl ⟨rfl, Or.inl (pj_mem 255 (by decide +kernel) rfl)⟩⟩
theorem ps_T_13 {mn : String} : pj_ps "WaverTax" mn 10 1 13 (.int) := ⟨_, _, _, _, cd_10, by decide, rfl, Or.inl ⟨rfl, Or.inl (pj_mem 551 (by decide +kernel) rfl)⟩⟩
theorem ps_T_20 {mn : String} : pj_ps "WaverTax" mn 10 2 20 (.object "WaverTax$Law") := ⟨_, _, _, _, cd_10, by decide, rfl, Or.inl ⟨rfl, Or.inl (pj_mem 552 (by decide +kernel) rfl)⟩⟩
theorem ps_T_24 {mn : String} : pj_ps "WaverTax" mn 10 3 24 (.object "WaverTax$Law") := ⟨_, _, _, _, cd_10, by decide, rfl, Or.inl ⟨rfl, Or.inl (pj_mem 553 (by decide +kernel) rfl)⟩⟩
theorem ps_T_32 : pj_ps "WaverTax" "<init>" 10 4 32 (.object "WaverTax$Reader") := ⟨_, _, _, _, cd_10, by decide, rfl, Or.inr ⟨rfl, rfl, rfl, pj_mem 554 (by decide +kernel) rfl⟩⟩
theorem ps_T_36 {mn : String} : pj_ps "WaverTax" mn 10 5 36 (.boolean) := ⟨_, _, _, _, cd_10, by decide, rfl, Or.inl ⟨rfl, Or.inl (pj_mem 555 (by decide +kernel) rfl)⟩⟩
theorem ps_T_43 : pj_ps "WaverTax" "<init>" 10 6 43 (.object "WaverTax$Now") := ⟨_, _, _, _, cd_10, by decide, rfl, Or.inr ⟨rfl, rfl, rfl, pj_mem 556 (by decide +kernel) rfl⟩⟩
theorem ps_T_47 : pj_ps "WaverTax" "<init>" 10 7 47 (.object "WaverTax$Now") := ⟨_, _, _, _, cd_10, by decide, rfl, Or.inr ⟨rfl, rfl, rfl, pj_mem 557 (by decide +kernel) rfl⟩⟩
theorem ps_T_55 : pj_ps "WaverTax" "<init>" 10 8 55 (.object "WaverTax$Desk") := ⟨_, _, _, _, cd_10, by decide, rfl, Or.inr ⟨rfl, rfl, rfl, pj_mem 558 (by decide +kernel) rfl⟩⟩
theorem ps_T_64 : pj_ps "WaverTax" "<init>" 10 9 64 (.object "WaverTax$Planner") := ⟨_, _, _, _, cd_10, by decide, rfl, Or.inr ⟨rfl, rfl, rfl, pj_mem 559 (by decide +kernel) rfl⟩⟩
theorem ps_T_71 : pj_ps "WaverTax" "<init>" 10 10 71 (.object "WaverTax$Rows") := ⟨_, _, _, _, cd_10, by decide, rfl, Or.inr ⟨rfl, rfl, rfl, pj_mem 560 (by decide +kernel) rfl⟩⟩
theorem ps_T_78 : pj_ps "WaverTax" "<init>" 10 11 78 (.object "WaverTax$Past") := ⟨_, _, _, _, cd_10, by decide, rfl, Or.inr ⟨rfl, rfl, rfl, pj_mem 561 (by decide +kernel) rfl⟩⟩
theorem ps_T_82 {mn : String} : pj_ps "WaverTax" mn 10 12 82 (.int) := ⟨_, _, _, _, cd_10, by decide, rfl, Or.inl ⟨rfl, Or.inl (pj_mem 562 (by decide +kernel) rfl)⟩⟩
theorem ps_T_85 {mn : String} : pj_ps "WaverTax" mn 10 13 85 (.int) := ⟨_, _, _, _, cd_10, by decide, rfl, Or.inl ⟨rfl, Or.inl (pj_mem 563 (by decide +kernel) rfl)⟩⟩
theorem ps_T_88 {mn : String} : pj_ps "WaverTax" mn 10 14 88 (.int) := ⟨_, _, _, _, cd_10, by decide, rfl, Or.inl ⟨rfl, Or.inl (pj_mem 564 (by decide +kernel) rfl)⟩⟩
theorem ps_T_9 : pj_ps "WaverTax" "<init>" 10 0 9 (.array (.byte)) := ⟨_, _, _, _, cd_10, by decide, rfl, Or.inr ⟨rfl, rfl, rfl, pj_mem 550 (by decide +kernel) rfl⟩⟩
theorem wd_217 : (Jvm.Cond.arrayClass Jvm.ClassFile.FieldType.byte) ∈ pj_ws := pj_mem 217 (by decide +kernel) rfl
theorem wd_218 : (Jvm.Cond.arrayClass Jvm.ClassFile.FieldType.int) ∈ pj_ws := pj_mem 218 (by decide +kernel) rfl
theorem wd_163 : (Jvm.Cond.classLink "WaverTax" (17 : Nat) "WaverTax$Law") ∈ pj_ws := pj_mem 163 (by decide +kernel) rfl
theorem wd_351 : (Jvm.Cond.classLink "WaverTax" (27 : Nat) "WaverTax$Reader") ∈ pj_ws := pj_mem 351 (by decide +kernel) rfl
theorem wd_401 : (Jvm.Cond.classLink "WaverTax" (40 : Nat) "WaverTax$Now") ∈ pj_ws := pj_mem 401 (by decide +kernel) rfl
theorem wd_448 : (Jvm.Cond.classLink "WaverTax" (50 : Nat) "WaverTax$Desk") ∈ pj_ws := pj_mem 448 (by decide +kernel) rfl
theorem wd_469 : (Jvm.Cond.classLink "WaverTax" (59 : Nat) "WaverTax$Planner") ∈ pj_ws := pj_mem 469 (by decide +kernel) rfl
theorem wd_488 : (Jvm.Cond.classLink "WaverTax" (68 : Nat) "WaverTax$Rows") ∈ pj_ws := pj_mem 488 (by decide +kernel) rfl
theorem wd_526 : (Jvm.Cond.classLink "WaverTax" (75 : Nat) "WaverTax$Past") ∈ pj_ws := pj_mem 526 (by decide +kernel) rfl
theorem wd_169 : (Jvm.Cond.classLink "WaverTax$Law" (27 : Nat) "[[I") ∈ pj_ws := pj_mem 169 (by decide +kernel) rfl
theorem wd_171 : (Jvm.Cond.classLink "WaverTax$Law" (45 : Nat) "WaverTax$Reasons") ∈ pj_ws := pj_mem 171 (by decide +kernel) rfl
theorem wd_219 : (Jvm.Cond.classLink "WaverTax$Law" (52 : Nat) "WaverTax$Receipts") ∈ pj_ws := pj_mem 219 (by decide +kernel) rfl
theorem wd_249 : (Jvm.Cond.classLink "WaverTax$Law" (59 : Nat) "WaverTax$Shops") ∈ pj_ws := pj_mem 249 (by decide +kernel) rfl
theorem wd_532 : (Jvm.Cond.classLink "WaverTax$Past" (9 : Nat) "WaverTax$Now") ∈ pj_ws := pj_mem 532 (by decide +kernel) rfl
theorem wd_494 : (Jvm.Cond.classLink "WaverTax$Rows" (28 : Nat) "[[I") ∈ pj_ws := pj_mem 494 (by decide +kernel) rfl
theorem wd_162 : (Jvm.Cond.code ({ cls := "java/lang/Object", name := "<init>", desc := "()V" } : Jvm.MethodName) object_method_1_code (1 : Nat) (Option.none : Option Jvm.ClassFile.FieldType)) ∈ pj_ws := pj_mem 162 (by decide +kernel) rfl
theorem wd_137 : (Jvm.Cond.initialized "WaverTax$Desk") ∈ pj_ws := pj_mem 137 (by decide +kernel) rfl
theorem wd_131 : (Jvm.Cond.initialized "WaverTax$Law") ∈ pj_ws := pj_mem 131 (by decide +kernel) rfl
theorem wd_136 : (Jvm.Cond.initialized "WaverTax$Now") ∈ pj_ws := pj_mem 136 (by decide +kernel) rfl
theorem wd_140 : (Jvm.Cond.initialized "WaverTax$Past") ∈ pj_ws := pj_mem 140 (by decide +kernel) rfl
theorem wd_138 : (Jvm.Cond.initialized "WaverTax$Planner") ∈ pj_ws := pj_mem 138 (by decide +kernel) rfl
theorem wd_135 : (Jvm.Cond.initialized "WaverTax$Reader") ∈ pj_ws := pj_mem 135 (by decide +kernel) rfl
theorem wd_132 : (Jvm.Cond.initialized "WaverTax$Reasons") ∈ pj_ws := pj_mem 132 (by decide +kernel) rfl
theorem wd_133 : (Jvm.Cond.initialized "WaverTax$Receipts") ∈ pj_ws := pj_mem 133 (by decide +kernel) rfl
theorem wd_139 : (Jvm.Cond.initialized "WaverTax$Rows") ∈ pj_ws := pj_mem 139 (by decide +kernel) rfl
theorem wd_134 : (Jvm.Cond.initialized "WaverTax$Shops") ∈ pj_ws := pj_mem 134 (by decide +kernel) rfl
theorem wd_161 : (Jvm.Cond.instanceMethod ({ cls := "java/lang/Object", name := "<init>", desc := "()V" } : Jvm.MethodName)) ∈ pj_ws := pj_mem 161 (by decide +kernel) rfl
theorem wd_449 : (Jvm.Cond.instantiable "WaverTax$Desk" (4 : Nat)) ∈ pj_ws := pj_mem 449 (by decide +kernel) rfl
theorem wd_164 : (Jvm.Cond.instantiable "WaverTax$Law" (13 : Nat)) ∈ pj_ws := pj_mem 164 (by decide +kernel) rfl
theorem wd_402 : (Jvm.Cond.instantiable "WaverTax$Now" (7 : Nat)) ∈ pj_ws := pj_mem 402 (by decide +kernel) rfl
theorem wd_527 : (Jvm.Cond.instantiable "WaverTax$Past" (4 : Nat)) ∈ pj_ws := pj_mem 527 (by decide +kernel) rfl
theorem wd_470 : (Jvm.Cond.instantiable "WaverTax$Planner" (4 : Nat)) ∈ pj_ws := pj_mem 470 (by decide +kernel) rfl
theorem wd_352 : (Jvm.Cond.instantiable "WaverTax$Reader" (14 : Nat)) ∈ pj_ws := pj_mem 352 (by decide +kernel) rfl
theorem wd_172 : (Jvm.Cond.instantiable "WaverTax$Reasons" (6 : Nat)) ∈ pj_ws := pj_mem 172 (by decide +kernel) rfl
theorem wd_220 : (Jvm.Cond.instantiable "WaverTax$Receipts" (4 : Nat)) ∈ pj_ws := pj_mem 220 (by decide +kernel) rfl
theorem wd_489 : (Jvm.Cond.instantiable "WaverTax$Rows" (9 : Nat)) ∈ pj_ws := pj_mem 489 (by decide +kernel) rfl
theorem wd_250 : (Jvm.Cond.instantiable "WaverTax$Shops" (4 : Nat)) ∈ pj_ws := pj_mem 250 (by decide +kernel) rfl
theorem wd_160 : (Jvm.Cond.methodLink "WaverTax" (3 : Nat) ({ cls := "java/lang/Object", name := "<init>", desc := "()V" } : Jvm.MethodName)) ∈ pj_ws := pj_mem 160 (by decide +kernel) rfl
theorem wd_453 : (Jvm.Cond.methodLink "WaverTax$Desk" (3 : Nat) ({ cls := "java/lang/Object", name := "<init>", desc := "()V" } : Jvm.MethodName)) ∈ pj_ws := pj_mem 453 (by decide +kernel) rfl
theorem wd_168 : (Jvm.Cond.methodLink "WaverTax$Law" (3 : Nat) ({ cls := "java/lang/Object", name := "<init>", desc := "()V" } : Jvm.MethodName)) ∈ pj_ws := pj_mem 168 (by decide +kernel) rfl
theorem wd_406 : (Jvm.Cond.methodLink "WaverTax$Now" (3 : Nat) ({ cls := "java/lang/Object", name := "<init>", desc := "()V" } : Jvm.MethodName)) ∈ pj_ws := pj_mem 406 (by decide +kernel) rfl
theorem wd_531 : (Jvm.Cond.methodLink "WaverTax$Past" (3 : Nat) ({ cls := "java/lang/Object", name := "<init>", desc := "()V" } : Jvm.MethodName)) ∈ pj_ws := pj_mem 531 (by decide +kernel) rfl
theorem wd_474 : (Jvm.Cond.methodLink "WaverTax$Planner" (1 : Nat) ({ cls := "java/lang/Object", name := "<init>", desc := "()V" } : Jvm.MethodName)) ∈ pj_ws := pj_mem 474 (by decide +kernel) rfl
theorem wd_356 : (Jvm.Cond.methodLink "WaverTax$Reader" (3 : Nat) ({ cls := "java/lang/Object", name := "<init>", desc := "()V" } : Jvm.MethodName)) ∈ pj_ws := pj_mem 356 (by decide +kernel) rfl
theorem wd_176 : (Jvm.Cond.methodLink "WaverTax$Reasons" (3 : Nat) ({ cls := "java/lang/Object", name := "<init>", desc := "()V" } : Jvm.MethodName)) ∈ pj_ws := pj_mem 176 (by decide +kernel) rfl
theorem wd_224 : (Jvm.Cond.methodLink "WaverTax$Receipts" (3 : Nat) ({ cls := "java/lang/Object", name := "<init>", desc := "()V" } : Jvm.MethodName)) ∈ pj_ws := pj_mem 224 (by decide +kernel) rfl
theorem wd_493 : (Jvm.Cond.methodLink "WaverTax$Rows" (3 : Nat) ({ cls := "java/lang/Object", name := "<init>", desc := "()V" } : Jvm.MethodName)) ∈ pj_ws := pj_mem 493 (by decide +kernel) rfl
theorem wd_254 : (Jvm.Cond.methodLink "WaverTax$Shops" (3 : Nat) ({ cls := "java/lang/Object", name := "<init>", desc := "()V" } : Jvm.MethodName)) ∈ pj_ws := pj_mem 254 (by decide +kernel) rfl
theorem d_Reasons_init_0 : decode Y_Reasons_init.2.1 0 = .ok (.aload_n 0, 1) := by decide +kernel
theorem d_Reasons_init_1 : decode Y_Reasons_init.2.1 1 = .ok (.invokespecial 3, 3) := by decide +kernel
theorem d_Reasons_init_4 : decode Y_Reasons_init.2.1 4 = .ok (.aload_n 0, 1) := by decide +kernel
theorem d_Reasons_init_5 : decode Y_Reasons_init.2.1 5 = .ok (.iconst 0, 1) := by decide +kernel
theorem d_Reasons_init_6 : decode Y_Reasons_init.2.1 6 = .ok (.putfield 9, 3) := by decide +kernel
theorem d_Reasons_init_9 : decode Y_Reasons_init.2.1 9 = .ok (.aload_n 0, 1) := by decide +kernel
theorem d_Reasons_init_10 : decode Y_Reasons_init.2.1 10 = .ok (.iconst 4, 1) := by decide +kernel
theorem d_Reasons_init_11 : decode Y_Reasons_init.2.1 11 = .ok (.newarray .int, 2) := by decide +kernel
theorem d_Reasons_init_13 : decode Y_Reasons_init.2.1 13 = .ok (.putfield 15, 3) := by decide +kernel
theorem d_Reasons_init_16 : decode Y_Reasons_init.2.1 16 = .ok (.aload_n 0, 1) := by decide +kernel
theorem d_Reasons_init_17 : decode Y_Reasons_init.2.1 17 = .ok (.iconst 4, 1) := by decide +kernel
theorem d_Reasons_init_18 : decode Y_Reasons_init.2.1 18 = .ok (.newarray .int, 2) := by decide +kernel
theorem d_Reasons_init_20 : decode Y_Reasons_init.2.1 20 = .ok (.putfield 19, 3) := by decide +kernel
theorem d_Reasons_init_23 : decode Y_Reasons_init.2.1 23 = .ok (.aload_n 0, 1) := by decide +kernel
theorem d_Reasons_init_24 : decode Y_Reasons_init.2.1 24 = .ok (.iconst 4, 1) := by decide +kernel
theorem d_Reasons_init_25 : decode Y_Reasons_init.2.1 25 = .ok (.newarray .int, 2) := by decide +kernel
theorem d_Reasons_init_27 : decode Y_Reasons_init.2.1 27 = .ok (.putfield 22, 3) := by decide +kernel
theorem d_Reasons_init_30 : decode Y_Reasons_init.2.1 30 = .ok (.aload_n 0, 1) := by decide +kernel
theorem d_Reasons_init_31 : decode Y_Reasons_init.2.1 31 = .ok (.iconst 4, 1) := by decide +kernel
theorem d_Reasons_init_32 : decode Y_Reasons_init.2.1 32 = .ok (.newarray .int, 2) := by decide +kernel
theorem d_Reasons_init_34 : decode Y_Reasons_init.2.1 34 = .ok (.putfield 25, 3) := by decide +kernel
theorem d_Reasons_init_37 : decode Y_Reasons_init.2.1 37 = .ok (.aload_n 0, 1) := by decide +kernel
theorem d_Reasons_init_38 : decode Y_Reasons_init.2.1 38 = .ok (.iconst 4, 1) := by decide +kernel
theorem d_Reasons_init_39 : decode Y_Reasons_init.2.1 39 = .ok (.newarray .int, 2) := by decide +kernel
theorem d_Reasons_init_41 : decode Y_Reasons_init.2.1 41 = .ok (.putfield 28, 3) := by decide +kernel
theorem d_Reasons_init_44 : decode Y_Reasons_init.2.1 44 = .ok (.return_, 1) := by decide +kernel
def f_Reasons_init (h : PH) (a0 : Option Nat) : Option PH := (a0).bind fun _ => (sF h 6 a0 0 (.inl (0 : Int32))).bind fun h1 => (sF (h1 ++ [(50, List.replicate 4 (.inl 0))]) 6 a0 1 (.inr (.inr (some (h1).length)))).bind fun h2 => (sF (h2 ++ [(50, List.replicate 4 (.inl 0))]) 6 a0 2 (.inr (.inr (some (h2).length)))).bind fun h3 => (sF (h3 ++ [(50, List.replicate 4 (.inl 0))]) 6 a0 3 (.inr (.inr (some (h3).length)))).bind fun h4 => (sF (h4 ++ [(50, List.replicate 4 (.inl 0))]) 6 a0 4 (.inr (.inr (some (h4).length)))).bind fun h5 => (sF (h5 ++ [(50, List.replicate 4 (.inl 0))]) 6 a0 5 (.inr (.inr (some (h5).length)))).bind fun h6 => some h6
set_option maxRecDepth 20000 in
theorem PM_Reasons_init {l : Launch} {G : Cx} {h : PH} {a0 : Option Nat} {z : PH} (hz : f_Reasons_init h a0 = some z) : PM l G 1 5 20 Y_Reasons_init [.inr (.inr a0)] h (none, z) := by
  refine PM.of (Y := Y_Reasons_init) (cv := (fun z : PH => (((none, z) : Option PV × PH)))) (by decide) (L0 := [some (.inr (.inr a0))]) 0 rfl (Nat.le_of_ble_eq_true rfl) ?_ hz
  unfold f_Reasons_init
  refine PJ.aload_n (pc := 0) d_Reasons_init_0 rfl ?_
  refine PJ.objO (pc := 1) wd_176 wd_161 wd_162 (Nat.le_of_ble_eq_true rfl) (Nat.le_of_ble_eq_true rfl) (Nat.le_of_ble_eq_true rfl) d_Reasons_init_1 ?_
  refine PJ.aload_n (pc := 4) d_Reasons_init_4 rfl ?_
  refine PJ.iconst (pc := 5) (v := 0) d_Reasons_init_5 (by decide) ?_
  refine PJ.putI (pc := 6) ps_Reasons_9 d_Reasons_init_6 (fun h1 => ?_)
  refine PJ.aload_n (pc := 9) d_Reasons_init_9 rfl ?_
  refine PJ.iconst (pc := 10) (v := 4) d_Reasons_init_10 (by decide) ?_
  refine PJ.newa (pc := 11) (t := 50) (N := 4) (v := .inl 0) (by decide) rfl (fun _ => rfl) wd_218 (by decide) (by decide +kernel) (by decide) (Nat.le_of_ble_eq_true rfl) (Nat.le_of_ble_eq_true rfl) d_Reasons_init_11 ?_
  refine PJ.putR (pc := 13) ps_Reasons_15 rfl d_Reasons_init_13 (fun h2 => ?_)
  refine PJ.aload_n (pc := 16) d_Reasons_init_16 rfl ?_
  refine PJ.iconst (pc := 17) (v := 4) d_Reasons_init_17 (by decide) ?_
  refine PJ.newa (pc := 18) (t := 50) (N := 4) (v := .inl 0) (by decide) rfl (fun _ => rfl) wd_218 (by decide) (by decide +kernel) (by decide) (Nat.le_of_ble_eq_true rfl) (Nat.le_of_ble_eq_true rfl) d_Reasons_init_18 ?_
  refine PJ.putR (pc := 20) ps_Reasons_19 rfl d_Reasons_init_20 (fun h3 => ?_)
  refine PJ.aload_n (pc := 23) d_Reasons_init_23 rfl ?_
  refine PJ.iconst (pc := 24) (v := 4) d_Reasons_init_24 (by decide) ?_
  refine PJ.newa (pc := 25) (t := 50) (N := 4) (v := .inl 0) (by decide) rfl (fun _ => rfl) wd_218 (by decide) (by decide +kernel) (by decide) (Nat.le_of_ble_eq_true rfl) (Nat.le_of_ble_eq_true rfl) d_Reasons_init_25 ?_
  refine PJ.putR (pc := 27) ps_Reasons_22 rfl d_Reasons_init_27 (fun h4 => ?_)
  refine PJ.aload_n (pc := 30) d_Reasons_init_30 rfl ?_
  refine PJ.iconst (pc := 31) (v := 4) d_Reasons_init_31 (by decide) ?_
  refine PJ.newa (pc := 32) (t := 50) (N := 4) (v := .inl 0) (by decide) rfl (fun _ => rfl) wd_218 (by decide) (by decide +kernel) (by decide) (Nat.le_of_ble_eq_true rfl) (Nat.le_of_ble_eq_true rfl) d_Reasons_init_32 ?_
  refine PJ.putR (pc := 34) ps_Reasons_25 rfl d_Reasons_init_34 (fun h5 => ?_)
  refine PJ.aload_n (pc := 37) d_Reasons_init_37 rfl ?_
  refine PJ.iconst (pc := 38) (v := 4) d_Reasons_init_38 (by decide) ?_
  refine PJ.newa (pc := 39) (t := 50) (N := 4) (v := .inl 0) (by decide) rfl (fun _ => rfl) wd_218 (by decide) (by decide +kernel) (by decide) (Nat.le_of_ble_eq_true rfl) (Nat.le_of_ble_eq_true rfl) d_Reasons_init_39 ?_
  refine PJ.putR (pc := 41) ps_Reasons_28 rfl d_Reasons_init_41 (fun h6 => ?_)
  exact PJ.vret (pc := 44) d_Reasons_init_44 rfl (Nat.le_of_ble_eq_true rfl) (Nat.le_of_ble_eq_true rfl)
theorem d_Receipts_init_0 : decode Y_Receipts_init.2.1 0 = .ok (.aload_n 0, 1) := by decide +kernel
theorem d_Receipts_init_1 : decode Y_Receipts_init.2.1 1 = .ok (.invokespecial 3, 3) := by decide +kernel
theorem d_Receipts_init_4 : decode Y_Receipts_init.2.1 4 = .ok (.aload_n 0, 1) := by decide +kernel
theorem d_Receipts_init_5 : decode Y_Receipts_init.2.1 5 = .ok (.iconst 0, 1) := by decide +kernel
theorem d_Receipts_init_6 : decode Y_Receipts_init.2.1 6 = .ok (.putfield 9, 3) := by decide +kernel
theorem d_Receipts_init_9 : decode Y_Receipts_init.2.1 9 = .ok (.aload_n 0, 1) := by decide +kernel
theorem d_Receipts_init_10 : decode Y_Receipts_init.2.1 10 = .ok (.iconst 5, 1) := by decide +kernel
theorem d_Receipts_init_11 : decode Y_Receipts_init.2.1 11 = .ok (.newarray .int, 2) := by decide +kernel
theorem d_Receipts_init_13 : decode Y_Receipts_init.2.1 13 = .ok (.putfield 15, 3) := by decide +kernel
theorem d_Receipts_init_16 : decode Y_Receipts_init.2.1 16 = .ok (.aload_n 0, 1) := by decide +kernel
theorem d_Receipts_init_17 : decode Y_Receipts_init.2.1 17 = .ok (.iconst 5, 1) := by decide +kernel
theorem d_Receipts_init_18 : decode Y_Receipts_init.2.1 18 = .ok (.newarray .int, 2) := by decide +kernel
theorem d_Receipts_init_20 : decode Y_Receipts_init.2.1 20 = .ok (.putfield 19, 3) := by decide +kernel
theorem d_Receipts_init_23 : decode Y_Receipts_init.2.1 23 = .ok (.aload_n 0, 1) := by decide +kernel
theorem d_Receipts_init_24 : decode Y_Receipts_init.2.1 24 = .ok (.iconst 5, 1) := by decide +kernel
theorem d_Receipts_init_25 : decode Y_Receipts_init.2.1 25 = .ok (.newarray .int, 2) := by decide +kernel
theorem d_Receipts_init_27 : decode Y_Receipts_init.2.1 27 = .ok (.putfield 22, 3) := by decide +kernel
theorem d_Receipts_init_30 : decode Y_Receipts_init.2.1 30 = .ok (.return_, 1) := by decide +kernel
def f_Receipts_init (h : PH) (a0 : Option Nat) : Option PH := (a0).bind fun _ => (sF h 7 a0 0 (.inl (0 : Int32))).bind fun h1 => (sF (h1 ++ [(50, List.replicate 5 (.inl 0))]) 7 a0 1 (.inr (.inr (some (h1).length)))).bind fun h2 => (sF (h2 ++ [(50, List.replicate 5 (.inl 0))]) 7 a0 2 (.inr (.inr (some (h2).length)))).bind fun h3 => (sF (h3 ++ [(50, List.replicate 5 (.inl 0))]) 7 a0 3 (.inr (.inr (some (h3).length)))).bind fun h4 => some h4
set_option maxRecDepth 20000 in
theorem PM_Receipts_init {l : Launch} {G : Cx} {h : PH} {a0 : Option Nat} {z : PH} (hz : f_Receipts_init h a0 = some z) : PM l G 1 3 15 Y_Receipts_init [.inr (.inr a0)] h (none, z) := by
  refine PM.of (Y := Y_Receipts_init) (cv := (fun z : PH => (((none, z) : Option PV × PH)))) (by decide) (L0 := [some (.inr (.inr a0))]) 0 rfl (Nat.le_of_ble_eq_true rfl) ?_ hz
  unfold f_Receipts_init
  refine PJ.aload_n (pc := 0) d_Receipts_init_0 rfl ?_
  refine PJ.objO (pc := 1) wd_224 wd_161 wd_162 (Nat.le_of_ble_eq_true rfl) (Nat.le_of_ble_eq_true rfl) (Nat.le_of_ble_eq_true rfl) d_Receipts_init_1 ?_
  refine PJ.aload_n (pc := 4) d_Receipts_init_4 rfl ?_
  refine PJ.iconst (pc := 5) (v := 0) d_Receipts_init_5 (by decide) ?_
  refine PJ.putI (pc := 6) ps_Receipts_9 d_Receipts_init_6 (fun h1 => ?_)
  refine PJ.aload_n (pc := 9) d_Receipts_init_9 rfl ?_
  refine PJ.iconst (pc := 10) (v := 5) d_Receipts_init_10 (by decide) ?_
  refine PJ.newa (pc := 11) (t := 50) (N := 5) (v := .inl 0) (by decide) rfl (fun _ => rfl) wd_218 (by decide) (by decide +kernel) (by decide) (Nat.le_of_ble_eq_true rfl) (Nat.le_of_ble_eq_true rfl) d_Receipts_init_11 ?_
  refine PJ.putR (pc := 13) ps_Receipts_15 rfl d_Receipts_init_13 (fun h2 => ?_)
  refine PJ.aload_n (pc := 16) d_Receipts_init_16 rfl ?_
  refine PJ.iconst (pc := 17) (v := 5) d_Receipts_init_17 (by decide) ?_
  refine PJ.newa (pc := 18) (t := 50) (N := 5) (v := .inl 0) (by decide) rfl (fun _ => rfl) wd_218 (by decide) (by decide +kernel) (by decide) (Nat.le_of_ble_eq_true rfl) (Nat.le_of_ble_eq_true rfl) d_Receipts_init_18 ?_
  refine PJ.putR (pc := 20) ps_Receipts_19 rfl d_Receipts_init_20 (fun h3 => ?_)
  refine PJ.aload_n (pc := 23) d_Receipts_init_23 rfl ?_
  refine PJ.iconst (pc := 24) (v := 5) d_Receipts_init_24 (by decide) ?_
  refine PJ.newa (pc := 25) (t := 50) (N := 5) (v := .inl 0) (by decide) rfl (fun _ => rfl) wd_218 (by decide) (by decide +kernel) (by decide) (Nat.le_of_ble_eq_true rfl) (Nat.le_of_ble_eq_true rfl) d_Receipts_init_25 ?_
  refine PJ.putR (pc := 27) ps_Receipts_22 rfl d_Receipts_init_27 (fun h4 => ?_)
  exact PJ.vret (pc := 30) d_Receipts_init_30 rfl (Nat.le_of_ble_eq_true rfl) (Nat.le_of_ble_eq_true rfl)
theorem d_Shops_init_0 : decode Y_Shops_init.2.1 0 = .ok (.aload_n 0, 1) := by decide +kernel
theorem d_Shops_init_1 : decode Y_Shops_init.2.1 1 = .ok (.invokespecial 3, 3) := by decide +kernel
theorem d_Shops_init_4 : decode Y_Shops_init.2.1 4 = .ok (.aload_n 0, 1) := by decide +kernel
theorem d_Shops_init_5 : decode Y_Shops_init.2.1 5 = .ok (.iconst 0, 1) := by decide +kernel
theorem d_Shops_init_6 : decode Y_Shops_init.2.1 6 = .ok (.putfield 9, 3) := by decide +kernel
theorem d_Shops_init_9 : decode Y_Shops_init.2.1 9 = .ok (.aload_n 0, 1) := by decide +kernel
theorem d_Shops_init_10 : decode Y_Shops_init.2.1 10 = .ok (.iconst 0, 1) := by decide +kernel
theorem d_Shops_init_11 : decode Y_Shops_init.2.1 11 = .ok (.putfield 15, 3) := by decide +kernel
theorem d_Shops_init_14 : decode Y_Shops_init.2.1 14 = .ok (.aload_n 0, 1) := by decide +kernel
theorem d_Shops_init_15 : decode Y_Shops_init.2.1 15 = .ok (.bipush 6, 2) := by decide +kernel
theorem d_Shops_init_17 : decode Y_Shops_init.2.1 17 = .ok (.newarray .int, 2) := by decide +kernel
theorem d_Shops_init_19 : decode Y_Shops_init.2.1 19 = .ok (.putfield 18, 3) := by decide +kernel
theorem d_Shops_init_22 : decode Y_Shops_init.2.1 22 = .ok (.aload_n 0, 1) := by decide +kernel
theorem d_Shops_init_23 : decode Y_Shops_init.2.1 23 = .ok (.bipush 6, 2) := by decide +kernel
theorem d_Shops_init_25 : decode Y_Shops_init.2.1 25 = .ok (.newarray .int, 2) := by decide +kernel
theorem d_Shops_init_27 : decode Y_Shops_init.2.1 27 = .ok (.putfield 22, 3) := by decide +kernel
theorem d_Shops_init_30 : decode Y_Shops_init.2.1 30 = .ok (.return_, 1) := by decide +kernel
def f_Shops_init (h : PH) (a0 : Option Nat) : Option PH := (a0).bind fun _ => (sF h 9 a0 0 (.inl (0 : Int32))).bind fun h1 => (sF h1 9 a0 1 (.inl (0 : Int32))).bind fun h2 => (sF (h2 ++ [(50, List.replicate 6 (.inl 0))]) 9 a0 2 (.inr (.inr (some (h2).length)))).bind fun h3 => (sF (h3 ++ [(50, List.replicate 6 (.inl 0))]) 9 a0 3 (.inr (.inr (some (h3).length)))).bind fun h4 => some h4
set_option maxRecDepth 20000 in
theorem PM_Shops_init {l : Launch} {G : Cx} {h : PH} {a0 : Option Nat} {z : PH} (hz : f_Shops_init h a0 = some z) : PM l G 1 2 12 Y_Shops_init [.inr (.inr a0)] h (none, z) := by
  refine PM.of (Y := Y_Shops_init) (cv := (fun z : PH => (((none, z) : Option PV × PH)))) (by decide) (L0 := [some (.inr (.inr a0))]) 0 rfl (Nat.le_of_ble_eq_true rfl) ?_ hz
  unfold f_Shops_init
  refine PJ.aload_n (pc := 0) d_Shops_init_0 rfl ?_
  refine PJ.objO (pc := 1) wd_254 wd_161 wd_162 (Nat.le_of_ble_eq_true rfl) (Nat.le_of_ble_eq_true rfl) (Nat.le_of_ble_eq_true rfl) d_Shops_init_1 ?_
  refine PJ.aload_n (pc := 4) d_Shops_init_4 rfl ?_
  refine PJ.iconst (pc := 5) (v := 0) d_Shops_init_5 (by decide) ?_
  refine PJ.putI (pc := 6) ps_Shops_9 d_Shops_init_6 (fun h1 => ?_)
  refine PJ.aload_n (pc := 9) d_Shops_init_9 rfl ?_
  refine PJ.iconst (pc := 10) (v := 0) d_Shops_init_10 (by decide) ?_
  refine PJ.putI (pc := 11) ps_Shops_15 d_Shops_init_11 (fun h2 => ?_)
  refine PJ.aload_n (pc := 14) d_Shops_init_14 rfl ?_
  refine PJ.bipush (pc := 15) (v := 6) d_Shops_init_15 (by decide) ?_
  refine PJ.newa (pc := 17) (t := 50) (N := 6) (v := .inl 0) (by decide) rfl (fun _ => rfl) wd_218 (by decide) (by decide +kernel) (by decide) (Nat.le_of_ble_eq_true rfl) (Nat.le_of_ble_eq_true rfl) d_Shops_init_17 ?_
  refine PJ.putR (pc := 19) ps_Shops_18 rfl d_Shops_init_19 (fun h3 => ?_)
  refine PJ.aload_n (pc := 22) d_Shops_init_22 rfl ?_
  refine PJ.bipush (pc := 23) (v := 6) d_Shops_init_23 (by decide) ?_
  refine PJ.newa (pc := 25) (t := 50) (N := 6) (v := .inl 0) (by decide) rfl (fun _ => rfl) wd_218 (by decide) (by decide +kernel) (by decide) (Nat.le_of_ble_eq_true rfl) (Nat.le_of_ble_eq_true rfl) d_Shops_init_25 ?_
  refine PJ.putR (pc := 27) ps_Shops_22 rfl d_Shops_init_27 (fun h4 => ?_)
  exact PJ.vret (pc := 30) d_Shops_init_30 rfl (Nat.le_of_ble_eq_true rfl) (Nat.le_of_ble_eq_true rfl)
theorem d_Law_init_0 : decode Y_Law_init.2.1 0 = .ok (.aload_n 0, 1) := by decide +kernel
theorem d_Law_init_1 : decode Y_Law_init.2.1 1 = .ok (.invokespecial 3, 3) := by decide +kernel
theorem d_Law_init_4 : decode Y_Law_init.2.1 4 = .ok (.aload_n 0, 1) := by decide +kernel
theorem d_Law_init_5 : decode Y_Law_init.2.1 5 = .ok (.iconst 0, 1) := by decide +kernel
theorem d_Law_init_6 : decode Y_Law_init.2.1 6 = .ok (.putfield 9, 3) := by decide +kernel
theorem d_Law_init_9 : decode Y_Law_init.2.1 9 = .ok (.aload_n 0, 1) := by decide +kernel
theorem d_Law_init_10 : decode Y_Law_init.2.1 10 = .ok (.iconst 0, 1) := by decide +kernel
theorem d_Law_init_11 : decode Y_Law_init.2.1 11 = .ok (.putfield 15, 3) := by decide +kernel
theorem d_Law_init_14 : decode Y_Law_init.2.1 14 = .ok (.aload_n 0, 1) := by decide +kernel
theorem d_Law_init_15 : decode Y_Law_init.2.1 15 = .ok (.iconst 0, 1) := by decide +kernel
theorem d_Law_init_16 : decode Y_Law_init.2.1 16 = .ok (.putfield 18, 3) := by decide +kernel
theorem d_Law_init_19 : decode Y_Law_init.2.1 19 = .ok (.aload_n 0, 1) := by decide +kernel
theorem d_Law_init_20 : decode Y_Law_init.2.1 20 = .ok (.iconst 0, 1) := by decide +kernel
theorem d_Law_init_21 : decode Y_Law_init.2.1 21 = .ok (.putfield 21, 3) := by decide +kernel
theorem d_Law_init_24 : decode Y_Law_init.2.1 24 = .ok (.aload_n 0, 1) := by decide +kernel
theorem d_Law_init_25 : decode Y_Law_init.2.1 25 = .ok (.iconst 0, 1) := by decide +kernel
theorem d_Law_init_26 : decode Y_Law_init.2.1 26 = .ok (.putfield 24, 3) := by decide +kernel
theorem d_Law_init_29 : decode Y_Law_init.2.1 29 = .ok (.aload_n 0, 1) := by decide +kernel
theorem d_Law_init_30 : decode Y_Law_init.2.1 30 = .ok (.iconst 5, 1) := by decide +kernel
theorem d_Law_init_31 : decode Y_Law_init.2.1 31 = .ok (.iconst 5, 1) := by decide +kernel
theorem d_Law_init_32 : decode Y_Law_init.2.1 32 = .ok (.multianewarray 27 2, 4) := by decide +kernel
theorem d_Law_init_36 : decode Y_Law_init.2.1 36 = .ok (.putfield 29, 3) := by decide +kernel
theorem d_Law_init_39 : decode Y_Law_init.2.1 39 = .ok (.aload_n 0, 1) := by decide +kernel
theorem d_Law_init_40 : decode Y_Law_init.2.1 40 = .ok (.iconst 5, 1) := by decide +kernel
theorem d_Law_init_41 : decode Y_Law_init.2.1 41 = .ok (.newarray .int, 2) := by decide +kernel
theorem d_Law_init_43 : decode Y_Law_init.2.1 43 = .ok (.putfield 32, 3) := by decide +kernel
theorem d_Law_init_46 : decode Y_Law_init.2.1 46 = .ok (.aload_n 0, 1) := by decide +kernel
theorem d_Law_init_47 : decode Y_Law_init.2.1 47 = .ok (.iconst 5, 1) := by decide +kernel
theorem d_Law_init_48 : decode Y_Law_init.2.1 48 = .ok (.newarray .int, 2) := by decide +kernel
theorem d_Law_init_50 : decode Y_Law_init.2.1 50 = .ok (.putfield 36, 3) := by decide +kernel
theorem d_Law_init_53 : decode Y_Law_init.2.1 53 = .ok (.aload_n 0, 1) := by decide +kernel
theorem d_Law_init_54 : decode Y_Law_init.2.1 54 = .ok (.iconst 5, 1) := by decide +kernel
theorem d_Law_init_55 : decode Y_Law_init.2.1 55 = .ok (.iconst 5, 1) := by decide +kernel
theorem d_Law_init_56 : decode Y_Law_init.2.1 56 = .ok (.multianewarray 27 2, 4) := by decide +kernel
theorem d_Law_init_60 : decode Y_Law_init.2.1 60 = .ok (.putfield 39, 3) := by decide +kernel
theorem d_Law_init_63 : decode Y_Law_init.2.1 63 = .ok (.aload_n 0, 1) := by decide +kernel
theorem d_Law_init_64 : decode Y_Law_init.2.1 64 = .ok (.iconst 5, 1) := by decide +kernel
theorem d_Law_init_65 : decode Y_Law_init.2.1 65 = .ok (.newarray .int, 2) := by decide +kernel
theorem d_Law_init_67 : decode Y_Law_init.2.1 67 = .ok (.putfield 42, 3) := by decide +kernel
theorem d_Law_init_70 : decode Y_Law_init.2.1 70 = .ok (.aload_n 0, 1) := by decide +kernel
theorem d_Law_init_71 : decode Y_Law_init.2.1 71 = .ok (.new 45, 3) := by decide +kernel
theorem d_Law_init_74 : decode Y_Law_init.2.1 74 = .ok (.dup, 1) := by decide +kernel
theorem d_Law_init_75 : decode Y_Law_init.2.1 75 = .ok (.invokespecial 47, 3) := by decide +kernel
theorem d_Law_init_78 : decode Y_Law_init.2.1 78 = .ok (.putfield 48, 3) := by decide +kernel
theorem d_Law_init_81 : decode Y_Law_init.2.1 81 = .ok (.aload_n 0, 1) := by decide +kernel
theorem d_Law_init_82 : decode Y_Law_init.2.1 82 = .ok (.new 52, 3) := by decide +kernel
theorem d_Law_init_85 : decode Y_Law_init.2.1 85 = .ok (.dup, 1) := by decide +kernel
theorem d_Law_init_86 : decode Y_Law_init.2.1 86 = .ok (.invokespecial 54, 3) := by decide +kernel
theorem d_Law_init_89 : decode Y_Law_init.2.1 89 = .ok (.putfield 55, 3) := by decide +kernel
theorem d_Law_init_92 : decode Y_Law_init.2.1 92 = .ok (.aload_n 0, 1) := by decide +kernel
theorem d_Law_init_93 : decode Y_Law_init.2.1 93 = .ok (.new 59, 3) := by decide +kernel
theorem d_Law_init_96 : decode Y_Law_init.2.1 96 = .ok (.dup, 1) := by decide +kernel
theorem d_Law_init_97 : decode Y_Law_init.2.1 97 = .ok (.invokespecial 61, 3) := by decide +kernel
theorem d_Law_init_100 : decode Y_Law_init.2.1 100 = .ok (.putfield 62, 3) := by decide +kernel
theorem d_Law_init_103 : decode Y_Law_init.2.1 103 = .ok (.return_, 1) := by decide +kernel
def f_Law_init (h : PH) (a0 : Option Nat) : Option PH := (a0).bind fun _ => (sF h 1 a0 0 (.inl (0 : Int32))).bind fun h1 => (sF h1 1 a0 1 (.inl (0 : Int32))).bind fun h2 => (sF h2 1 a0 2 (.inl (0 : Int32))).bind fun h3 => (sF h3 1 a0 3 (.inl (0 : Int32))).bind fun h4 => (sF h4 1 a0 4 (.inl (0 : Int32))).bind fun h5 => (sF (nM h5 5 5) 1 a0 5 (.inr (.inr (some (h5).length)))).bind fun h6 => (sF (h6 ++ [(50, List.replicate 5 (.inl 0))]) 1 a0 6 (.inr (.inr (some (h6).length)))).bind fun h7 => (sF (h7 ++ [(50, List.replicate 5 (.inl 0))]) 1 a0 7 (.inr (.inr (some (h7).length)))).bind fun h8 => (sF (nM h8 5 5) 1 a0 8 (.inr (.inr (some (h8).length)))).bind fun h9 => (sF (h9 ++ [(50, List.replicate 5 (.inl 0))]) 1 a0 9 (.inr (.inr (some (h9).length)))).bind fun h10 => (f_Reasons_init (h10 ++ [(6, pj_new 6)]) (some (h10).length)).bind fun h11 => (sF h11 1 a0 10 (.inr (.inr (some (h10).length)))).bind fun h12 => (f_Receipts_init (h12 ++ [(7, pj_new 7)]) (some (h12).length)).bind fun h13 => (sF h13 1 a0 11 (.inr (.inr (some (h12).length)))).bind fun h14 => (f_Shops_init (h14 ++ [(9, pj_new 9)]) (some (h14).length)).bind fun h15 => (sF h15 1 a0 12 (.inr (.inr (some (h14).length)))).bind fun h16 => some h16
set_option maxRecDepth 20000 in
theorem PM_Law_init {l : Launch} {G : Cx} {h : PH} {a0 : Option Nat} {z : PH} (hz : f_Law_init h a0 = some z) : PM l G 2 28 136 Y_Law_init [.inr (.inr a0)] h (none, z) := by
  refine PM.of (Y := Y_Law_init) (cv := (fun z : PH => (((none, z) : Option PV × PH)))) (by decide) (L0 := [some (.inr (.inr a0))]) 0 rfl (Nat.le_of_ble_eq_true rfl) ?_ hz
  unfold f_Law_init
  refine PJ.aload_n (pc := 0) d_Law_init_0 rfl ?_
  refine PJ.objO (pc := 1) wd_168 wd_161 wd_162 (Nat.le_of_ble_eq_true rfl) (Nat.le_of_ble_eq_true rfl) (Nat.le_of_ble_eq_true rfl) d_Law_init_1 ?_
  refine PJ.aload_n (pc := 4) d_Law_init_4 rfl ?_
  refine PJ.iconst (pc := 5) (v := 0) d_Law_init_5 (by decide) ?_
  refine PJ.putI (pc := 6) ps_Law_9 d_Law_init_6 (fun h1 => ?_)
  refine PJ.aload_n (pc := 9) d_Law_init_9 rfl ?_
  refine PJ.iconst (pc := 10) (v := 0) d_Law_init_10 (by decide) ?_
  refine PJ.putI (pc := 11) ps_Law_15 d_Law_init_11 (fun h2 => ?_)
  refine PJ.aload_n (pc := 14) d_Law_init_14 rfl ?_
  refine PJ.iconst (pc := 15) (v := 0) d_Law_init_15 (by decide) ?_
  refine PJ.putI (pc := 16) ps_Law_18 d_Law_init_16 (fun h3 => ?_)
  refine PJ.aload_n (pc := 19) d_Law_init_19 rfl ?_
  refine PJ.iconst (pc := 20) (v := 0) d_Law_init_20 (by decide) ?_
  refine PJ.putI (pc := 21) ps_Law_21 d_Law_init_21 (fun h4 => ?_)
  refine PJ.aload_n (pc := 24) d_Law_init_24 rfl ?_
  refine PJ.iconst (pc := 25) (v := 0) d_Law_init_25 (by decide) ?_
  refine PJ.putI (pc := 26) ps_Law_24 d_Law_init_26 (fun h5 => ?_)
  refine PJ.aload_n (pc := 29) d_Law_init_29 rfl ?_
  refine PJ.iconst (pc := 30) (v := 5) d_Law_init_30 (by decide) ?_
  refine PJ.iconst (pc := 31) (v := 5) d_Law_init_31 (by decide) ?_
  refine PJ.mnew (pc := 32) (N := 5) (K := 5) wd_169 wd_218 (by decide) (by decide) (by decide +kernel) (by decide +kernel) (by decide) (by decide) (by decide) (Nat.le_of_ble_eq_true rfl) (Nat.le_of_ble_eq_true rfl) d_Law_init_32 ?_
  refine PJ.putR (pc := 36) ps_Law_29 rfl d_Law_init_36 (fun h6 => ?_)
  refine PJ.aload_n (pc := 39) d_Law_init_39 rfl ?_
  refine PJ.iconst (pc := 40) (v := 5) d_Law_init_40 (by decide) ?_
  refine PJ.newa (pc := 41) (t := 50) (N := 5) (v := .inl 0) (by decide) rfl (fun _ => rfl) wd_218 (by decide) (by decide +kernel) (by decide) (Nat.le_of_ble_eq_true rfl) (Nat.le_of_ble_eq_true rfl) d_Law_init_41 ?_
  refine PJ.putR (pc := 43) ps_Law_32 rfl d_Law_init_43 (fun h7 => ?_)
  refine PJ.aload_n (pc := 46) d_Law_init_46 rfl ?_
  refine PJ.iconst (pc := 47) (v := 5) d_Law_init_47 (by decide) ?_
  refine PJ.newa (pc := 48) (t := 50) (N := 5) (v := .inl 0) (by decide) rfl (fun _ => rfl) wd_218 (by decide) (by decide +kernel) (by decide) (Nat.le_of_ble_eq_true rfl) (Nat.le_of_ble_eq_true rfl) d_Law_init_48 ?_
  refine PJ.putR (pc := 50) ps_Law_36 rfl d_Law_init_50 (fun h8 => ?_)
  refine PJ.aload_n (pc := 53) d_Law_init_53 rfl ?_
  refine PJ.iconst (pc := 54) (v := 5) d_Law_init_54 (by decide) ?_
  refine PJ.iconst (pc := 55) (v := 5) d_Law_init_55 (by decide) ?_
  refine PJ.mnew (pc := 56) (N := 5) (K := 5) wd_169 wd_218 (by decide) (by decide) (by decide +kernel) (by decide +kernel) (by decide) (by decide) (by decide) (Nat.le_of_ble_eq_true rfl) (Nat.le_of_ble_eq_true rfl) d_Law_init_56 ?_
  refine PJ.putR (pc := 60) ps_Law_39 rfl d_Law_init_60 (fun h9 => ?_)
  refine PJ.aload_n (pc := 63) d_Law_init_63 rfl ?_
  refine PJ.iconst (pc := 64) (v := 5) d_Law_init_64 (by decide) ?_
  refine PJ.newa (pc := 65) (t := 50) (N := 5) (v := .inl 0) (by decide) rfl (fun _ => rfl) wd_218 (by decide) (by decide +kernel) (by decide) (Nat.le_of_ble_eq_true rfl) (Nat.le_of_ble_eq_true rfl) d_Law_init_65 ?_
  refine PJ.putR (pc := 67) ps_Law_42 rfl d_Law_init_67 (fun h10 => ?_)
  refine PJ.aload_n (pc := 70) d_Law_init_70 rfl ?_
  refine PJ.new (pc := 71) (ci := 6) (idx := 45) cd_6 rfl (fun _ => cn_6) wd_171 wd_172 wd_132 (Nat.le_of_ble_eq_true rfl) (Nat.le_of_ble_eq_true rfl) d_Law_init_71 ?_
  refine PJ.dup (pc := 74) d_Law_init_74 rfl ?_
  refine PJ.cIVx (pc := 75) cs_Law_47 (fun z hz => PM_Reasons_init hz) (pj_fitb rfl) rfl rfl (Nat.le_of_ble_eq_true rfl) d_Law_init_75 (fun h11 => ?_)
  refine PJ.putR (pc := 78) ps_Law_48 rfl d_Law_init_78 (fun h12 => ?_)
  refine PJ.aload_n (pc := 81) d_Law_init_81 rfl ?_
  refine PJ.new (pc := 82) (ci := 7) (idx := 52) cd_7 rfl (fun _ => cn_7) wd_219 wd_220 wd_133 (Nat.le_of_ble_eq_true rfl) (Nat.le_of_ble_eq_true rfl) d_Law_init_82 ?_
  refine PJ.dup (pc := 85) d_Law_init_85 rfl ?_
  refine PJ.cIVx (pc := 86) cs_Law_54 (fun z hz => PM_Receipts_init hz) (pj_fitb rfl) rfl rfl (Nat.le_of_ble_eq_true rfl) d_Law_init_86 (fun h13 => ?_)
  refine PJ.putR (pc := 89) ps_Law_55 rfl d_Law_init_89 (fun h14 => ?_)
  refine PJ.aload_n (pc := 92) d_Law_init_92 rfl ?_
  refine PJ.new (pc := 93) (ci := 9) (idx := 59) cd_9 rfl (fun _ => cn_9) wd_249 wd_250 wd_134 (Nat.le_of_ble_eq_true rfl) (Nat.le_of_ble_eq_true rfl) d_Law_init_93 ?_
  refine PJ.dup (pc := 96) d_Law_init_96 rfl ?_
  refine PJ.cIVx (pc := 97) cs_Law_61 (fun z hz => PM_Shops_init hz) (pj_fitb rfl) rfl rfl (Nat.le_of_ble_eq_true rfl) d_Law_init_97 (fun h15 => ?_)
  refine PJ.putR (pc := 100) ps_Law_62 rfl d_Law_init_100 (fun h16 => ?_)
  exact PJ.vret (pc := 103) d_Law_init_103 rfl (Nat.le_of_ble_eq_true rfl) (Nat.le_of_ble_eq_true rfl)
theorem d_Reader_init_0 : decode Y_Reader_init.2.1 0 = .ok (.aload_n 0, 1) := by decide +kernel
theorem d_Reader_init_1 : decode Y_Reader_init.2.1 1 = .ok (.invokespecial 3, 3) := by decide +kernel
theorem d_Reader_init_4 : decode Y_Reader_init.2.1 4 = .ok (.aload_n 0, 1) := by decide +kernel
theorem d_Reader_init_5 : decode Y_Reader_init.2.1 5 = .ok (.iconst 0, 1) := by decide +kernel
theorem d_Reader_init_6 : decode Y_Reader_init.2.1 6 = .ok (.putfield 9, 3) := by decide +kernel
theorem d_Reader_init_9 : decode Y_Reader_init.2.1 9 = .ok (.aload_n 0, 1) := by decide +kernel
theorem d_Reader_init_10 : decode Y_Reader_init.2.1 10 = .ok (.iconst 0, 1) := by decide +kernel
theorem d_Reader_init_11 : decode Y_Reader_init.2.1 11 = .ok (.putfield 15, 3) := by decide +kernel
theorem d_Reader_init_14 : decode Y_Reader_init.2.1 14 = .ok (.aload_n 0, 1) := by decide +kernel
theorem d_Reader_init_15 : decode Y_Reader_init.2.1 15 = .ok (.iconst 0, 1) := by decide +kernel
theorem d_Reader_init_16 : decode Y_Reader_init.2.1 16 = .ok (.putfield 19, 3) := by decide +kernel
theorem d_Reader_init_19 : decode Y_Reader_init.2.1 19 = .ok (.aload_n 0, 1) := by decide +kernel
theorem d_Reader_init_20 : decode Y_Reader_init.2.1 20 = .ok (.iconst 0, 1) := by decide +kernel
theorem d_Reader_init_21 : decode Y_Reader_init.2.1 21 = .ok (.putfield 22, 3) := by decide +kernel
theorem d_Reader_init_24 : decode Y_Reader_init.2.1 24 = .ok (.aload_n 0, 1) := by decide +kernel
theorem d_Reader_init_25 : decode Y_Reader_init.2.1 25 = .ok (.iconst 0, 1) := by decide +kernel
theorem d_Reader_init_26 : decode Y_Reader_init.2.1 26 = .ok (.putfield 25, 3) := by decide +kernel
theorem d_Reader_init_29 : decode Y_Reader_init.2.1 29 = .ok (.aload_n 0, 1) := by decide +kernel
theorem d_Reader_init_30 : decode Y_Reader_init.2.1 30 = .ok (.iconst 0, 1) := by decide +kernel
theorem d_Reader_init_31 : decode Y_Reader_init.2.1 31 = .ok (.putfield 28, 3) := by decide +kernel
theorem d_Reader_init_34 : decode Y_Reader_init.2.1 34 = .ok (.aload_n 0, 1) := by decide +kernel
theorem d_Reader_init_35 : decode Y_Reader_init.2.1 35 = .ok (.iconst 0, 1) := by decide +kernel
theorem d_Reader_init_36 : decode Y_Reader_init.2.1 36 = .ok (.putfield 31, 3) := by decide +kernel
theorem d_Reader_init_39 : decode Y_Reader_init.2.1 39 = .ok (.aload_n 0, 1) := by decide +kernel
theorem d_Reader_init_40 : decode Y_Reader_init.2.1 40 = .ok (.iconst 0, 1) := by decide +kernel
theorem d_Reader_init_41 : decode Y_Reader_init.2.1 41 = .ok (.putfield 34, 3) := by decide +kernel
theorem d_Reader_init_44 : decode Y_Reader_init.2.1 44 = .ok (.aload_n 0, 1) := by decide +kernel
theorem d_Reader_init_45 : decode Y_Reader_init.2.1 45 = .ok (.bipush 16, 2) := by decide +kernel
theorem d_Reader_init_47 : decode Y_Reader_init.2.1 47 = .ok (.newarray .int, 2) := by decide +kernel
theorem d_Reader_init_49 : decode Y_Reader_init.2.1 49 = .ok (.putfield 37, 3) := by decide +kernel
theorem d_Reader_init_52 : decode Y_Reader_init.2.1 52 = .ok (.aload_n 0, 1) := by decide +kernel
theorem d_Reader_init_53 : decode Y_Reader_init.2.1 53 = .ok (.bipush 16, 2) := by decide +kernel
theorem d_Reader_init_55 : decode Y_Reader_init.2.1 55 = .ok (.newarray .int, 2) := by decide +kernel
theorem d_Reader_init_57 : decode Y_Reader_init.2.1 57 = .ok (.putfield 41, 3) := by decide +kernel
theorem d_Reader_init_60 : decode Y_Reader_init.2.1 60 = .ok (.aload_n 0, 1) := by decide +kernel
theorem d_Reader_init_61 : decode Y_Reader_init.2.1 61 = .ok (.bipush 16, 2) := by decide +kernel
theorem d_Reader_init_63 : decode Y_Reader_init.2.1 63 = .ok (.newarray .int, 2) := by decide +kernel
theorem d_Reader_init_65 : decode Y_Reader_init.2.1 65 = .ok (.putfield 44, 3) := by decide +kernel
theorem d_Reader_init_68 : decode Y_Reader_init.2.1 68 = .ok (.aload_n 0, 1) := by decide +kernel
theorem d_Reader_init_69 : decode Y_Reader_init.2.1 69 = .ok (.bipush 16, 2) := by decide +kernel
theorem d_Reader_init_71 : decode Y_Reader_init.2.1 71 = .ok (.newarray .int, 2) := by decide +kernel
theorem d_Reader_init_73 : decode Y_Reader_init.2.1 73 = .ok (.putfield 47, 3) := by decide +kernel
theorem d_Reader_init_76 : decode Y_Reader_init.2.1 76 = .ok (.aload_n 0, 1) := by decide +kernel
theorem d_Reader_init_77 : decode Y_Reader_init.2.1 77 = .ok (.aload_n 1, 1) := by decide +kernel
theorem d_Reader_init_78 : decode Y_Reader_init.2.1 78 = .ok (.putfield 50, 3) := by decide +kernel
theorem d_Reader_init_81 : decode Y_Reader_init.2.1 81 = .ok (.aload_n 0, 1) := by decide +kernel
theorem d_Reader_init_82 : decode Y_Reader_init.2.1 82 = .ok (.aload_n 2, 1) := by decide +kernel
theorem d_Reader_init_83 : decode Y_Reader_init.2.1 83 = .ok (.putfield 54, 3) := by decide +kernel
theorem d_Reader_init_86 : decode Y_Reader_init.2.1 86 = .ok (.return_, 1) := by decide +kernel
def f_Reader_init (h : PH) (a0 : Option Nat) (a1 : Option Nat) (a2 : Option Nat) : Option PH := (a0).bind fun _ => (sF h 5 a0 1 (.inl (0 : Int32))).bind fun h1 => (sZ h1 5 a0 3 (0 : Int32)).bind fun h2 => (sF h2 5 a0 4 (.inl (0 : Int32))).bind fun h3 => (sF h3 5 a0 5 (.inl (0 : Int32))).bind fun h4 => (sF h4 5 a0 6 (.inl (0 : Int32))).bind fun h5 => (sF h5 5 a0 7 (.inl (0 : Int32))).bind fun h6 => (sF h6 5 a0 8 (.inl (0 : Int32))).bind fun h7 => (sF h7 5 a0 9 (.inl (0 : Int32))).bind fun h8 => (sF (h8 ++ [(50, List.replicate 16 (.inl 0))]) 5 a0 10 (.inr (.inr (some (h8).length)))).bind fun h9 => (sF (h9 ++ [(50, List.replicate 16 (.inl 0))]) 5 a0 11 (.inr (.inr (some (h9).length)))).bind fun h10 => (sF (h10 ++ [(50, List.replicate 16 (.inl 0))]) 5 a0 12 (.inr (.inr (some (h10).length)))).bind fun h11 => (sF (h11 ++ [(50, List.replicate 16 (.inl 0))]) 5 a0 13 (.inr (.inr (some (h11).length)))).bind fun h12 => (sF h12 5 a0 0 (.inr (.inr a1))).bind fun h13 => (sF h13 5 a0 2 (.inr (.inr a2))).bind fun h14 => some h14
set_option maxRecDepth 20000 in
theorem PM_Reader_init {l : Launch} {G : Cx} {h : PH} {a0 : Option Nat} {a1 : Option Nat} {a2 : Option Nat} {z : PH} (hz : f_Reader_init h a0 a1 a2 = some z) : PM l G 1 4 64 Y_Reader_init [.inr (.inr a0), .inr (.inr a1), .inr (.inr a2)] h (none, z) := by
  refine PM.of (Y := Y_Reader_init) (cv := (fun z : PH => (((none, z) : Option PV × PH)))) (by decide) (L0 := [some (.inr (.inr a0)), some (.inr (.inr a1)), some (.inr (.inr a2))]) 0 rfl (Nat.le_of_ble_eq_true rfl) ?_ hz
  unfold f_Reader_init
  refine PJ.aload_n (pc := 0) d_Reader_init_0 rfl ?_
  refine PJ.objO (pc := 1) wd_356 wd_161 wd_162 (Nat.le_of_ble_eq_true rfl) (Nat.le_of_ble_eq_true rfl) (Nat.le_of_ble_eq_true rfl) d_Reader_init_1 ?_
  refine PJ.aload_n (pc := 4) d_Reader_init_4 rfl ?_
  refine PJ.iconst (pc := 5) (v := 0) d_Reader_init_5 (by decide) ?_
  refine PJ.putI (pc := 6) ps_Reader_9 d_Reader_init_6 (fun h1 => ?_)
  refine PJ.aload_n (pc := 9) d_Reader_init_9 rfl ?_
  refine PJ.iconst (pc := 10) (v := 0) d_Reader_init_10 (by decide) ?_
  refine PJ.putZ (pc := 11) ps_Reader_15 d_Reader_init_11 (fun h2 => ?_)
  refine PJ.aload_n (pc := 14) d_Reader_init_14 rfl ?_
  refine PJ.iconst (pc := 15) (v := 0) d_Reader_init_15 (by decide) ?_
  refine PJ.putI (pc := 16) ps_Reader_19 d_Reader_init_16 (fun h3 => ?_)
  refine PJ.aload_n (pc := 19) d_Reader_init_19 rfl ?_
  refine PJ.iconst (pc := 20) (v := 0) d_Reader_init_20 (by decide) ?_
  refine PJ.putI (pc := 21) ps_Reader_22 d_Reader_init_21 (fun h4 => ?_)
  refine PJ.aload_n (pc := 24) d_Reader_init_24 rfl ?_
  refine PJ.iconst (pc := 25) (v := 0) d_Reader_init_25 (by decide) ?_
  refine PJ.putI (pc := 26) ps_Reader_25 d_Reader_init_26 (fun h5 => ?_)
  refine PJ.aload_n (pc := 29) d_Reader_init_29 rfl ?_
  refine PJ.iconst (pc := 30) (v := 0) d_Reader_init_30 (by decide) ?_
  refine PJ.putI (pc := 31) ps_Reader_28 d_Reader_init_31 (fun h6 => ?_)
  refine PJ.aload_n (pc := 34) d_Reader_init_34 rfl ?_
  refine PJ.iconst (pc := 35) (v := 0) d_Reader_init_35 (by decide) ?_
  refine PJ.putI (pc := 36) ps_Reader_31 d_Reader_init_36 (fun h7 => ?_)
  refine PJ.aload_n (pc := 39) d_Reader_init_39 rfl ?_
  refine PJ.iconst (pc := 40) (v := 0) d_Reader_init_40 (by decide) ?_
  refine PJ.putI (pc := 41) ps_Reader_34 d_Reader_init_41 (fun h8 => ?_)
  refine PJ.aload_n (pc := 44) d_Reader_init_44 rfl ?_
  refine PJ.bipush (pc := 45) (v := 16) d_Reader_init_45 (by decide) ?_
  refine PJ.newa (pc := 47) (t := 50) (N := 16) (v := .inl 0) (by decide) rfl (fun _ => rfl) wd_218 (by decide) (by decide +kernel) (by decide) (Nat.le_of_ble_eq_true rfl) (Nat.le_of_ble_eq_true rfl) d_Reader_init_47 ?_
  refine PJ.putR (pc := 49) ps_Reader_37 rfl d_Reader_init_49 (fun h9 => ?_)
  refine PJ.aload_n (pc := 52) d_Reader_init_52 rfl ?_
  refine PJ.bipush (pc := 53) (v := 16) d_Reader_init_53 (by decide) ?_
  refine PJ.newa (pc := 55) (t := 50) (N := 16) (v := .inl 0) (by decide) rfl (fun _ => rfl) wd_218 (by decide) (by decide +kernel) (by decide) (Nat.le_of_ble_eq_true rfl) (Nat.le_of_ble_eq_true rfl) d_Reader_init_55 ?_
  refine PJ.putR (pc := 57) ps_Reader_41 rfl d_Reader_init_57 (fun h10 => ?_)
  refine PJ.aload_n (pc := 60) d_Reader_init_60 rfl ?_
  refine PJ.bipush (pc := 61) (v := 16) d_Reader_init_61 (by decide) ?_
  refine PJ.newa (pc := 63) (t := 50) (N := 16) (v := .inl 0) (by decide) rfl (fun _ => rfl) wd_218 (by decide) (by decide +kernel) (by decide) (Nat.le_of_ble_eq_true rfl) (Nat.le_of_ble_eq_true rfl) d_Reader_init_63 ?_
  refine PJ.putR (pc := 65) ps_Reader_44 rfl d_Reader_init_65 (fun h11 => ?_)
  refine PJ.aload_n (pc := 68) d_Reader_init_68 rfl ?_
  refine PJ.bipush (pc := 69) (v := 16) d_Reader_init_69 (by decide) ?_
  refine PJ.newa (pc := 71) (t := 50) (N := 16) (v := .inl 0) (by decide) rfl (fun _ => rfl) wd_218 (by decide) (by decide +kernel) (by decide) (Nat.le_of_ble_eq_true rfl) (Nat.le_of_ble_eq_true rfl) d_Reader_init_71 ?_
  refine PJ.putR (pc := 73) ps_Reader_47 rfl d_Reader_init_73 (fun h12 => ?_)
  refine PJ.aload_n (pc := 76) d_Reader_init_76 rfl ?_
  refine PJ.aload_n (pc := 77) d_Reader_init_77 rfl ?_
  refine PJ.putR (pc := 78) ps_Reader_50 rfl d_Reader_init_78 (fun h13 => ?_)
  refine PJ.aload_n (pc := 81) d_Reader_init_81 rfl ?_
  refine PJ.aload_n (pc := 82) d_Reader_init_82 rfl ?_
  refine PJ.putR (pc := 83) ps_Reader_54 rfl d_Reader_init_83 (fun h14 => ?_)
  exact PJ.vret (pc := 86) d_Reader_init_86 rfl (Nat.le_of_ble_eq_true rfl) (Nat.le_of_ble_eq_true rfl)
theorem d_Now_init_0 : decode Y_Now_init.2.1 0 = .ok (.aload_n 0, 1) := by decide +kernel
theorem d_Now_init_1 : decode Y_Now_init.2.1 1 = .ok (.invokespecial 3, 3) := by decide +kernel
theorem d_Now_init_4 : decode Y_Now_init.2.1 4 = .ok (.aload_n 0, 1) := by decide +kernel
theorem d_Now_init_5 : decode Y_Now_init.2.1 5 = .ok (.iconst 0, 1) := by decide +kernel
theorem d_Now_init_6 : decode Y_Now_init.2.1 6 = .ok (.putfield 9, 3) := by decide +kernel
theorem d_Now_init_9 : decode Y_Now_init.2.1 9 = .ok (.aload_n 0, 1) := by decide +kernel
theorem d_Now_init_10 : decode Y_Now_init.2.1 10 = .ok (.iconst 0, 1) := by decide +kernel
theorem d_Now_init_11 : decode Y_Now_init.2.1 11 = .ok (.putfield 15, 3) := by decide +kernel
theorem d_Now_init_14 : decode Y_Now_init.2.1 14 = .ok (.aload_n 0, 1) := by decide +kernel
theorem d_Now_init_15 : decode Y_Now_init.2.1 15 = .ok (.iconst 0, 1) := by decide +kernel
theorem d_Now_init_16 : decode Y_Now_init.2.1 16 = .ok (.putfield 18, 3) := by decide +kernel
theorem d_Now_init_19 : decode Y_Now_init.2.1 19 = .ok (.aload_n 0, 1) := by decide +kernel
theorem d_Now_init_20 : decode Y_Now_init.2.1 20 = .ok (.iconst 5, 1) := by decide +kernel
theorem d_Now_init_21 : decode Y_Now_init.2.1 21 = .ok (.newarray .int, 2) := by decide +kernel
theorem d_Now_init_23 : decode Y_Now_init.2.1 23 = .ok (.putfield 21, 3) := by decide +kernel
theorem d_Now_init_26 : decode Y_Now_init.2.1 26 = .ok (.aload_n 0, 1) := by decide +kernel
theorem d_Now_init_27 : decode Y_Now_init.2.1 27 = .ok (.iconst 5, 1) := by decide +kernel
theorem d_Now_init_28 : decode Y_Now_init.2.1 28 = .ok (.newarray .int, 2) := by decide +kernel
theorem d_Now_init_30 : decode Y_Now_init.2.1 30 = .ok (.putfield 25, 3) := by decide +kernel
theorem d_Now_init_33 : decode Y_Now_init.2.1 33 = .ok (.aload_n 0, 1) := by decide +kernel
theorem d_Now_init_34 : decode Y_Now_init.2.1 34 = .ok (.iconst 5, 1) := by decide +kernel
theorem d_Now_init_35 : decode Y_Now_init.2.1 35 = .ok (.newarray .int, 2) := by decide +kernel
theorem d_Now_init_37 : decode Y_Now_init.2.1 37 = .ok (.putfield 28, 3) := by decide +kernel
theorem d_Now_init_40 : decode Y_Now_init.2.1 40 = .ok (.aload_n 0, 1) := by decide +kernel
theorem d_Now_init_41 : decode Y_Now_init.2.1 41 = .ok (.iconst 5, 1) := by decide +kernel
theorem d_Now_init_42 : decode Y_Now_init.2.1 42 = .ok (.newarray .int, 2) := by decide +kernel
theorem d_Now_init_44 : decode Y_Now_init.2.1 44 = .ok (.putfield 31, 3) := by decide +kernel
theorem d_Now_init_47 : decode Y_Now_init.2.1 47 = .ok (.return_, 1) := by decide +kernel
def f_Now_init (h : PH) (a0 : Option Nat) : Option PH := (a0).bind fun _ => (sF h 2 a0 0 (.inl (0 : Int32))).bind fun h1 => (sF h1 2 a0 1 (.inl (0 : Int32))).bind fun h2 => (sF h2 2 a0 2 (.inl (0 : Int32))).bind fun h3 => (sF (h3 ++ [(50, List.replicate 5 (.inl 0))]) 2 a0 3 (.inr (.inr (some (h3).length)))).bind fun h4 => (sF (h4 ++ [(50, List.replicate 5 (.inl 0))]) 2 a0 4 (.inr (.inr (some (h4).length)))).bind fun h5 => (sF (h5 ++ [(50, List.replicate 5 (.inl 0))]) 2 a0 5 (.inr (.inr (some (h5).length)))).bind fun h6 => (sF (h6 ++ [(50, List.replicate 5 (.inl 0))]) 2 a0 6 (.inr (.inr (some (h6).length)))).bind fun h7 => some h7
set_option maxRecDepth 20000 in
theorem PM_Now_init {l : Launch} {G : Cx} {h : PH} {a0 : Option Nat} {z : PH} (hz : f_Now_init h a0 = some z) : PM l G 1 4 20 Y_Now_init [.inr (.inr a0)] h (none, z) := by
  refine PM.of (Y := Y_Now_init) (cv := (fun z : PH => (((none, z) : Option PV × PH)))) (by decide) (L0 := [some (.inr (.inr a0))]) 0 rfl (Nat.le_of_ble_eq_true rfl) ?_ hz
  unfold f_Now_init
  refine PJ.aload_n (pc := 0) d_Now_init_0 rfl ?_
  refine PJ.objO (pc := 1) wd_406 wd_161 wd_162 (Nat.le_of_ble_eq_true rfl) (Nat.le_of_ble_eq_true rfl) (Nat.le_of_ble_eq_true rfl) d_Now_init_1 ?_
  refine PJ.aload_n (pc := 4) d_Now_init_4 rfl ?_
  refine PJ.iconst (pc := 5) (v := 0) d_Now_init_5 (by decide) ?_
  refine PJ.putI (pc := 6) ps_Now_9 d_Now_init_6 (fun h1 => ?_)
  refine PJ.aload_n (pc := 9) d_Now_init_9 rfl ?_
  refine PJ.iconst (pc := 10) (v := 0) d_Now_init_10 (by decide) ?_
  refine PJ.putI (pc := 11) ps_Now_15 d_Now_init_11 (fun h2 => ?_)
  refine PJ.aload_n (pc := 14) d_Now_init_14 rfl ?_
  refine PJ.iconst (pc := 15) (v := 0) d_Now_init_15 (by decide) ?_
  refine PJ.putI (pc := 16) ps_Now_18 d_Now_init_16 (fun h3 => ?_)
  refine PJ.aload_n (pc := 19) d_Now_init_19 rfl ?_
  refine PJ.iconst (pc := 20) (v := 5) d_Now_init_20 (by decide) ?_
  refine PJ.newa (pc := 21) (t := 50) (N := 5) (v := .inl 0) (by decide) rfl (fun _ => rfl) wd_218 (by decide) (by decide +kernel) (by decide) (Nat.le_of_ble_eq_true rfl) (Nat.le_of_ble_eq_true rfl) d_Now_init_21 ?_
  refine PJ.putR (pc := 23) ps_Now_21 rfl d_Now_init_23 (fun h4 => ?_)
  refine PJ.aload_n (pc := 26) d_Now_init_26 rfl ?_
  refine PJ.iconst (pc := 27) (v := 5) d_Now_init_27 (by decide) ?_
  refine PJ.newa (pc := 28) (t := 50) (N := 5) (v := .inl 0) (by decide) rfl (fun _ => rfl) wd_218 (by decide) (by decide +kernel) (by decide) (Nat.le_of_ble_eq_true rfl) (Nat.le_of_ble_eq_true rfl) d_Now_init_28 ?_
  refine PJ.putR (pc := 30) ps_Now_25 rfl d_Now_init_30 (fun h5 => ?_)
  refine PJ.aload_n (pc := 33) d_Now_init_33 rfl ?_
  refine PJ.iconst (pc := 34) (v := 5) d_Now_init_34 (by decide) ?_
  refine PJ.newa (pc := 35) (t := 50) (N := 5) (v := .inl 0) (by decide) rfl (fun _ => rfl) wd_218 (by decide) (by decide +kernel) (by decide) (Nat.le_of_ble_eq_true rfl) (Nat.le_of_ble_eq_true rfl) d_Now_init_35 ?_
  refine PJ.putR (pc := 37) ps_Now_28 rfl d_Now_init_37 (fun h6 => ?_)
  refine PJ.aload_n (pc := 40) d_Now_init_40 rfl ?_
  refine PJ.iconst (pc := 41) (v := 5) d_Now_init_41 (by decide) ?_
  refine PJ.newa (pc := 42) (t := 50) (N := 5) (v := .inl 0) (by decide) rfl (fun _ => rfl) wd_218 (by decide) (by decide +kernel) (by decide) (Nat.le_of_ble_eq_true rfl) (Nat.le_of_ble_eq_true rfl) d_Now_init_42 ?_
  refine PJ.putR (pc := 44) ps_Now_31 rfl d_Now_init_44 (fun h7 => ?_)
  exact PJ.vret (pc := 47) d_Now_init_47 rfl (Nat.le_of_ble_eq_true rfl) (Nat.le_of_ble_eq_true rfl)
theorem d_Desk_init_0 : decode Y_Desk_init.2.1 0 = .ok (.aload_n 0, 1) := by decide +kernel
theorem d_Desk_init_1 : decode Y_Desk_init.2.1 1 = .ok (.invokespecial 3, 3) := by decide +kernel
theorem d_Desk_init_4 : decode Y_Desk_init.2.1 4 = .ok (.aload_n 0, 1) := by decide +kernel
theorem d_Desk_init_5 : decode Y_Desk_init.2.1 5 = .ok (.iconst (-1), 1) := by decide +kernel
theorem d_Desk_init_6 : decode Y_Desk_init.2.1 6 = .ok (.putfield 9, 3) := by decide +kernel
theorem d_Desk_init_9 : decode Y_Desk_init.2.1 9 = .ok (.aload_n 0, 1) := by decide +kernel
theorem d_Desk_init_10 : decode Y_Desk_init.2.1 10 = .ok (.iconst 0, 1) := by decide +kernel
theorem d_Desk_init_11 : decode Y_Desk_init.2.1 11 = .ok (.putfield 15, 3) := by decide +kernel
theorem d_Desk_init_14 : decode Y_Desk_init.2.1 14 = .ok (.aload_n 0, 1) := by decide +kernel
theorem d_Desk_init_15 : decode Y_Desk_init.2.1 15 = .ok (.aload_n 1, 1) := by decide +kernel
theorem d_Desk_init_16 : decode Y_Desk_init.2.1 16 = .ok (.putfield 18, 3) := by decide +kernel
theorem d_Desk_init_19 : decode Y_Desk_init.2.1 19 = .ok (.aload_n 0, 1) := by decide +kernel
theorem d_Desk_init_20 : decode Y_Desk_init.2.1 20 = .ok (.aload_n 2, 1) := by decide +kernel
theorem d_Desk_init_21 : decode Y_Desk_init.2.1 21 = .ok (.putfield 22, 3) := by decide +kernel
theorem d_Desk_init_24 : decode Y_Desk_init.2.1 24 = .ok (.return_, 1) := by decide +kernel
def f_Desk_init (h : PH) (a0 : Option Nat) (a1 : Option Nat) (a2 : Option Nat) : Option PH := (a0).bind fun _ => (sF h 0 a0 2 (.inl (-1 : Int32))).bind fun h1 => (sF h1 0 a0 3 (.inl (0 : Int32))).bind fun h2 => (sF h2 0 a0 0 (.inr (.inr a1))).bind fun h3 => (sF h3 0 a0 1 (.inr (.inr a2))).bind fun h4 => some h4
set_option maxRecDepth 20000 in
theorem PM_Desk_init {l : Launch} {G : Cx} {h : PH} {a0 : Option Nat} {a1 : Option Nat} {a2 : Option Nat} {z : PH} (hz : f_Desk_init h a0 a1 a2 = some z) : PM l G 1 0 0 Y_Desk_init [.inr (.inr a0), .inr (.inr a1), .inr (.inr a2)] h (none, z) := by
  refine PM.of (Y := Y_Desk_init) (cv := (fun z : PH => (((none, z) : Option PV × PH)))) (by decide) (L0 := [some (.inr (.inr a0)), some (.inr (.inr a1)), some (.inr (.inr a2))]) 0 rfl (Nat.le_of_ble_eq_true rfl) ?_ hz
  unfold f_Desk_init
  refine PJ.aload_n (pc := 0) d_Desk_init_0 rfl ?_
  refine PJ.objO (pc := 1) wd_453 wd_161 wd_162 (Nat.le_of_ble_eq_true rfl) (Nat.le_of_ble_eq_true rfl) (Nat.le_of_ble_eq_true rfl) d_Desk_init_1 ?_
  refine PJ.aload_n (pc := 4) d_Desk_init_4 rfl ?_
  refine PJ.iconst (pc := 5) (v := -1) d_Desk_init_5 (by decide) ?_
  refine PJ.putI (pc := 6) ps_Desk_9 d_Desk_init_6 (fun h1 => ?_)
  refine PJ.aload_n (pc := 9) d_Desk_init_9 rfl ?_
  refine PJ.iconst (pc := 10) (v := 0) d_Desk_init_10 (by decide) ?_
  refine PJ.putI (pc := 11) ps_Desk_15 d_Desk_init_11 (fun h2 => ?_)
  refine PJ.aload_n (pc := 14) d_Desk_init_14 rfl ?_
  refine PJ.aload_n (pc := 15) d_Desk_init_15 rfl ?_
  refine PJ.putR (pc := 16) ps_Desk_18 rfl d_Desk_init_16 (fun h3 => ?_)
  refine PJ.aload_n (pc := 19) d_Desk_init_19 rfl ?_
  refine PJ.aload_n (pc := 20) d_Desk_init_20 rfl ?_
  refine PJ.putR (pc := 21) ps_Desk_22 rfl d_Desk_init_21 (fun h4 => ?_)
  exact PJ.vret (pc := 24) d_Desk_init_24 rfl (Nat.le_of_ble_eq_true rfl) (Nat.le_of_ble_eq_true rfl)
theorem d_Planner_init_0 : decode Y_Planner_init.2.1 0 = .ok (.aload_n 0, 1) := by decide +kernel
theorem d_Planner_init_1 : decode Y_Planner_init.2.1 1 = .ok (.invokespecial 1, 3) := by decide +kernel
theorem d_Planner_init_4 : decode Y_Planner_init.2.1 4 = .ok (.aload_n 0, 1) := by decide +kernel
theorem d_Planner_init_5 : decode Y_Planner_init.2.1 5 = .ok (.iconst 0, 1) := by decide +kernel
theorem d_Planner_init_6 : decode Y_Planner_init.2.1 6 = .ok (.putfield 7, 3) := by decide +kernel
theorem d_Planner_init_9 : decode Y_Planner_init.2.1 9 = .ok (.aload_n 0, 1) := by decide +kernel
theorem d_Planner_init_10 : decode Y_Planner_init.2.1 10 = .ok (.aload_n 1, 1) := by decide +kernel
theorem d_Planner_init_11 : decode Y_Planner_init.2.1 11 = .ok (.putfield 13, 3) := by decide +kernel
theorem d_Planner_init_14 : decode Y_Planner_init.2.1 14 = .ok (.aload_n 0, 1) := by decide +kernel
theorem d_Planner_init_15 : decode Y_Planner_init.2.1 15 = .ok (.aload_n 2, 1) := by decide +kernel
theorem d_Planner_init_16 : decode Y_Planner_init.2.1 16 = .ok (.putfield 17, 3) := by decide +kernel
theorem d_Planner_init_19 : decode Y_Planner_init.2.1 19 = .ok (.aload_n 0, 1) := by decide +kernel
theorem d_Planner_init_20 : decode Y_Planner_init.2.1 20 = .ok (.aload_n 3, 1) := by decide +kernel
theorem d_Planner_init_21 : decode Y_Planner_init.2.1 21 = .ok (.putfield 21, 3) := by decide +kernel
theorem d_Planner_init_24 : decode Y_Planner_init.2.1 24 = .ok (.return_, 1) := by decide +kernel
def f_Planner_init (h : PH) (a0 : Option Nat) (a1 : Option Nat) (a2 : Option Nat) (a3 : Option Nat) : Option PH := (a0).bind fun _ => (sF h 4 a0 3 (.inl (0 : Int32))).bind fun h1 => (sF h1 4 a0 0 (.inr (.inr a1))).bind fun h2 => (sF h2 4 a0 1 (.inr (.inr a2))).bind fun h3 => (sF h3 4 a0 2 (.inr (.inr a3))).bind fun h4 => some h4
set_option maxRecDepth 20000 in
theorem PM_Planner_init {l : Launch} {G : Cx} {h : PH} {a0 : Option Nat} {a1 : Option Nat} {a2 : Option Nat} {a3 : Option Nat} {z : PH} (hz : f_Planner_init h a0 a1 a2 a3 = some z) : PM l G 1 0 0 Y_Planner_init [.inr (.inr a0), .inr (.inr a1), .inr (.inr a2), .inr (.inr a3)] h (none, z) := by
  refine PM.of (Y := Y_Planner_init) (cv := (fun z : PH => (((none, z) : Option PV × PH)))) (by decide) (L0 := [some (.inr (.inr a0)), some (.inr (.inr a1)), some (.inr (.inr a2)), some (.inr (.inr a3))]) 0 rfl (Nat.le_of_ble_eq_true rfl) ?_ hz
  unfold f_Planner_init
  refine PJ.aload_n (pc := 0) d_Planner_init_0 rfl ?_
  refine PJ.objO (pc := 1) wd_474 wd_161 wd_162 (Nat.le_of_ble_eq_true rfl) (Nat.le_of_ble_eq_true rfl) (Nat.le_of_ble_eq_true rfl) d_Planner_init_1 ?_
  refine PJ.aload_n (pc := 4) d_Planner_init_4 rfl ?_
  refine PJ.iconst (pc := 5) (v := 0) d_Planner_init_5 (by decide) ?_
  refine PJ.putI (pc := 6) ps_Planner_7 d_Planner_init_6 (fun h1 => ?_)
  refine PJ.aload_n (pc := 9) d_Planner_init_9 rfl ?_
  refine PJ.aload_n (pc := 10) d_Planner_init_10 rfl ?_
  refine PJ.putR (pc := 11) ps_Planner_13 rfl d_Planner_init_11 (fun h2 => ?_)
  refine PJ.aload_n (pc := 14) d_Planner_init_14 rfl ?_
  refine PJ.aload_n (pc := 15) d_Planner_init_15 rfl ?_
  refine PJ.putR (pc := 16) ps_Planner_17 rfl d_Planner_init_16 (fun h3 => ?_)
  refine PJ.aload_n (pc := 19) d_Planner_init_19 rfl ?_
  refine PJ.aload_n (pc := 20) d_Planner_init_20 rfl ?_
  refine PJ.putR (pc := 21) ps_Planner_21 rfl d_Planner_init_21 (fun h4 => ?_)
  exact PJ.vret (pc := 24) d_Planner_init_24 rfl (Nat.le_of_ble_eq_true rfl) (Nat.le_of_ble_eq_true rfl)
theorem d_Rows_init_0 : decode Y_Rows_init.2.1 0 = .ok (.aload_n 0, 1) := by decide +kernel
theorem d_Rows_init_1 : decode Y_Rows_init.2.1 1 = .ok (.invokespecial 3, 3) := by decide +kernel
theorem d_Rows_init_4 : decode Y_Rows_init.2.1 4 = .ok (.aload_n 0, 1) := by decide +kernel
theorem d_Rows_init_5 : decode Y_Rows_init.2.1 5 = .ok (.iconst 0, 1) := by decide +kernel
theorem d_Rows_init_6 : decode Y_Rows_init.2.1 6 = .ok (.putfield 9, 3) := by decide +kernel
theorem d_Rows_init_9 : decode Y_Rows_init.2.1 9 = .ok (.aload_n 0, 1) := by decide +kernel
theorem d_Rows_init_10 : decode Y_Rows_init.2.1 10 = .ok (.iconst 0, 1) := by decide +kernel
theorem d_Rows_init_11 : decode Y_Rows_init.2.1 11 = .ok (.putfield 15, 3) := by decide +kernel
theorem d_Rows_init_14 : decode Y_Rows_init.2.1 14 = .ok (.aload_n 0, 1) := by decide +kernel
theorem d_Rows_init_15 : decode Y_Rows_init.2.1 15 = .ok (.iconst 5, 1) := by decide +kernel
theorem d_Rows_init_16 : decode Y_Rows_init.2.1 16 = .ok (.newarray .int, 2) := by decide +kernel
theorem d_Rows_init_18 : decode Y_Rows_init.2.1 18 = .ok (.putfield 18, 3) := by decide +kernel
theorem d_Rows_init_21 : decode Y_Rows_init.2.1 21 = .ok (.aload_n 0, 1) := by decide +kernel
theorem d_Rows_init_22 : decode Y_Rows_init.2.1 22 = .ok (.iconst 5, 1) := by decide +kernel
theorem d_Rows_init_23 : decode Y_Rows_init.2.1 23 = .ok (.newarray .int, 2) := by decide +kernel
theorem d_Rows_init_25 : decode Y_Rows_init.2.1 25 = .ok (.putfield 22, 3) := by decide +kernel
theorem d_Rows_init_28 : decode Y_Rows_init.2.1 28 = .ok (.aload_n 0, 1) := by decide +kernel
theorem d_Rows_init_29 : decode Y_Rows_init.2.1 29 = .ok (.iconst 5, 1) := by decide +kernel
theorem d_Rows_init_30 : decode Y_Rows_init.2.1 30 = .ok (.newarray .int, 2) := by decide +kernel
theorem d_Rows_init_32 : decode Y_Rows_init.2.1 32 = .ok (.putfield 25, 3) := by decide +kernel
theorem d_Rows_init_35 : decode Y_Rows_init.2.1 35 = .ok (.aload_n 0, 1) := by decide +kernel
theorem d_Rows_init_36 : decode Y_Rows_init.2.1 36 = .ok (.iconst 5, 1) := by decide +kernel
theorem d_Rows_init_37 : decode Y_Rows_init.2.1 37 = .ok (.iconst 5, 1) := by decide +kernel
theorem d_Rows_init_38 : decode Y_Rows_init.2.1 38 = .ok (.multianewarray 28 2, 4) := by decide +kernel
theorem d_Rows_init_42 : decode Y_Rows_init.2.1 42 = .ok (.putfield 30, 3) := by decide +kernel
theorem d_Rows_init_45 : decode Y_Rows_init.2.1 45 = .ok (.aload_n 0, 1) := by decide +kernel
theorem d_Rows_init_46 : decode Y_Rows_init.2.1 46 = .ok (.aload_n 1, 1) := by decide +kernel
theorem d_Rows_init_47 : decode Y_Rows_init.2.1 47 = .ok (.putfield 33, 3) := by decide +kernel
theorem d_Rows_init_50 : decode Y_Rows_init.2.1 50 = .ok (.aload_n 0, 1) := by decide +kernel
theorem d_Rows_init_51 : decode Y_Rows_init.2.1 51 = .ok (.aload_n 2, 1) := by decide +kernel
theorem d_Rows_init_52 : decode Y_Rows_init.2.1 52 = .ok (.putfield 37, 3) := by decide +kernel
theorem d_Rows_init_55 : decode Y_Rows_init.2.1 55 = .ok (.aload_n 0, 1) := by decide +kernel
theorem d_Rows_init_56 : decode Y_Rows_init.2.1 56 = .ok (.aload_n 3, 1) := by decide +kernel
theorem d_Rows_init_57 : decode Y_Rows_init.2.1 57 = .ok (.putfield 41, 3) := by decide +kernel
theorem d_Rows_init_60 : decode Y_Rows_init.2.1 60 = .ok (.return_, 1) := by decide +kernel
def f_Rows_init (h : PH) (a0 : Option Nat) (a1 : Option Nat) (a2 : Option Nat) (a3 : Option Nat) : Option PH := (a0).bind fun _ => (sF h 8 a0 3 (.inl (0 : Int32))).bind fun h1 => (sF h1 8 a0 4 (.inl (0 : Int32))).bind fun h2 => (sF (h2 ++ [(50, List.replicate 5 (.inl 0))]) 8 a0 5 (.inr (.inr (some (h2).length)))).bind fun h3 => (sF (h3 ++ [(50, List.replicate 5 (.inl 0))]) 8 a0 6 (.inr (.inr (some (h3).length)))).bind fun h4 => (sF (h4 ++ [(50, List.replicate 5 (.inl 0))]) 8 a0 7 (.inr (.inr (some (h4).length)))).bind fun h5 => (sF (nM h5 5 5) 8 a0 8 (.inr (.inr (some (h5).length)))).bind fun h6 => (sF h6 8 a0 0 (.inr (.inr a1))).bind fun h7 => (sF h7 8 a0 1 (.inr (.inr a2))).bind fun h8 => (sF h8 8 a0 2 (.inr (.inr a3))).bind fun h9 => some h9
set_option maxRecDepth 20000 in
theorem PM_Rows_init {l : Launch} {G : Cx} {h : PH} {a0 : Option Nat} {a1 : Option Nat} {a2 : Option Nat} {a3 : Option Nat} {z : PH} (hz : f_Rows_init h a0 a1 a2 a3 = some z) : PM l G 1 9 45 Y_Rows_init [.inr (.inr a0), .inr (.inr a1), .inr (.inr a2), .inr (.inr a3)] h (none, z) := by
  refine PM.of (Y := Y_Rows_init) (cv := (fun z : PH => (((none, z) : Option PV × PH)))) (by decide) (L0 := [some (.inr (.inr a0)), some (.inr (.inr a1)), some (.inr (.inr a2)), some (.inr (.inr a3))]) 0 rfl (Nat.le_of_ble_eq_true rfl) ?_ hz
  unfold f_Rows_init
  refine PJ.aload_n (pc := 0) d_Rows_init_0 rfl ?_
  refine PJ.objO (pc := 1) wd_493 wd_161 wd_162 (Nat.le_of_ble_eq_true rfl) (Nat.le_of_ble_eq_true rfl) (Nat.le_of_ble_eq_true rfl) d_Rows_init_1 ?_
  refine PJ.aload_n (pc := 4) d_Rows_init_4 rfl ?_
  refine PJ.iconst (pc := 5) (v := 0) d_Rows_init_5 (by decide) ?_
  refine PJ.putI (pc := 6) ps_Rows_9 d_Rows_init_6 (fun h1 => ?_)
  refine PJ.aload_n (pc := 9) d_Rows_init_9 rfl ?_
  refine PJ.iconst (pc := 10) (v := 0) d_Rows_init_10 (by decide) ?_
  refine PJ.putI (pc := 11) ps_Rows_15 d_Rows_init_11 (fun h2 => ?_)
  refine PJ.aload_n (pc := 14) d_Rows_init_14 rfl ?_
  refine PJ.iconst (pc := 15) (v := 5) d_Rows_init_15 (by decide) ?_
  refine PJ.newa (pc := 16) (t := 50) (N := 5) (v := .inl 0) (by decide) rfl (fun _ => rfl) wd_218 (by decide) (by decide +kernel) (by decide) (Nat.le_of_ble_eq_true rfl) (Nat.le_of_ble_eq_true rfl) d_Rows_init_16 ?_
  refine PJ.putR (pc := 18) ps_Rows_18 rfl d_Rows_init_18 (fun h3 => ?_)
  refine PJ.aload_n (pc := 21) d_Rows_init_21 rfl ?_
  refine PJ.iconst (pc := 22) (v := 5) d_Rows_init_22 (by decide) ?_
  refine PJ.newa (pc := 23) (t := 50) (N := 5) (v := .inl 0) (by decide) rfl (fun _ => rfl) wd_218 (by decide) (by decide +kernel) (by decide) (Nat.le_of_ble_eq_true rfl) (Nat.le_of_ble_eq_true rfl) d_Rows_init_23 ?_
  refine PJ.putR (pc := 25) ps_Rows_22 rfl d_Rows_init_25 (fun h4 => ?_)
  refine PJ.aload_n (pc := 28) d_Rows_init_28 rfl ?_
  refine PJ.iconst (pc := 29) (v := 5) d_Rows_init_29 (by decide) ?_
  refine PJ.newa (pc := 30) (t := 50) (N := 5) (v := .inl 0) (by decide) rfl (fun _ => rfl) wd_218 (by decide) (by decide +kernel) (by decide) (Nat.le_of_ble_eq_true rfl) (Nat.le_of_ble_eq_true rfl) d_Rows_init_30 ?_
  refine PJ.putR (pc := 32) ps_Rows_25 rfl d_Rows_init_32 (fun h5 => ?_)
  refine PJ.aload_n (pc := 35) d_Rows_init_35 rfl ?_
  refine PJ.iconst (pc := 36) (v := 5) d_Rows_init_36 (by decide) ?_
  refine PJ.iconst (pc := 37) (v := 5) d_Rows_init_37 (by decide) ?_
  refine PJ.mnew (pc := 38) (N := 5) (K := 5) wd_494 wd_218 (by decide) (by decide) (by decide +kernel) (by decide +kernel) (by decide) (by decide) (by decide) (Nat.le_of_ble_eq_true rfl) (Nat.le_of_ble_eq_true rfl) d_Rows_init_38 ?_
  refine PJ.putR (pc := 42) ps_Rows_30 rfl d_Rows_init_42 (fun h6 => ?_)
  refine PJ.aload_n (pc := 45) d_Rows_init_45 rfl ?_
  refine PJ.aload_n (pc := 46) d_Rows_init_46 rfl ?_
  refine PJ.putR (pc := 47) ps_Rows_33 rfl d_Rows_init_47 (fun h7 => ?_)
  refine PJ.aload_n (pc := 50) d_Rows_init_50 rfl ?_
  refine PJ.aload_n (pc := 51) d_Rows_init_51 rfl ?_
  refine PJ.putR (pc := 52) ps_Rows_37 rfl d_Rows_init_52 (fun h8 => ?_)
  refine PJ.aload_n (pc := 55) d_Rows_init_55 rfl ?_
  refine PJ.aload_n (pc := 56) d_Rows_init_56 rfl ?_
  refine PJ.putR (pc := 57) ps_Rows_41 rfl d_Rows_init_57 (fun h9 => ?_)
  exact PJ.vret (pc := 60) d_Rows_init_60 rfl (Nat.le_of_ble_eq_true rfl) (Nat.le_of_ble_eq_true rfl)
theorem d_Past_init_0 : decode Y_Past_init.2.1 0 = .ok (.aload_n 0, 1) := by decide +kernel
theorem d_Past_init_1 : decode Y_Past_init.2.1 1 = .ok (.invokespecial 3, 3) := by decide +kernel
theorem d_Past_init_4 : decode Y_Past_init.2.1 4 = .ok (.aload_n 0, 1) := by decide +kernel
theorem d_Past_init_5 : decode Y_Past_init.2.1 5 = .ok (.bipush 16, 2) := by decide +kernel
theorem d_Past_init_7 : decode Y_Past_init.2.1 7 = .ok (.anewarray 9, 3) := by decide +kernel
theorem d_Past_init_10 : decode Y_Past_init.2.1 10 = .ok (.putfield 11, 3) := by decide +kernel
theorem d_Past_init_13 : decode Y_Past_init.2.1 13 = .ok (.aload_n 0, 1) := by decide +kernel
theorem d_Past_init_14 : decode Y_Past_init.2.1 14 = .ok (.iconst 3, 1) := by decide +kernel
theorem d_Past_init_15 : decode Y_Past_init.2.1 15 = .ok (.anewarray 9, 3) := by decide +kernel
theorem d_Past_init_18 : decode Y_Past_init.2.1 18 = .ok (.putfield 17, 3) := by decide +kernel
theorem d_Past_init_21 : decode Y_Past_init.2.1 21 = .ok (.aload_n 0, 1) := by decide +kernel
theorem d_Past_init_22 : decode Y_Past_init.2.1 22 = .ok (.iconst 0, 1) := by decide +kernel
theorem d_Past_init_23 : decode Y_Past_init.2.1 23 = .ok (.putfield 20, 3) := by decide +kernel
theorem d_Past_init_26 : decode Y_Past_init.2.1 26 = .ok (.aload_n 0, 1) := by decide +kernel
theorem d_Past_init_27 : decode Y_Past_init.2.1 27 = .ok (.iconst 0, 1) := by decide +kernel
theorem d_Past_init_28 : decode Y_Past_init.2.1 28 = .ok (.putfield 24, 3) := by decide +kernel
theorem d_Past_init_31 : decode Y_Past_init.2.1 31 = .ok (.iconst 0, 1) := by decide +kernel
theorem d_Past_init_32 : decode Y_Past_init.2.1 32 = .ok (.istore_n 1, 1) := by decide +kernel
theorem d_Past_init_33 : decode Y_Past_init.2.1 33 = .ok (.iload_n 1, 1) := by decide +kernel
theorem d_Past_init_34 : decode Y_Past_init.2.1 34 = .ok (.bipush 16, 2) := by decide +kernel
theorem d_Past_init_36 : decode Y_Past_init.2.1 36 = .ok (.if_icmp .ge 22, 3) := by decide +kernel
theorem d_Past_init_39 : decode Y_Past_init.2.1 39 = .ok (.aload_n 0, 1) := by decide +kernel
theorem d_Past_init_40 : decode Y_Past_init.2.1 40 = .ok (.getfield 11, 3) := by decide +kernel
theorem d_Past_init_43 : decode Y_Past_init.2.1 43 = .ok (.iload_n 1, 1) := by decide +kernel
theorem d_Past_init_44 : decode Y_Past_init.2.1 44 = .ok (.new 9, 3) := by decide +kernel
theorem d_Past_init_47 : decode Y_Past_init.2.1 47 = .ok (.dup, 1) := by decide +kernel
theorem d_Past_init_48 : decode Y_Past_init.2.1 48 = .ok (.invokespecial 27, 3) := by decide +kernel
theorem d_Past_init_51 : decode Y_Past_init.2.1 51 = .ok (.aastore, 1) := by decide +kernel
theorem d_Past_init_52 : decode Y_Past_init.2.1 52 = .ok (.iinc 1 1, 3) := by decide +kernel
theorem d_Past_init_55 : decode Y_Past_init.2.1 55 = .ok (.goto (-22), 3) := by decide +kernel
theorem d_Past_init_58 : decode Y_Past_init.2.1 58 = .ok (.iconst 0, 1) := by decide +kernel
theorem d_Past_init_59 : decode Y_Past_init.2.1 59 = .ok (.istore_n 1, 1) := by decide +kernel
theorem d_Past_init_60 : decode Y_Past_init.2.1 60 = .ok (.iload_n 1, 1) := by decide +kernel
theorem d_Past_init_61 : decode Y_Past_init.2.1 61 = .ok (.iconst 3, 1) := by decide +kernel
theorem d_Past_init_62 : decode Y_Past_init.2.1 62 = .ok (.if_icmp .ge 22, 3) := by decide +kernel
theorem d_Past_init_65 : decode Y_Past_init.2.1 65 = .ok (.aload_n 0, 1) := by decide +kernel
theorem d_Past_init_66 : decode Y_Past_init.2.1 66 = .ok (.getfield 17, 3) := by decide +kernel
theorem d_Past_init_69 : decode Y_Past_init.2.1 69 = .ok (.iload_n 1, 1) := by decide +kernel
theorem d_Past_init_70 : decode Y_Past_init.2.1 70 = .ok (.new 9, 3) := by decide +kernel
theorem d_Past_init_73 : decode Y_Past_init.2.1 73 = .ok (.dup, 1) := by decide +kernel
theorem d_Past_init_74 : decode Y_Past_init.2.1 74 = .ok (.invokespecial 27, 3) := by decide +kernel
theorem d_Past_init_77 : decode Y_Past_init.2.1 77 = .ok (.aastore, 1) := by decide +kernel
theorem d_Past_init_78 : decode Y_Past_init.2.1 78 = .ok (.iinc 1 1, 3) := by decide +kernel
theorem d_Past_init_81 : decode Y_Past_init.2.1 81 = .ok (.goto (-21), 3) := by decide +kernel
theorem d_Past_init_84 : decode Y_Past_init.2.1 84 = .ok (.return_, 1) := by decide +kernel
def f_Past_init (h : PH) (a0 : Option Nat) : Option PH := (a0).bind fun _ => (sF (h ++ [(54, List.replicate 16 (.inr (.inr none)))]) 3 a0 0 (.inr (.inr (some (h).length)))).bind fun h1 => (sF (h1 ++ [(54, List.replicate 3 (.inr (.inr none)))]) 3 a0 1 (.inr (.inr (some (h1).length)))).bind fun h2 => (sF h2 3 a0 2 (.inl (0 : Int32))).bind fun h3 => (sF h3 3 a0 3 (.inl (0 : Int32))).bind fun h4 => (gR h4 3 a0 0).bind fun v5 => (f_Now_init (h4 ++ [(2, pj_new 2)]) (some (h4).length)).bind fun h6 => (sN h6 v5 (0 : Int32) (some (h4).length)).bind fun h7 => (gR h7 3 a0 0).bind fun v8 => (f_Now_init (h7 ++ [(2, pj_new 2)]) (some (h7).length)).bind fun h9 => (sN h9 v8 (1 : Int32) (some (h7).length)).bind fun h10 => (gR h10 3 a0 0).bind fun v11 => (f_Now_init (h10 ++ [(2, pj_new 2)]) (some (h10).length)).bind fun h12 => (sN h12 v11 (2 : Int32) (some (h10).length)).bind fun h13 => (gR h13 3 a0 0).bind fun v14 => (f_Now_init (h13 ++ [(2, pj_new 2)]) (some (h13).length)).bind fun h15 => (sN h15 v14 (3 : Int32) (some (h13).length)).bind fun h16 => (gR h16 3 a0 0).bind fun v17 => (f_Now_init (h16 ++ [(2, pj_new 2)]) (some (h16).length)).bind fun h18 => (sN h18 v17 (4 : Int32) (some (h16).length)).bind fun h19 => (gR h19 3 a0 0).bind fun v20 => (f_Now_init (h19 ++ [(2, pj_new 2)]) (some (h19).length)).bind fun h21 => (sN h21 v20 (5 : Int32) (some (h19).length)).bind fun h22 => (gR h22 3 a0 0).bind fun v23 => (f_Now_init (h22 ++ [(2, pj_new 2)]) (some (h22).length)).bind fun h24 => (sN h24 v23 (6 : Int32) (some (h22).length)).bind fun h25 => (gR h25 3 a0 0).bind fun v26 => (f_Now_init (h25 ++ [(2, pj_new 2)]) (some (h25).length)).bind fun h27 => (sN h27 v26 (7 : Int32) (some (h25).length)).bind fun h28 => (gR h28 3 a0 0).bind fun v29 => (f_Now_init (h28 ++ [(2, pj_new 2)]) (some (h28).length)).bind fun h30 => (sN h30 v29 (8 : Int32) (some (h28).length)).bind fun h31 => (gR h31 3 a0 0).bind fun v32 => (f_Now_init (h31 ++ [(2, pj_new 2)]) (some (h31).length)).bind fun h33 => (sN h33 v32 (9 : Int32) (some (h31).length)).bind fun h34 => (gR h34 3 a0 0).bind fun v35 => (f_Now_init (h34 ++ [(2, pj_new 2)]) (some (h34).length)).bind fun h36 => (sN h36 v35 (10 : Int32) (some (h34).length)).bind fun h37 => (gR h37 3 a0 0).bind fun v38 => (f_Now_init (h37 ++ [(2, pj_new 2)]) (some (h37).length)).bind fun h39 => (sN h39 v38 (11 : Int32) (some (h37).length)).bind fun h40 => (gR h40 3 a0 0).bind fun v41 => (f_Now_init (h40 ++ [(2, pj_new 2)]) (some (h40).length)).bind fun h42 => (sN h42 v41 (12 : Int32) (some (h40).length)).bind fun h43 => (gR h43 3 a0 0).bind fun v44 => (f_Now_init (h43 ++ [(2, pj_new 2)]) (some (h43).length)).bind fun h45 => (sN h45 v44 (13 : Int32) (some (h43).length)).bind fun h46 => (gR h46 3 a0 0).bind fun v47 => (f_Now_init (h46 ++ [(2, pj_new 2)]) (some (h46).length)).bind fun h48 => (sN h48 v47 (14 : Int32) (some (h46).length)).bind fun h49 => (gR h49 3 a0 0).bind fun v50 => (f_Now_init (h49 ++ [(2, pj_new 2)]) (some (h49).length)).bind fun h51 => (sN h51 v50 (15 : Int32) (some (h49).length)).bind fun h52 => (gR h52 3 a0 1).bind fun v53 => (f_Now_init (h52 ++ [(2, pj_new 2)]) (some (h52).length)).bind fun h54 => (sN h54 v53 (0 : Int32) (some (h52).length)).bind fun h55 => (gR h55 3 a0 1).bind fun v56 => (f_Now_init (h55 ++ [(2, pj_new 2)]) (some (h55).length)).bind fun h57 => (sN h57 v56 (1 : Int32) (some (h55).length)).bind fun h58 => (gR h58 3 a0 1).bind fun v59 => (f_Now_init (h58 ++ [(2, pj_new 2)]) (some (h58).length)).bind fun h60 => (sN h60 v59 (2 : Int32) (some (h58).length)).bind fun h61 => some h61
set_option maxRecDepth 20000 in
theorem PM_Past_init {l : Launch} {G : Cx} {h : PH} {a0 : Option Nat} {z : PH} (hz : f_Past_init h a0 = some z) : PM l G 2 97 532 Y_Past_init [.inr (.inr a0)] h (none, z) := by
  refine PM.of (Y := Y_Past_init) (cv := (fun z : PH => (((none, z) : Option PV × PH)))) (by decide) (L0 := [some (.inr (.inr a0)), none]) 1 rfl (Nat.le_of_ble_eq_true rfl) ?_ hz
  unfold f_Past_init
  refine PJ.aload_n (pc := 0) d_Past_init_0 rfl ?_
  refine PJ.objO (pc := 1) wd_531 wd_161 wd_162 (Nat.le_of_ble_eq_true rfl) (Nat.le_of_ble_eq_true rfl) (Nat.le_of_ble_eq_true rfl) d_Past_init_1 ?_
  refine PJ.aload_n (pc := 4) d_Past_init_4 rfl ?_
  refine PJ.bipush (pc := 5) (v := 16) d_Past_init_5 (by decide) ?_
  refine PJ.anew (pc := 7) (N := 16) wd_532 (by decide) (by decide +kernel) (by decide) (Nat.le_of_ble_eq_true rfl) (Nat.le_of_ble_eq_true rfl) d_Past_init_7 ?_
  refine PJ.putR (pc := 10) ps_Past_11 rfl d_Past_init_10 (fun h1 => ?_)
  refine PJ.aload_n (pc := 13) d_Past_init_13 rfl ?_
  refine PJ.iconst (pc := 14) (v := 3) d_Past_init_14 (by decide) ?_
  refine PJ.anew (pc := 15) (N := 3) wd_532 (by decide) (by decide +kernel) (by decide) (Nat.le_of_ble_eq_true rfl) (Nat.le_of_ble_eq_true rfl) d_Past_init_15 ?_
  refine PJ.putR (pc := 18) ps_Past_17 rfl d_Past_init_18 (fun h2 => ?_)
  refine PJ.aload_n (pc := 21) d_Past_init_21 rfl ?_
  refine PJ.iconst (pc := 22) (v := 0) d_Past_init_22 (by decide) ?_
  refine PJ.putI (pc := 23) ps_Past_20 d_Past_init_23 (fun h3 => ?_)
  refine PJ.aload_n (pc := 26) d_Past_init_26 rfl ?_
  refine PJ.iconst (pc := 27) (v := 0) d_Past_init_27 (by decide) ?_
  refine PJ.putI (pc := 28) ps_Past_24 d_Past_init_28 (fun h4 => ?_)
  refine PJ.iconst (pc := 31) (v := 0) d_Past_init_31 (by decide) ?_
  refine PJ.istore_n (pc := 32) (L1 := [some (.inr (.inr a0)), some (.inl (0 : Int32))]) d_Past_init_32 (Nat.le_of_ble_eq_true rfl) rfl rfl ?_
  refine PJ.iload_n (pc := 33) d_Past_init_33 rfl ?_
  refine PJ.bipush (pc := 34) (v := 16) d_Past_init_34 (by decide) ?_
  refine PJ.icmp_ge_f (pc := 36) (tgt := 58) d_Past_init_36 (by decide) (by decide) ?_
  refine PJ.aload_n (pc := 39) d_Past_init_39 rfl ?_
  refine PJ.getR (pc := 40) fs_Past_11 d_Past_init_40 (fun v5 => ?_)
  refine PJ.iload_n (pc := 43) d_Past_init_43 rfl ?_
  refine PJ.new (pc := 44) (ci := 2) (idx := 9) cd_2 rfl (fun _ => cn_2) wd_532 wd_402 wd_136 (Nat.le_of_ble_eq_true rfl) (Nat.le_of_ble_eq_true rfl) d_Past_init_44 ?_
  refine PJ.dup (pc := 47) d_Past_init_47 rfl ?_
  refine PJ.cIVx (pc := 48) cs_Past_27 (fun z hz => PM_Now_init hz) (pj_fitb rfl) rfl rfl (Nat.le_of_ble_eq_true rfl) d_Past_init_48 (fun h6 => ?_)
  refine PJ.aast (pc := 51) d_Past_init_51 (fun h7 => ?_)
  refine PJ.iinc (pc := 52) (v := 1) (L1 := [some (.inr (.inr a0)), some (.inl (1 : Int32))]) d_Past_init_52 rfl (by decide) (Nat.le_of_ble_eq_true rfl) rfl rfl ?_
  refine PJ.goto (pc := 55) (tgt := 33) d_Past_init_55 (by decide) ?_
  refine PJ.iload_n (pc := 33) d_Past_init_33 rfl ?_
  refine PJ.bipush (pc := 34) (v := 16) d_Past_init_34 (by decide) ?_
  refine PJ.icmp_ge_f (pc := 36) (tgt := 58) d_Past_init_36 (by decide) (by decide) ?_
  refine PJ.aload_n (pc := 39) d_Past_init_39 rfl ?_
  refine PJ.getR (pc := 40) fs_Past_11 d_Past_init_40 (fun v8 => ?_)
  refine PJ.iload_n (pc := 43) d_Past_init_43 rfl ?_
  refine PJ.new (pc := 44) (ci := 2) (idx := 9) cd_2 rfl (fun _ => cn_2) wd_532 wd_402 wd_136 (Nat.le_of_ble_eq_true rfl) (Nat.le_of_ble_eq_true rfl) d_Past_init_44 ?_
  refine PJ.dup (pc := 47) d_Past_init_47 rfl ?_
  refine PJ.cIVx (pc := 48) cs_Past_27 (fun z hz => PM_Now_init hz) (pj_fitb rfl) rfl rfl (Nat.le_of_ble_eq_true rfl) d_Past_init_48 (fun h9 => ?_)
  refine PJ.aast (pc := 51) d_Past_init_51 (fun h10 => ?_)
  refine PJ.iinc (pc := 52) (v := 1) (L1 := [some (.inr (.inr a0)), some (.inl (2 : Int32))]) d_Past_init_52 rfl (by decide) (Nat.le_of_ble_eq_true rfl) rfl rfl ?_
  refine PJ.goto (pc := 55) (tgt := 33) d_Past_init_55 (by decide) ?_
  refine PJ.iload_n (pc := 33) d_Past_init_33 rfl ?_
  refine PJ.bipush (pc := 34) (v := 16) d_Past_init_34 (by decide) ?_
  refine PJ.icmp_ge_f (pc := 36) (tgt := 58) d_Past_init_36 (by decide) (by decide) ?_
  refine PJ.aload_n (pc := 39) d_Past_init_39 rfl ?_
  refine PJ.getR (pc := 40) fs_Past_11 d_Past_init_40 (fun v11 => ?_)
  refine PJ.iload_n (pc := 43) d_Past_init_43 rfl ?_
  refine PJ.new (pc := 44) (ci := 2) (idx := 9) cd_2 rfl (fun _ => cn_2) wd_532 wd_402 wd_136 (Nat.le_of_ble_eq_true rfl) (Nat.le_of_ble_eq_true rfl) d_Past_init_44 ?_
  refine PJ.dup (pc := 47) d_Past_init_47 rfl ?_
  refine PJ.cIVx (pc := 48) cs_Past_27 (fun z hz => PM_Now_init hz) (pj_fitb rfl) rfl rfl (Nat.le_of_ble_eq_true rfl) d_Past_init_48 (fun h12 => ?_)
  refine PJ.aast (pc := 51) d_Past_init_51 (fun h13 => ?_)
  refine PJ.iinc (pc := 52) (v := 1) (L1 := [some (.inr (.inr a0)), some (.inl (3 : Int32))]) d_Past_init_52 rfl (by decide) (Nat.le_of_ble_eq_true rfl) rfl rfl ?_
  refine PJ.goto (pc := 55) (tgt := 33) d_Past_init_55 (by decide) ?_
  refine PJ.iload_n (pc := 33) d_Past_init_33 rfl ?_
  refine PJ.bipush (pc := 34) (v := 16) d_Past_init_34 (by decide) ?_
  refine PJ.icmp_ge_f (pc := 36) (tgt := 58) d_Past_init_36 (by decide) (by decide) ?_
  refine PJ.aload_n (pc := 39) d_Past_init_39 rfl ?_
  refine PJ.getR (pc := 40) fs_Past_11 d_Past_init_40 (fun v14 => ?_)
  refine PJ.iload_n (pc := 43) d_Past_init_43 rfl ?_
  refine PJ.new (pc := 44) (ci := 2) (idx := 9) cd_2 rfl (fun _ => cn_2) wd_532 wd_402 wd_136 (Nat.le_of_ble_eq_true rfl) (Nat.le_of_ble_eq_true rfl) d_Past_init_44 ?_
  refine PJ.dup (pc := 47) d_Past_init_47 rfl ?_
  refine PJ.cIVx (pc := 48) cs_Past_27 (fun z hz => PM_Now_init hz) (pj_fitb rfl) rfl rfl (Nat.le_of_ble_eq_true rfl) d_Past_init_48 (fun h15 => ?_)
  refine PJ.aast (pc := 51) d_Past_init_51 (fun h16 => ?_)
  refine PJ.iinc (pc := 52) (v := 1) (L1 := [some (.inr (.inr a0)), some (.inl (4 : Int32))]) d_Past_init_52 rfl (by decide) (Nat.le_of_ble_eq_true rfl) rfl rfl ?_
  refine PJ.goto (pc := 55) (tgt := 33) d_Past_init_55 (by decide) ?_
  refine PJ.iload_n (pc := 33) d_Past_init_33 rfl ?_
  refine PJ.bipush (pc := 34) (v := 16) d_Past_init_34 (by decide) ?_
  refine PJ.icmp_ge_f (pc := 36) (tgt := 58) d_Past_init_36 (by decide) (by decide) ?_
  refine PJ.aload_n (pc := 39) d_Past_init_39 rfl ?_
  refine PJ.getR (pc := 40) fs_Past_11 d_Past_init_40 (fun v17 => ?_)
  refine PJ.iload_n (pc := 43) d_Past_init_43 rfl ?_
  refine PJ.new (pc := 44) (ci := 2) (idx := 9) cd_2 rfl (fun _ => cn_2) wd_532 wd_402 wd_136 (Nat.le_of_ble_eq_true rfl) (Nat.le_of_ble_eq_true rfl) d_Past_init_44 ?_
  refine PJ.dup (pc := 47) d_Past_init_47 rfl ?_
  refine PJ.cIVx (pc := 48) cs_Past_27 (fun z hz => PM_Now_init hz) (pj_fitb rfl) rfl rfl (Nat.le_of_ble_eq_true rfl) d_Past_init_48 (fun h18 => ?_)
  refine PJ.aast (pc := 51) d_Past_init_51 (fun h19 => ?_)
  refine PJ.iinc (pc := 52) (v := 1) (L1 := [some (.inr (.inr a0)), some (.inl (5 : Int32))]) d_Past_init_52 rfl (by decide) (Nat.le_of_ble_eq_true rfl) rfl rfl ?_
  refine PJ.goto (pc := 55) (tgt := 33) d_Past_init_55 (by decide) ?_
  refine PJ.iload_n (pc := 33) d_Past_init_33 rfl ?_
  refine PJ.bipush (pc := 34) (v := 16) d_Past_init_34 (by decide) ?_
  refine PJ.icmp_ge_f (pc := 36) (tgt := 58) d_Past_init_36 (by decide) (by decide) ?_
  refine PJ.aload_n (pc := 39) d_Past_init_39 rfl ?_
  refine PJ.getR (pc := 40) fs_Past_11 d_Past_init_40 (fun v20 => ?_)
  refine PJ.iload_n (pc := 43) d_Past_init_43 rfl ?_
  refine PJ.new (pc := 44) (ci := 2) (idx := 9) cd_2 rfl (fun _ => cn_2) wd_532 wd_402 wd_136 (Nat.le_of_ble_eq_true rfl) (Nat.le_of_ble_eq_true rfl) d_Past_init_44 ?_
  refine PJ.dup (pc := 47) d_Past_init_47 rfl ?_
  refine PJ.cIVx (pc := 48) cs_Past_27 (fun z hz => PM_Now_init hz) (pj_fitb rfl) rfl rfl (Nat.le_of_ble_eq_true rfl) d_Past_init_48 (fun h21 => ?_)
  refine PJ.aast (pc := 51) d_Past_init_51 (fun h22 => ?_)
  refine PJ.iinc (pc := 52) (v := 1) (L1 := [some (.inr (.inr a0)), some (.inl (6 : Int32))]) d_Past_init_52 rfl (by decide) (Nat.le_of_ble_eq_true rfl) rfl rfl ?_
  refine PJ.goto (pc := 55) (tgt := 33) d_Past_init_55 (by decide) ?_
  refine PJ.iload_n (pc := 33) d_Past_init_33 rfl ?_
  refine PJ.bipush (pc := 34) (v := 16) d_Past_init_34 (by decide) ?_
  refine PJ.icmp_ge_f (pc := 36) (tgt := 58) d_Past_init_36 (by decide) (by decide) ?_
  refine PJ.aload_n (pc := 39) d_Past_init_39 rfl ?_
  refine PJ.getR (pc := 40) fs_Past_11 d_Past_init_40 (fun v23 => ?_)
  refine PJ.iload_n (pc := 43) d_Past_init_43 rfl ?_
  refine PJ.new (pc := 44) (ci := 2) (idx := 9) cd_2 rfl (fun _ => cn_2) wd_532 wd_402 wd_136 (Nat.le_of_ble_eq_true rfl) (Nat.le_of_ble_eq_true rfl) d_Past_init_44 ?_
  refine PJ.dup (pc := 47) d_Past_init_47 rfl ?_
  refine PJ.cIVx (pc := 48) cs_Past_27 (fun z hz => PM_Now_init hz) (pj_fitb rfl) rfl rfl (Nat.le_of_ble_eq_true rfl) d_Past_init_48 (fun h24 => ?_)
  refine PJ.aast (pc := 51) d_Past_init_51 (fun h25 => ?_)
  refine PJ.iinc (pc := 52) (v := 1) (L1 := [some (.inr (.inr a0)), some (.inl (7 : Int32))]) d_Past_init_52 rfl (by decide) (Nat.le_of_ble_eq_true rfl) rfl rfl ?_
  refine PJ.goto (pc := 55) (tgt := 33) d_Past_init_55 (by decide) ?_
  refine PJ.iload_n (pc := 33) d_Past_init_33 rfl ?_
  refine PJ.bipush (pc := 34) (v := 16) d_Past_init_34 (by decide) ?_
  refine PJ.icmp_ge_f (pc := 36) (tgt := 58) d_Past_init_36 (by decide) (by decide) ?_
  refine PJ.aload_n (pc := 39) d_Past_init_39 rfl ?_
  refine PJ.getR (pc := 40) fs_Past_11 d_Past_init_40 (fun v26 => ?_)
  refine PJ.iload_n (pc := 43) d_Past_init_43 rfl ?_
  refine PJ.new (pc := 44) (ci := 2) (idx := 9) cd_2 rfl (fun _ => cn_2) wd_532 wd_402 wd_136 (Nat.le_of_ble_eq_true rfl) (Nat.le_of_ble_eq_true rfl) d_Past_init_44 ?_
  refine PJ.dup (pc := 47) d_Past_init_47 rfl ?_
  refine PJ.cIVx (pc := 48) cs_Past_27 (fun z hz => PM_Now_init hz) (pj_fitb rfl) rfl rfl (Nat.le_of_ble_eq_true rfl) d_Past_init_48 (fun h27 => ?_)
  refine PJ.aast (pc := 51) d_Past_init_51 (fun h28 => ?_)
  refine PJ.iinc (pc := 52) (v := 1) (L1 := [some (.inr (.inr a0)), some (.inl (8 : Int32))]) d_Past_init_52 rfl (by decide) (Nat.le_of_ble_eq_true rfl) rfl rfl ?_
  refine PJ.goto (pc := 55) (tgt := 33) d_Past_init_55 (by decide) ?_
  refine PJ.iload_n (pc := 33) d_Past_init_33 rfl ?_
  refine PJ.bipush (pc := 34) (v := 16) d_Past_init_34 (by decide) ?_
  refine PJ.icmp_ge_f (pc := 36) (tgt := 58) d_Past_init_36 (by decide) (by decide) ?_
  refine PJ.aload_n (pc := 39) d_Past_init_39 rfl ?_
  refine PJ.getR (pc := 40) fs_Past_11 d_Past_init_40 (fun v29 => ?_)
  refine PJ.iload_n (pc := 43) d_Past_init_43 rfl ?_
  refine PJ.new (pc := 44) (ci := 2) (idx := 9) cd_2 rfl (fun _ => cn_2) wd_532 wd_402 wd_136 (Nat.le_of_ble_eq_true rfl) (Nat.le_of_ble_eq_true rfl) d_Past_init_44 ?_
  refine PJ.dup (pc := 47) d_Past_init_47 rfl ?_
  refine PJ.cIVx (pc := 48) cs_Past_27 (fun z hz => PM_Now_init hz) (pj_fitb rfl) rfl rfl (Nat.le_of_ble_eq_true rfl) d_Past_init_48 (fun h30 => ?_)
  refine PJ.aast (pc := 51) d_Past_init_51 (fun h31 => ?_)
  refine PJ.iinc (pc := 52) (v := 1) (L1 := [some (.inr (.inr a0)), some (.inl (9 : Int32))]) d_Past_init_52 rfl (by decide) (Nat.le_of_ble_eq_true rfl) rfl rfl ?_
  refine PJ.goto (pc := 55) (tgt := 33) d_Past_init_55 (by decide) ?_
  refine PJ.iload_n (pc := 33) d_Past_init_33 rfl ?_
  refine PJ.bipush (pc := 34) (v := 16) d_Past_init_34 (by decide) ?_
  refine PJ.icmp_ge_f (pc := 36) (tgt := 58) d_Past_init_36 (by decide) (by decide) ?_
  refine PJ.aload_n (pc := 39) d_Past_init_39 rfl ?_
  refine PJ.getR (pc := 40) fs_Past_11 d_Past_init_40 (fun v32 => ?_)
  refine PJ.iload_n (pc := 43) d_Past_init_43 rfl ?_
  refine PJ.new (pc := 44) (ci := 2) (idx := 9) cd_2 rfl (fun _ => cn_2) wd_532 wd_402 wd_136 (Nat.le_of_ble_eq_true rfl) (Nat.le_of_ble_eq_true rfl) d_Past_init_44 ?_
  refine PJ.dup (pc := 47) d_Past_init_47 rfl ?_
  refine PJ.cIVx (pc := 48) cs_Past_27 (fun z hz => PM_Now_init hz) (pj_fitb rfl) rfl rfl (Nat.le_of_ble_eq_true rfl) d_Past_init_48 (fun h33 => ?_)
  refine PJ.aast (pc := 51) d_Past_init_51 (fun h34 => ?_)
  refine PJ.iinc (pc := 52) (v := 1) (L1 := [some (.inr (.inr a0)), some (.inl (10 : Int32))]) d_Past_init_52 rfl (by decide) (Nat.le_of_ble_eq_true rfl) rfl rfl ?_
  refine PJ.goto (pc := 55) (tgt := 33) d_Past_init_55 (by decide) ?_
  refine PJ.iload_n (pc := 33) d_Past_init_33 rfl ?_
  refine PJ.bipush (pc := 34) (v := 16) d_Past_init_34 (by decide) ?_
  refine PJ.icmp_ge_f (pc := 36) (tgt := 58) d_Past_init_36 (by decide) (by decide) ?_
  refine PJ.aload_n (pc := 39) d_Past_init_39 rfl ?_
  refine PJ.getR (pc := 40) fs_Past_11 d_Past_init_40 (fun v35 => ?_)
  refine PJ.iload_n (pc := 43) d_Past_init_43 rfl ?_
  refine PJ.new (pc := 44) (ci := 2) (idx := 9) cd_2 rfl (fun _ => cn_2) wd_532 wd_402 wd_136 (Nat.le_of_ble_eq_true rfl) (Nat.le_of_ble_eq_true rfl) d_Past_init_44 ?_
  refine PJ.dup (pc := 47) d_Past_init_47 rfl ?_
  refine PJ.cIVx (pc := 48) cs_Past_27 (fun z hz => PM_Now_init hz) (pj_fitb rfl) rfl rfl (Nat.le_of_ble_eq_true rfl) d_Past_init_48 (fun h36 => ?_)
  refine PJ.aast (pc := 51) d_Past_init_51 (fun h37 => ?_)
  refine PJ.iinc (pc := 52) (v := 1) (L1 := [some (.inr (.inr a0)), some (.inl (11 : Int32))]) d_Past_init_52 rfl (by decide) (Nat.le_of_ble_eq_true rfl) rfl rfl ?_
  refine PJ.goto (pc := 55) (tgt := 33) d_Past_init_55 (by decide) ?_
  refine PJ.iload_n (pc := 33) d_Past_init_33 rfl ?_
  refine PJ.bipush (pc := 34) (v := 16) d_Past_init_34 (by decide) ?_
  refine PJ.icmp_ge_f (pc := 36) (tgt := 58) d_Past_init_36 (by decide) (by decide) ?_
  refine PJ.aload_n (pc := 39) d_Past_init_39 rfl ?_
  refine PJ.getR (pc := 40) fs_Past_11 d_Past_init_40 (fun v38 => ?_)
  refine PJ.iload_n (pc := 43) d_Past_init_43 rfl ?_
  refine PJ.new (pc := 44) (ci := 2) (idx := 9) cd_2 rfl (fun _ => cn_2) wd_532 wd_402 wd_136 (Nat.le_of_ble_eq_true rfl) (Nat.le_of_ble_eq_true rfl) d_Past_init_44 ?_
  refine PJ.dup (pc := 47) d_Past_init_47 rfl ?_
  refine PJ.cIVx (pc := 48) cs_Past_27 (fun z hz => PM_Now_init hz) (pj_fitb rfl) rfl rfl (Nat.le_of_ble_eq_true rfl) d_Past_init_48 (fun h39 => ?_)
  refine PJ.aast (pc := 51) d_Past_init_51 (fun h40 => ?_)
  refine PJ.iinc (pc := 52) (v := 1) (L1 := [some (.inr (.inr a0)), some (.inl (12 : Int32))]) d_Past_init_52 rfl (by decide) (Nat.le_of_ble_eq_true rfl) rfl rfl ?_
  refine PJ.goto (pc := 55) (tgt := 33) d_Past_init_55 (by decide) ?_
  refine PJ.iload_n (pc := 33) d_Past_init_33 rfl ?_
  refine PJ.bipush (pc := 34) (v := 16) d_Past_init_34 (by decide) ?_
  refine PJ.icmp_ge_f (pc := 36) (tgt := 58) d_Past_init_36 (by decide) (by decide) ?_
  refine PJ.aload_n (pc := 39) d_Past_init_39 rfl ?_
  refine PJ.getR (pc := 40) fs_Past_11 d_Past_init_40 (fun v41 => ?_)
  refine PJ.iload_n (pc := 43) d_Past_init_43 rfl ?_
  refine PJ.new (pc := 44) (ci := 2) (idx := 9) cd_2 rfl (fun _ => cn_2) wd_532 wd_402 wd_136 (Nat.le_of_ble_eq_true rfl) (Nat.le_of_ble_eq_true rfl) d_Past_init_44 ?_
  refine PJ.dup (pc := 47) d_Past_init_47 rfl ?_
  refine PJ.cIVx (pc := 48) cs_Past_27 (fun z hz => PM_Now_init hz) (pj_fitb rfl) rfl rfl (Nat.le_of_ble_eq_true rfl) d_Past_init_48 (fun h42 => ?_)
  refine PJ.aast (pc := 51) d_Past_init_51 (fun h43 => ?_)
  refine PJ.iinc (pc := 52) (v := 1) (L1 := [some (.inr (.inr a0)), some (.inl (13 : Int32))]) d_Past_init_52 rfl (by decide) (Nat.le_of_ble_eq_true rfl) rfl rfl ?_
  refine PJ.goto (pc := 55) (tgt := 33) d_Past_init_55 (by decide) ?_
  refine PJ.iload_n (pc := 33) d_Past_init_33 rfl ?_
  refine PJ.bipush (pc := 34) (v := 16) d_Past_init_34 (by decide) ?_
  refine PJ.icmp_ge_f (pc := 36) (tgt := 58) d_Past_init_36 (by decide) (by decide) ?_
  refine PJ.aload_n (pc := 39) d_Past_init_39 rfl ?_
  refine PJ.getR (pc := 40) fs_Past_11 d_Past_init_40 (fun v44 => ?_)
  refine PJ.iload_n (pc := 43) d_Past_init_43 rfl ?_
  refine PJ.new (pc := 44) (ci := 2) (idx := 9) cd_2 rfl (fun _ => cn_2) wd_532 wd_402 wd_136 (Nat.le_of_ble_eq_true rfl) (Nat.le_of_ble_eq_true rfl) d_Past_init_44 ?_
  refine PJ.dup (pc := 47) d_Past_init_47 rfl ?_
  refine PJ.cIVx (pc := 48) cs_Past_27 (fun z hz => PM_Now_init hz) (pj_fitb rfl) rfl rfl (Nat.le_of_ble_eq_true rfl) d_Past_init_48 (fun h45 => ?_)
  refine PJ.aast (pc := 51) d_Past_init_51 (fun h46 => ?_)
  refine PJ.iinc (pc := 52) (v := 1) (L1 := [some (.inr (.inr a0)), some (.inl (14 : Int32))]) d_Past_init_52 rfl (by decide) (Nat.le_of_ble_eq_true rfl) rfl rfl ?_
  refine PJ.goto (pc := 55) (tgt := 33) d_Past_init_55 (by decide) ?_
  refine PJ.iload_n (pc := 33) d_Past_init_33 rfl ?_
  refine PJ.bipush (pc := 34) (v := 16) d_Past_init_34 (by decide) ?_
  refine PJ.icmp_ge_f (pc := 36) (tgt := 58) d_Past_init_36 (by decide) (by decide) ?_
  refine PJ.aload_n (pc := 39) d_Past_init_39 rfl ?_
  refine PJ.getR (pc := 40) fs_Past_11 d_Past_init_40 (fun v47 => ?_)
  refine PJ.iload_n (pc := 43) d_Past_init_43 rfl ?_
  refine PJ.new (pc := 44) (ci := 2) (idx := 9) cd_2 rfl (fun _ => cn_2) wd_532 wd_402 wd_136 (Nat.le_of_ble_eq_true rfl) (Nat.le_of_ble_eq_true rfl) d_Past_init_44 ?_
  refine PJ.dup (pc := 47) d_Past_init_47 rfl ?_
  refine PJ.cIVx (pc := 48) cs_Past_27 (fun z hz => PM_Now_init hz) (pj_fitb rfl) rfl rfl (Nat.le_of_ble_eq_true rfl) d_Past_init_48 (fun h48 => ?_)
  refine PJ.aast (pc := 51) d_Past_init_51 (fun h49 => ?_)
  refine PJ.iinc (pc := 52) (v := 1) (L1 := [some (.inr (.inr a0)), some (.inl (15 : Int32))]) d_Past_init_52 rfl (by decide) (Nat.le_of_ble_eq_true rfl) rfl rfl ?_
  refine PJ.goto (pc := 55) (tgt := 33) d_Past_init_55 (by decide) ?_
  refine PJ.iload_n (pc := 33) d_Past_init_33 rfl ?_
  refine PJ.bipush (pc := 34) (v := 16) d_Past_init_34 (by decide) ?_
  refine PJ.icmp_ge_f (pc := 36) (tgt := 58) d_Past_init_36 (by decide) (by decide) ?_
  refine PJ.aload_n (pc := 39) d_Past_init_39 rfl ?_
  refine PJ.getR (pc := 40) fs_Past_11 d_Past_init_40 (fun v50 => ?_)
  refine PJ.iload_n (pc := 43) d_Past_init_43 rfl ?_
  refine PJ.new (pc := 44) (ci := 2) (idx := 9) cd_2 rfl (fun _ => cn_2) wd_532 wd_402 wd_136 (Nat.le_of_ble_eq_true rfl) (Nat.le_of_ble_eq_true rfl) d_Past_init_44 ?_
  refine PJ.dup (pc := 47) d_Past_init_47 rfl ?_
  refine PJ.cIVx (pc := 48) cs_Past_27 (fun z hz => PM_Now_init hz) (pj_fitb rfl) rfl rfl (Nat.le_of_ble_eq_true rfl) d_Past_init_48 (fun h51 => ?_)
  refine PJ.aast (pc := 51) d_Past_init_51 (fun h52 => ?_)
  refine PJ.iinc (pc := 52) (v := 1) (L1 := [some (.inr (.inr a0)), some (.inl (16 : Int32))]) d_Past_init_52 rfl (by decide) (Nat.le_of_ble_eq_true rfl) rfl rfl ?_
  refine PJ.goto (pc := 55) (tgt := 33) d_Past_init_55 (by decide) ?_
  refine PJ.iload_n (pc := 33) d_Past_init_33 rfl ?_
  refine PJ.bipush (pc := 34) (v := 16) d_Past_init_34 (by decide) ?_
  refine PJ.icmp_ge_t (pc := 36) (tgt := 58) d_Past_init_36 (by decide) (by decide) ?_
  refine PJ.iconst (pc := 58) (v := 0) d_Past_init_58 (by decide) ?_
  refine PJ.istore_n (pc := 59) (L1 := [some (.inr (.inr a0)), some (.inl (0 : Int32))]) d_Past_init_59 (Nat.le_of_ble_eq_true rfl) rfl rfl ?_
  refine PJ.iload_n (pc := 60) d_Past_init_60 rfl ?_
  refine PJ.iconst (pc := 61) (v := 3) d_Past_init_61 (by decide) ?_
  refine PJ.icmp_ge_f (pc := 62) (tgt := 84) d_Past_init_62 (by decide) (by decide) ?_
  refine PJ.aload_n (pc := 65) d_Past_init_65 rfl ?_
  refine PJ.getR (pc := 66) fs_Past_17 d_Past_init_66 (fun v53 => ?_)
  refine PJ.iload_n (pc := 69) d_Past_init_69 rfl ?_
  refine PJ.new (pc := 70) (ci := 2) (idx := 9) cd_2 rfl (fun _ => cn_2) wd_532 wd_402 wd_136 (Nat.le_of_ble_eq_true rfl) (Nat.le_of_ble_eq_true rfl) d_Past_init_70 ?_
  refine PJ.dup (pc := 73) d_Past_init_73 rfl ?_
  refine PJ.cIVx (pc := 74) cs_Past_27 (fun z hz => PM_Now_init hz) (pj_fitb rfl) rfl rfl (Nat.le_of_ble_eq_true rfl) d_Past_init_74 (fun h54 => ?_)
  refine PJ.aast (pc := 77) d_Past_init_77 (fun h55 => ?_)
  refine PJ.iinc (pc := 78) (v := 1) (L1 := [some (.inr (.inr a0)), some (.inl (1 : Int32))]) d_Past_init_78 rfl (by decide) (Nat.le_of_ble_eq_true rfl) rfl rfl ?_
  refine PJ.goto (pc := 81) (tgt := 60) d_Past_init_81 (by decide) ?_
  refine PJ.iload_n (pc := 60) d_Past_init_60 rfl ?_
  refine PJ.iconst (pc := 61) (v := 3) d_Past_init_61 (by decide) ?_
  refine PJ.icmp_ge_f (pc := 62) (tgt := 84) d_Past_init_62 (by decide) (by decide) ?_
  refine PJ.aload_n (pc := 65) d_Past_init_65 rfl ?_
  refine PJ.getR (pc := 66) fs_Past_17 d_Past_init_66 (fun v56 => ?_)
  refine PJ.iload_n (pc := 69) d_Past_init_69 rfl ?_
  refine PJ.new (pc := 70) (ci := 2) (idx := 9) cd_2 rfl (fun _ => cn_2) wd_532 wd_402 wd_136 (Nat.le_of_ble_eq_true rfl) (Nat.le_of_ble_eq_true rfl) d_Past_init_70 ?_
  refine PJ.dup (pc := 73) d_Past_init_73 rfl ?_
  refine PJ.cIVx (pc := 74) cs_Past_27 (fun z hz => PM_Now_init hz) (pj_fitb rfl) rfl rfl (Nat.le_of_ble_eq_true rfl) d_Past_init_74 (fun h57 => ?_)
  refine PJ.aast (pc := 77) d_Past_init_77 (fun h58 => ?_)
  refine PJ.iinc (pc := 78) (v := 1) (L1 := [some (.inr (.inr a0)), some (.inl (2 : Int32))]) d_Past_init_78 rfl (by decide) (Nat.le_of_ble_eq_true rfl) rfl rfl ?_
  refine PJ.goto (pc := 81) (tgt := 60) d_Past_init_81 (by decide) ?_
  refine PJ.iload_n (pc := 60) d_Past_init_60 rfl ?_
  refine PJ.iconst (pc := 61) (v := 3) d_Past_init_61 (by decide) ?_
  refine PJ.icmp_ge_f (pc := 62) (tgt := 84) d_Past_init_62 (by decide) (by decide) ?_
  refine PJ.aload_n (pc := 65) d_Past_init_65 rfl ?_
  refine PJ.getR (pc := 66) fs_Past_17 d_Past_init_66 (fun v59 => ?_)
  refine PJ.iload_n (pc := 69) d_Past_init_69 rfl ?_
  refine PJ.new (pc := 70) (ci := 2) (idx := 9) cd_2 rfl (fun _ => cn_2) wd_532 wd_402 wd_136 (Nat.le_of_ble_eq_true rfl) (Nat.le_of_ble_eq_true rfl) d_Past_init_70 ?_
  refine PJ.dup (pc := 73) d_Past_init_73 rfl ?_
  refine PJ.cIVx (pc := 74) cs_Past_27 (fun z hz => PM_Now_init hz) (pj_fitb rfl) rfl rfl (Nat.le_of_ble_eq_true rfl) d_Past_init_74 (fun h60 => ?_)
  refine PJ.aast (pc := 77) d_Past_init_77 (fun h61 => ?_)
  refine PJ.iinc (pc := 78) (v := 1) (L1 := [some (.inr (.inr a0)), some (.inl (3 : Int32))]) d_Past_init_78 rfl (by decide) (Nat.le_of_ble_eq_true rfl) rfl rfl ?_
  refine PJ.goto (pc := 81) (tgt := 60) d_Past_init_81 (by decide) ?_
  refine PJ.iload_n (pc := 60) d_Past_init_60 rfl ?_
  refine PJ.iconst (pc := 61) (v := 3) d_Past_init_61 (by decide) ?_
  refine PJ.icmp_ge_t (pc := 62) (tgt := 84) d_Past_init_62 (by decide) (by decide) ?_
  exact PJ.vret (pc := 84) d_Past_init_84 rfl (Nat.le_of_ble_eq_true rfl) (Nat.le_of_ble_eq_true rfl)
theorem d_T_init_0 : decode Y_T_init.2.1 0 = .ok (.aload_n 0, 1) := by decide +kernel
theorem d_T_init_1 : decode Y_T_init.2.1 1 = .ok (.invokespecial 3, 3) := by decide +kernel
theorem d_T_init_4 : decode Y_T_init.2.1 4 = .ok (.aload_n 0, 1) := by decide +kernel
theorem d_T_init_5 : decode Y_T_init.2.1 5 = .ok (.sipush 900, 3) := by decide +kernel
theorem d_T_init_8 : decode Y_T_init.2.1 8 = .ok (.newarray .byte, 2) := by decide +kernel
theorem d_T_init_10 : decode Y_T_init.2.1 10 = .ok (.putfield 9, 3) := by decide +kernel
theorem d_T_init_13 : decode Y_T_init.2.1 13 = .ok (.aload_n 0, 1) := by decide +kernel
theorem d_T_init_14 : decode Y_T_init.2.1 14 = .ok (.iconst 0, 1) := by decide +kernel
theorem d_T_init_15 : decode Y_T_init.2.1 15 = .ok (.putfield 13, 3) := by decide +kernel
theorem d_T_init_18 : decode Y_T_init.2.1 18 = .ok (.aload_n 0, 1) := by decide +kernel
theorem d_T_init_19 : decode Y_T_init.2.1 19 = .ok (.new 17, 3) := by decide +kernel
theorem d_T_init_22 : decode Y_T_init.2.1 22 = .ok (.dup, 1) := by decide +kernel
theorem d_T_init_23 : decode Y_T_init.2.1 23 = .ok (.invokespecial 19, 3) := by decide +kernel
theorem d_T_init_26 : decode Y_T_init.2.1 26 = .ok (.putfield 20, 3) := by decide +kernel
theorem d_T_init_29 : decode Y_T_init.2.1 29 = .ok (.aload_n 0, 1) := by decide +kernel
theorem d_T_init_30 : decode Y_T_init.2.1 30 = .ok (.new 17, 3) := by decide +kernel
theorem d_T_init_33 : decode Y_T_init.2.1 33 = .ok (.dup, 1) := by decide +kernel
theorem d_T_init_34 : decode Y_T_init.2.1 34 = .ok (.invokespecial 19, 3) := by decide +kernel
theorem d_T_init_37 : decode Y_T_init.2.1 37 = .ok (.putfield 24, 3) := by decide +kernel
theorem d_T_init_40 : decode Y_T_init.2.1 40 = .ok (.aload_n 0, 1) := by decide +kernel
theorem d_T_init_41 : decode Y_T_init.2.1 41 = .ok (.new 27, 3) := by decide +kernel
theorem d_T_init_44 : decode Y_T_init.2.1 44 = .ok (.dup, 1) := by decide +kernel
theorem d_T_init_45 : decode Y_T_init.2.1 45 = .ok (.aload_n 0, 1) := by decide +kernel
theorem d_T_init_46 : decode Y_T_init.2.1 46 = .ok (.getfield 9, 3) := by decide +kernel
theorem d_T_init_49 : decode Y_T_init.2.1 49 = .ok (.aload_n 0, 1) := by decide +kernel
theorem d_T_init_50 : decode Y_T_init.2.1 50 = .ok (.getfield 24, 3) := by decide +kernel
theorem d_T_init_53 : decode Y_T_init.2.1 53 = .ok (.invokespecial 29, 3) := by decide +kernel
theorem d_T_init_56 : decode Y_T_init.2.1 56 = .ok (.putfield 32, 3) := by decide +kernel
theorem d_T_init_59 : decode Y_T_init.2.1 59 = .ok (.aload_n 0, 1) := by decide +kernel
theorem d_T_init_60 : decode Y_T_init.2.1 60 = .ok (.iconst 0, 1) := by decide +kernel
theorem d_T_init_61 : decode Y_T_init.2.1 61 = .ok (.putfield 36, 3) := by decide +kernel
theorem d_T_init_64 : decode Y_T_init.2.1 64 = .ok (.aload_n 0, 1) := by decide +kernel
theorem d_T_init_65 : decode Y_T_init.2.1 65 = .ok (.new 40, 3) := by decide +kernel
theorem d_T_init_68 : decode Y_T_init.2.1 68 = .ok (.dup, 1) := by decide +kernel
theorem d_T_init_69 : decode Y_T_init.2.1 69 = .ok (.invokespecial 42, 3) := by decide +kernel
theorem d_T_init_72 : decode Y_T_init.2.1 72 = .ok (.putfield 43, 3) := by decide +kernel
theorem d_T_init_75 : decode Y_T_init.2.1 75 = .ok (.aload_n 0, 1) := by decide +kernel
theorem d_T_init_76 : decode Y_T_init.2.1 76 = .ok (.new 40, 3) := by decide +kernel
theorem d_T_init_79 : decode Y_T_init.2.1 79 = .ok (.dup, 1) := by decide +kernel
theorem d_T_init_80 : decode Y_T_init.2.1 80 = .ok (.invokespecial 42, 3) := by decide +kernel
theorem d_T_init_83 : decode Y_T_init.2.1 83 = .ok (.putfield 47, 3) := by decide +kernel
theorem d_T_init_86 : decode Y_T_init.2.1 86 = .ok (.aload_n 0, 1) := by decide +kernel
theorem d_T_init_87 : decode Y_T_init.2.1 87 = .ok (.new 50, 3) := by decide +kernel
theorem d_T_init_90 : decode Y_T_init.2.1 90 = .ok (.dup, 1) := by decide +kernel
theorem d_T_init_91 : decode Y_T_init.2.1 91 = .ok (.aload_n 0, 1) := by decide +kernel
theorem d_T_init_92 : decode Y_T_init.2.1 92 = .ok (.getfield 20, 3) := by decide +kernel
theorem d_T_init_95 : decode Y_T_init.2.1 95 = .ok (.aload_n 0, 1) := by decide +kernel
theorem d_T_init_96 : decode Y_T_init.2.1 96 = .ok (.getfield 43, 3) := by decide +kernel
theorem d_T_init_99 : decode Y_T_init.2.1 99 = .ok (.invokespecial 52, 3) := by decide +kernel
theorem d_T_init_102 : decode Y_T_init.2.1 102 = .ok (.putfield 55, 3) := by decide +kernel
theorem d_T_init_105 : decode Y_T_init.2.1 105 = .ok (.aload_n 0, 1) := by decide +kernel
theorem d_T_init_106 : decode Y_T_init.2.1 106 = .ok (.new 59, 3) := by decide +kernel
theorem d_T_init_109 : decode Y_T_init.2.1 109 = .ok (.dup, 1) := by decide +kernel
theorem d_T_init_110 : decode Y_T_init.2.1 110 = .ok (.aload_n 0, 1) := by decide +kernel
theorem d_T_init_111 : decode Y_T_init.2.1 111 = .ok (.getfield 20, 3) := by decide +kernel
theorem d_T_init_114 : decode Y_T_init.2.1 114 = .ok (.aload_n 0, 1) := by decide +kernel
theorem d_T_init_115 : decode Y_T_init.2.1 115 = .ok (.getfield 55, 3) := by decide +kernel
theorem d_T_init_118 : decode Y_T_init.2.1 118 = .ok (.aload_n 0, 1) := by decide +kernel
theorem d_T_init_119 : decode Y_T_init.2.1 119 = .ok (.getfield 47, 3) := by decide +kernel
theorem d_T_init_122 : decode Y_T_init.2.1 122 = .ok (.invokespecial 61, 3) := by decide +kernel
theorem d_T_init_125 : decode Y_T_init.2.1 125 = .ok (.putfield 64, 3) := by decide +kernel
theorem d_T_init_128 : decode Y_T_init.2.1 128 = .ok (.aload_n 0, 1) := by decide +kernel
theorem d_T_init_129 : decode Y_T_init.2.1 129 = .ok (.new 68, 3) := by decide +kernel
theorem d_T_init_132 : decode Y_T_init.2.1 132 = .ok (.dup, 1) := by decide +kernel
theorem d_T_init_133 : decode Y_T_init.2.1 133 = .ok (.aload_n 0, 1) := by decide +kernel
theorem d_T_init_134 : decode Y_T_init.2.1 134 = .ok (.getfield 20, 3) := by decide +kernel
theorem d_T_init_137 : decode Y_T_init.2.1 137 = .ok (.aload_n 0, 1) := by decide +kernel
theorem d_T_init_138 : decode Y_T_init.2.1 138 = .ok (.getfield 55, 3) := by decide +kernel
theorem d_T_init_141 : decode Y_T_init.2.1 141 = .ok (.aload_n 0, 1) := by decide +kernel
theorem d_T_init_142 : decode Y_T_init.2.1 142 = .ok (.getfield 47, 3) := by decide +kernel
theorem d_T_init_145 : decode Y_T_init.2.1 145 = .ok (.invokespecial 70, 3) := by decide +kernel
theorem d_T_init_148 : decode Y_T_init.2.1 148 = .ok (.putfield 71, 3) := by decide +kernel
theorem d_T_init_151 : decode Y_T_init.2.1 151 = .ok (.aload_n 0, 1) := by decide +kernel
theorem d_T_init_152 : decode Y_T_init.2.1 152 = .ok (.new 75, 3) := by decide +kernel
theorem d_T_init_155 : decode Y_T_init.2.1 155 = .ok (.dup, 1) := by decide +kernel
theorem d_T_init_156 : decode Y_T_init.2.1 156 = .ok (.invokespecial 77, 3) := by decide +kernel
theorem d_T_init_159 : decode Y_T_init.2.1 159 = .ok (.putfield 78, 3) := by decide +kernel
theorem d_T_init_162 : decode Y_T_init.2.1 162 = .ok (.aload_n 0, 1) := by decide +kernel
theorem d_T_init_163 : decode Y_T_init.2.1 163 = .ok (.iconst 0, 1) := by decide +kernel
theorem d_T_init_164 : decode Y_T_init.2.1 164 = .ok (.putfield 82, 3) := by decide +kernel
theorem d_T_init_167 : decode Y_T_init.2.1 167 = .ok (.aload_n 0, 1) := by decide +kernel
theorem d_T_init_168 : decode Y_T_init.2.1 168 = .ok (.iconst 0, 1) := by decide +kernel
theorem d_T_init_169 : decode Y_T_init.2.1 169 = .ok (.putfield 85, 3) := by decide +kernel
theorem d_T_init_172 : decode Y_T_init.2.1 172 = .ok (.aload_n 0, 1) := by decide +kernel
theorem d_T_init_173 : decode Y_T_init.2.1 173 = .ok (.iconst 0, 1) := by decide +kernel
theorem d_T_init_174 : decode Y_T_init.2.1 174 = .ok (.putfield 88, 3) := by decide +kernel
theorem d_T_init_177 : decode Y_T_init.2.1 177 = .ok (.return_, 1) := by decide +kernel
def f_T_init (h : PH) (a0 : Option Nat) : Option PH := (a0).bind fun _ => (sF (h ++ [(52, List.replicate 900 (.inl 0))]) 10 a0 0 (.inr (.inr (some (h).length)))).bind fun h1 => (sF h1 10 a0 1 (.inl (0 : Int32))).bind fun h2 => (f_Law_init (h2 ++ [(1, pj_new 1)]) (some (h2).length)).bind fun h3 => (sF h3 10 a0 2 (.inr (.inr (some (h2).length)))).bind fun h4 => (f_Law_init (h4 ++ [(1, pj_new 1)]) (some (h4).length)).bind fun h5 => (sF h5 10 a0 3 (.inr (.inr (some (h4).length)))).bind fun h6 => (gR (h6 ++ [(5, pj_new 5)]) 10 a0 0).bind fun v7 => (gR (h6 ++ [(5, pj_new 5)]) 10 a0 3).bind fun v8 => (f_Reader_init (h6 ++ [(5, pj_new 5)]) (some (h6).length) v7 v8).bind fun h9 => (sF h9 10 a0 4 (.inr (.inr (some (h6).length)))).bind fun h10 => (sZ h10 10 a0 5 (0 : Int32)).bind fun h11 => (f_Now_init (h11 ++ [(2, pj_new 2)]) (some (h11).length)).bind fun h12 => (sF h12 10 a0 6 (.inr (.inr (some (h11).length)))).bind fun h13 => (f_Now_init (h13 ++ [(2, pj_new 2)]) (some (h13).length)).bind fun h14 => (sF h14 10 a0 7 (.inr (.inr (some (h13).length)))).bind fun h15 => (gR (h15 ++ [(0, pj_new 0)]) 10 a0 2).bind fun v16 => (gR (h15 ++ [(0, pj_new 0)]) 10 a0 6).bind fun v17 => (f_Desk_init (h15 ++ [(0, pj_new 0)]) (some (h15).length) v16 v17).bind fun h18 => (sF h18 10 a0 8 (.inr (.inr (some (h15).length)))).bind fun h19 => (gR (h19 ++ [(4, pj_new 4)]) 10 a0 2).bind fun v20 => (gR (h19 ++ [(4, pj_new 4)]) 10 a0 8).bind fun v21 => (gR (h19 ++ [(4, pj_new 4)]) 10 a0 7).bind fun v22 => (f_Planner_init (h19 ++ [(4, pj_new 4)]) (some (h19).length) v20 v21 v22).bind fun h23 => (sF h23 10 a0 9 (.inr (.inr (some (h19).length)))).bind fun h24 => (gR (h24 ++ [(8, pj_new 8)]) 10 a0 2).bind fun v25 => (gR (h24 ++ [(8, pj_new 8)]) 10 a0 8).bind fun v26 => (gR (h24 ++ [(8, pj_new 8)]) 10 a0 7).bind fun v27 => (f_Rows_init (h24 ++ [(8, pj_new 8)]) (some (h24).length) v25 v26 v27).bind fun h28 => (sF h28 10 a0 10 (.inr (.inr (some (h24).length)))).bind fun h29 => (f_Past_init (h29 ++ [(3, pj_new 3)]) (some (h29).length)).bind fun h30 => (sF h30 10 a0 11 (.inr (.inr (some (h29).length)))).bind fun h31 => (sF h31 10 a0 12 (.inl (0 : Int32))).bind fun h32 => (sF h32 10 a0 13 (.inl (0 : Int32))).bind fun h33 => (sF h33 10 a0 14 (.inl (0 : Int32))).bind fun h34 => some h34
set_option maxRecDepth 20000 in
theorem PM_T_init {l : Launch} {G : Cx} {h : PH} {a0 : Option Nat} {z : PH} (hz : f_T_init h a0 = some z) : PM l G 3 184 1928 Y_T_init [.inr (.inr a0)] h (none, z) := by
  refine PM.of (Y := Y_T_init) (cv := (fun z : PH => (((none, z) : Option PV × PH)))) (by decide) (L0 := [some (.inr (.inr a0))]) 0 rfl (Nat.le_of_ble_eq_true rfl) ?_ hz
  unfold f_T_init
  refine PJ.aload_n (pc := 0) d_T_init_0 rfl ?_
  refine PJ.objO (pc := 1) wd_160 wd_161 wd_162 (Nat.le_of_ble_eq_true rfl) (Nat.le_of_ble_eq_true rfl) (Nat.le_of_ble_eq_true rfl) d_T_init_1 ?_
  refine PJ.aload_n (pc := 4) d_T_init_4 rfl ?_
  refine PJ.sipush (pc := 5) (v := 900) d_T_init_5 (by decide) ?_
  refine PJ.newa (pc := 8) (t := 52) (N := 900) (v := .inl 0) (by decide) rfl (fun _ => rfl) wd_217 (by decide) (by decide +kernel) (by decide) (Nat.le_of_ble_eq_true rfl) (Nat.le_of_ble_eq_true rfl) d_T_init_8 ?_
  refine PJ.putR (pc := 10) ps_T_9 rfl d_T_init_10 (fun h1 => ?_)
  refine PJ.aload_n (pc := 13) d_T_init_13 rfl ?_
  refine PJ.iconst (pc := 14) (v := 0) d_T_init_14 (by decide) ?_
  refine PJ.putI (pc := 15) ps_T_13 d_T_init_15 (fun h2 => ?_)
  refine PJ.aload_n (pc := 18) d_T_init_18 rfl ?_
  refine PJ.new (pc := 19) (ci := 1) (idx := 17) cd_1 rfl (fun _ => cn_1) wd_163 wd_164 wd_131 (Nat.le_of_ble_eq_true rfl) (Nat.le_of_ble_eq_true rfl) d_T_init_19 ?_
  refine PJ.dup (pc := 22) d_T_init_22 rfl ?_
  refine PJ.cIVx (pc := 23) cs_T_19 (fun z hz => PM_Law_init hz) (pj_fitb rfl) rfl rfl (Nat.le_of_ble_eq_true rfl) d_T_init_23 (fun h3 => ?_)
  refine PJ.putR (pc := 26) ps_T_20 rfl d_T_init_26 (fun h4 => ?_)
  refine PJ.aload_n (pc := 29) d_T_init_29 rfl ?_
  refine PJ.new (pc := 30) (ci := 1) (idx := 17) cd_1 rfl (fun _ => cn_1) wd_163 wd_164 wd_131 (Nat.le_of_ble_eq_true rfl) (Nat.le_of_ble_eq_true rfl) d_T_init_30 ?_
  refine PJ.dup (pc := 33) d_T_init_33 rfl ?_
  refine PJ.cIVx (pc := 34) cs_T_19 (fun z hz => PM_Law_init hz) (pj_fitb rfl) rfl rfl (Nat.le_of_ble_eq_true rfl) d_T_init_34 (fun h5 => ?_)
  refine PJ.putR (pc := 37) ps_T_24 rfl d_T_init_37 (fun h6 => ?_)
  refine PJ.aload_n (pc := 40) d_T_init_40 rfl ?_
  refine PJ.new (pc := 41) (ci := 5) (idx := 27) cd_5 rfl (fun _ => cn_5) wd_351 wd_352 wd_135 (Nat.le_of_ble_eq_true rfl) (Nat.le_of_ble_eq_true rfl) d_T_init_41 ?_
  refine PJ.dup (pc := 44) d_T_init_44 rfl ?_
  refine PJ.aload_n (pc := 45) d_T_init_45 rfl ?_
  refine PJ.getR (pc := 46) fs_T_9 d_T_init_46 (fun v7 => ?_)
  refine PJ.aload_n (pc := 49) d_T_init_49 rfl ?_
  refine PJ.getR (pc := 50) fs_T_24 d_T_init_50 (fun v8 => ?_)
  refine PJ.cIVx (pc := 53) cs_T_29 (fun z hz => PM_Reader_init hz) (pj_fitb rfl) rfl rfl (Nat.le_of_ble_eq_true rfl) d_T_init_53 (fun h9 => ?_)
  refine PJ.putR (pc := 56) ps_T_32 rfl d_T_init_56 (fun h10 => ?_)
  refine PJ.aload_n (pc := 59) d_T_init_59 rfl ?_
  refine PJ.iconst (pc := 60) (v := 0) d_T_init_60 (by decide) ?_
  refine PJ.putZ (pc := 61) ps_T_36 d_T_init_61 (fun h11 => ?_)
  refine PJ.aload_n (pc := 64) d_T_init_64 rfl ?_
  refine PJ.new (pc := 65) (ci := 2) (idx := 40) cd_2 rfl (fun _ => cn_2) wd_401 wd_402 wd_136 (Nat.le_of_ble_eq_true rfl) (Nat.le_of_ble_eq_true rfl) d_T_init_65 ?_
  refine PJ.dup (pc := 68) d_T_init_68 rfl ?_
  refine PJ.cIVx (pc := 69) cs_T_42 (fun z hz => PM_Now_init hz) (pj_fitb rfl) rfl rfl (Nat.le_of_ble_eq_true rfl) d_T_init_69 (fun h12 => ?_)
  refine PJ.putR (pc := 72) ps_T_43 rfl d_T_init_72 (fun h13 => ?_)
  refine PJ.aload_n (pc := 75) d_T_init_75 rfl ?_
  refine PJ.new (pc := 76) (ci := 2) (idx := 40) cd_2 rfl (fun _ => cn_2) wd_401 wd_402 wd_136 (Nat.le_of_ble_eq_true rfl) (Nat.le_of_ble_eq_true rfl) d_T_init_76 ?_
  refine PJ.dup (pc := 79) d_T_init_79 rfl ?_
  refine PJ.cIVx (pc := 80) cs_T_42 (fun z hz => PM_Now_init hz) (pj_fitb rfl) rfl rfl (Nat.le_of_ble_eq_true rfl) d_T_init_80 (fun h14 => ?_)
  refine PJ.putR (pc := 83) ps_T_47 rfl d_T_init_83 (fun h15 => ?_)
  refine PJ.aload_n (pc := 86) d_T_init_86 rfl ?_
  refine PJ.new (pc := 87) (ci := 0) (idx := 50) cd_0 rfl (fun _ => cn_0) wd_448 wd_449 wd_137 (Nat.le_of_ble_eq_true rfl) (Nat.le_of_ble_eq_true rfl) d_T_init_87 ?_
  refine PJ.dup (pc := 90) d_T_init_90 rfl ?_
  refine PJ.aload_n (pc := 91) d_T_init_91 rfl ?_
  refine PJ.getR (pc := 92) fs_T_20 d_T_init_92 (fun v16 => ?_)
  refine PJ.aload_n (pc := 95) d_T_init_95 rfl ?_
  refine PJ.getR (pc := 96) fs_T_43 d_T_init_96 (fun v17 => ?_)
  refine PJ.cIV (pc := 99) cs_T_52 (fun z hz => PM_Desk_init hz) (pj_fitb rfl) rfl rfl (Nat.le_of_ble_eq_true rfl) d_T_init_99 (fun h18 => ?_)
  refine PJ.putR (pc := 102) ps_T_55 rfl d_T_init_102 (fun h19 => ?_)
  refine PJ.aload_n (pc := 105) d_T_init_105 rfl ?_
  refine PJ.new (pc := 106) (ci := 4) (idx := 59) cd_4 rfl (fun _ => cn_4) wd_469 wd_470 wd_138 (Nat.le_of_ble_eq_true rfl) (Nat.le_of_ble_eq_true rfl) d_T_init_106 ?_
  refine PJ.dup (pc := 109) d_T_init_109 rfl ?_
  refine PJ.aload_n (pc := 110) d_T_init_110 rfl ?_
  refine PJ.getR (pc := 111) fs_T_20 d_T_init_111 (fun v20 => ?_)
  refine PJ.aload_n (pc := 114) d_T_init_114 rfl ?_
  refine PJ.getR (pc := 115) fs_T_55 d_T_init_115 (fun v21 => ?_)
  refine PJ.aload_n (pc := 118) d_T_init_118 rfl ?_
  refine PJ.getR (pc := 119) fs_T_47 d_T_init_119 (fun v22 => ?_)
  refine PJ.cIV (pc := 122) cs_T_61 (fun z hz => PM_Planner_init hz) (pj_fitb rfl) rfl rfl (Nat.le_of_ble_eq_true rfl) d_T_init_122 (fun h23 => ?_)
  refine PJ.putR (pc := 125) ps_T_64 rfl d_T_init_125 (fun h24 => ?_)
  refine PJ.aload_n (pc := 128) d_T_init_128 rfl ?_
  refine PJ.new (pc := 129) (ci := 8) (idx := 68) cd_8 rfl (fun _ => cn_8) wd_488 wd_489 wd_139 (Nat.le_of_ble_eq_true rfl) (Nat.le_of_ble_eq_true rfl) d_T_init_129 ?_
  refine PJ.dup (pc := 132) d_T_init_132 rfl ?_
  refine PJ.aload_n (pc := 133) d_T_init_133 rfl ?_
  refine PJ.getR (pc := 134) fs_T_20 d_T_init_134 (fun v25 => ?_)
  refine PJ.aload_n (pc := 137) d_T_init_137 rfl ?_
  refine PJ.getR (pc := 138) fs_T_55 d_T_init_138 (fun v26 => ?_)
  refine PJ.aload_n (pc := 141) d_T_init_141 rfl ?_
  refine PJ.getR (pc := 142) fs_T_47 d_T_init_142 (fun v27 => ?_)
  refine PJ.cIVx (pc := 145) cs_T_70 (fun z hz => PM_Rows_init hz) (pj_fitb rfl) rfl rfl (Nat.le_of_ble_eq_true rfl) d_T_init_145 (fun h28 => ?_)
  refine PJ.putR (pc := 148) ps_T_71 rfl d_T_init_148 (fun h29 => ?_)
  refine PJ.aload_n (pc := 151) d_T_init_151 rfl ?_
  refine PJ.new (pc := 152) (ci := 3) (idx := 75) cd_3 rfl (fun _ => cn_3) wd_526 wd_527 wd_140 (Nat.le_of_ble_eq_true rfl) (Nat.le_of_ble_eq_true rfl) d_T_init_152 ?_
  refine PJ.dup (pc := 155) d_T_init_155 rfl ?_
  refine PJ.cIVx (pc := 156) cs_T_77 (fun z hz => PM_Past_init hz) (pj_fitb rfl) rfl rfl (Nat.le_of_ble_eq_true rfl) d_T_init_156 (fun h30 => ?_)
  refine PJ.putR (pc := 159) ps_T_78 rfl d_T_init_159 (fun h31 => ?_)
  refine PJ.aload_n (pc := 162) d_T_init_162 rfl ?_
  refine PJ.iconst (pc := 163) (v := 0) d_T_init_163 (by decide) ?_
  refine PJ.putI (pc := 164) ps_T_82 d_T_init_164 (fun h32 => ?_)
  refine PJ.aload_n (pc := 167) d_T_init_167 rfl ?_
  refine PJ.iconst (pc := 168) (v := 0) d_T_init_168 (by decide) ?_
  refine PJ.putI (pc := 169) ps_T_85 d_T_init_169 (fun h33 => ?_)
  refine PJ.aload_n (pc := 172) d_T_init_172 rfl ?_
  refine PJ.iconst (pc := 173) (v := 0) d_T_init_173 (by decide) ?_
  refine PJ.putI (pc := 174) ps_T_88 d_T_init_174 (fun h34 => ?_)
  exact PJ.vret (pc := 177) d_T_init_177 rfl (Nat.le_of_ble_eq_true rfl) (Nat.le_of_ble_eq_true rfl)
theorem d_T_tapeFour_0 : decode Y_T_tapeFour.2.1 0 = .ok (.bipush 24, 2) := by decide +kernel
theorem d_T_tapeFour_2 : decode Y_T_tapeFour.2.1 2 = .ok (.istore_n 2, 1) := by decide +kernel
theorem d_T_tapeFour_3 : decode Y_T_tapeFour.2.1 3 = .ok (.iload_n 2, 1) := by decide +kernel
theorem d_T_tapeFour_4 : decode Y_T_tapeFour.2.1 4 = .ok (.ifCond .lt 42, 3) := by decide +kernel
theorem d_T_tapeFour_7 : decode Y_T_tapeFour.2.1 7 = .ok (.aload_n 0, 1) := by decide +kernel
theorem d_T_tapeFour_8 : decode Y_T_tapeFour.2.1 8 = .ok (.getfield 13, 3) := by decide +kernel
theorem d_T_tapeFour_11 : decode Y_T_tapeFour.2.1 11 = .ok (.sipush 900, 3) := by decide +kernel
theorem d_T_tapeFour_14 : decode Y_T_tapeFour.2.1 14 = .ok (.if_icmp .ge 32, 3) := by decide +kernel
theorem d_T_tapeFour_17 : decode Y_T_tapeFour.2.1 17 = .ok (.aload_n 0, 1) := by decide +kernel
theorem d_T_tapeFour_18 : decode Y_T_tapeFour.2.1 18 = .ok (.getfield 9, 3) := by decide +kernel
theorem d_T_tapeFour_21 : decode Y_T_tapeFour.2.1 21 = .ok (.aload_n 0, 1) := by decide +kernel
theorem d_T_tapeFour_22 : decode Y_T_tapeFour.2.1 22 = .ok (.getfield 13, 3) := by decide +kernel
theorem d_T_tapeFour_25 : decode Y_T_tapeFour.2.1 25 = .ok (.iload_n 1, 1) := by decide +kernel
theorem d_T_tapeFour_26 : decode Y_T_tapeFour.2.1 26 = .ok (.iload_n 2, 1) := by decide +kernel
theorem d_T_tapeFour_27 : decode Y_T_tapeFour.2.1 27 = .ok (.iushr, 1) := by decide +kernel
theorem d_T_tapeFour_28 : decode Y_T_tapeFour.2.1 28 = .ok (.i2b, 1) := by decide +kernel
theorem d_T_tapeFour_29 : decode Y_T_tapeFour.2.1 29 = .ok (.bastore, 1) := by decide +kernel
theorem d_T_tapeFour_30 : decode Y_T_tapeFour.2.1 30 = .ok (.aload_n 0, 1) := by decide +kernel
theorem d_T_tapeFour_31 : decode Y_T_tapeFour.2.1 31 = .ok (.dup, 1) := by decide +kernel
theorem d_T_tapeFour_32 : decode Y_T_tapeFour.2.1 32 = .ok (.getfield 13, 3) := by decide +kernel
theorem d_T_tapeFour_35 : decode Y_T_tapeFour.2.1 35 = .ok (.iconst 1, 1) := by decide +kernel
theorem d_T_tapeFour_36 : decode Y_T_tapeFour.2.1 36 = .ok (.iadd, 1) := by decide +kernel
theorem d_T_tapeFour_37 : decode Y_T_tapeFour.2.1 37 = .ok (.putfield 13, 3) := by decide +kernel
theorem d_T_tapeFour_40 : decode Y_T_tapeFour.2.1 40 = .ok (.iinc 2 (-8), 3) := by decide +kernel
theorem d_T_tapeFour_43 : decode Y_T_tapeFour.2.1 43 = .ok (.goto (-40), 3) := by decide +kernel
theorem d_T_tapeFour_46 : decode Y_T_tapeFour.2.1 46 = .ok (.return_, 1) := by decide +kernel
def f_T_tapeFour (h : PH) (a0 : Option Nat) (a1 : Int32) : Option PH := (pj_it (X := PH) (fun s1 : Int32 × PH => if s1.1 < 0 then (some (.inr s1.2)) else ((gI s1.2 10 a0 1).bind fun v3 => if (900 : Int32) ≤ v3 then (some (.inr s1.2)) else ((gR s1.2 10 a0 0).bind fun v4 => (gI s1.2 10 a0 1).bind fun v5 => (sA s1.2 52 v4 v5 (.inl (Int32.toInt8 ((Int32.toInt8 (((a1).toUInt32 >>> ((s1.1).toUInt32 &&& Int32.toUInt32 31)).toInt32)).toInt32)).toInt32)).bind fun h6 => (gI h6 10 a0 1).bind fun v7 => (sF h6 10 a0 1 (.inl (v7 + (1 : Int32)))).bind fun h8 => some (.inl ((s1.1 + (-8 : Int32)), h8))))) FU ((24 : Int32), h)).bind fun x2 => some x2
set_option maxRecDepth 20000 in
theorem PM_T_tapeFour {l : Launch} {G : Cx} {h : PH} {a0 : Option Nat} {a1 : Int32} {z : PH} (hz : f_T_tapeFour h a0 a1 = some z) : PM l G 1 0 0 Y_T_tapeFour [.inr (.inr a0), .inl a1] h (none, z) := by
  refine PM.of (Y := Y_T_tapeFour) (cv := (fun z : PH => (((none, z) : Option PV × PH)))) (by decide) (L0 := [some (.inr (.inr a0)), some (.inl a1), none]) 1 rfl (Nat.le_of_ble_eq_true rfl) ?_ hz
  unfold f_T_tapeFour
  refine PJ.bipush (pc := 0) (v := 24) d_T_tapeFour_0 (by decide) ?_
  refine PJ.istore_n (pc := 2) (L1 := [some (.inr (.inr a0)), some (.inl a1), some (.inl (24 : Int32))]) d_T_tapeFour_2 (Nat.le_of_ble_eq_true rfl) rfl rfl ?_
  refine PJ.bind (fun x2 : PH => ((46 : Nat), ([none, none, none] : List (Option PV)), ([] : List PV), (x2 : PH), (0 : Nat), (0 : Nat))) (PJ.it (E := (fun s1 : Int32 × PH => ((3 : Nat), ([some (.inr (.inr a0)), some (.inl a1), some (.inl s1.1)] : List (Option PV)), ([] : List PV), (s1.2 : PH), (0 : Nat), (0 : Nat)))) (F := (fun x2 : PH => ((46 : Nat), ([none, none, none] : List (Option PV)), ([] : List PV), (x2 : PH), (0 : Nat), (0 : Nat)))) (fun s1 => ?_) FU ((24 : Int32), h)) (fun x2 => ?_)
  · show PJ l G (pj_rm 1 0 0) Y_T_tapeFour 3 [some (.inr (.inr a0)), some (.inl a1), some (.inl s1.1)] [] s1.2 0 0 _ _
    refine PJ.iload_n (pc := 3) d_T_tapeFour_3 rfl ?_
    refine PJ.if_lt (pc := 4) (tgt := 46) d_T_tapeFour_4 (by decide) (fun _ => ?_) (fun _ => ?_)
    · refine PJ.mk (L1 := [none, none, none]) [false, false, false] rfl ?_
      exact PJ.done rfl
    · refine PJ.aload_n (pc := 7) d_T_tapeFour_7 rfl ?_
      refine PJ.getI (pc := 8) fs_T_13 d_T_tapeFour_8 (fun v3 => ?_)
      refine PJ.sipush (pc := 11) (v := 900) d_T_tapeFour_11 (by decide) ?_
      refine PJ.icmp_ge (pc := 14) (tgt := 46) d_T_tapeFour_14 (by decide) (fun _ => ?_) (fun _ => ?_)
      · refine PJ.mk (L1 := [none, none, none]) [false, false, false] rfl ?_
        exact PJ.done rfl
      · refine PJ.aload_n (pc := 17) d_T_tapeFour_17 rfl ?_
        refine PJ.getR (pc := 18) fs_T_9 d_T_tapeFour_18 (fun v4 => ?_)
        refine PJ.aload_n (pc := 21) d_T_tapeFour_21 rfl ?_
        refine PJ.getI (pc := 22) fs_T_13 d_T_tapeFour_22 (fun v5 => ?_)
        refine PJ.iload_n (pc := 25) d_T_tapeFour_25 rfl ?_
        refine PJ.iload_n (pc := 26) d_T_tapeFour_26 rfl ?_
        refine PJ.iushr (pc := 27) d_T_tapeFour_27 ?_
        refine PJ.i2b (pc := 28) d_T_tapeFour_28 ?_
        refine PJ.bast (pc := 29) d_T_tapeFour_29 (fun h6 => ?_)
        refine PJ.aload_n (pc := 30) d_T_tapeFour_30 rfl ?_
        refine PJ.dup (pc := 31) d_T_tapeFour_31 rfl ?_
        refine PJ.getI (pc := 32) fs_T_13 d_T_tapeFour_32 (fun v7 => ?_)
        refine PJ.iconst (pc := 35) (v := 1) d_T_tapeFour_35 (by decide) ?_
        refine PJ.iadd (pc := 36) d_T_tapeFour_36 ?_
        refine PJ.putI (pc := 37) ps_T_13 d_T_tapeFour_37 (fun h8 => ?_)
        refine PJ.iinc (pc := 40) (v := -8) (L1 := [some (.inr (.inr a0)), some (.inl a1), some (.inl (s1.1 + (-8 : Int32)))]) d_T_tapeFour_40 rfl (by decide) (Nat.le_of_ble_eq_true rfl) rfl rfl ?_
        refine PJ.goto (pc := 43) (tgt := 3) d_T_tapeFour_43 (by decide) ?_
        exact PJ.done rfl
  · show PJ l G (pj_rm 1 0 0) Y_T_tapeFour 46 [none, none, none] [] x2 0 0 _ _
    exact PJ.vret (pc := 46) d_T_tapeFour_46 rfl (Nat.le_of_ble_eq_true rfl) (Nat.le_of_ble_eq_true rfl)
theorem d_T_feed_0 : decode Y_T_feed.2.1 0 = .ok (.aload_n 0, 1) := by decide +kernel
theorem d_T_feed_1 : decode Y_T_feed.2.1 1 = .ok (.getfield 13, 3) := by decide +kernel
theorem d_T_feed_4 : decode Y_T_feed.2.1 4 = .ok (.bipush 20, 2) := by decide +kernel
theorem d_T_feed_6 : decode Y_T_feed.2.1 6 = .ok (.iadd, 1) := by decide +kernel
theorem d_T_feed_7 : decode Y_T_feed.2.1 7 = .ok (.sipush 900, 3) := by decide +kernel
theorem d_T_feed_10 : decode Y_T_feed.2.1 10 = .ok (.if_icmp .le 5, 3) := by decide +kernel
theorem d_T_feed_13 : decode Y_T_feed.2.1 13 = .ok (.iconst (-1), 1) := by decide +kernel
theorem d_T_feed_14 : decode Y_T_feed.2.1 14 = .ok (.ireturn, 1) := by decide +kernel
theorem d_T_feed_15 : decode Y_T_feed.2.1 15 = .ok (.aload_n 0, 1) := by decide +kernel
theorem d_T_feed_16 : decode Y_T_feed.2.1 16 = .ok (.iload_n 1, 1) := by decide +kernel
theorem d_T_feed_17 : decode Y_T_feed.2.1 17 = .ok (.invokevirtual 91, 3) := by decide +kernel
theorem d_T_feed_20 : decode Y_T_feed.2.1 20 = .ok (.aload_n 0, 1) := by decide +kernel
theorem d_T_feed_21 : decode Y_T_feed.2.1 21 = .ok (.iload_n 2, 1) := by decide +kernel
theorem d_T_feed_22 : decode Y_T_feed.2.1 22 = .ok (.invokevirtual 91, 3) := by decide +kernel
theorem d_T_feed_25 : decode Y_T_feed.2.1 25 = .ok (.aload_n 0, 1) := by decide +kernel
theorem d_T_feed_26 : decode Y_T_feed.2.1 26 = .ok (.iload_n 3, 1) := by decide +kernel
theorem d_T_feed_27 : decode Y_T_feed.2.1 27 = .ok (.invokevirtual 91, 3) := by decide +kernel
theorem d_T_feed_30 : decode Y_T_feed.2.1 30 = .ok (.aload_n 0, 1) := by decide +kernel
theorem d_T_feed_31 : decode Y_T_feed.2.1 31 = .ok (.iload 4, 2) := by decide +kernel
theorem d_T_feed_33 : decode Y_T_feed.2.1 33 = .ok (.invokevirtual 91, 3) := by decide +kernel
theorem d_T_feed_36 : decode Y_T_feed.2.1 36 = .ok (.aload_n 0, 1) := by decide +kernel
theorem d_T_feed_37 : decode Y_T_feed.2.1 37 = .ok (.iload 5, 2) := by decide +kernel
theorem d_T_feed_39 : decode Y_T_feed.2.1 39 = .ok (.invokevirtual 91, 3) := by decide +kernel
theorem d_T_feed_42 : decode Y_T_feed.2.1 42 = .ok (.aload_n 0, 1) := by decide +kernel
theorem d_T_feed_43 : decode Y_T_feed.2.1 43 = .ok (.getfield 13, 3) := by decide +kernel
theorem d_T_feed_46 : decode Y_T_feed.2.1 46 = .ok (.ireturn, 1) := by decide +kernel
def f_T_feed (h : PH) (a0 : Option Nat) (a1 : Int32) (a2 : Int32) (a3 : Int32) (a4 : Int32) (a5 : Int32) : Option (Int32 × PH) := (gI h 10 a0 1).bind fun v1 => if (v1 + (20 : Int32)) ≤ (900 : Int32) then ((cl h 10 a0 (f_T_tapeFour h a0 a1)).bind fun h2 => (cl h2 10 a0 (f_T_tapeFour h2 a0 a2)).bind fun h3 => (cl h3 10 a0 (f_T_tapeFour h3 a0 a3)).bind fun h4 => (cl h4 10 a0 (f_T_tapeFour h4 a0 a4)).bind fun h5 => (cl h5 10 a0 (f_T_tapeFour h5 a0 a5)).bind fun h6 => (gI h6 10 a0 1).bind fun v7 => some (v7, h6)) else (some ((-1 : Int32), h))
set_option maxRecDepth 20000 in
theorem PM_T_feed {l : Launch} {G : Cx} {h : PH} {a0 : Option Nat} {a1 : Int32} {a2 : Int32} {a3 : Int32} {a4 : Int32} {a5 : Int32} {z : (Int32 × PH)} (hz : f_T_feed h a0 a1 a2 a3 a4 a5 = some z) : PM l G 2 0 0 Y_T_feed [.inr (.inr a0), .inl a1, .inl a2, .inl a3, .inl a4, .inl a5] h (some (.inl z.1), z.2) := by
  refine PM.of (Y := Y_T_feed) (cv := (fun z : (Int32 × PH) => (((some (.inl z.1), z.2) : Option PV × PH)))) (by decide) (L0 := [some (.inr (.inr a0)), some (.inl a1), some (.inl a2), some (.inl a3), some (.inl a4), some (.inl a5)]) 0 rfl (Nat.le_of_ble_eq_true rfl) ?_ hz
  unfold f_T_feed
  refine PJ.aload_n (pc := 0) d_T_feed_0 rfl ?_
  refine PJ.getI (pc := 1) fs_T_13 d_T_feed_1 (fun v1 => ?_)
  refine PJ.bipush (pc := 4) (v := 20) d_T_feed_4 (by decide) ?_
  refine PJ.iadd (pc := 6) d_T_feed_6 ?_
  refine PJ.sipush (pc := 7) (v := 900) d_T_feed_7 (by decide) ?_
  refine PJ.icmp_le (pc := 10) (tgt := 15) d_T_feed_10 (by decide) (fun _ => ?_) (fun _ => ?_)
  · refine PJ.aload_n (pc := 15) d_T_feed_15 rfl ?_
    refine PJ.iload_n (pc := 16) d_T_feed_16 rfl ?_
    refine PJ.cVV (pc := 17) cs_T_91 (fun z hz => PM_T_tapeFour hz) (pj_fitb rfl) rfl rfl (Nat.le_of_ble_eq_true rfl) d_T_feed_17 (fun h2 => ?_)
    refine PJ.aload_n (pc := 20) d_T_feed_20 rfl ?_
    refine PJ.iload_n (pc := 21) d_T_feed_21 rfl ?_
    refine PJ.cVV (pc := 22) cs_T_91 (fun z hz => PM_T_tapeFour hz) (pj_fitb rfl) rfl rfl (Nat.le_of_ble_eq_true rfl) d_T_feed_22 (fun h3 => ?_)
    refine PJ.aload_n (pc := 25) d_T_feed_25 rfl ?_
    refine PJ.iload_n (pc := 26) d_T_feed_26 rfl ?_
    refine PJ.cVV (pc := 27) cs_T_91 (fun z hz => PM_T_tapeFour hz) (pj_fitb rfl) rfl rfl (Nat.le_of_ble_eq_true rfl) d_T_feed_27 (fun h4 => ?_)
    refine PJ.aload_n (pc := 30) d_T_feed_30 rfl ?_
    refine PJ.iload (pc := 31) d_T_feed_31 rfl ?_
    refine PJ.cVV (pc := 33) cs_T_91 (fun z hz => PM_T_tapeFour hz) (pj_fitb rfl) rfl rfl (Nat.le_of_ble_eq_true rfl) d_T_feed_33 (fun h5 => ?_)
    refine PJ.aload_n (pc := 36) d_T_feed_36 rfl ?_
    refine PJ.iload (pc := 37) d_T_feed_37 rfl ?_
    refine PJ.cVV (pc := 39) cs_T_91 (fun z hz => PM_T_tapeFour hz) (pj_fitb rfl) rfl rfl (Nat.le_of_ble_eq_true rfl) d_T_feed_39 (fun h6 => ?_)
    refine PJ.aload_n (pc := 42) d_T_feed_42 rfl ?_
    refine PJ.getI (pc := 43) fs_T_13 d_T_feed_43 (fun v7 => ?_)
    exact PJ.iret (pc := 46) d_T_feed_46 rfl (Nat.le_of_ble_eq_true rfl) (Nat.le_of_ble_eq_true rfl)
  · refine PJ.iconst (pc := 13) (v := -1) d_T_feed_13 (by decide) ?_
    exact PJ.iret (pc := 14) d_T_feed_14 rfl (Nat.le_of_ble_eq_true rfl) (Nat.le_of_ble_eq_true rfl)
theorem d_T_refuse_0 : decode Y_T_refuse.2.1 0 = .ok (.aload_n 0, 1) := by decide +kernel
theorem d_T_refuse_1 : decode Y_T_refuse.2.1 1 = .ok (.iload_n 1, 1) := by decide +kernel
theorem d_T_refuse_2 : decode Y_T_refuse.2.1 2 = .ok (.putfield 82, 3) := by decide +kernel
theorem d_T_refuse_5 : decode Y_T_refuse.2.1 5 = .ok (.iconst (-1), 1) := by decide +kernel
theorem d_T_refuse_6 : decode Y_T_refuse.2.1 6 = .ok (.ireturn, 1) := by decide +kernel
def f_T_refuse (h : PH) (a0 : Option Nat) (a1 : Int32) : Option (Int32 × PH) := (sF h 10 a0 12 (.inl a1)).bind fun h1 => some ((-1 : Int32), h1)
set_option maxRecDepth 20000 in
theorem PM_T_refuse {l : Launch} {G : Cx} {h : PH} {a0 : Option Nat} {a1 : Int32} {z : (Int32 × PH)} (hz : f_T_refuse h a0 a1 = some z) : PM l G 1 0 0 Y_T_refuse [.inr (.inr a0), .inl a1] h (some (.inl z.1), z.2) := by
  refine PM.of (Y := Y_T_refuse) (cv := (fun z : (Int32 × PH) => (((some (.inl z.1), z.2) : Option PV × PH)))) (by decide) (L0 := [some (.inr (.inr a0)), some (.inl a1)]) 0 rfl (Nat.le_of_ble_eq_true rfl) ?_ hz
  unfold f_T_refuse
  refine PJ.aload_n (pc := 0) d_T_refuse_0 rfl ?_
  refine PJ.iload_n (pc := 1) d_T_refuse_1 rfl ?_
  refine PJ.putI (pc := 2) ps_T_82 d_T_refuse_2 (fun h1 => ?_)
  refine PJ.iconst (pc := 5) (v := -1) d_T_refuse_5 (by decide) ?_
  exact PJ.iret (pc := 6) d_T_refuse_6 rfl (Nat.le_of_ble_eq_true rfl) (Nat.le_of_ble_eq_true rfl)
theorem d_Arrays_fill_0 : decode Y_Arrays_fill.2.1 0 = .ok (.iconst 0, 1) := by decide +kernel
theorem d_Arrays_fill_1 : decode Y_Arrays_fill.2.1 1 = .ok (.istore_n 2, 1) := by decide +kernel
theorem d_Arrays_fill_2 : decode Y_Arrays_fill.2.1 2 = .ok (.aload_n 0, 1) := by decide +kernel
theorem d_Arrays_fill_3 : decode Y_Arrays_fill.2.1 3 = .ok (.arraylength, 1) := by decide +kernel
theorem d_Arrays_fill_4 : decode Y_Arrays_fill.2.1 4 = .ok (.istore_n 3, 1) := by decide +kernel
theorem d_Arrays_fill_5 : decode Y_Arrays_fill.2.1 5 = .ok (.iload_n 2, 1) := by decide +kernel
theorem d_Arrays_fill_6 : decode Y_Arrays_fill.2.1 6 = .ok (.iload_n 3, 1) := by decide +kernel
theorem d_Arrays_fill_7 : decode Y_Arrays_fill.2.1 7 = .ok (.if_icmp .ge 13, 3) := by decide +kernel
theorem d_Arrays_fill_10 : decode Y_Arrays_fill.2.1 10 = .ok (.aload_n 0, 1) := by decide +kernel
theorem d_Arrays_fill_11 : decode Y_Arrays_fill.2.1 11 = .ok (.iload_n 2, 1) := by decide +kernel
theorem d_Arrays_fill_12 : decode Y_Arrays_fill.2.1 12 = .ok (.iload_n 1, 1) := by decide +kernel
theorem d_Arrays_fill_13 : decode Y_Arrays_fill.2.1 13 = .ok (.iastore, 1) := by decide +kernel
theorem d_Arrays_fill_14 : decode Y_Arrays_fill.2.1 14 = .ok (.iinc 2 1, 3) := by decide +kernel
theorem d_Arrays_fill_17 : decode Y_Arrays_fill.2.1 17 = .ok (.goto (-12), 3) := by decide +kernel
theorem d_Arrays_fill_20 : decode Y_Arrays_fill.2.1 20 = .ok (.return_, 1) := by decide +kernel
def f_Arrays_fill (h : PH) (a0 : Option Nat) (a1 : Int32) : Option PH := (aN h 50 a0).bind fun v1 => (pj_it (X := PH) (fun s2 : Int32 × PH => if v1 ≤ s2.1 then (some (.inr s2.2)) else ((sA s2.2 50 a0 s2.1 (.inl a1)).bind fun h4 => some (.inl ((s2.1 + (1 : Int32)), h4)))) FU ((0 : Int32), h)).bind fun x3 => some x3
set_option maxRecDepth 20000 in
theorem PM_Arrays_fill {l : Launch} {G : Cx} {h : PH} {a0 : Option Nat} {a1 : Int32} {z : PH} (hz : f_Arrays_fill h a0 a1 = some z) : PM l G 1 0 0 Y_Arrays_fill [.inr (.inr a0), .inl a1] h (none, z) := by
  refine PM.of (Y := Y_Arrays_fill) (cv := (fun z : PH => (((none, z) : Option PV × PH)))) (by decide) (L0 := [some (.inr (.inr a0)), some (.inl a1), none, none]) 2 rfl (Nat.le_of_ble_eq_true rfl) ?_ hz
  unfold f_Arrays_fill
  refine PJ.iconst (pc := 0) (v := 0) d_Arrays_fill_0 (by decide) ?_
  refine PJ.istore_n (pc := 1) (L1 := [some (.inr (.inr a0)), some (.inl a1), some (.inl (0 : Int32)), none]) d_Arrays_fill_1 (Nat.le_of_ble_eq_true rfl) rfl rfl ?_
  refine PJ.aload_n (pc := 2) d_Arrays_fill_2 rfl ?_
  refine PJ.alen (pc := 3) 50 (by decide) d_Arrays_fill_3 (fun v1 => ?_)
  refine PJ.istore_n (pc := 4) (L1 := [some (.inr (.inr a0)), some (.inl a1), some (.inl (0 : Int32)), some (.inl v1)]) d_Arrays_fill_4 (Nat.le_of_ble_eq_true rfl) rfl rfl ?_
  refine PJ.bind (fun x3 : PH => ((20 : Nat), ([none, none, none, none] : List (Option PV)), ([] : List PV), (x3 : PH), (0 : Nat), (0 : Nat))) (PJ.it (E := (fun s2 : Int32 × PH => ((5 : Nat), ([some (.inr (.inr a0)), some (.inl a1), some (.inl s2.1), some (.inl v1)] : List (Option PV)), ([] : List PV), (s2.2 : PH), (0 : Nat), (0 : Nat)))) (F := (fun x3 : PH => ((20 : Nat), ([none, none, none, none] : List (Option PV)), ([] : List PV), (x3 : PH), (0 : Nat), (0 : Nat)))) (fun s2 => ?_) FU ((0 : Int32), h)) (fun x3 => ?_)
  · show PJ l G (pj_rm 1 0 0) Y_Arrays_fill 5 [some (.inr (.inr a0)), some (.inl a1), some (.inl s2.1), some (.inl v1)] [] s2.2 0 0 _ _
    refine PJ.iload_n (pc := 5) d_Arrays_fill_5 rfl ?_
    refine PJ.iload_n (pc := 6) d_Arrays_fill_6 rfl ?_
    refine PJ.icmp_ge (pc := 7) (tgt := 20) d_Arrays_fill_7 (by decide) (fun _ => ?_) (fun _ => ?_)
    · refine PJ.mk (L1 := [none, none, none, none]) [false, false, false, false] rfl ?_
      exact PJ.done rfl
    · refine PJ.aload_n (pc := 10) d_Arrays_fill_10 rfl ?_
      refine PJ.iload_n (pc := 11) d_Arrays_fill_11 rfl ?_
      refine PJ.iload_n (pc := 12) d_Arrays_fill_12 rfl ?_
      refine PJ.iast (pc := 13) d_Arrays_fill_13 (fun h4 => ?_)
      refine PJ.iinc (pc := 14) (v := 1) (L1 := [some (.inr (.inr a0)), some (.inl a1), some (.inl (s2.1 + (1 : Int32))), some (.inl v1)]) d_Arrays_fill_14 rfl (by decide) (Nat.le_of_ble_eq_true rfl) rfl rfl ?_
      refine PJ.goto (pc := 17) (tgt := 5) d_Arrays_fill_17 (by decide) ?_
      exact PJ.done rfl
  · show PJ l G (pj_rm 1 0 0) Y_Arrays_fill 20 [none, none, none, none] [] x3 0 0 _ _
    exact PJ.vret (pc := 20) d_Arrays_fill_20 rfl (Nat.le_of_ble_eq_true rfl) (Nat.le_of_ble_eq_true rfl)
