-- sites and methods: later
abbrev Y_T_plan : MI := (⟨"WaverTax", "plan", "(IIZ)J"⟩, prog_1_method_19_code, 5, (some .long))
abbrev Y_Planner_bestFirst : MI := (⟨"WaverTax$Planner", "bestFirst", "(I)I"⟩, prog_6_method_5_code, 8, (some .int))
abbrev Y_T_planFirst : MI := (⟨"WaverTax", "planFirst", "(II)I"⟩, prog_1_method_20_code, 4, (some .int))
abbrev Y_T_planBy : MI := (⟨"WaverTax", "planBy", "(IIIZ)J"⟩, prog_1_method_22_code, 6, (some .long))
abbrev Y_Rows_gather : MI := (⟨"WaverTax$Rows", "gather", "(LWaverTax$Law;I)V"⟩, prog_10_method_2_code, 4, (none : Option FieldType))
abbrev Y_T_rows : MI := (⟨"WaverTax", "rows", "(I)I"⟩, prog_1_method_36_code, 2, (some .int))
abbrev Y_T_gatherFor : MI := (⟨"WaverTax", "gatherFor", "(I)Z"⟩, prog_1_method_43_code, 2, (some .boolean))
abbrev Y_T_could : MI := (⟨"WaverTax", "could", "(I)I"⟩, prog_1_method_37_code, 2, (some .int))
abbrev Y_T_surely : MI := (⟨"WaverTax", "surely", "(I)I"⟩, prog_1_method_38_code, 2, (some .int))
abbrev Y_T_firstOf : MI := (⟨"WaverTax", "firstOf", "(I)I"⟩, prog_1_method_39_code, 2, (some .int))
abbrev Y_Rows_weighAll : MI := (⟨"WaverTax$Rows", "weighAll", "(LWaverTax$Law;)V"⟩, prog_10_method_7_code, 3, (none : Option FieldType))
abbrev Y_T_bestToAsk : MI := (⟨"WaverTax", "bestToAsk", "()I"⟩, prog_1_method_44_code, 3, (some .int))
abbrev Y_T_ask : MI := (⟨"WaverTax", "ask", "()I"⟩, prog_1_method_40_code, 1, (some .int))
abbrev Y_T_askLeaves : MI := (⟨"WaverTax", "askLeaves", "()I"⟩, prog_1_method_41_code, 2, (some .int))
abbrev Y_T_liar : MI := (⟨"WaverTax", "liar", "()I"⟩, prog_1_method_42_code, 2, (some .int))
theorem cm_Receipts_has : (Cond.code Y_Receipts_has.1 Y_Receipts_has.2.1 Y_Receipts_has.2.2.1 Y_Receipts_has.2.2.2 ∈ pj_ws) ∧ (Cond.initialized Y_Receipts_has.1.cls ∈ pj_ws) ∧ (Y_Receipts_has.1.cls ≠ "java/lang/invoke/MethodHandle" ∧ Y_Receipts_has.1.cls ≠ "java/lang/invoke/VarHandle" ∧ (parseMethodDescriptor Y_Receipts_has.1.desc).map (fun d => d.parameters.length) = some 1) ∧ (Cond.instanceMethod Y_Receipts_has.1 ∈ pj_ws) ∧ (Cond.selects Y_Receipts_has.1.cls Y_Receipts_has.1 Y_Receipts_has.1 ∈ pj_ws) := ⟨pj_mem 1094 (by decide +kernel) rfl, pj_mem 133 (by decide +kernel) rfl, ⟨by decide +kernel, by decide +kernel, by decide +kernel⟩, pj_mem 1092 (by decide +kernel) rfl, pj_mem 1093 (by decide +kernel) rfl⟩
theorem cm_Rows_gather : (Cond.code Y_Rows_gather.1 Y_Rows_gather.2.1 Y_Rows_gather.2.2.1 Y_Rows_gather.2.2.2 ∈ pj_ws) ∧ (Cond.initialized Y_Rows_gather.1.cls ∈ pj_ws) ∧ (Y_Rows_gather.1.cls ≠ "java/lang/invoke/MethodHandle" ∧ Y_Rows_gather.1.cls ≠ "java/lang/invoke/VarHandle" ∧ (parseMethodDescriptor Y_Rows_gather.1.desc).map (fun d => d.parameters.length) = some 2) ∧ (Cond.instanceMethod Y_Rows_gather.1 ∈ pj_ws) ∧ (Cond.selects Y_Rows_gather.1.cls Y_Rows_gather.1 Y_Rows_gather.1 ∈ pj_ws) := ⟨pj_mem 1102 (by decide +kernel) rfl, pj_mem 139 (by decide +kernel) rfl, ⟨by decide +kernel, by decide +kernel, by decide +kernel⟩, pj_mem 1100 (by decide +kernel) rfl, pj_mem 1101 (by decide +kernel) rfl⟩
theorem cm_Rows_weigh : (Cond.code Y_Rows_weigh.1 Y_Rows_weigh.2.1 Y_Rows_weigh.2.2.1 Y_Rows_weigh.2.2.2 ∈ pj_ws) ∧ (Cond.initialized Y_Rows_weigh.1.cls ∈ pj_ws) ∧ (Y_Rows_weigh.1.cls ≠ "java/lang/invoke/MethodHandle" ∧ Y_Rows_weigh.1.cls ≠ "java/lang/invoke/VarHandle" ∧ (parseMethodDescriptor Y_Rows_weigh.1.desc).map (fun d => d.parameters.length) = some 0) ∧ (Cond.instanceMethod Y_Rows_weigh.1 ∈ pj_ws) ∧ (Cond.selects Y_Rows_weigh.1.cls Y_Rows_weigh.1 Y_Rows_weigh.1 ∈ pj_ws) := ⟨pj_mem 1158 (by decide +kernel) rfl, pj_mem 139 (by decide +kernel) rfl, ⟨by decide +kernel, by decide +kernel, by decide +kernel⟩, pj_mem 1157 (by decide +kernel) rfl, pj_mem 45 (by decide +kernel) rfl⟩
theorem cm_Planner_bestFirst : (Cond.code Y_Planner_bestFirst.1 Y_Planner_bestFirst.2.1 Y_Planner_bestFirst.2.2.1 Y_Planner_bestFirst.2.2.2 ∈ pj_ws) ∧ (Cond.initialized Y_Planner_bestFirst.1.cls ∈ pj_ws) ∧ (Y_Planner_bestFirst.1.cls ≠ "java/lang/invoke/MethodHandle" ∧ Y_Planner_bestFirst.1.cls ≠ "java/lang/invoke/VarHandle" ∧ (parseMethodDescriptor Y_Planner_bestFirst.1.desc).map (fun d => d.parameters.length) = some 1) ∧ (Cond.instanceMethod Y_Planner_bestFirst.1 ∈ pj_ws) ∧ (Cond.selects Y_Planner_bestFirst.1.cls Y_Planner_bestFirst.1 Y_Planner_bestFirst.1 ∈ pj_ws) := ⟨pj_mem 1012 (by decide +kernel) rfl, pj_mem 138 (by decide +kernel) rfl, ⟨by decide +kernel, by decide +kernel, by decide +kernel⟩, pj_mem 1010 (by decide +kernel) rfl, pj_mem 1011 (by decide +kernel) rfl⟩
theorem cm_T_gatherFor : (Cond.code Y_T_gatherFor.1 Y_T_gatherFor.2.1 Y_T_gatherFor.2.2.1 Y_T_gatherFor.2.2.2 ∈ pj_ws) ∧ (Cond.initialized Y_T_gatherFor.1.cls ∈ pj_ws) ∧ (Y_T_gatherFor.1.cls ≠ "java/lang/invoke/MethodHandle" ∧ Y_T_gatherFor.1.cls ≠ "java/lang/invoke/VarHandle" ∧ (parseMethodDescriptor Y_T_gatherFor.1.desc).map (fun d => d.parameters.length) = some 1) ∧ (Cond.instanceMethod Y_T_gatherFor.1 ∈ pj_ws) ∧ (Cond.selects Y_T_gatherFor.1.cls Y_T_gatherFor.1 Y_T_gatherFor.1 ∈ pj_ws) := ⟨pj_mem 1124 (by decide +kernel) rfl, pj_mem 130 (by decide +kernel) rfl, ⟨by decide +kernel, by decide +kernel, by decide +kernel⟩, pj_mem 1123 (by decide +kernel) rfl, pj_mem 43 (by decide +kernel) rfl⟩
theorem cm_Rows_possible : (Cond.code Y_Rows_possible.1 Y_Rows_possible.2.1 Y_Rows_possible.2.2.1 Y_Rows_possible.2.2.2 ∈ pj_ws) ∧ (Cond.initialized Y_Rows_possible.1.cls ∈ pj_ws) ∧ (Y_Rows_possible.1.cls ≠ "java/lang/invoke/MethodHandle" ∧ Y_Rows_possible.1.cls ≠ "java/lang/invoke/VarHandle" ∧ (parseMethodDescriptor Y_Rows_possible.1.desc).map (fun d => d.parameters.length) = some 1) ∧ (Cond.instanceMethod Y_Rows_possible.1 ∈ pj_ws) ∧ (Cond.selects Y_Rows_possible.1.cls Y_Rows_possible.1 Y_Rows_possible.1 ∈ pj_ws) := ⟨pj_mem 1128 (by decide +kernel) rfl, pj_mem 139 (by decide +kernel) rfl, ⟨by decide +kernel, by decide +kernel, by decide +kernel⟩, pj_mem 1126 (by decide +kernel) rfl, pj_mem 1127 (by decide +kernel) rfl⟩
theorem cm_Rows_certain : (Cond.code Y_Rows_certain.1 Y_Rows_certain.2.1 Y_Rows_certain.2.2.1 Y_Rows_certain.2.2.2 ∈ pj_ws) ∧ (Cond.initialized Y_Rows_certain.1.cls ∈ pj_ws) ∧ (Y_Rows_certain.1.cls ≠ "java/lang/invoke/MethodHandle" ∧ Y_Rows_certain.1.cls ≠ "java/lang/invoke/VarHandle" ∧ (parseMethodDescriptor Y_Rows_certain.1.desc).map (fun d => d.parameters.length) = some 1) ∧ (Cond.instanceMethod Y_Rows_certain.1 ∈ pj_ws) ∧ (Cond.selects Y_Rows_certain.1.cls Y_Rows_certain.1 Y_Rows_certain.1 ∈ pj_ws) := ⟨pj_mem 1136 (by decide +kernel) rfl, pj_mem 139 (by decide +kernel) rfl, ⟨by decide +kernel, by decide +kernel, by decide +kernel⟩, pj_mem 1134 (by decide +kernel) rfl, pj_mem 1135 (by decide +kernel) rfl⟩
theorem cm_T_bestToAsk : (Cond.code Y_T_bestToAsk.1 Y_T_bestToAsk.2.1 Y_T_bestToAsk.2.2.1 Y_T_bestToAsk.2.2.2 ∈ pj_ws) ∧ (Cond.initialized Y_T_bestToAsk.1.cls ∈ pj_ws) ∧ (Y_T_bestToAsk.1.cls ≠ "java/lang/invoke/MethodHandle" ∧ Y_T_bestToAsk.1.cls ≠ "java/lang/invoke/VarHandle" ∧ (parseMethodDescriptor Y_T_bestToAsk.1.desc).map (fun d => d.parameters.length) = some 0) ∧ (Cond.instanceMethod Y_T_bestToAsk.1 ∈ pj_ws) ∧ (Cond.selects Y_T_bestToAsk.1.cls Y_T_bestToAsk.1 Y_T_bestToAsk.1 ∈ pj_ws) := ⟨pj_mem 1148 (by decide +kernel) rfl, pj_mem 130 (by decide +kernel) rfl, ⟨by decide +kernel, by decide +kernel, by decide +kernel⟩, pj_mem 1147 (by decide +kernel) rfl, pj_mem 44 (by decide +kernel) rfl⟩
theorem cm_Rows_weighAll : (Cond.code Y_Rows_weighAll.1 Y_Rows_weighAll.2.1 Y_Rows_weighAll.2.2.1 Y_Rows_weighAll.2.2.2 ∈ pj_ws) ∧ (Cond.initialized Y_Rows_weighAll.1.cls ∈ pj_ws) ∧ (Y_Rows_weighAll.1.cls ≠ "java/lang/invoke/MethodHandle" ∧ Y_Rows_weighAll.1.cls ≠ "java/lang/invoke/VarHandle" ∧ (parseMethodDescriptor Y_Rows_weighAll.1.desc).map (fun d => d.parameters.length) = some 1) ∧ (Cond.instanceMethod Y_Rows_weighAll.1 ∈ pj_ws) ∧ (Cond.selects Y_Rows_weighAll.1.cls Y_Rows_weighAll.1 Y_Rows_weighAll.1 ∈ pj_ws) := ⟨pj_mem 1152 (by decide +kernel) rfl, pj_mem 139 (by decide +kernel) rfl, ⟨by decide +kernel, by decide +kernel, by decide +kernel⟩, pj_mem 1150 (by decide +kernel) rfl, pj_mem 1151 (by decide +kernel) rfl⟩
theorem cs_Rows_116 : pj_cV "WaverTax$Rows" 116 Y_Receipts_has 1 7 := ⟨⟨cm_Receipts_has.1, cm_Receipts_has.2.1, cm_Receipts_has.2.2.1, Or.inl (pj_mem 1153 (by decide +kernel) rfl)⟩, by decide, cm_Receipts_has.2.2.2.1, cm_Receipts_has.2.2.2.2, ⟨_, rfl, rfl⟩⟩
theorem cs_Rows_120 : pj_cV "WaverTax$Rows" 120 Y_Rows_gather 2 8 := ⟨⟨cm_Rows_gather.1, cm_Rows_gather.2.1, cm_Rows_gather.2.2.1, Or.inl (pj_mem 1154 (by decide +kernel) rfl)⟩, by decide, cm_Rows_gather.2.2.2.1, cm_Rows_gather.2.2.2.2, ⟨_, rfl, rfl⟩⟩
theorem cs_Rows_124 : pj_cV "WaverTax$Rows" 124 Y_Rows_weigh 0 8 := ⟨⟨cm_Rows_weigh.1, cm_Rows_weigh.2.1, cm_Rows_weigh.2.2.1, Or.inl (pj_mem 1155 (by decide +kernel) rfl)⟩, by decide, cm_Rows_weigh.2.2.2.1, cm_Rows_weigh.2.2.2.2, ⟨_, rfl, rfl⟩⟩
theorem cs_Rows_45 : pj_cS "WaverTax$Rows" 45 Y_Arrays_fill 2 := ⟨⟨cm_Arrays_fill.1, cm_Arrays_fill.2.1, cm_Arrays_fill.2.2.1, Or.inl (pj_mem 1103 (by decide +kernel) rfl)⟩, cm_Arrays_fill.2.2.2⟩
theorem cs_Rows_51 : pj_cV "WaverTax$Rows" 51 Y_Now_begin 1 2 := ⟨⟨cm_Now_begin.1, cm_Now_begin.2.1, cm_Now_begin.2.2.1, Or.inl (pj_mem 1104 (by decide +kernel) rfl)⟩, by decide, cm_Now_begin.2.2.2.1, cm_Now_begin.2.2.2.2, ⟨_, rfl, rfl⟩⟩
theorem cs_Rows_57 : pj_cV "WaverTax$Rows" 57 Y_Desk_look 2 0 := ⟨⟨cm_Desk_look.1, cm_Desk_look.2.1, cm_Desk_look.2.2.1, Or.inl (pj_mem 1105 (by decide +kernel) rfl)⟩, by decide, cm_Desk_look.2.2.2.1, cm_Desk_look.2.2.2.2, ⟨_, rfl, rfl⟩⟩
theorem cs_T_203 : pj_cV "WaverTax" 203 Y_Planner_best 1 4 := ⟨⟨cm_Planner_best.1, cm_Planner_best.2.1, cm_Planner_best.2.2.1, Or.inr ⟨_, List.mem_of_getElem? (i := 6) rfl⟩⟩, by decide, cm_Planner_best.2.2.2.1, cm_Planner_best.2.2.2.2, ⟨_, rfl, rfl⟩⟩
theorem cs_T_206 : pj_cV "WaverTax" 206 Y_Planner_scale 1 4 := ⟨⟨cm_Planner_scale.1, cm_Planner_scale.2.1, cm_Planner_scale.2.2.1, Or.inl (pj_mem 994 (by decide +kernel) rfl)⟩, by decide, cm_Planner_scale.2.2.2.1, cm_Planner_scale.2.2.2.2, ⟨_, rfl, rfl⟩⟩
theorem cs_T_213 : pj_cV "WaverTax" 213 Y_Planner_bestFirst 1 4 := ⟨⟨cm_Planner_bestFirst.1, cm_Planner_bestFirst.2.1, cm_Planner_bestFirst.2.2.1, Or.inl (pj_mem 1009 (by decide +kernel) rfl)⟩, by decide, cm_Planner_bestFirst.2.2.2.1, cm_Planner_bestFirst.2.2.2.2, ⟨_, rfl, rfl⟩⟩
theorem cs_T_221 : pj_cV "WaverTax" 221 Y_Planner_by 2 4 := ⟨⟨cm_Planner_by.1, cm_Planner_by.2.1, cm_Planner_by.2.2.1, Or.inr ⟨_, List.mem_of_getElem? (i := 7) rfl⟩⟩, by decide, cm_Planner_by.2.2.2.1, cm_Planner_by.2.2.2.2, ⟨_, rfl, rfl⟩⟩
theorem cs_T_265 : pj_cV "WaverTax" 265 Y_Receipts_has 1 7 := ⟨⟨cm_Receipts_has.1, cm_Receipts_has.2.1, cm_Receipts_has.2.2.1, Or.inl (pj_mem 1091 (by decide +kernel) rfl)⟩, by decide, cm_Receipts_has.2.2.2.1, cm_Receipts_has.2.2.2.2, ⟨_, rfl, rfl⟩⟩
theorem cs_T_270 : pj_cV "WaverTax" 270 Y_Rows_gather 2 8 := ⟨⟨cm_Rows_gather.1, cm_Rows_gather.2.1, cm_Rows_gather.2.2.1, Or.inl (pj_mem 1099 (by decide +kernel) rfl)⟩, by decide, cm_Rows_gather.2.2.2.1, cm_Rows_gather.2.2.2.2, ⟨_, rfl, rfl⟩⟩
theorem cs_T_275 : pj_cV "WaverTax" 275 Y_T_gatherFor 1 10 := ⟨⟨cm_T_gatherFor.1, cm_T_gatherFor.2.1, cm_T_gatherFor.2.2.1, Or.inl (pj_mem 1121 (by decide +kernel) rfl)⟩, by decide, cm_T_gatherFor.2.2.2.1, cm_T_gatherFor.2.2.2.2, ⟨_, rfl, rfl⟩⟩
theorem cs_T_278 : pj_cV "WaverTax" 278 Y_Rows_possible 1 8 := ⟨⟨cm_Rows_possible.1, cm_Rows_possible.2.1, cm_Rows_possible.2.2.1, Or.inl (pj_mem 1125 (by decide +kernel) rfl)⟩, by decide, cm_Rows_possible.2.2.2.1, cm_Rows_possible.2.2.2.2, ⟨_, rfl, rfl⟩⟩
theorem cs_T_281 : pj_cV "WaverTax" 281 Y_Rows_certain 1 8 := ⟨⟨cm_Rows_certain.1, cm_Rows_certain.2.1, cm_Rows_certain.2.2.1, Or.inl (pj_mem 1133 (by decide +kernel) rfl)⟩, by decide, cm_Rows_certain.2.2.2.1, cm_Rows_certain.2.2.2.2, ⟨_, rfl, rfl⟩⟩
theorem cs_T_287 : pj_cV "WaverTax" 287 Y_T_bestToAsk 0 10 := ⟨⟨cm_T_bestToAsk.1, cm_T_bestToAsk.2.1, cm_T_bestToAsk.2.2.1, Or.inl (pj_mem 1145 (by decide +kernel) rfl)⟩, by decide, cm_T_bestToAsk.2.2.2.1, cm_T_bestToAsk.2.2.2.2, ⟨_, rfl, rfl⟩⟩
theorem cs_T_297 : pj_cV "WaverTax" 297 Y_Rows_weighAll 1 8 := ⟨⟨cm_Rows_weighAll.1, cm_Rows_weighAll.2.1, cm_Rows_weighAll.2.2.1, Or.inl (pj_mem 1149 (by decide +kernel) rfl)⟩, by decide, cm_Rows_weighAll.2.2.2.1, cm_Rows_weighAll.2.2.2.2, ⟨_, rfl, rfl⟩⟩
theorem fs_Rows_113 : pj_fs "WaverTax$Rows" 1 3 113 (.int) := ⟨_, _, _, _, cd_1, by decide, rfl, Or.inl (pj_mem 290 (by decide +kernel) rfl)⟩
theorem fs_T_274 : pj_fs "WaverTax" 8 4 274 (.int) := ⟨_, _, _, _, cd_8, by decide, rfl, Or.inl (pj_mem 500 (by decide +kernel) rfl)⟩
theorem fs_T_284 : pj_fs "WaverTax" 8 5 284 (.array (.int)) := ⟨_, _, _, _, cd_8, by decide, rfl, Or.inl (pj_mem 502 (by decide +kernel) rfl)⟩
theorem fs_T_290 : pj_fs "WaverTax" 8 6 290 (.array (.int)) := ⟨_, _, _, _, cd_8, by decide, rfl, Or.inl (pj_mem 504 (by decide +kernel) rfl)⟩
theorem fs_T_294 : pj_fs "WaverTax" 7 1 294 (.array (.int)) := ⟨_, _, _, _, cd_7, by decide, rfl, Or.inl (pj_mem 233 (by decide +kernel) rfl)⟩
theorem fs_T_71 : pj_fs "WaverTax" 10 10 71 (.object "WaverTax$Rows") := ⟨_, _, _, _, cd_10, by decide, rfl, Or.inl (pj_mem 560 (by decide +kernel) rfl)⟩
theorem d_T_plan_0 : decode Y_T_plan.2.1 0 = .ok (.aload_n 0, 1) := by decide +kernel
theorem d_T_plan_1 : decode Y_T_plan.2.1 1 = .ok (.iload_n 1, 1) := by decide +kernel
theorem d_T_plan_2 : decode Y_T_plan.2.1 2 = .ok (.iload_n 2, 1) := by decide +kernel
theorem d_T_plan_3 : decode Y_T_plan.2.1 3 = .ok (.invokevirtual 193, 3) := by decide +kernel
theorem d_T_plan_6 : decode Y_T_plan.2.1 6 = .ok (.istore 4, 2) := by decide +kernel
theorem d_T_plan_8 : decode Y_T_plan.2.1 8 = .ok (.iload 4, 2) := by decide +kernel
theorem d_T_plan_10 : decode Y_T_plan.2.1 10 = .ok (.ifCond .eq 10, 3) := by decide +kernel
theorem d_T_plan_13 : decode Y_T_plan.2.1 13 = .ok (.aload_n 0, 1) := by decide +kernel
theorem d_T_plan_14 : decode Y_T_plan.2.1 14 = .ok (.iload 4, 2) := by decide +kernel
theorem d_T_plan_16 : decode Y_T_plan.2.1 16 = .ok (.invokevirtual 196, 3) := by decide +kernel
theorem d_T_plan_19 : decode Y_T_plan.2.1 19 = .ok (.lreturn, 1) := by decide +kernel
theorem d_T_plan_20 : decode Y_T_plan.2.1 20 = .ok (.aload_n 0, 1) := by decide +kernel
theorem d_T_plan_21 : decode Y_T_plan.2.1 21 = .ok (.getfield 64, 3) := by decide +kernel
theorem d_T_plan_24 : decode Y_T_plan.2.1 24 = .ok (.aload_n 0, 1) := by decide +kernel
theorem d_T_plan_25 : decode Y_T_plan.2.1 25 = .ok (.getfield 20, 3) := by decide +kernel
theorem d_T_plan_28 : decode Y_T_plan.2.1 28 = .ok (.aload_n 0, 1) := by decide +kernel
theorem d_T_plan_29 : decode Y_T_plan.2.1 29 = .ok (.getfield 43, 3) := by decide +kernel
theorem d_T_plan_32 : decode Y_T_plan.2.1 32 = .ok (.iload_n 1, 1) := by decide +kernel
theorem d_T_plan_33 : decode Y_T_plan.2.1 33 = .ok (.invokevirtual 200, 3) := by decide +kernel
theorem d_T_plan_36 : decode Y_T_plan.2.1 36 = .ok (.aload_n 0, 1) := by decide +kernel
theorem d_T_plan_37 : decode Y_T_plan.2.1 37 = .ok (.aload_n 0, 1) := by decide +kernel
theorem d_T_plan_38 : decode Y_T_plan.2.1 38 = .ok (.getfield 64, 3) := by decide +kernel
theorem d_T_plan_41 : decode Y_T_plan.2.1 41 = .ok (.iload_n 2, 1) := by decide +kernel
theorem d_T_plan_42 : decode Y_T_plan.2.1 42 = .ok (.invokevirtual 203, 3) := by decide +kernel
theorem d_T_plan_45 : decode Y_T_plan.2.1 45 = .ok (.aload_n 0, 1) := by decide +kernel
theorem d_T_plan_46 : decode Y_T_plan.2.1 46 = .ok (.getfield 64, 3) := by decide +kernel
theorem d_T_plan_49 : decode Y_T_plan.2.1 49 = .ok (.iload_n 2, 1) := by decide +kernel
theorem d_T_plan_50 : decode Y_T_plan.2.1 50 = .ok (.invokevirtual 206, 3) := by decide +kernel
theorem d_T_plan_53 : decode Y_T_plan.2.1 53 = .ok (.iload_n 3, 1) := by decide +kernel
theorem d_T_plan_54 : decode Y_T_plan.2.1 54 = .ok (.invokevirtual 209, 3) := by decide +kernel
theorem d_T_plan_57 : decode Y_T_plan.2.1 57 = .ok (.lreturn, 1) := by decide +kernel
def f_T_plan (h : PH) (a0 : Option Nat) (a1 : Int32) (a2 : Int32) (a3 : Int32) : Option (Int64 × PH) := (cl h 10 a0 (f_T_planTrouble h a0 a1 a2)).bind fun v1 => if v1 = 0 then ((gR h 10 a0 9).bind fun v2 => (gR h 10 a0 2).bind fun v3 => (gR h 10 a0 6).bind fun v4 => (cl h 4 v2 (f_Planner_begin h v2 v3 v4 a1)).bind fun h5 => (gR h5 10 a0 9).bind fun v6 => (cl h5 4 v6 (f_Planner_best h5 v6 a2)).bind fun v7 => (gR v7.2 10 a0 9).bind fun v8 => (cl v7.2 4 v8 (f_Planner_scale v7.2 v8 a2)).bind fun v9 => (cl v7.2 10 a0 (f_T_fineMean v7.2 a0 v7.1 v9 a3)).bind fun v10 => some (v10.1, v10.2)) else ((cl h 10 a0 (f_T_refuseLong h a0 v1)).bind fun v11 => some (v11.1, v11.2))
set_option maxRecDepth 20000 in
theorem PM_T_plan {l : Launch} {G : Cx} {h : PH} {a0 : Option Nat} {a1 : Int32} {a2 : Int32} {a3 : Int32} {z : (Int64 × PH)} (hz : f_T_plan h a0 a1 a2 a3 = some z) : PM l G 61 0 0 Y_T_plan [.inr (.inr a0), .inl a1, .inl a2, .inl a3] h (some (.inr (.inl z.1)), z.2) := by
  refine PM.of (Y := Y_T_plan) (cv := (fun z : (Int64 × PH) => (((some (.inr (.inl z.1)), z.2) : Option PV × PH)))) (by decide) (L0 := [some (.inr (.inr a0)), some (.inl a1), some (.inl a2), some (.inl a3), none]) 1 rfl (Nat.le_of_ble_eq_true rfl) ?_ hz
  unfold f_T_plan
  refine PJ.aload_n (pc := 0) d_T_plan_0 rfl ?_
  refine PJ.iload_n (pc := 1) d_T_plan_1 rfl ?_
  refine PJ.iload_n (pc := 2) d_T_plan_2 rfl ?_
  refine PJ.cVpI (pc := 3) cs_T_193 (fun z hz => PM_T_planTrouble hz) (pj_fitb rfl) rfl rfl (Nat.le_of_ble_eq_true rfl) d_T_plan_3 (fun v1 => ?_)
  refine PJ.istore (pc := 6) (L1 := [some (.inr (.inr a0)), some (.inl a1), some (.inl a2), some (.inl a3), some (.inl v1)]) d_T_plan_6 (Nat.le_of_ble_eq_true rfl) rfl rfl ?_
  refine PJ.iload (pc := 8) d_T_plan_8 rfl ?_
  refine PJ.if_eq (pc := 10) (tgt := 20) d_T_plan_10 (by decide) (fun _ => ?_) (fun _ => ?_)
  · refine PJ.aload_n (pc := 20) d_T_plan_20 rfl ?_
    refine PJ.getR (pc := 21) fs_T_64 d_T_plan_21 (fun v2 => ?_)
    refine PJ.aload_n (pc := 24) d_T_plan_24 rfl ?_
    refine PJ.getR (pc := 25) fs_T_20 d_T_plan_25 (fun v3 => ?_)
    refine PJ.aload_n (pc := 28) d_T_plan_28 rfl ?_
    refine PJ.getR (pc := 29) fs_T_43 d_T_plan_29 (fun v4 => ?_)
    refine PJ.iload_n (pc := 32) d_T_plan_32 rfl ?_
    refine PJ.cVV (pc := 33) cs_T_200 (fun z hz => PM_Planner_begin hz) (pj_fitb rfl) rfl rfl (Nat.le_of_ble_eq_true rfl) d_T_plan_33 (fun h5 => ?_)
    refine PJ.aload_n (pc := 36) d_T_plan_36 rfl ?_
    refine PJ.aload_n (pc := 37) d_T_plan_37 rfl ?_
    refine PJ.getR (pc := 38) fs_T_64 d_T_plan_38 (fun v6 => ?_)
    refine PJ.iload_n (pc := 41) d_T_plan_41 rfl ?_
    refine PJ.cVL (pc := 42) cs_T_203 (fun z hz => PM_Planner_best hz) (pj_fitb rfl) rfl rfl (Nat.le_of_ble_eq_true rfl) d_T_plan_42 (fun v7 => ?_)
    refine PJ.aload_n (pc := 45) d_T_plan_45 rfl ?_
    refine PJ.getR (pc := 46) fs_T_64 d_T_plan_46 (fun v8 => ?_)
    refine PJ.iload_n (pc := 49) d_T_plan_49 rfl ?_
    refine PJ.cVpL (pc := 50) cs_T_206 (fun z hz => PM_Planner_scale hz) (pj_fitb rfl) rfl rfl (Nat.le_of_ble_eq_true rfl) d_T_plan_50 (fun v9 => ?_)
    refine PJ.iload_n (pc := 53) d_T_plan_53 rfl ?_
    refine PJ.cVL (pc := 54) cs_T_209 (fun z hz => PM_T_fineMean hz) (pj_fitb rfl) rfl rfl (Nat.le_of_ble_eq_true rfl) d_T_plan_54 (fun v10 => ?_)
    exact PJ.lret (pc := 57) d_T_plan_57 rfl (Nat.le_of_ble_eq_true rfl) (Nat.le_of_ble_eq_true rfl)
  · refine PJ.aload_n (pc := 13) d_T_plan_13 rfl ?_
    refine PJ.iload (pc := 14) d_T_plan_14 rfl ?_
    refine PJ.cVL (pc := 16) cs_T_196 (fun z hz => PM_T_refuseLong hz) (pj_fitb rfl) rfl rfl (Nat.le_of_ble_eq_true rfl) d_T_plan_16 (fun v11 => ?_)
    exact PJ.lret (pc := 19) d_T_plan_19 rfl (Nat.le_of_ble_eq_true rfl) (Nat.le_of_ble_eq_true rfl)
theorem d_Planner_bestFirst_0 : decode Y_Planner_bestFirst.2.1 0 = .ok (.aload_n 0, 1) := by decide +kernel
theorem d_Planner_bestFirst_1 : decode Y_Planner_bestFirst.2.1 1 = .ok (.getfield 21, 3) := by decide +kernel
theorem d_Planner_bestFirst_4 : decode Y_Planner_bestFirst.2.1 4 = .ok (.getfield 54, 3) := by decide +kernel
theorem d_Planner_bestFirst_7 : decode Y_Planner_bestFirst.2.1 7 = .ok (.aload_n 0, 1) := by decide +kernel
theorem d_Planner_bestFirst_8 : decode Y_Planner_bestFirst.2.1 8 = .ok (.getfield 7, 3) := by decide +kernel
theorem d_Planner_bestFirst_11 : decode Y_Planner_bestFirst.2.1 11 = .ok (.iaload, 1) := by decide +kernel
theorem d_Planner_bestFirst_12 : decode Y_Planner_bestFirst.2.1 12 = .ok (.istore_n 2, 1) := by decide +kernel
theorem d_Planner_bestFirst_13 : decode Y_Planner_bestFirst.2.1 13 = .ok (.aload_n 0, 1) := by decide +kernel
theorem d_Planner_bestFirst_14 : decode Y_Planner_bestFirst.2.1 14 = .ok (.iload_n 2, 1) := by decide +kernel
theorem d_Planner_bestFirst_15 : decode Y_Planner_bestFirst.2.1 15 = .ok (.iload_n 1, 1) := by decide +kernel
theorem d_Planner_bestFirst_16 : decode Y_Planner_bestFirst.2.1 16 = .ok (.invokevirtual 58, 3) := by decide +kernel
theorem d_Planner_bestFirst_19 : decode Y_Planner_bestFirst.2.1 19 = .ok (.lstore_n 3, 1) := by decide +kernel
theorem d_Planner_bestFirst_20 : decode Y_Planner_bestFirst.2.1 20 = .ok (.iconst 0, 1) := by decide +kernel
theorem d_Planner_bestFirst_21 : decode Y_Planner_bestFirst.2.1 21 = .ok (.istore 5, 2) := by decide +kernel
theorem d_Planner_bestFirst_23 : decode Y_Planner_bestFirst.2.1 23 = .ok (.iload 5, 2) := by decide +kernel
theorem d_Planner_bestFirst_25 : decode Y_Planner_bestFirst.2.1 25 = .ok (.aload_n 0, 1) := by decide +kernel
theorem d_Planner_bestFirst_26 : decode Y_Planner_bestFirst.2.1 26 = .ok (.getfield 13, 3) := by decide +kernel
theorem d_Planner_bestFirst_29 : decode Y_Planner_bestFirst.2.1 29 = .ok (.getfield 62, 3) := by decide +kernel
theorem d_Planner_bestFirst_32 : decode Y_Planner_bestFirst.2.1 32 = .ok (.if_icmp .ge 31, 3) := by decide +kernel
theorem d_Planner_bestFirst_35 : decode Y_Planner_bestFirst.2.1 35 = .ok (.aload_n 0, 1) := by decide +kernel
theorem d_Planner_bestFirst_36 : decode Y_Planner_bestFirst.2.1 36 = .ok (.iload 5, 2) := by decide +kernel
theorem d_Planner_bestFirst_38 : decode Y_Planner_bestFirst.2.1 38 = .ok (.iload_n 1, 1) := by decide +kernel
theorem d_Planner_bestFirst_39 : decode Y_Planner_bestFirst.2.1 39 = .ok (.invokevirtual 58, 3) := by decide +kernel
theorem d_Planner_bestFirst_42 : decode Y_Planner_bestFirst.2.1 42 = .ok (.lstore 6, 2) := by decide +kernel
theorem d_Planner_bestFirst_44 : decode Y_Planner_bestFirst.2.1 44 = .ok (.lload 6, 2) := by decide +kernel
theorem d_Planner_bestFirst_46 : decode Y_Planner_bestFirst.2.1 46 = .ok (.lload_n 3, 1) := by decide +kernel
theorem d_Planner_bestFirst_47 : decode Y_Planner_bestFirst.2.1 47 = .ok (.lcmp, 1) := by decide +kernel
theorem d_Planner_bestFirst_48 : decode Y_Planner_bestFirst.2.1 48 = .ok (.ifCond .le 9, 3) := by decide +kernel
theorem d_Planner_bestFirst_51 : decode Y_Planner_bestFirst.2.1 51 = .ok (.iload 5, 2) := by decide +kernel
theorem d_Planner_bestFirst_53 : decode Y_Planner_bestFirst.2.1 53 = .ok (.istore_n 2, 1) := by decide +kernel
theorem d_Planner_bestFirst_54 : decode Y_Planner_bestFirst.2.1 54 = .ok (.lload 6, 2) := by decide +kernel
theorem d_Planner_bestFirst_56 : decode Y_Planner_bestFirst.2.1 56 = .ok (.lstore_n 3, 1) := by decide +kernel
theorem d_Planner_bestFirst_57 : decode Y_Planner_bestFirst.2.1 57 = .ok (.iinc 5 1, 3) := by decide +kernel
theorem d_Planner_bestFirst_60 : decode Y_Planner_bestFirst.2.1 60 = .ok (.goto (-37), 3) := by decide +kernel
theorem d_Planner_bestFirst_63 : decode Y_Planner_bestFirst.2.1 63 = .ok (.iload_n 2, 1) := by decide +kernel
theorem d_Planner_bestFirst_64 : decode Y_Planner_bestFirst.2.1 64 = .ok (.ireturn, 1) := by decide +kernel
def f_Planner_bestFirst (h : PH) (a0 : Option Nat) (a1 : Int32) : Option (Int32 × PH) := (gR h 4 a0 2).bind fun v1 => (gR h 2 v1 3).bind fun v2 => (gI h 4 a0 3).bind fun v3 => (aI h v2 v3).bind fun v4 => (cl h 4 a0 (f_Planner_by h a0 v4 a1)).bind fun v5 => (pj_it (X := Int32 × PH) (fun s6 : Int32 × Int64 × Int32 × PH => (gR s6.2.2.2 4 a0 0).bind fun v8 => (gI s6.2.2.2 1 v8 2).bind fun v9 => if v9 ≤ s6.2.2.1 then (some (.inr (s6.1, s6.2.2.2))) else ((cl s6.2.2.2 4 a0 (f_Planner_by s6.2.2.2 a0 s6.2.2.1 a1)).bind fun v10 => if (lg_cmp v10.1 s6.2.1) ≤ 0 then (some (.inl (s6.1, s6.2.1, (s6.2.2.1 + (1 : Int32)), v10.2))) else (some (.inl (s6.2.2.1, v10.1, (s6.2.2.1 + (1 : Int32)), v10.2))))) FU (v4, v5.1, (0 : Int32), v5.2)).bind fun x7 => some (x7.1, x7.2)
set_option maxRecDepth 20000 in
theorem PM_Planner_bestFirst {l : Launch} {G : Cx} {h : PH} {a0 : Option Nat} {a1 : Int32} {z : (Int32 × PH)} (hz : f_Planner_bestFirst h a0 a1 = some z) : PM l G 61 0 0 Y_Planner_bestFirst [.inr (.inr a0), .inl a1] h (some (.inl z.1), z.2) := by
  refine PM.of (Y := Y_Planner_bestFirst) (cv := (fun z : (Int32 × PH) => (((some (.inl z.1), z.2) : Option PV × PH)))) (by decide) (L0 := [some (.inr (.inr a0)), some (.inl a1), none, none, none, none, none, none]) 6 rfl (Nat.le_of_ble_eq_true rfl) ?_ hz
  unfold f_Planner_bestFirst
  refine PJ.aload_n (pc := 0) d_Planner_bestFirst_0 rfl ?_
  refine PJ.getR (pc := 1) fs_Planner_21 d_Planner_bestFirst_1 (fun v1 => ?_)
  refine PJ.getR (pc := 4) fs_Planner_54 d_Planner_bestFirst_4 (fun v2 => ?_)
  refine PJ.aload_n (pc := 7) d_Planner_bestFirst_7 rfl ?_
  refine PJ.getI (pc := 8) fs_Planner_7 d_Planner_bestFirst_8 (fun v3 => ?_)
  refine PJ.iald (pc := 11) d_Planner_bestFirst_11 (fun v4 => ?_)
  refine PJ.istore_n (pc := 12) (L1 := [some (.inr (.inr a0)), some (.inl a1), some (.inl v4), none, none, none, none, none]) d_Planner_bestFirst_12 (Nat.le_of_ble_eq_true rfl) rfl rfl ?_
  refine PJ.aload_n (pc := 13) d_Planner_bestFirst_13 rfl ?_
  refine PJ.iload_n (pc := 14) d_Planner_bestFirst_14 rfl ?_
  refine PJ.iload_n (pc := 15) d_Planner_bestFirst_15 rfl ?_
  refine PJ.cVL (pc := 16) cs_Planner_58 (fun z hz => PM_Planner_by hz) (pj_fitb rfl) rfl rfl (Nat.le_of_ble_eq_true rfl) d_Planner_bestFirst_16 (fun v5 => ?_)
  refine PJ.lstore_n (pc := 19) (L1 := [some (.inr (.inr a0)), some (.inl a1), some (.inl v4), some (.inr (.inl v5.1)), none, none, none, none]) d_Planner_bestFirst_19 (Nat.le_of_ble_eq_true rfl) rfl rfl ?_
  refine PJ.iconst (pc := 20) (v := 0) d_Planner_bestFirst_20 (by decide) ?_
  refine PJ.istore (pc := 21) (L1 := [some (.inr (.inr a0)), some (.inl a1), some (.inl v4), some (.inr (.inl v5.1)), none, some (.inl (0 : Int32)), none, none]) d_Planner_bestFirst_21 (Nat.le_of_ble_eq_true rfl) rfl rfl ?_
  refine PJ.bind (fun x7 : Int32 × PH => ((63 : Nat), ([none, none, some (.inl x7.1), none, none, none, none, none] : List (Option PV)), ([] : List PV), (x7.2 : PH), (0 : Nat), (0 : Nat))) (PJ.it (E := (fun s6 : Int32 × Int64 × Int32 × PH => ((23 : Nat), ([some (.inr (.inr a0)), some (.inl a1), some (.inl s6.1), some (.inr (.inl s6.2.1)), none, some (.inl s6.2.2.1), none, none] : List (Option PV)), ([] : List PV), (s6.2.2.2 : PH), (0 : Nat), (0 : Nat)))) (F := (fun x7 : Int32 × PH => ((63 : Nat), ([none, none, some (.inl x7.1), none, none, none, none, none] : List (Option PV)), ([] : List PV), (x7.2 : PH), (0 : Nat), (0 : Nat)))) (fun s6 => ?_) FU (v4, v5.1, (0 : Int32), v5.2)) (fun x7 => ?_)
  · show PJ l G (pj_rm 61 0 0) Y_Planner_bestFirst 23 [some (.inr (.inr a0)), some (.inl a1), some (.inl s6.1), some (.inr (.inl s6.2.1)), none, some (.inl s6.2.2.1), none, none] [] s6.2.2.2 0 0 _ _
    refine PJ.iload (pc := 23) d_Planner_bestFirst_23 rfl ?_
    refine PJ.aload_n (pc := 25) d_Planner_bestFirst_25 rfl ?_
    refine PJ.getR (pc := 26) fs_Planner_13 d_Planner_bestFirst_26 (fun v8 => ?_)
    refine PJ.getI (pc := 29) fs_Planner_62 d_Planner_bestFirst_29 (fun v9 => ?_)
    refine PJ.icmp_ge (pc := 32) (tgt := 63) d_Planner_bestFirst_32 (by decide) (fun _ => ?_) (fun _ => ?_)
    · refine PJ.mk (L1 := [none, none, some (.inl s6.1), none, none, none, none, none]) [false, false, true, false, false, false, false, false] rfl ?_
      exact PJ.done rfl
    · refine PJ.aload_n (pc := 35) d_Planner_bestFirst_35 rfl ?_
      refine PJ.iload (pc := 36) d_Planner_bestFirst_36 rfl ?_
      refine PJ.iload_n (pc := 38) d_Planner_bestFirst_38 rfl ?_
      refine PJ.cVL (pc := 39) cs_Planner_58 (fun z hz => PM_Planner_by hz) (pj_fitb rfl) rfl rfl (Nat.le_of_ble_eq_true rfl) d_Planner_bestFirst_39 (fun v10 => ?_)
      refine PJ.lstore (pc := 42) (L1 := [some (.inr (.inr a0)), some (.inl a1), some (.inl s6.1), some (.inr (.inl s6.2.1)), none, some (.inl s6.2.2.1), some (.inr (.inl v10.1)), none]) d_Planner_bestFirst_42 (Nat.le_of_ble_eq_true rfl) rfl rfl ?_
      refine PJ.lload (pc := 44) d_Planner_bestFirst_44 rfl ?_
      refine PJ.lload_n (pc := 46) d_Planner_bestFirst_46 rfl ?_
      refine PJ.lcmp (pc := 47) d_Planner_bestFirst_47 ?_
      refine PJ.if_le (pc := 48) (tgt := 57) d_Planner_bestFirst_48 (by decide) (fun _ => ?_) (fun _ => ?_)
      · refine PJ.iinc (pc := 57) (v := 1) (L1 := [some (.inr (.inr a0)), some (.inl a1), some (.inl s6.1), some (.inr (.inl s6.2.1)), none, some (.inl (s6.2.2.1 + (1 : Int32))), some (.inr (.inl v10.1)), none]) d_Planner_bestFirst_57 rfl (by decide) (Nat.le_of_ble_eq_true rfl) rfl rfl ?_
        refine PJ.goto (pc := 60) (tgt := 23) d_Planner_bestFirst_60 (by decide) ?_
        refine PJ.mk (L1 := [some (.inr (.inr a0)), some (.inl a1), some (.inl s6.1), some (.inr (.inl s6.2.1)), none, some (.inl (s6.2.2.1 + (1 : Int32))), none, none]) [true, true, true, true, false, true, false, false] rfl ?_
        exact PJ.done rfl
      · refine PJ.iload (pc := 51) d_Planner_bestFirst_51 rfl ?_
        refine PJ.istore_n (pc := 53) (L1 := [some (.inr (.inr a0)), some (.inl a1), some (.inl s6.2.2.1), some (.inr (.inl s6.2.1)), none, some (.inl s6.2.2.1), some (.inr (.inl v10.1)), none]) d_Planner_bestFirst_53 (Nat.le_of_ble_eq_true rfl) rfl rfl ?_
        refine PJ.lload (pc := 54) d_Planner_bestFirst_54 rfl ?_
        refine PJ.lstore_n (pc := 56) (L1 := [some (.inr (.inr a0)), some (.inl a1), some (.inl s6.2.2.1), some (.inr (.inl v10.1)), none, some (.inl s6.2.2.1), some (.inr (.inl v10.1)), none]) d_Planner_bestFirst_56 (Nat.le_of_ble_eq_true rfl) rfl rfl ?_
        refine PJ.iinc (pc := 57) (v := 1) (L1 := [some (.inr (.inr a0)), some (.inl a1), some (.inl s6.2.2.1), some (.inr (.inl v10.1)), none, some (.inl (s6.2.2.1 + (1 : Int32))), some (.inr (.inl v10.1)), none]) d_Planner_bestFirst_57 rfl (by decide) (Nat.le_of_ble_eq_true rfl) rfl rfl ?_
        refine PJ.goto (pc := 60) (tgt := 23) d_Planner_bestFirst_60 (by decide) ?_
        refine PJ.mk (L1 := [some (.inr (.inr a0)), some (.inl a1), some (.inl s6.2.2.1), some (.inr (.inl v10.1)), none, some (.inl (s6.2.2.1 + (1 : Int32))), none, none]) [true, true, true, true, false, true, false, false] rfl ?_
        exact PJ.done rfl
  · show PJ l G (pj_rm 61 0 0) Y_Planner_bestFirst 63 [none, none, some (.inl x7.1), none, none, none, none, none] [] x7.2 0 0 _ _
    refine PJ.iload_n (pc := 63) d_Planner_bestFirst_63 rfl ?_
    exact PJ.iret (pc := 64) d_Planner_bestFirst_64 rfl (Nat.le_of_ble_eq_true rfl) (Nat.le_of_ble_eq_true rfl)
theorem d_T_planFirst_0 : decode Y_T_planFirst.2.1 0 = .ok (.aload_n 0, 1) := by decide +kernel
theorem d_T_planFirst_1 : decode Y_T_planFirst.2.1 1 = .ok (.iload_n 1, 1) := by decide +kernel
theorem d_T_planFirst_2 : decode Y_T_planFirst.2.1 2 = .ok (.iload_n 2, 1) := by decide +kernel
theorem d_T_planFirst_3 : decode Y_T_planFirst.2.1 3 = .ok (.invokevirtual 193, 3) := by decide +kernel
theorem d_T_planFirst_6 : decode Y_T_planFirst.2.1 6 = .ok (.istore_n 3, 1) := by decide +kernel
theorem d_T_planFirst_7 : decode Y_T_planFirst.2.1 7 = .ok (.iload_n 3, 1) := by decide +kernel
theorem d_T_planFirst_8 : decode Y_T_planFirst.2.1 8 = .ok (.ifCond .eq 9, 3) := by decide +kernel
theorem d_T_planFirst_11 : decode Y_T_planFirst.2.1 11 = .ok (.aload_n 0, 1) := by decide +kernel
theorem d_T_planFirst_12 : decode Y_T_planFirst.2.1 12 = .ok (.iload_n 3, 1) := by decide +kernel
theorem d_T_planFirst_13 : decode Y_T_planFirst.2.1 13 = .ok (.invokevirtual 95, 3) := by decide +kernel
theorem d_T_planFirst_16 : decode Y_T_planFirst.2.1 16 = .ok (.ireturn, 1) := by decide +kernel
theorem d_T_planFirst_17 : decode Y_T_planFirst.2.1 17 = .ok (.aload_n 0, 1) := by decide +kernel
theorem d_T_planFirst_18 : decode Y_T_planFirst.2.1 18 = .ok (.getfield 64, 3) := by decide +kernel
theorem d_T_planFirst_21 : decode Y_T_planFirst.2.1 21 = .ok (.aload_n 0, 1) := by decide +kernel
theorem d_T_planFirst_22 : decode Y_T_planFirst.2.1 22 = .ok (.getfield 20, 3) := by decide +kernel
theorem d_T_planFirst_25 : decode Y_T_planFirst.2.1 25 = .ok (.aload_n 0, 1) := by decide +kernel
theorem d_T_planFirst_26 : decode Y_T_planFirst.2.1 26 = .ok (.getfield 43, 3) := by decide +kernel
theorem d_T_planFirst_29 : decode Y_T_planFirst.2.1 29 = .ok (.iload_n 1, 1) := by decide +kernel
theorem d_T_planFirst_30 : decode Y_T_planFirst.2.1 30 = .ok (.invokevirtual 200, 3) := by decide +kernel
theorem d_T_planFirst_33 : decode Y_T_planFirst.2.1 33 = .ok (.aload_n 0, 1) := by decide +kernel
theorem d_T_planFirst_34 : decode Y_T_planFirst.2.1 34 = .ok (.aload_n 0, 1) := by decide +kernel
theorem d_T_planFirst_35 : decode Y_T_planFirst.2.1 35 = .ok (.getfield 64, 3) := by decide +kernel
theorem d_T_planFirst_38 : decode Y_T_planFirst.2.1 38 = .ok (.iload_n 2, 1) := by decide +kernel
theorem d_T_planFirst_39 : decode Y_T_planFirst.2.1 39 = .ok (.invokevirtual 213, 3) := by decide +kernel
theorem d_T_planFirst_42 : decode Y_T_planFirst.2.1 42 = .ok (.invokevirtual 114, 3) := by decide +kernel
theorem d_T_planFirst_45 : decode Y_T_planFirst.2.1 45 = .ok (.ireturn, 1) := by decide +kernel
def f_T_planFirst (h : PH) (a0 : Option Nat) (a1 : Int32) (a2 : Int32) : Option (Int32 × PH) := (cl h 10 a0 (f_T_planTrouble h a0 a1 a2)).bind fun v1 => if v1 = 0 then ((gR h 10 a0 9).bind fun v2 => (gR h 10 a0 2).bind fun v3 => (gR h 10 a0 6).bind fun v4 => (cl h 4 v2 (f_Planner_begin h v2 v3 v4 a1)).bind fun h5 => (gR h5 10 a0 9).bind fun v6 => (cl h5 4 v6 (f_Planner_bestFirst h5 v6 a2)).bind fun v7 => (cl v7.2 10 a0 (f_T_fine v7.2 a0 v7.1)).bind fun v8 => some (v8.1, v8.2)) else ((cl h 10 a0 (f_T_refuse h a0 v1)).bind fun v9 => some (v9.1, v9.2))
set_option maxRecDepth 20000 in
theorem PM_T_planFirst {l : Launch} {G : Cx} {h : PH} {a0 : Option Nat} {a1 : Int32} {a2 : Int32} {z : (Int32 × PH)} (hz : f_T_planFirst h a0 a1 a2 = some z) : PM l G 62 0 0 Y_T_planFirst [.inr (.inr a0), .inl a1, .inl a2] h (some (.inl z.1), z.2) := by
  refine PM.of (Y := Y_T_planFirst) (cv := (fun z : (Int32 × PH) => (((some (.inl z.1), z.2) : Option PV × PH)))) (by decide) (L0 := [some (.inr (.inr a0)), some (.inl a1), some (.inl a2), none]) 1 rfl (Nat.le_of_ble_eq_true rfl) ?_ hz
  unfold f_T_planFirst
  refine PJ.aload_n (pc := 0) d_T_planFirst_0 rfl ?_
  refine PJ.iload_n (pc := 1) d_T_planFirst_1 rfl ?_
  refine PJ.iload_n (pc := 2) d_T_planFirst_2 rfl ?_
  refine PJ.cVpI (pc := 3) cs_T_193 (fun z hz => PM_T_planTrouble hz) (pj_fitb rfl) rfl rfl (Nat.le_of_ble_eq_true rfl) d_T_planFirst_3 (fun v1 => ?_)
  refine PJ.istore_n (pc := 6) (L1 := [some (.inr (.inr a0)), some (.inl a1), some (.inl a2), some (.inl v1)]) d_T_planFirst_6 (Nat.le_of_ble_eq_true rfl) rfl rfl ?_
  refine PJ.iload_n (pc := 7) d_T_planFirst_7 rfl ?_
  refine PJ.if_eq (pc := 8) (tgt := 17) d_T_planFirst_8 (by decide) (fun _ => ?_) (fun _ => ?_)
  · refine PJ.aload_n (pc := 17) d_T_planFirst_17 rfl ?_
    refine PJ.getR (pc := 18) fs_T_64 d_T_planFirst_18 (fun v2 => ?_)
    refine PJ.aload_n (pc := 21) d_T_planFirst_21 rfl ?_
    refine PJ.getR (pc := 22) fs_T_20 d_T_planFirst_22 (fun v3 => ?_)
    refine PJ.aload_n (pc := 25) d_T_planFirst_25 rfl ?_
    refine PJ.getR (pc := 26) fs_T_43 d_T_planFirst_26 (fun v4 => ?_)
    refine PJ.iload_n (pc := 29) d_T_planFirst_29 rfl ?_
    refine PJ.cVV (pc := 30) cs_T_200 (fun z hz => PM_Planner_begin hz) (pj_fitb rfl) rfl rfl (Nat.le_of_ble_eq_true rfl) d_T_planFirst_30 (fun h5 => ?_)
    refine PJ.aload_n (pc := 33) d_T_planFirst_33 rfl ?_
    refine PJ.aload_n (pc := 34) d_T_planFirst_34 rfl ?_
    refine PJ.getR (pc := 35) fs_T_64 d_T_planFirst_35 (fun v6 => ?_)
    refine PJ.iload_n (pc := 38) d_T_planFirst_38 rfl ?_
    refine PJ.cVI (pc := 39) cs_T_213 (fun z hz => PM_Planner_bestFirst hz) (pj_fitb rfl) rfl rfl (Nat.le_of_ble_eq_true rfl) d_T_planFirst_39 (fun v7 => ?_)
    refine PJ.cVI (pc := 42) cs_T_114 (fun z hz => PM_T_fine hz) (pj_fitb rfl) rfl rfl (Nat.le_of_ble_eq_true rfl) d_T_planFirst_42 (fun v8 => ?_)
    exact PJ.iret (pc := 45) d_T_planFirst_45 rfl (Nat.le_of_ble_eq_true rfl) (Nat.le_of_ble_eq_true rfl)
  · refine PJ.aload_n (pc := 11) d_T_planFirst_11 rfl ?_
    refine PJ.iload_n (pc := 12) d_T_planFirst_12 rfl ?_
    refine PJ.cVI (pc := 13) cs_T_95 (fun z hz => PM_T_refuse hz) (pj_fitb rfl) rfl rfl (Nat.le_of_ble_eq_true rfl) d_T_planFirst_13 (fun v9 => ?_)
    exact PJ.iret (pc := 16) d_T_planFirst_16 rfl (Nat.le_of_ble_eq_true rfl) (Nat.le_of_ble_eq_true rfl)
theorem d_T_planBy_0 : decode Y_T_planBy.2.1 0 = .ok (.aload_n 0, 1) := by decide +kernel
theorem d_T_planBy_1 : decode Y_T_planBy.2.1 1 = .ok (.iload_n 3, 1) := by decide +kernel
theorem d_T_planBy_2 : decode Y_T_planBy.2.1 2 = .ok (.invokevirtual 140, 3) := by decide +kernel
theorem d_T_planBy_5 : decode Y_T_planBy.2.1 5 = .ok (.ifCond .eq 12, 3) := by decide +kernel
theorem d_T_planBy_8 : decode Y_T_planBy.2.1 8 = .ok (.aload_n 0, 1) := by decide +kernel
theorem d_T_planBy_9 : decode Y_T_planBy.2.1 9 = .ok (.iload_n 1, 1) := by decide +kernel
theorem d_T_planBy_10 : decode Y_T_planBy.2.1 10 = .ok (.iload_n 2, 1) := by decide +kernel
theorem d_T_planBy_11 : decode Y_T_planBy.2.1 11 = .ok (.invokevirtual 193, 3) := by decide +kernel
theorem d_T_planBy_14 : decode Y_T_planBy.2.1 14 = .ok (.goto 4, 3) := by decide +kernel
theorem d_T_planBy_17 : decode Y_T_planBy.2.1 17 = .ok (.iconst 1, 1) := by decide +kernel
theorem d_T_planBy_18 : decode Y_T_planBy.2.1 18 = .ok (.istore 5, 2) := by decide +kernel
theorem d_T_planBy_20 : decode Y_T_planBy.2.1 20 = .ok (.iload 5, 2) := by decide +kernel
theorem d_T_planBy_22 : decode Y_T_planBy.2.1 22 = .ok (.ifCond .eq 10, 3) := by decide +kernel
theorem d_T_planBy_25 : decode Y_T_planBy.2.1 25 = .ok (.aload_n 0, 1) := by decide +kernel
theorem d_T_planBy_26 : decode Y_T_planBy.2.1 26 = .ok (.iload 5, 2) := by decide +kernel
theorem d_T_planBy_28 : decode Y_T_planBy.2.1 28 = .ok (.invokevirtual 196, 3) := by decide +kernel
theorem d_T_planBy_31 : decode Y_T_planBy.2.1 31 = .ok (.lreturn, 1) := by decide +kernel
theorem d_T_planBy_32 : decode Y_T_planBy.2.1 32 = .ok (.aload_n 0, 1) := by decide +kernel
theorem d_T_planBy_33 : decode Y_T_planBy.2.1 33 = .ok (.getfield 64, 3) := by decide +kernel
theorem d_T_planBy_36 : decode Y_T_planBy.2.1 36 = .ok (.aload_n 0, 1) := by decide +kernel
theorem d_T_planBy_37 : decode Y_T_planBy.2.1 37 = .ok (.getfield 20, 3) := by decide +kernel
theorem d_T_planBy_40 : decode Y_T_planBy.2.1 40 = .ok (.aload_n 0, 1) := by decide +kernel
theorem d_T_planBy_41 : decode Y_T_planBy.2.1 41 = .ok (.getfield 43, 3) := by decide +kernel
theorem d_T_planBy_44 : decode Y_T_planBy.2.1 44 = .ok (.iload_n 1, 1) := by decide +kernel
theorem d_T_planBy_45 : decode Y_T_planBy.2.1 45 = .ok (.invokevirtual 200, 3) := by decide +kernel
theorem d_T_planBy_48 : decode Y_T_planBy.2.1 48 = .ok (.aload_n 0, 1) := by decide +kernel
theorem d_T_planBy_49 : decode Y_T_planBy.2.1 49 = .ok (.aload_n 0, 1) := by decide +kernel
theorem d_T_planBy_50 : decode Y_T_planBy.2.1 50 = .ok (.getfield 64, 3) := by decide +kernel
theorem d_T_planBy_53 : decode Y_T_planBy.2.1 53 = .ok (.iload_n 3, 1) := by decide +kernel
theorem d_T_planBy_54 : decode Y_T_planBy.2.1 54 = .ok (.iload_n 2, 1) := by decide +kernel
theorem d_T_planBy_55 : decode Y_T_planBy.2.1 55 = .ok (.invokevirtual 221, 3) := by decide +kernel
theorem d_T_planBy_58 : decode Y_T_planBy.2.1 58 = .ok (.aload_n 0, 1) := by decide +kernel
theorem d_T_planBy_59 : decode Y_T_planBy.2.1 59 = .ok (.getfield 64, 3) := by decide +kernel
theorem d_T_planBy_62 : decode Y_T_planBy.2.1 62 = .ok (.iload_n 2, 1) := by decide +kernel
theorem d_T_planBy_63 : decode Y_T_planBy.2.1 63 = .ok (.invokevirtual 206, 3) := by decide +kernel
theorem d_T_planBy_66 : decode Y_T_planBy.2.1 66 = .ok (.iload 4, 2) := by decide +kernel
theorem d_T_planBy_68 : decode Y_T_planBy.2.1 68 = .ok (.invokevirtual 209, 3) := by decide +kernel
theorem d_T_planBy_71 : decode Y_T_planBy.2.1 71 = .ok (.lreturn, 1) := by decide +kernel
def f_T_planBy (h : PH) (a0 : Option Nat) (a1 : Int32) (a2 : Int32) (a3 : Int32) (a4 : Int32) : Option (Int64 × PH) := (cl h 10 a0 (f_T_isChoice h a0 a3)).bind fun v1 => (if v1 = 0 then (some (1 : Int32)) else ((cl h 10 a0 (f_T_planTrouble h a0 a1 a2)).bind fun v3 => some v3) : Option (Int32)).bind fun j2 => if j2 = 0 then ((gR h 10 a0 9).bind fun v4 => (gR h 10 a0 2).bind fun v5 => (gR h 10 a0 6).bind fun v6 => (cl h 4 v4 (f_Planner_begin h v4 v5 v6 a1)).bind fun h7 => (gR h7 10 a0 9).bind fun v8 => (cl h7 4 v8 (f_Planner_by h7 v8 a3 a2)).bind fun v9 => (gR v9.2 10 a0 9).bind fun v10 => (cl v9.2 4 v10 (f_Planner_scale v9.2 v10 a2)).bind fun v11 => (cl v9.2 10 a0 (f_T_fineMean v9.2 a0 v9.1 v11 a4)).bind fun v12 => some (v12.1, v12.2)) else ((cl h 10 a0 (f_T_refuseLong h a0 j2)).bind fun v13 => some (v13.1, v13.2))
set_option maxRecDepth 20000 in
theorem PM_T_planBy {l : Launch} {G : Cx} {h : PH} {a0 : Option Nat} {a1 : Int32} {a2 : Int32} {a3 : Int32} {a4 : Int32} {z : (Int64 × PH)} (hz : f_T_planBy h a0 a1 a2 a3 a4 = some z) : PM l G 61 0 0 Y_T_planBy [.inr (.inr a0), .inl a1, .inl a2, .inl a3, .inl a4] h (some (.inr (.inl z.1)), z.2) := by
  refine PM.of (Y := Y_T_planBy) (cv := (fun z : (Int64 × PH) => (((some (.inr (.inl z.1)), z.2) : Option PV × PH)))) (by decide) (L0 := [some (.inr (.inr a0)), some (.inl a1), some (.inl a2), some (.inl a3), some (.inl a4), none]) 1 rfl (Nat.le_of_ble_eq_true rfl) ?_ hz
  unfold f_T_planBy
  refine PJ.aload_n (pc := 0) d_T_planBy_0 rfl ?_
  refine PJ.iload_n (pc := 1) d_T_planBy_1 rfl ?_
  refine PJ.cVpI (pc := 2) cs_T_140 (fun z hz => PM_T_isChoice hz) (pj_fitb rfl) rfl rfl (Nat.le_of_ble_eq_true rfl) d_T_planBy_2 (fun v1 => ?_)
  refine PJ.bind (fun j2 : Int32 => ((18 : Nat), ([some (.inr (.inr a0)), some (.inl a1), some (.inl a2), some (.inl a3), some (.inl a4), none] : List (Option PV)), ([.inl j2] : List PV), (h : PH), (0 : Nat), (0 : Nat))) ?_ (fun j2 => ?_)
  · refine PJ.if_eq (pc := 5) (tgt := 17) d_T_planBy_5 (by decide) (fun _ => ?_) (fun _ => ?_)
    · refine PJ.iconst (pc := 17) (v := 1) d_T_planBy_17 (by decide) ?_
      exact PJ.done rfl
    · refine PJ.aload_n (pc := 8) d_T_planBy_8 rfl ?_
      refine PJ.iload_n (pc := 9) d_T_planBy_9 rfl ?_
      refine PJ.iload_n (pc := 10) d_T_planBy_10 rfl ?_
      refine PJ.cVpI (pc := 11) cs_T_193 (fun z hz => PM_T_planTrouble hz) (pj_fitb rfl) rfl rfl (Nat.le_of_ble_eq_true rfl) d_T_planBy_11 (fun v3 => ?_)
      refine PJ.goto (pc := 14) (tgt := 18) d_T_planBy_14 (by decide) ?_
      exact PJ.done rfl
  · show PJ l G (pj_rm 61 0 0) Y_T_planBy 18 [some (.inr (.inr a0)), some (.inl a1), some (.inl a2), some (.inl a3), some (.inl a4), none] [.inl j2] h 0 0 _ _
    refine PJ.istore (pc := 18) (L1 := [some (.inr (.inr a0)), some (.inl a1), some (.inl a2), some (.inl a3), some (.inl a4), some (.inl j2)]) d_T_planBy_18 (Nat.le_of_ble_eq_true rfl) rfl rfl ?_
    refine PJ.iload (pc := 20) d_T_planBy_20 rfl ?_
    refine PJ.if_eq (pc := 22) (tgt := 32) d_T_planBy_22 (by decide) (fun _ => ?_) (fun _ => ?_)
    · refine PJ.aload_n (pc := 32) d_T_planBy_32 rfl ?_
      refine PJ.getR (pc := 33) fs_T_64 d_T_planBy_33 (fun v4 => ?_)
      refine PJ.aload_n (pc := 36) d_T_planBy_36 rfl ?_
      refine PJ.getR (pc := 37) fs_T_20 d_T_planBy_37 (fun v5 => ?_)
      refine PJ.aload_n (pc := 40) d_T_planBy_40 rfl ?_
      refine PJ.getR (pc := 41) fs_T_43 d_T_planBy_41 (fun v6 => ?_)
      refine PJ.iload_n (pc := 44) d_T_planBy_44 rfl ?_
      refine PJ.cVV (pc := 45) cs_T_200 (fun z hz => PM_Planner_begin hz) (pj_fitb rfl) rfl rfl (Nat.le_of_ble_eq_true rfl) d_T_planBy_45 (fun h7 => ?_)
      refine PJ.aload_n (pc := 48) d_T_planBy_48 rfl ?_
      refine PJ.aload_n (pc := 49) d_T_planBy_49 rfl ?_
      refine PJ.getR (pc := 50) fs_T_64 d_T_planBy_50 (fun v8 => ?_)
      refine PJ.iload_n (pc := 53) d_T_planBy_53 rfl ?_
      refine PJ.iload_n (pc := 54) d_T_planBy_54 rfl ?_
      refine PJ.cVL (pc := 55) cs_T_221 (fun z hz => PM_Planner_by hz) (pj_fitb rfl) rfl rfl (Nat.le_of_ble_eq_true rfl) d_T_planBy_55 (fun v9 => ?_)
      refine PJ.aload_n (pc := 58) d_T_planBy_58 rfl ?_
      refine PJ.getR (pc := 59) fs_T_64 d_T_planBy_59 (fun v10 => ?_)
      refine PJ.iload_n (pc := 62) d_T_planBy_62 rfl ?_
      refine PJ.cVpL (pc := 63) cs_T_206 (fun z hz => PM_Planner_scale hz) (pj_fitb rfl) rfl rfl (Nat.le_of_ble_eq_true rfl) d_T_planBy_63 (fun v11 => ?_)
      refine PJ.iload (pc := 66) d_T_planBy_66 rfl ?_
      refine PJ.cVL (pc := 68) cs_T_209 (fun z hz => PM_T_fineMean hz) (pj_fitb rfl) rfl rfl (Nat.le_of_ble_eq_true rfl) d_T_planBy_68 (fun v12 => ?_)
      exact PJ.lret (pc := 71) d_T_planBy_71 rfl (Nat.le_of_ble_eq_true rfl) (Nat.le_of_ble_eq_true rfl)
    · refine PJ.aload_n (pc := 25) d_T_planBy_25 rfl ?_
      refine PJ.iload (pc := 26) d_T_planBy_26 rfl ?_
      refine PJ.cVL (pc := 28) cs_T_196 (fun z hz => PM_T_refuseLong hz) (pj_fitb rfl) rfl rfl (Nat.le_of_ble_eq_true rfl) d_T_planBy_28 (fun v13 => ?_)
      exact PJ.lret (pc := 31) d_T_planBy_31 rfl (Nat.le_of_ble_eq_true rfl) (Nat.le_of_ble_eq_true rfl)
theorem d_Rows_gather_0 : decode Y_Rows_gather.2.1 0 = .ok (.aload_n 0, 1) := by decide +kernel
theorem d_Rows_gather_1 : decode Y_Rows_gather.2.1 1 = .ok (.aload_n 1, 1) := by decide +kernel
theorem d_Rows_gather_2 : decode Y_Rows_gather.2.1 2 = .ok (.putfield 33, 3) := by decide +kernel
theorem d_Rows_gather_5 : decode Y_Rows_gather.2.1 5 = .ok (.aload_n 0, 1) := by decide +kernel
theorem d_Rows_gather_6 : decode Y_Rows_gather.2.1 6 = .ok (.iload_n 2, 1) := by decide +kernel
theorem d_Rows_gather_7 : decode Y_Rows_gather.2.1 7 = .ok (.putfield 9, 3) := by decide +kernel
theorem d_Rows_gather_10 : decode Y_Rows_gather.2.1 10 = .ok (.aload_n 0, 1) := by decide +kernel
theorem d_Rows_gather_11 : decode Y_Rows_gather.2.1 11 = .ok (.iconst 0, 1) := by decide +kernel
theorem d_Rows_gather_12 : decode Y_Rows_gather.2.1 12 = .ok (.putfield 15, 3) := by decide +kernel
theorem d_Rows_gather_15 : decode Y_Rows_gather.2.1 15 = .ok (.iconst 0, 1) := by decide +kernel
theorem d_Rows_gather_16 : decode Y_Rows_gather.2.1 16 = .ok (.istore_n 3, 1) := by decide +kernel
theorem d_Rows_gather_17 : decode Y_Rows_gather.2.1 17 = .ok (.iload_n 3, 1) := by decide +kernel
theorem d_Rows_gather_18 : decode Y_Rows_gather.2.1 18 = .ok (.iconst 5, 1) := by decide +kernel
theorem d_Rows_gather_19 : decode Y_Rows_gather.2.1 19 = .ok (.if_icmp .ge 19, 3) := by decide +kernel
theorem d_Rows_gather_22 : decode Y_Rows_gather.2.1 22 = .ok (.aload_n 0, 1) := by decide +kernel
theorem d_Rows_gather_23 : decode Y_Rows_gather.2.1 23 = .ok (.getfield 30, 3) := by decide +kernel
theorem d_Rows_gather_26 : decode Y_Rows_gather.2.1 26 = .ok (.iload_n 3, 1) := by decide +kernel
theorem d_Rows_gather_27 : decode Y_Rows_gather.2.1 27 = .ok (.aaload, 1) := by decide +kernel
theorem d_Rows_gather_28 : decode Y_Rows_gather.2.1 28 = .ok (.iconst 0, 1) := by decide +kernel
theorem d_Rows_gather_29 : decode Y_Rows_gather.2.1 29 = .ok (.invokestatic 45, 3) := by decide +kernel
theorem d_Rows_gather_32 : decode Y_Rows_gather.2.1 32 = .ok (.iinc 3 1, 3) := by decide +kernel
theorem d_Rows_gather_35 : decode Y_Rows_gather.2.1 35 = .ok (.goto (-18), 3) := by decide +kernel
theorem d_Rows_gather_38 : decode Y_Rows_gather.2.1 38 = .ok (.aload_n 0, 1) := by decide +kernel
theorem d_Rows_gather_39 : decode Y_Rows_gather.2.1 39 = .ok (.getfield 41, 3) := by decide +kernel
theorem d_Rows_gather_42 : decode Y_Rows_gather.2.1 42 = .ok (.aload_n 1, 1) := by decide +kernel
theorem d_Rows_gather_43 : decode Y_Rows_gather.2.1 43 = .ok (.invokevirtual 51, 3) := by decide +kernel
theorem d_Rows_gather_46 : decode Y_Rows_gather.2.1 46 = .ok (.aload_n 0, 1) := by decide +kernel
theorem d_Rows_gather_47 : decode Y_Rows_gather.2.1 47 = .ok (.getfield 37, 3) := by decide +kernel
theorem d_Rows_gather_50 : decode Y_Rows_gather.2.1 50 = .ok (.aload_n 1, 1) := by decide +kernel
theorem d_Rows_gather_51 : decode Y_Rows_gather.2.1 51 = .ok (.aload_n 0, 1) := by decide +kernel
theorem d_Rows_gather_52 : decode Y_Rows_gather.2.1 52 = .ok (.getfield 41, 3) := by decide +kernel
theorem d_Rows_gather_55 : decode Y_Rows_gather.2.1 55 = .ok (.invokevirtual 57, 3) := by decide +kernel
theorem d_Rows_gather_58 : decode Y_Rows_gather.2.1 58 = .ok (.aload_n 0, 1) := by decide +kernel
theorem d_Rows_gather_59 : decode Y_Rows_gather.2.1 59 = .ok (.iconst 0, 1) := by decide +kernel
theorem d_Rows_gather_60 : decode Y_Rows_gather.2.1 60 = .ok (.invokevirtual 63, 3) := by decide +kernel
theorem d_Rows_gather_63 : decode Y_Rows_gather.2.1 63 = .ok (.return_, 1) := by decide +kernel
def f_Rows_gather (h : PH) (a0 : Option Nat) (a1 : Option Nat) (a2 : Int32) : Option PH := (sF h 8 a0 0 (.inr (.inr a1))).bind fun h1 => (sF h1 8 a0 3 (.inl a2)).bind fun h2 => (sF h2 8 a0 4 (.inl (0 : Int32))).bind fun h3 => (pj_it (X := PH) (fun s4 : Int32 × PH => if (5 : Int32) ≤ s4.1 then (some (.inr s4.2)) else ((gR s4.2 8 a0 8).bind fun v6 => (aR s4.2 53 v6 s4.1).bind fun v7 => (f_Arrays_fill s4.2 v7 (0 : Int32)).bind fun h8 => some (.inl ((s4.1 + (1 : Int32)), h8)))) FU ((0 : Int32), h3)).bind fun x5 => (gR x5 8 a0 2).bind fun v9 => (cl x5 2 v9 (f_Now_begin x5 v9 a1)).bind fun h10 => (gR h10 8 a0 1).bind fun v11 => (gR h10 8 a0 2).bind fun v12 => (cl h10 0 v11 (f_Desk_look h10 v11 a1 v12)).bind fun h13 => (cl h13 8 a0 (f_Rows_extend h13 a0 (0 : Int32))).bind fun h14 => some h14
set_option maxRecDepth 20000 in
theorem PM_Rows_gather {l : Launch} {G : Cx} {h : PH} {a0 : Option Nat} {a1 : Option Nat} {a2 : Int32} {z : PH} (hz : f_Rows_gather h a0 a1 a2 = some z) : PM l G 31 0 0 Y_Rows_gather [.inr (.inr a0), .inr (.inr a1), .inl a2] h (none, z) := by
  refine PM.of (Y := Y_Rows_gather) (cv := (fun z : PH => (((none, z) : Option PV × PH)))) (by decide) (L0 := [some (.inr (.inr a0)), some (.inr (.inr a1)), some (.inl a2), none]) 1 rfl (Nat.le_of_ble_eq_true rfl) ?_ hz
  unfold f_Rows_gather
  refine PJ.aload_n (pc := 0) d_Rows_gather_0 rfl ?_
  refine PJ.aload_n (pc := 1) d_Rows_gather_1 rfl ?_
  refine PJ.putR (pc := 2) ps_Rows_33 rfl d_Rows_gather_2 (fun h1 => ?_)
  refine PJ.aload_n (pc := 5) d_Rows_gather_5 rfl ?_
  refine PJ.iload_n (pc := 6) d_Rows_gather_6 rfl ?_
  refine PJ.putI (pc := 7) ps_Rows_9 d_Rows_gather_7 (fun h2 => ?_)
  refine PJ.aload_n (pc := 10) d_Rows_gather_10 rfl ?_
  refine PJ.iconst (pc := 11) (v := 0) d_Rows_gather_11 (by decide) ?_
  refine PJ.putI (pc := 12) ps_Rows_15 d_Rows_gather_12 (fun h3 => ?_)
  refine PJ.iconst (pc := 15) (v := 0) d_Rows_gather_15 (by decide) ?_
  refine PJ.istore_n (pc := 16) (L1 := [some (.inr (.inr a0)), some (.inr (.inr a1)), some (.inl a2), some (.inl (0 : Int32))]) d_Rows_gather_16 (Nat.le_of_ble_eq_true rfl) rfl rfl ?_
  refine PJ.mk (L1 := [some (.inr (.inr a0)), some (.inr (.inr a1)), none, some (.inl (0 : Int32))]) [true, true, false, true] rfl ?_
  refine PJ.bind (fun x5 : PH => ((38 : Nat), ([some (.inr (.inr a0)), some (.inr (.inr a1)), none, none] : List (Option PV)), ([] : List PV), (x5 : PH), (0 : Nat), (0 : Nat))) (PJ.it (E := (fun s4 : Int32 × PH => ((17 : Nat), ([some (.inr (.inr a0)), some (.inr (.inr a1)), none, some (.inl s4.1)] : List (Option PV)), ([] : List PV), (s4.2 : PH), (0 : Nat), (0 : Nat)))) (F := (fun x5 : PH => ((38 : Nat), ([some (.inr (.inr a0)), some (.inr (.inr a1)), none, none] : List (Option PV)), ([] : List PV), (x5 : PH), (0 : Nat), (0 : Nat)))) (fun s4 => ?_) FU ((0 : Int32), h3)) (fun x5 => ?_)
  · show PJ l G (pj_rm 31 0 0) Y_Rows_gather 17 [some (.inr (.inr a0)), some (.inr (.inr a1)), none, some (.inl s4.1)] [] s4.2 0 0 _ _
    refine PJ.iload_n (pc := 17) d_Rows_gather_17 rfl ?_
    refine PJ.iconst (pc := 18) (v := 5) d_Rows_gather_18 (by decide) ?_
    refine PJ.icmp_ge (pc := 19) (tgt := 38) d_Rows_gather_19 (by decide) (fun _ => ?_) (fun _ => ?_)
    · refine PJ.mk (L1 := [some (.inr (.inr a0)), some (.inr (.inr a1)), none, none]) [true, true, false, false] rfl ?_
      exact PJ.done rfl
    · refine PJ.aload_n (pc := 22) d_Rows_gather_22 rfl ?_
      refine PJ.getR (pc := 23) fs_Rows_30 d_Rows_gather_23 (fun v6 => ?_)
      refine PJ.iload_n (pc := 26) d_Rows_gather_26 rfl ?_
      refine PJ.aald (pc := 27) 53 (by decide) d_Rows_gather_27 (fun v7 => ?_)
      refine PJ.iconst (pc := 28) (v := 0) d_Rows_gather_28 (by decide) ?_
      refine PJ.cSV (pc := 29) cs_Rows_45 (fun z hz => PM_Arrays_fill hz) (pj_fitb rfl) rfl rfl (Nat.le_of_ble_eq_true rfl) d_Rows_gather_29 (fun h8 => ?_)
      refine PJ.iinc (pc := 32) (v := 1) (L1 := [some (.inr (.inr a0)), some (.inr (.inr a1)), none, some (.inl (s4.1 + (1 : Int32)))]) d_Rows_gather_32 rfl (by decide) (Nat.le_of_ble_eq_true rfl) rfl rfl ?_
      refine PJ.goto (pc := 35) (tgt := 17) d_Rows_gather_35 (by decide) ?_
      exact PJ.done rfl
  · show PJ l G (pj_rm 31 0 0) Y_Rows_gather 38 [some (.inr (.inr a0)), some (.inr (.inr a1)), none, none] [] x5 0 0 _ _
    refine PJ.aload_n (pc := 38) d_Rows_gather_38 rfl ?_
    refine PJ.getR (pc := 39) fs_Rows_41 d_Rows_gather_39 (fun v9 => ?_)
    refine PJ.aload_n (pc := 42) d_Rows_gather_42 rfl ?_
    refine PJ.cVV (pc := 43) cs_Rows_51 (fun z hz => PM_Now_begin hz) (pj_fitb rfl) rfl rfl (Nat.le_of_ble_eq_true rfl) d_Rows_gather_43 (fun h10 => ?_)
    refine PJ.aload_n (pc := 46) d_Rows_gather_46 rfl ?_
    refine PJ.getR (pc := 47) fs_Rows_37 d_Rows_gather_47 (fun v11 => ?_)
    refine PJ.aload_n (pc := 50) d_Rows_gather_50 rfl ?_
    refine PJ.aload_n (pc := 51) d_Rows_gather_51 rfl ?_
    refine PJ.getR (pc := 52) fs_Rows_41 d_Rows_gather_52 (fun v12 => ?_)
    refine PJ.cVV (pc := 55) cs_Rows_57 (fun z hz => PM_Desk_look hz) (pj_fitb rfl) rfl rfl (Nat.le_of_ble_eq_true rfl) d_Rows_gather_55 (fun h13 => ?_)
    refine PJ.aload_n (pc := 58) d_Rows_gather_58 rfl ?_
    refine PJ.iconst (pc := 59) (v := 0) d_Rows_gather_59 (by decide) ?_
    refine PJ.cVV (pc := 60) cs_Rows_63 (fun z hz => PM_Rows_extend hz) (pj_fitb rfl) rfl rfl (Nat.le_of_ble_eq_true rfl) d_Rows_gather_60 (fun h14 => ?_)
    exact PJ.vret (pc := 63) d_Rows_gather_63 rfl (Nat.le_of_ble_eq_true rfl) (Nat.le_of_ble_eq_true rfl)
theorem d_T_rows_0 : decode Y_T_rows.2.1 0 = .ok (.aload_n 0, 1) := by decide +kernel
theorem d_T_rows_1 : decode Y_T_rows.2.1 1 = .ok (.iload_n 1, 1) := by decide +kernel
theorem d_T_rows_2 : decode Y_T_rows.2.1 2 = .ok (.invokevirtual 117, 3) := by decide +kernel
theorem d_T_rows_5 : decode Y_T_rows.2.1 5 = .ok (.ifCond .ne 9, 3) := by decide +kernel
theorem d_T_rows_8 : decode Y_T_rows.2.1 8 = .ok (.aload_n 0, 1) := by decide +kernel
theorem d_T_rows_9 : decode Y_T_rows.2.1 9 = .ok (.iconst 1, 1) := by decide +kernel
theorem d_T_rows_10 : decode Y_T_rows.2.1 10 = .ok (.invokevirtual 95, 3) := by decide +kernel
theorem d_T_rows_13 : decode Y_T_rows.2.1 13 = .ok (.ireturn, 1) := by decide +kernel
theorem d_T_rows_14 : decode Y_T_rows.2.1 14 = .ok (.aload_n 0, 1) := by decide +kernel
theorem d_T_rows_15 : decode Y_T_rows.2.1 15 = .ok (.getfield 20, 3) := by decide +kernel
theorem d_T_rows_18 : decode Y_T_rows.2.1 18 = .ok (.getfield 261, 3) := by decide +kernel
theorem d_T_rows_21 : decode Y_T_rows.2.1 21 = .ok (.iload_n 1, 1) := by decide +kernel
theorem d_T_rows_22 : decode Y_T_rows.2.1 22 = .ok (.invokevirtual 265, 3) := by decide +kernel
theorem d_T_rows_25 : decode Y_T_rows.2.1 25 = .ok (.ifCond .ne 10, 3) := by decide +kernel
theorem d_T_rows_28 : decode Y_T_rows.2.1 28 = .ok (.aload_n 0, 1) := by decide +kernel
theorem d_T_rows_29 : decode Y_T_rows.2.1 29 = .ok (.bipush 6, 2) := by decide +kernel
theorem d_T_rows_31 : decode Y_T_rows.2.1 31 = .ok (.invokevirtual 95, 3) := by decide +kernel
theorem d_T_rows_34 : decode Y_T_rows.2.1 34 = .ok (.ireturn, 1) := by decide +kernel
theorem d_T_rows_35 : decode Y_T_rows.2.1 35 = .ok (.aload_n 0, 1) := by decide +kernel
theorem d_T_rows_36 : decode Y_T_rows.2.1 36 = .ok (.getfield 71, 3) := by decide +kernel
theorem d_T_rows_39 : decode Y_T_rows.2.1 39 = .ok (.aload_n 0, 1) := by decide +kernel
theorem d_T_rows_40 : decode Y_T_rows.2.1 40 = .ok (.getfield 20, 3) := by decide +kernel
theorem d_T_rows_43 : decode Y_T_rows.2.1 43 = .ok (.iload_n 1, 1) := by decide +kernel
theorem d_T_rows_44 : decode Y_T_rows.2.1 44 = .ok (.invokevirtual 270, 3) := by decide +kernel
theorem d_T_rows_47 : decode Y_T_rows.2.1 47 = .ok (.aload_n 0, 1) := by decide +kernel
theorem d_T_rows_48 : decode Y_T_rows.2.1 48 = .ok (.aload_n 0, 1) := by decide +kernel
theorem d_T_rows_49 : decode Y_T_rows.2.1 49 = .ok (.getfield 71, 3) := by decide +kernel
theorem d_T_rows_52 : decode Y_T_rows.2.1 52 = .ok (.getfield 274, 3) := by decide +kernel
theorem d_T_rows_55 : decode Y_T_rows.2.1 55 = .ok (.invokevirtual 114, 3) := by decide +kernel
theorem d_T_rows_58 : decode Y_T_rows.2.1 58 = .ok (.ireturn, 1) := by decide +kernel
def f_T_rows (h : PH) (a0 : Option Nat) (a1 : Int32) : Option (Int32 × PH) := (cl h 10 a0 (f_T_isPerson h a0 a1)).bind fun v1 => if ¬ v1 = 0 then ((gR h 10 a0 2).bind fun v2 => (gR h 1 v2 11).bind fun v3 => (cl h 7 v3 (f_Receipts_has h v3 a1)).bind fun v4 => if ¬ v4 = 0 then ((gR h 10 a0 10).bind fun v5 => (gR h 10 a0 2).bind fun v6 => (cl h 8 v5 (f_Rows_gather h v5 v6 a1)).bind fun h7 => (gR h7 10 a0 10).bind fun v8 => (gI h7 8 v8 4).bind fun v9 => (cl h7 10 a0 (f_T_fine h7 a0 v9)).bind fun v10 => some (v10.1, v10.2)) else ((cl h 10 a0 (f_T_refuse h a0 (6 : Int32))).bind fun v11 => some (v11.1, v11.2))) else ((cl h 10 a0 (f_T_refuse h a0 (1 : Int32))).bind fun v12 => some (v12.1, v12.2))
set_option maxRecDepth 20000 in
theorem PM_T_rows {l : Launch} {G : Cx} {h : PH} {a0 : Option Nat} {a1 : Int32} {z : (Int32 × PH)} (hz : f_T_rows h a0 a1 = some z) : PM l G 32 0 0 Y_T_rows [.inr (.inr a0), .inl a1] h (some (.inl z.1), z.2) := by
  refine PM.of (Y := Y_T_rows) (cv := (fun z : (Int32 × PH) => (((some (.inl z.1), z.2) : Option PV × PH)))) (by decide) (L0 := [some (.inr (.inr a0)), some (.inl a1)]) 0 rfl (Nat.le_of_ble_eq_true rfl) ?_ hz
  unfold f_T_rows
  refine PJ.aload_n (pc := 0) d_T_rows_0 rfl ?_
  refine PJ.iload_n (pc := 1) d_T_rows_1 rfl ?_
  refine PJ.cVpI (pc := 2) cs_T_117 (fun z hz => PM_T_isPerson hz) (pj_fitb rfl) rfl rfl (Nat.le_of_ble_eq_true rfl) d_T_rows_2 (fun v1 => ?_)
  refine PJ.if_ne (pc := 5) (tgt := 14) d_T_rows_5 (by decide) (fun _ => ?_) (fun _ => ?_)
  · refine PJ.aload_n (pc := 14) d_T_rows_14 rfl ?_
    refine PJ.getR (pc := 15) fs_T_20 d_T_rows_15 (fun v2 => ?_)
    refine PJ.getR (pc := 18) fs_T_261 d_T_rows_18 (fun v3 => ?_)
    refine PJ.iload_n (pc := 21) d_T_rows_21 rfl ?_
    refine PJ.cVpI (pc := 22) cs_T_265 (fun z hz => PM_Receipts_has hz) (pj_fitb rfl) rfl rfl (Nat.le_of_ble_eq_true rfl) d_T_rows_22 (fun v4 => ?_)
    refine PJ.if_ne (pc := 25) (tgt := 35) d_T_rows_25 (by decide) (fun _ => ?_) (fun _ => ?_)
    · refine PJ.aload_n (pc := 35) d_T_rows_35 rfl ?_
      refine PJ.getR (pc := 36) fs_T_71 d_T_rows_36 (fun v5 => ?_)
      refine PJ.aload_n (pc := 39) d_T_rows_39 rfl ?_
      refine PJ.getR (pc := 40) fs_T_20 d_T_rows_40 (fun v6 => ?_)
      refine PJ.iload_n (pc := 43) d_T_rows_43 rfl ?_
      refine PJ.cVV (pc := 44) cs_T_270 (fun z hz => PM_Rows_gather hz) (pj_fitb rfl) rfl rfl (Nat.le_of_ble_eq_true rfl) d_T_rows_44 (fun h7 => ?_)
      refine PJ.aload_n (pc := 47) d_T_rows_47 rfl ?_
      refine PJ.aload_n (pc := 48) d_T_rows_48 rfl ?_
      refine PJ.getR (pc := 49) fs_T_71 d_T_rows_49 (fun v8 => ?_)
      refine PJ.getI (pc := 52) fs_T_274 d_T_rows_52 (fun v9 => ?_)
      refine PJ.cVI (pc := 55) cs_T_114 (fun z hz => PM_T_fine hz) (pj_fitb rfl) rfl rfl (Nat.le_of_ble_eq_true rfl) d_T_rows_55 (fun v10 => ?_)
      exact PJ.iret (pc := 58) d_T_rows_58 rfl (Nat.le_of_ble_eq_true rfl) (Nat.le_of_ble_eq_true rfl)
    · refine PJ.aload_n (pc := 28) d_T_rows_28 rfl ?_
      refine PJ.bipush (pc := 29) (v := 6) d_T_rows_29 (by decide) ?_
      refine PJ.cVI (pc := 31) cs_T_95 (fun z hz => PM_T_refuse hz) (pj_fitb rfl) rfl rfl (Nat.le_of_ble_eq_true rfl) d_T_rows_31 (fun v11 => ?_)
      exact PJ.iret (pc := 34) d_T_rows_34 rfl (Nat.le_of_ble_eq_true rfl) (Nat.le_of_ble_eq_true rfl)
  · refine PJ.aload_n (pc := 8) d_T_rows_8 rfl ?_
    refine PJ.iconst (pc := 9) (v := 1) d_T_rows_9 (by decide) ?_
    refine PJ.cVI (pc := 10) cs_T_95 (fun z hz => PM_T_refuse hz) (pj_fitb rfl) rfl rfl (Nat.le_of_ble_eq_true rfl) d_T_rows_10 (fun v12 => ?_)
    exact PJ.iret (pc := 13) d_T_rows_13 rfl (Nat.le_of_ble_eq_true rfl) (Nat.le_of_ble_eq_true rfl)
theorem d_T_gatherFor_0 : decode Y_T_gatherFor.2.1 0 = .ok (.iload_n 1, 1) := by decide +kernel
theorem d_T_gatherFor_1 : decode Y_T_gatherFor.2.1 1 = .ok (.ifCond .lt 24, 3) := by decide +kernel
theorem d_T_gatherFor_4 : decode Y_T_gatherFor.2.1 4 = .ok (.aload_n 0, 1) := by decide +kernel
theorem d_T_gatherFor_5 : decode Y_T_gatherFor.2.1 5 = .ok (.getfield 36, 3) := by decide +kernel
theorem d_T_gatherFor_8 : decode Y_T_gatherFor.2.1 8 = .ok (.ifCond .eq 17, 3) := by decide +kernel
theorem d_T_gatherFor_11 : decode Y_T_gatherFor.2.1 11 = .ok (.iload_n 1, 1) := by decide +kernel
theorem d_T_gatherFor_12 : decode Y_T_gatherFor.2.1 12 = .ok (.aload_n 0, 1) := by decide +kernel
theorem d_T_gatherFor_13 : decode Y_T_gatherFor.2.1 13 = .ok (.getfield 20, 3) := by decide +kernel
theorem d_T_gatherFor_16 : decode Y_T_gatherFor.2.1 16 = .ok (.getfield 261, 3) := by decide +kernel
theorem d_T_gatherFor_19 : decode Y_T_gatherFor.2.1 19 = .ok (.getfield 293, 3) := by decide +kernel
theorem d_T_gatherFor_22 : decode Y_T_gatherFor.2.1 22 = .ok (.if_icmp .lt 5, 3) := by decide +kernel
theorem d_T_gatherFor_25 : decode Y_T_gatherFor.2.1 25 = .ok (.iconst 0, 1) := by decide +kernel
theorem d_T_gatherFor_26 : decode Y_T_gatherFor.2.1 26 = .ok (.ireturn, 1) := by decide +kernel
theorem d_T_gatherFor_27 : decode Y_T_gatherFor.2.1 27 = .ok (.aload_n 0, 1) := by decide +kernel
theorem d_T_gatherFor_28 : decode Y_T_gatherFor.2.1 28 = .ok (.getfield 71, 3) := by decide +kernel
theorem d_T_gatherFor_31 : decode Y_T_gatherFor.2.1 31 = .ok (.aload_n 0, 1) := by decide +kernel
theorem d_T_gatherFor_32 : decode Y_T_gatherFor.2.1 32 = .ok (.getfield 20, 3) := by decide +kernel
theorem d_T_gatherFor_35 : decode Y_T_gatherFor.2.1 35 = .ok (.aload_n 0, 1) := by decide +kernel
theorem d_T_gatherFor_36 : decode Y_T_gatherFor.2.1 36 = .ok (.getfield 20, 3) := by decide +kernel
theorem d_T_gatherFor_39 : decode Y_T_gatherFor.2.1 39 = .ok (.getfield 261, 3) := by decide +kernel
theorem d_T_gatherFor_42 : decode Y_T_gatherFor.2.1 42 = .ok (.getfield 294, 3) := by decide +kernel
theorem d_T_gatherFor_45 : decode Y_T_gatherFor.2.1 45 = .ok (.iload_n 1, 1) := by decide +kernel
theorem d_T_gatherFor_46 : decode Y_T_gatherFor.2.1 46 = .ok (.iaload, 1) := by decide +kernel
theorem d_T_gatherFor_47 : decode Y_T_gatherFor.2.1 47 = .ok (.invokevirtual 270, 3) := by decide +kernel
theorem d_T_gatherFor_50 : decode Y_T_gatherFor.2.1 50 = .ok (.iconst 1, 1) := by decide +kernel
theorem d_T_gatherFor_51 : decode Y_T_gatherFor.2.1 51 = .ok (.ireturn, 1) := by decide +kernel
def f_T_gatherFor (h : PH) (a0 : Option Nat) (a1 : Int32) : Option (Int32 × PH) := if a1 < 0 then (some ((0 : Int32), h)) else ((gI h 10 a0 5).bind fun v1 => if v1 = 0 then (some ((0 : Int32), h)) else ((gR h 10 a0 2).bind fun v2 => (gR h 1 v2 11).bind fun v3 => (gI h 7 v3 0).bind fun v4 => if a1 < v4 then ((gR h 10 a0 10).bind fun v5 => (gR h 10 a0 2).bind fun v6 => (gR h 10 a0 2).bind fun v7 => (gR h 1 v7 11).bind fun v8 => (gR h 7 v8 1).bind fun v9 => (aI h v9 a1).bind fun v10 => (cl h 8 v5 (f_Rows_gather h v5 v6 v10)).bind fun h11 => some ((1 : Int32), h11)) else (some ((0 : Int32), h))))
set_option maxRecDepth 20000 in
theorem PM_T_gatherFor {l : Launch} {G : Cx} {h : PH} {a0 : Option Nat} {a1 : Int32} {z : (Int32 × PH)} (hz : f_T_gatherFor h a0 a1 = some z) : PM l G 32 0 0 Y_T_gatherFor [.inr (.inr a0), .inl a1] h (some (.inl z.1), z.2) := by
  refine PM.of (Y := Y_T_gatherFor) (cv := (fun z : (Int32 × PH) => (((some (.inl z.1), z.2) : Option PV × PH)))) (by decide) (L0 := [some (.inr (.inr a0)), some (.inl a1)]) 0 rfl (Nat.le_of_ble_eq_true rfl) ?_ hz
  unfold f_T_gatherFor
  refine PJ.iload_n (pc := 0) d_T_gatherFor_0 rfl ?_
  refine PJ.if_lt (pc := 1) (tgt := 25) d_T_gatherFor_1 (by decide) (fun _ => ?_) (fun _ => ?_)
  · refine PJ.iconst (pc := 25) (v := 0) d_T_gatherFor_25 (by decide) ?_
    exact PJ.zret (pc := 26) d_T_gatherFor_26 rfl rfl (Nat.le_of_ble_eq_true rfl) (Nat.le_of_ble_eq_true rfl)
  · refine PJ.aload_n (pc := 4) d_T_gatherFor_4 rfl ?_
    refine PJ.getI (pc := 5) fs_T_36 d_T_gatherFor_5 (fun v1 => ?_)
    refine PJ.if_eq (pc := 8) (tgt := 25) d_T_gatherFor_8 (by decide) (fun _ => ?_) (fun _ => ?_)
    · refine PJ.iconst (pc := 25) (v := 0) d_T_gatherFor_25 (by decide) ?_
      exact PJ.zret (pc := 26) d_T_gatherFor_26 rfl rfl (Nat.le_of_ble_eq_true rfl) (Nat.le_of_ble_eq_true rfl)
    · refine PJ.iload_n (pc := 11) d_T_gatherFor_11 rfl ?_
      refine PJ.aload_n (pc := 12) d_T_gatherFor_12 rfl ?_
      refine PJ.getR (pc := 13) fs_T_20 d_T_gatherFor_13 (fun v2 => ?_)
      refine PJ.getR (pc := 16) fs_T_261 d_T_gatherFor_16 (fun v3 => ?_)
      refine PJ.getI (pc := 19) fs_T_293 d_T_gatherFor_19 (fun v4 => ?_)
      refine PJ.icmp_lt (pc := 22) (tgt := 27) d_T_gatherFor_22 (by decide) (fun _ => ?_) (fun _ => ?_)
      · refine PJ.aload_n (pc := 27) d_T_gatherFor_27 rfl ?_
        refine PJ.getR (pc := 28) fs_T_71 d_T_gatherFor_28 (fun v5 => ?_)
        refine PJ.aload_n (pc := 31) d_T_gatherFor_31 rfl ?_
        refine PJ.getR (pc := 32) fs_T_20 d_T_gatherFor_32 (fun v6 => ?_)
        refine PJ.aload_n (pc := 35) d_T_gatherFor_35 rfl ?_
        refine PJ.getR (pc := 36) fs_T_20 d_T_gatherFor_36 (fun v7 => ?_)
        refine PJ.getR (pc := 39) fs_T_261 d_T_gatherFor_39 (fun v8 => ?_)
        refine PJ.getR (pc := 42) fs_T_294 d_T_gatherFor_42 (fun v9 => ?_)
        refine PJ.iload_n (pc := 45) d_T_gatherFor_45 rfl ?_
        refine PJ.iald (pc := 46) d_T_gatherFor_46 (fun v10 => ?_)
        refine PJ.cVV (pc := 47) cs_T_270 (fun z hz => PM_Rows_gather hz) (pj_fitb rfl) rfl rfl (Nat.le_of_ble_eq_true rfl) d_T_gatherFor_47 (fun h11 => ?_)
        refine PJ.iconst (pc := 50) (v := 1) d_T_gatherFor_50 (by decide) ?_
        exact PJ.zret (pc := 51) d_T_gatherFor_51 rfl rfl (Nat.le_of_ble_eq_true rfl) (Nat.le_of_ble_eq_true rfl)
      · refine PJ.iconst (pc := 25) (v := 0) d_T_gatherFor_25 (by decide) ?_
        exact PJ.zret (pc := 26) d_T_gatherFor_26 rfl rfl (Nat.le_of_ble_eq_true rfl) (Nat.le_of_ble_eq_true rfl)
theorem d_T_could_0 : decode Y_T_could.2.1 0 = .ok (.aload_n 0, 1) := by decide +kernel
theorem d_T_could_1 : decode Y_T_could.2.1 1 = .ok (.iload_n 1, 1) := by decide +kernel
theorem d_T_could_2 : decode Y_T_could.2.1 2 = .ok (.invokevirtual 275, 3) := by decide +kernel
theorem d_T_could_5 : decode Y_T_could.2.1 5 = .ok (.ifCond .eq 18, 3) := by decide +kernel
theorem d_T_could_8 : decode Y_T_could.2.1 8 = .ok (.aload_n 0, 1) := by decide +kernel
theorem d_T_could_9 : decode Y_T_could.2.1 9 = .ok (.aload_n 0, 1) := by decide +kernel
theorem d_T_could_10 : decode Y_T_could.2.1 10 = .ok (.getfield 71, 3) := by decide +kernel
theorem d_T_could_13 : decode Y_T_could.2.1 13 = .ok (.iload_n 1, 1) := by decide +kernel
theorem d_T_could_14 : decode Y_T_could.2.1 14 = .ok (.invokevirtual 278, 3) := by decide +kernel
theorem d_T_could_17 : decode Y_T_could.2.1 17 = .ok (.invokevirtual 114, 3) := by decide +kernel
theorem d_T_could_20 : decode Y_T_could.2.1 20 = .ok (.goto 8, 3) := by decide +kernel
theorem d_T_could_23 : decode Y_T_could.2.1 23 = .ok (.aload_n 0, 1) := by decide +kernel
theorem d_T_could_24 : decode Y_T_could.2.1 24 = .ok (.iconst 1, 1) := by decide +kernel
theorem d_T_could_25 : decode Y_T_could.2.1 25 = .ok (.invokevirtual 95, 3) := by decide +kernel
theorem d_T_could_28 : decode Y_T_could.2.1 28 = .ok (.ireturn, 1) := by decide +kernel
def f_T_could (h : PH) (a0 : Option Nat) (a1 : Int32) : Option (Int32 × PH) := (cl h 10 a0 (f_T_gatherFor h a0 a1)).bind fun v1 => if v1.1 = 0 then ((cl v1.2 10 a0 (f_T_refuse v1.2 a0 (1 : Int32))).bind fun v2 => some (v2.1, v2.2)) else ((gR v1.2 10 a0 10).bind fun v3 => (cl v1.2 8 v3 (f_Rows_possible v1.2 v3 a1)).bind fun v4 => (cl v1.2 10 a0 (f_T_fine v1.2 a0 v4)).bind fun v5 => some (v5.1, v5.2))
set_option maxRecDepth 20000 in
theorem PM_T_could {l : Launch} {G : Cx} {h : PH} {a0 : Option Nat} {a1 : Int32} {z : (Int32 × PH)} (hz : f_T_could h a0 a1 = some z) : PM l G 33 0 0 Y_T_could [.inr (.inr a0), .inl a1] h (some (.inl z.1), z.2) := by
  refine PM.of (Y := Y_T_could) (cv := (fun z : (Int32 × PH) => (((some (.inl z.1), z.2) : Option PV × PH)))) (by decide) (L0 := [some (.inr (.inr a0)), some (.inl a1)]) 0 rfl (Nat.le_of_ble_eq_true rfl) ?_ hz
  unfold f_T_could
  refine PJ.aload_n (pc := 0) d_T_could_0 rfl ?_
  refine PJ.iload_n (pc := 1) d_T_could_1 rfl ?_
  refine PJ.cVI (pc := 2) cs_T_275 (fun z hz => PM_T_gatherFor hz) (pj_fitb rfl) rfl rfl (Nat.le_of_ble_eq_true rfl) d_T_could_2 (fun v1 => ?_)
  refine PJ.if_eq (pc := 5) (tgt := 23) d_T_could_5 (by decide) (fun _ => ?_) (fun _ => ?_)
  · refine PJ.aload_n (pc := 23) d_T_could_23 rfl ?_
    refine PJ.iconst (pc := 24) (v := 1) d_T_could_24 (by decide) ?_
    refine PJ.cVI (pc := 25) cs_T_95 (fun z hz => PM_T_refuse hz) (pj_fitb rfl) rfl rfl (Nat.le_of_ble_eq_true rfl) d_T_could_25 (fun v2 => ?_)
    exact PJ.iret (pc := 28) d_T_could_28 rfl (Nat.le_of_ble_eq_true rfl) (Nat.le_of_ble_eq_true rfl)
  · refine PJ.aload_n (pc := 8) d_T_could_8 rfl ?_
    refine PJ.aload_n (pc := 9) d_T_could_9 rfl ?_
    refine PJ.getR (pc := 10) fs_T_71 d_T_could_10 (fun v3 => ?_)
    refine PJ.iload_n (pc := 13) d_T_could_13 rfl ?_
    refine PJ.cVpI (pc := 14) cs_T_278 (fun z hz => PM_Rows_possible hz) (pj_fitb rfl) rfl rfl (Nat.le_of_ble_eq_true rfl) d_T_could_14 (fun v4 => ?_)
    refine PJ.cVI (pc := 17) cs_T_114 (fun z hz => PM_T_fine hz) (pj_fitb rfl) rfl rfl (Nat.le_of_ble_eq_true rfl) d_T_could_17 (fun v5 => ?_)
    refine PJ.goto (pc := 20) (tgt := 28) d_T_could_20 (by decide) ?_
    exact PJ.iret (pc := 28) d_T_could_28 rfl (Nat.le_of_ble_eq_true rfl) (Nat.le_of_ble_eq_true rfl)
theorem d_T_surely_0 : decode Y_T_surely.2.1 0 = .ok (.aload_n 0, 1) := by decide +kernel
theorem d_T_surely_1 : decode Y_T_surely.2.1 1 = .ok (.iload_n 1, 1) := by decide +kernel
theorem d_T_surely_2 : decode Y_T_surely.2.1 2 = .ok (.invokevirtual 275, 3) := by decide +kernel
theorem d_T_surely_5 : decode Y_T_surely.2.1 5 = .ok (.ifCond .eq 18, 3) := by decide +kernel
theorem d_T_surely_8 : decode Y_T_surely.2.1 8 = .ok (.aload_n 0, 1) := by decide +kernel
theorem d_T_surely_9 : decode Y_T_surely.2.1 9 = .ok (.aload_n 0, 1) := by decide +kernel
theorem d_T_surely_10 : decode Y_T_surely.2.1 10 = .ok (.getfield 71, 3) := by decide +kernel
theorem d_T_surely_13 : decode Y_T_surely.2.1 13 = .ok (.iload_n 1, 1) := by decide +kernel
theorem d_T_surely_14 : decode Y_T_surely.2.1 14 = .ok (.invokevirtual 281, 3) := by decide +kernel
theorem d_T_surely_17 : decode Y_T_surely.2.1 17 = .ok (.invokevirtual 114, 3) := by decide +kernel
theorem d_T_surely_20 : decode Y_T_surely.2.1 20 = .ok (.goto 8, 3) := by decide +kernel
theorem d_T_surely_23 : decode Y_T_surely.2.1 23 = .ok (.aload_n 0, 1) := by decide +kernel
theorem d_T_surely_24 : decode Y_T_surely.2.1 24 = .ok (.iconst 1, 1) := by decide +kernel
theorem d_T_surely_25 : decode Y_T_surely.2.1 25 = .ok (.invokevirtual 95, 3) := by decide +kernel
theorem d_T_surely_28 : decode Y_T_surely.2.1 28 = .ok (.ireturn, 1) := by decide +kernel
def f_T_surely (h : PH) (a0 : Option Nat) (a1 : Int32) : Option (Int32 × PH) := (cl h 10 a0 (f_T_gatherFor h a0 a1)).bind fun v1 => if v1.1 = 0 then ((cl v1.2 10 a0 (f_T_refuse v1.2 a0 (1 : Int32))).bind fun v2 => some (v2.1, v2.2)) else ((gR v1.2 10 a0 10).bind fun v3 => (cl v1.2 8 v3 (f_Rows_certain v1.2 v3 a1)).bind fun v4 => (cl v1.2 10 a0 (f_T_fine v1.2 a0 v4)).bind fun v5 => some (v5.1, v5.2))
set_option maxRecDepth 20000 in
theorem PM_T_surely {l : Launch} {G : Cx} {h : PH} {a0 : Option Nat} {a1 : Int32} {z : (Int32 × PH)} (hz : f_T_surely h a0 a1 = some z) : PM l G 33 0 0 Y_T_surely [.inr (.inr a0), .inl a1] h (some (.inl z.1), z.2) := by
  refine PM.of (Y := Y_T_surely) (cv := (fun z : (Int32 × PH) => (((some (.inl z.1), z.2) : Option PV × PH)))) (by decide) (L0 := [some (.inr (.inr a0)), some (.inl a1)]) 0 rfl (Nat.le_of_ble_eq_true rfl) ?_ hz
  unfold f_T_surely
  refine PJ.aload_n (pc := 0) d_T_surely_0 rfl ?_
  refine PJ.iload_n (pc := 1) d_T_surely_1 rfl ?_
  refine PJ.cVI (pc := 2) cs_T_275 (fun z hz => PM_T_gatherFor hz) (pj_fitb rfl) rfl rfl (Nat.le_of_ble_eq_true rfl) d_T_surely_2 (fun v1 => ?_)
  refine PJ.if_eq (pc := 5) (tgt := 23) d_T_surely_5 (by decide) (fun _ => ?_) (fun _ => ?_)
  · refine PJ.aload_n (pc := 23) d_T_surely_23 rfl ?_
    refine PJ.iconst (pc := 24) (v := 1) d_T_surely_24 (by decide) ?_
    refine PJ.cVI (pc := 25) cs_T_95 (fun z hz => PM_T_refuse hz) (pj_fitb rfl) rfl rfl (Nat.le_of_ble_eq_true rfl) d_T_surely_25 (fun v2 => ?_)
    exact PJ.iret (pc := 28) d_T_surely_28 rfl (Nat.le_of_ble_eq_true rfl) (Nat.le_of_ble_eq_true rfl)
  · refine PJ.aload_n (pc := 8) d_T_surely_8 rfl ?_
    refine PJ.aload_n (pc := 9) d_T_surely_9 rfl ?_
    refine PJ.getR (pc := 10) fs_T_71 d_T_surely_10 (fun v3 => ?_)
    refine PJ.iload_n (pc := 13) d_T_surely_13 rfl ?_
    refine PJ.cVpI (pc := 14) cs_T_281 (fun z hz => PM_Rows_certain hz) (pj_fitb rfl) rfl rfl (Nat.le_of_ble_eq_true rfl) d_T_surely_14 (fun v4 => ?_)
    refine PJ.cVI (pc := 17) cs_T_114 (fun z hz => PM_T_fine hz) (pj_fitb rfl) rfl rfl (Nat.le_of_ble_eq_true rfl) d_T_surely_17 (fun v5 => ?_)
    refine PJ.goto (pc := 20) (tgt := 28) d_T_surely_20 (by decide) ?_
    exact PJ.iret (pc := 28) d_T_surely_28 rfl (Nat.le_of_ble_eq_true rfl) (Nat.le_of_ble_eq_true rfl)
theorem d_T_firstOf_0 : decode Y_T_firstOf.2.1 0 = .ok (.aload_n 0, 1) := by decide +kernel
theorem d_T_firstOf_1 : decode Y_T_firstOf.2.1 1 = .ok (.iload_n 1, 1) := by decide +kernel
theorem d_T_firstOf_2 : decode Y_T_firstOf.2.1 2 = .ok (.invokevirtual 275, 3) := by decide +kernel
theorem d_T_firstOf_5 : decode Y_T_firstOf.2.1 5 = .ok (.ifCond .ne 9, 3) := by decide +kernel
theorem d_T_firstOf_8 : decode Y_T_firstOf.2.1 8 = .ok (.aload_n 0, 1) := by decide +kernel
theorem d_T_firstOf_9 : decode Y_T_firstOf.2.1 9 = .ok (.iconst 1, 1) := by decide +kernel
theorem d_T_firstOf_10 : decode Y_T_firstOf.2.1 10 = .ok (.invokevirtual 95, 3) := by decide +kernel
theorem d_T_firstOf_13 : decode Y_T_firstOf.2.1 13 = .ok (.ireturn, 1) := by decide +kernel
theorem d_T_firstOf_14 : decode Y_T_firstOf.2.1 14 = .ok (.aload_n 0, 1) := by decide +kernel
theorem d_T_firstOf_15 : decode Y_T_firstOf.2.1 15 = .ok (.aload_n 0, 1) := by decide +kernel
theorem d_T_firstOf_16 : decode Y_T_firstOf.2.1 16 = .ok (.getfield 71, 3) := by decide +kernel
theorem d_T_firstOf_19 : decode Y_T_firstOf.2.1 19 = .ok (.getfield 274, 3) := by decide +kernel
theorem d_T_firstOf_22 : decode Y_T_firstOf.2.1 22 = .ok (.ifCond .ne 8, 3) := by decide +kernel
theorem d_T_firstOf_25 : decode Y_T_firstOf.2.1 25 = .ok (.bipush (-2), 2) := by decide +kernel
theorem d_T_firstOf_27 : decode Y_T_firstOf.2.1 27 = .ok (.goto 12, 3) := by decide +kernel
theorem d_T_firstOf_30 : decode Y_T_firstOf.2.1 30 = .ok (.aload_n 0, 1) := by decide +kernel
theorem d_T_firstOf_31 : decode Y_T_firstOf.2.1 31 = .ok (.getfield 71, 3) := by decide +kernel
theorem d_T_firstOf_34 : decode Y_T_firstOf.2.1 34 = .ok (.getfield 284, 3) := by decide +kernel
theorem d_T_firstOf_37 : decode Y_T_firstOf.2.1 37 = .ok (.iload_n 1, 1) := by decide +kernel
theorem d_T_firstOf_38 : decode Y_T_firstOf.2.1 38 = .ok (.iaload, 1) := by decide +kernel
theorem d_T_firstOf_39 : decode Y_T_firstOf.2.1 39 = .ok (.invokevirtual 114, 3) := by decide +kernel
theorem d_T_firstOf_42 : decode Y_T_firstOf.2.1 42 = .ok (.ireturn, 1) := by decide +kernel
def f_T_firstOf (h : PH) (a0 : Option Nat) (a1 : Int32) : Option (Int32 × PH) := (cl h 10 a0 (f_T_gatherFor h a0 a1)).bind fun v1 => if ¬ v1.1 = 0 then ((gR v1.2 10 a0 10).bind fun v2 => (gI v1.2 8 v2 4).bind fun v3 => (if ¬ v3 = 0 then ((gR v1.2 10 a0 10).bind fun v5 => (gR v1.2 8 v5 5).bind fun v6 => (aI v1.2 v6 a1).bind fun v7 => some v7) else (some (-2 : Int32)) : Option (Int32)).bind fun j4 => (cl v1.2 10 a0 (f_T_fine v1.2 a0 j4)).bind fun v8 => some (v8.1, v8.2)) else ((cl v1.2 10 a0 (f_T_refuse v1.2 a0 (1 : Int32))).bind fun v9 => some (v9.1, v9.2))
set_option maxRecDepth 20000 in
theorem PM_T_firstOf {l : Launch} {G : Cx} {h : PH} {a0 : Option Nat} {a1 : Int32} {z : (Int32 × PH)} (hz : f_T_firstOf h a0 a1 = some z) : PM l G 33 0 0 Y_T_firstOf [.inr (.inr a0), .inl a1] h (some (.inl z.1), z.2) := by
  refine PM.of (Y := Y_T_firstOf) (cv := (fun z : (Int32 × PH) => (((some (.inl z.1), z.2) : Option PV × PH)))) (by decide) (L0 := [some (.inr (.inr a0)), some (.inl a1)]) 0 rfl (Nat.le_of_ble_eq_true rfl) ?_ hz
  unfold f_T_firstOf
  refine PJ.aload_n (pc := 0) d_T_firstOf_0 rfl ?_
  refine PJ.iload_n (pc := 1) d_T_firstOf_1 rfl ?_
  refine PJ.cVI (pc := 2) cs_T_275 (fun z hz => PM_T_gatherFor hz) (pj_fitb rfl) rfl rfl (Nat.le_of_ble_eq_true rfl) d_T_firstOf_2 (fun v1 => ?_)
  refine PJ.if_ne (pc := 5) (tgt := 14) d_T_firstOf_5 (by decide) (fun _ => ?_) (fun _ => ?_)
  · refine PJ.aload_n (pc := 14) d_T_firstOf_14 rfl ?_
    refine PJ.aload_n (pc := 15) d_T_firstOf_15 rfl ?_
    refine PJ.getR (pc := 16) fs_T_71 d_T_firstOf_16 (fun v2 => ?_)
    refine PJ.getI (pc := 19) fs_T_274 d_T_firstOf_19 (fun v3 => ?_)
    refine PJ.bind (fun j4 : Int32 => ((39 : Nat), ([none, none] : List (Option PV)), ([.inl j4, .inr (.inr a0)] : List PV), (v1.2 : PH), (0 : Nat), (0 : Nat))) ?_ (fun j4 => ?_)
    · refine PJ.if_ne (pc := 22) (tgt := 30) d_T_firstOf_22 (by decide) (fun _ => ?_) (fun _ => ?_)
      · refine PJ.aload_n (pc := 30) d_T_firstOf_30 rfl ?_
        refine PJ.getR (pc := 31) fs_T_71 d_T_firstOf_31 (fun v5 => ?_)
        refine PJ.getR (pc := 34) fs_T_284 d_T_firstOf_34 (fun v6 => ?_)
        refine PJ.iload_n (pc := 37) d_T_firstOf_37 rfl ?_
        refine PJ.iald (pc := 38) d_T_firstOf_38 (fun v7 => ?_)
        refine PJ.mk (L1 := [none, none]) [false, false] rfl ?_
        exact PJ.done rfl
      · refine PJ.bipush (pc := 25) (v := -2) d_T_firstOf_25 (by decide) ?_
        refine PJ.goto (pc := 27) (tgt := 39) d_T_firstOf_27 (by decide) ?_
        refine PJ.mk (L1 := [none, none]) [false, false] rfl ?_
        exact PJ.done rfl
    · show PJ l G (pj_rm 33 0 0) Y_T_firstOf 39 [none, none] [.inl j4, .inr (.inr a0)] v1.2 0 0 _ _
      refine PJ.cVI (pc := 39) cs_T_114 (fun z hz => PM_T_fine hz) (pj_fitb rfl) rfl rfl (Nat.le_of_ble_eq_true rfl) d_T_firstOf_39 (fun v8 => ?_)
      exact PJ.iret (pc := 42) d_T_firstOf_42 rfl (Nat.le_of_ble_eq_true rfl) (Nat.le_of_ble_eq_true rfl)
  · refine PJ.aload_n (pc := 8) d_T_firstOf_8 rfl ?_
    refine PJ.iconst (pc := 9) (v := 1) d_T_firstOf_9 (by decide) ?_
    refine PJ.cVI (pc := 10) cs_T_95 (fun z hz => PM_T_refuse hz) (pj_fitb rfl) rfl rfl (Nat.le_of_ble_eq_true rfl) d_T_firstOf_10 (fun v9 => ?_)
    exact PJ.iret (pc := 13) d_T_firstOf_13 rfl (Nat.le_of_ble_eq_true rfl) (Nat.le_of_ble_eq_true rfl)
theorem d_Rows_weighAll_0 : decode Y_Rows_weighAll.2.1 0 = .ok (.iconst 0, 1) := by decide +kernel
theorem d_Rows_weighAll_1 : decode Y_Rows_weighAll.2.1 1 = .ok (.istore_n 2, 1) := by decide +kernel
theorem d_Rows_weighAll_2 : decode Y_Rows_weighAll.2.1 2 = .ok (.iload_n 2, 1) := by decide +kernel
theorem d_Rows_weighAll_3 : decode Y_Rows_weighAll.2.1 3 = .ok (.aload_n 1, 1) := by decide +kernel
theorem d_Rows_weighAll_4 : decode Y_Rows_weighAll.2.1 4 = .ok (.getfield 113, 3) := by decide +kernel
theorem d_Rows_weighAll_7 : decode Y_Rows_weighAll.2.1 7 = .ok (.if_icmp .ge 30, 3) := by decide +kernel
theorem d_Rows_weighAll_10 : decode Y_Rows_weighAll.2.1 10 = .ok (.aload_n 1, 1) := by decide +kernel
theorem d_Rows_weighAll_11 : decode Y_Rows_weighAll.2.1 11 = .ok (.getfield 67, 3) := by decide +kernel
theorem d_Rows_weighAll_14 : decode Y_Rows_weighAll.2.1 14 = .ok (.iload_n 2, 1) := by decide +kernel
theorem d_Rows_weighAll_15 : decode Y_Rows_weighAll.2.1 15 = .ok (.invokevirtual 116, 3) := by decide +kernel
theorem d_Rows_weighAll_18 : decode Y_Rows_weighAll.2.1 18 = .ok (.ifCond .eq 13, 3) := by decide +kernel
theorem d_Rows_weighAll_21 : decode Y_Rows_weighAll.2.1 21 = .ok (.aload_n 0, 1) := by decide +kernel
theorem d_Rows_weighAll_22 : decode Y_Rows_weighAll.2.1 22 = .ok (.aload_n 1, 1) := by decide +kernel
theorem d_Rows_weighAll_23 : decode Y_Rows_weighAll.2.1 23 = .ok (.iload_n 2, 1) := by decide +kernel
theorem d_Rows_weighAll_24 : decode Y_Rows_weighAll.2.1 24 = .ok (.invokevirtual 120, 3) := by decide +kernel
theorem d_Rows_weighAll_27 : decode Y_Rows_weighAll.2.1 27 = .ok (.aload_n 0, 1) := by decide +kernel
theorem d_Rows_weighAll_28 : decode Y_Rows_weighAll.2.1 28 = .ok (.invokevirtual 124, 3) := by decide +kernel
theorem d_Rows_weighAll_31 : decode Y_Rows_weighAll.2.1 31 = .ok (.iinc 2 1, 3) := by decide +kernel
theorem d_Rows_weighAll_34 : decode Y_Rows_weighAll.2.1 34 = .ok (.goto (-32), 3) := by decide +kernel
theorem d_Rows_weighAll_37 : decode Y_Rows_weighAll.2.1 37 = .ok (.return_, 1) := by decide +kernel
def f_Rows_weighAll (h : PH) (a0 : Option Nat) (a1 : Option Nat) : Option PH := (pj_it (X := PH) (fun s1 : Int32 × PH => (gI s1.2 1 a1 3).bind fun v3 => if v3 ≤ s1.1 then (some (.inr s1.2)) else ((gR s1.2 1 a1 11).bind fun v4 => (cl s1.2 7 v4 (f_Receipts_has s1.2 v4 s1.1)).bind fun v5 => if v5 = 0 then (some (.inl ((s1.1 + (1 : Int32)), s1.2))) else ((cl s1.2 8 a0 (f_Rows_gather s1.2 a0 a1 s1.1)).bind fun h6 => (cl h6 8 a0 (f_Rows_weigh h6 a0)).bind fun h7 => some (.inl ((s1.1 + (1 : Int32)), h7))))) FU ((0 : Int32), h)).bind fun x2 => some x2
set_option maxRecDepth 20000 in
theorem PM_Rows_weighAll {l : Launch} {G : Cx} {h : PH} {a0 : Option Nat} {a1 : Option Nat} {z : PH} (hz : f_Rows_weighAll h a0 a1 = some z) : PM l G 32 0 0 Y_Rows_weighAll [.inr (.inr a0), .inr (.inr a1)] h (none, z) := by
  refine PM.of (Y := Y_Rows_weighAll) (cv := (fun z : PH => (((none, z) : Option PV × PH)))) (by decide) (L0 := [some (.inr (.inr a0)), some (.inr (.inr a1)), none]) 1 rfl (Nat.le_of_ble_eq_true rfl) ?_ hz
  unfold f_Rows_weighAll
  refine PJ.iconst (pc := 0) (v := 0) d_Rows_weighAll_0 (by decide) ?_
  refine PJ.istore_n (pc := 1) (L1 := [some (.inr (.inr a0)), some (.inr (.inr a1)), some (.inl (0 : Int32))]) d_Rows_weighAll_1 (Nat.le_of_ble_eq_true rfl) rfl rfl ?_
  refine PJ.bind (fun x2 : PH => ((37 : Nat), ([none, none, none] : List (Option PV)), ([] : List PV), (x2 : PH), (0 : Nat), (0 : Nat))) (PJ.it (E := (fun s1 : Int32 × PH => ((2 : Nat), ([some (.inr (.inr a0)), some (.inr (.inr a1)), some (.inl s1.1)] : List (Option PV)), ([] : List PV), (s1.2 : PH), (0 : Nat), (0 : Nat)))) (F := (fun x2 : PH => ((37 : Nat), ([none, none, none] : List (Option PV)), ([] : List PV), (x2 : PH), (0 : Nat), (0 : Nat)))) (fun s1 => ?_) FU ((0 : Int32), h)) (fun x2 => ?_)
  · show PJ l G (pj_rm 32 0 0) Y_Rows_weighAll 2 [some (.inr (.inr a0)), some (.inr (.inr a1)), some (.inl s1.1)] [] s1.2 0 0 _ _
    refine PJ.iload_n (pc := 2) d_Rows_weighAll_2 rfl ?_
    refine PJ.aload_n (pc := 3) d_Rows_weighAll_3 rfl ?_
    refine PJ.getI (pc := 4) fs_Rows_113 d_Rows_weighAll_4 (fun v3 => ?_)
    refine PJ.icmp_ge (pc := 7) (tgt := 37) d_Rows_weighAll_7 (by decide) (fun _ => ?_) (fun _ => ?_)
    · refine PJ.mk (L1 := [none, none, none]) [false, false, false] rfl ?_
      exact PJ.done rfl
    · refine PJ.aload_n (pc := 10) d_Rows_weighAll_10 rfl ?_
      refine PJ.getR (pc := 11) fs_Rows_67 d_Rows_weighAll_11 (fun v4 => ?_)
      refine PJ.iload_n (pc := 14) d_Rows_weighAll_14 rfl ?_
      refine PJ.cVpI (pc := 15) cs_Rows_116 (fun z hz => PM_Receipts_has hz) (pj_fitb rfl) rfl rfl (Nat.le_of_ble_eq_true rfl) d_Rows_weighAll_15 (fun v5 => ?_)
      refine PJ.if_eq (pc := 18) (tgt := 31) d_Rows_weighAll_18 (by decide) (fun _ => ?_) (fun _ => ?_)
      · refine PJ.iinc (pc := 31) (v := 1) (L1 := [some (.inr (.inr a0)), some (.inr (.inr a1)), some (.inl (s1.1 + (1 : Int32)))]) d_Rows_weighAll_31 rfl (by decide) (Nat.le_of_ble_eq_true rfl) rfl rfl ?_
        refine PJ.goto (pc := 34) (tgt := 2) d_Rows_weighAll_34 (by decide) ?_
        exact PJ.done rfl
      · refine PJ.aload_n (pc := 21) d_Rows_weighAll_21 rfl ?_
        refine PJ.aload_n (pc := 22) d_Rows_weighAll_22 rfl ?_
        refine PJ.iload_n (pc := 23) d_Rows_weighAll_23 rfl ?_
        refine PJ.cVV (pc := 24) cs_Rows_120 (fun z hz => PM_Rows_gather hz) (pj_fitb rfl) rfl rfl (Nat.le_of_ble_eq_true rfl) d_Rows_weighAll_24 (fun h6 => ?_)
        refine PJ.aload_n (pc := 27) d_Rows_weighAll_27 rfl ?_
        refine PJ.cVV (pc := 28) cs_Rows_124 (fun z hz => PM_Rows_weigh hz) (pj_fitb rfl) rfl rfl (Nat.le_of_ble_eq_true rfl) d_Rows_weighAll_28 (fun h7 => ?_)
        refine PJ.iinc (pc := 31) (v := 1) (L1 := [some (.inr (.inr a0)), some (.inr (.inr a1)), some (.inl (s1.1 + (1 : Int32)))]) d_Rows_weighAll_31 rfl (by decide) (Nat.le_of_ble_eq_true rfl) rfl rfl ?_
        refine PJ.goto (pc := 34) (tgt := 2) d_Rows_weighAll_34 (by decide) ?_
        exact PJ.done rfl
  · show PJ l G (pj_rm 32 0 0) Y_Rows_weighAll 37 [none, none, none] [] x2 0 0 _ _
    exact PJ.vret (pc := 37) d_Rows_weighAll_37 rfl (Nat.le_of_ble_eq_true rfl) (Nat.le_of_ble_eq_true rfl)
theorem d_T_bestToAsk_0 : decode Y_T_bestToAsk.2.1 0 = .ok (.aload_n 0, 1) := by decide +kernel
theorem d_T_bestToAsk_1 : decode Y_T_bestToAsk.2.1 1 = .ok (.getfield 71, 3) := by decide +kernel
theorem d_T_bestToAsk_4 : decode Y_T_bestToAsk.2.1 4 = .ok (.aload_n 0, 1) := by decide +kernel
theorem d_T_bestToAsk_5 : decode Y_T_bestToAsk.2.1 5 = .ok (.getfield 20, 3) := by decide +kernel
theorem d_T_bestToAsk_8 : decode Y_T_bestToAsk.2.1 8 = .ok (.invokevirtual 297, 3) := by decide +kernel
theorem d_T_bestToAsk_11 : decode Y_T_bestToAsk.2.1 11 = .ok (.bipush (-2), 2) := by decide +kernel
theorem d_T_bestToAsk_13 : decode Y_T_bestToAsk.2.1 13 = .ok (.istore_n 1, 1) := by decide +kernel
theorem d_T_bestToAsk_14 : decode Y_T_bestToAsk.2.1 14 = .ok (.iconst 0, 1) := by decide +kernel
theorem d_T_bestToAsk_15 : decode Y_T_bestToAsk.2.1 15 = .ok (.istore_n 2, 1) := by decide +kernel
theorem d_T_bestToAsk_16 : decode Y_T_bestToAsk.2.1 16 = .ok (.iload_n 2, 1) := by decide +kernel
theorem d_T_bestToAsk_17 : decode Y_T_bestToAsk.2.1 17 = .ok (.aload_n 0, 1) := by decide +kernel
theorem d_T_bestToAsk_18 : decode Y_T_bestToAsk.2.1 18 = .ok (.getfield 20, 3) := by decide +kernel
theorem d_T_bestToAsk_21 : decode Y_T_bestToAsk.2.1 21 = .ok (.getfield 261, 3) := by decide +kernel
theorem d_T_bestToAsk_24 : decode Y_T_bestToAsk.2.1 24 = .ok (.getfield 293, 3) := by decide +kernel
theorem d_T_bestToAsk_27 : decode Y_T_bestToAsk.2.1 27 = .ok (.if_icmp .ge 48, 3) := by decide +kernel
theorem d_T_bestToAsk_30 : decode Y_T_bestToAsk.2.1 30 = .ok (.aload_n 0, 1) := by decide +kernel
theorem d_T_bestToAsk_31 : decode Y_T_bestToAsk.2.1 31 = .ok (.getfield 71, 3) := by decide +kernel
theorem d_T_bestToAsk_34 : decode Y_T_bestToAsk.2.1 34 = .ok (.getfield 290, 3) := by decide +kernel
theorem d_T_bestToAsk_37 : decode Y_T_bestToAsk.2.1 37 = .ok (.iload_n 2, 1) := by decide +kernel
theorem d_T_bestToAsk_38 : decode Y_T_bestToAsk.2.1 38 = .ok (.iaload, 1) := by decide +kernel
theorem d_T_bestToAsk_39 : decode Y_T_bestToAsk.2.1 39 = .ok (.ifCond .le 30, 3) := by decide +kernel
theorem d_T_bestToAsk_42 : decode Y_T_bestToAsk.2.1 42 = .ok (.iload_n 1, 1) := by decide +kernel
theorem d_T_bestToAsk_43 : decode Y_T_bestToAsk.2.1 43 = .ok (.ifCond .lt 24, 3) := by decide +kernel
theorem d_T_bestToAsk_46 : decode Y_T_bestToAsk.2.1 46 = .ok (.aload_n 0, 1) := by decide +kernel
theorem d_T_bestToAsk_47 : decode Y_T_bestToAsk.2.1 47 = .ok (.getfield 71, 3) := by decide +kernel
theorem d_T_bestToAsk_50 : decode Y_T_bestToAsk.2.1 50 = .ok (.getfield 290, 3) := by decide +kernel
theorem d_T_bestToAsk_53 : decode Y_T_bestToAsk.2.1 53 = .ok (.iload_n 2, 1) := by decide +kernel
theorem d_T_bestToAsk_54 : decode Y_T_bestToAsk.2.1 54 = .ok (.iaload, 1) := by decide +kernel
theorem d_T_bestToAsk_55 : decode Y_T_bestToAsk.2.1 55 = .ok (.aload_n 0, 1) := by decide +kernel
theorem d_T_bestToAsk_56 : decode Y_T_bestToAsk.2.1 56 = .ok (.getfield 71, 3) := by decide +kernel
theorem d_T_bestToAsk_59 : decode Y_T_bestToAsk.2.1 59 = .ok (.getfield 290, 3) := by decide +kernel
theorem d_T_bestToAsk_62 : decode Y_T_bestToAsk.2.1 62 = .ok (.iload_n 1, 1) := by decide +kernel
theorem d_T_bestToAsk_63 : decode Y_T_bestToAsk.2.1 63 = .ok (.iaload, 1) := by decide +kernel
theorem d_T_bestToAsk_64 : decode Y_T_bestToAsk.2.1 64 = .ok (.if_icmp .ge 5, 3) := by decide +kernel
theorem d_T_bestToAsk_67 : decode Y_T_bestToAsk.2.1 67 = .ok (.iload_n 2, 1) := by decide +kernel
theorem d_T_bestToAsk_68 : decode Y_T_bestToAsk.2.1 68 = .ok (.istore_n 1, 1) := by decide +kernel
theorem d_T_bestToAsk_69 : decode Y_T_bestToAsk.2.1 69 = .ok (.iinc 2 1, 3) := by decide +kernel
theorem d_T_bestToAsk_72 : decode Y_T_bestToAsk.2.1 72 = .ok (.goto (-56), 3) := by decide +kernel
theorem d_T_bestToAsk_75 : decode Y_T_bestToAsk.2.1 75 = .ok (.iload_n 1, 1) := by decide +kernel
theorem d_T_bestToAsk_76 : decode Y_T_bestToAsk.2.1 76 = .ok (.ireturn, 1) := by decide +kernel
def f_T_bestToAsk (h : PH) (a0 : Option Nat) : Option (Int32 × PH) := (gR h 10 a0 10).bind fun v1 => (gR h 10 a0 2).bind fun v2 => (cl h 8 v1 (f_Rows_weighAll h v1 v2)).bind fun h3 => (pj_it (X := Int32) (fun s4 : Int32 × Int32 => (gR h3 10 a0 2).bind fun v6 => (gR h3 1 v6 11).bind fun v7 => (gI h3 7 v7 0).bind fun v8 => if v8 ≤ s4.2 then (some (.inr s4.1)) else ((gR h3 10 a0 10).bind fun v9 => (gR h3 8 v9 6).bind fun v10 => (aI h3 v10 s4.2).bind fun v11 => if v11 ≤ 0 then (some (.inl (s4.1, (s4.2 + (1 : Int32))))) else (if s4.1 < 0 then (some (.inl (s4.2, (s4.2 + (1 : Int32))))) else ((gR h3 10 a0 10).bind fun v12 => (gR h3 8 v12 6).bind fun v13 => (aI h3 v13 s4.2).bind fun v14 => (gR h3 10 a0 10).bind fun v15 => (gR h3 8 v15 6).bind fun v16 => (aI h3 v16 s4.1).bind fun v17 => if v17 ≤ v14 then (some (.inl (s4.1, (s4.2 + (1 : Int32))))) else (some (.inl (s4.2, (s4.2 + (1 : Int32))))))))) FU ((-2 : Int32), (0 : Int32))).bind fun x5 => some (x5, h3)
set_option maxRecDepth 20000 in
theorem PM_T_bestToAsk {l : Launch} {G : Cx} {h : PH} {a0 : Option Nat} {z : (Int32 × PH)} (hz : f_T_bestToAsk h a0 = some z) : PM l G 33 0 0 Y_T_bestToAsk [.inr (.inr a0)] h (some (.inl z.1), z.2) := by
  refine PM.of (Y := Y_T_bestToAsk) (cv := (fun z : (Int32 × PH) => (((some (.inl z.1), z.2) : Option PV × PH)))) (by decide) (L0 := [some (.inr (.inr a0)), none, none]) 2 rfl (Nat.le_of_ble_eq_true rfl) ?_ hz
  unfold f_T_bestToAsk
  refine PJ.aload_n (pc := 0) d_T_bestToAsk_0 rfl ?_
  refine PJ.getR (pc := 1) fs_T_71 d_T_bestToAsk_1 (fun v1 => ?_)
  refine PJ.aload_n (pc := 4) d_T_bestToAsk_4 rfl ?_
  refine PJ.getR (pc := 5) fs_T_20 d_T_bestToAsk_5 (fun v2 => ?_)
  refine PJ.cVV (pc := 8) cs_T_297 (fun z hz => PM_Rows_weighAll hz) (pj_fitb rfl) rfl rfl (Nat.le_of_ble_eq_true rfl) d_T_bestToAsk_8 (fun h3 => ?_)
  refine PJ.bipush (pc := 11) (v := -2) d_T_bestToAsk_11 (by decide) ?_
  refine PJ.istore_n (pc := 13) (L1 := [some (.inr (.inr a0)), some (.inl (-2 : Int32)), none]) d_T_bestToAsk_13 (Nat.le_of_ble_eq_true rfl) rfl rfl ?_
  refine PJ.iconst (pc := 14) (v := 0) d_T_bestToAsk_14 (by decide) ?_
  refine PJ.istore_n (pc := 15) (L1 := [some (.inr (.inr a0)), some (.inl (-2 : Int32)), some (.inl (0 : Int32))]) d_T_bestToAsk_15 (Nat.le_of_ble_eq_true rfl) rfl rfl ?_
  refine PJ.bind (fun x5 : Int32 => ((75 : Nat), ([none, some (.inl x5), none] : List (Option PV)), ([] : List PV), (h3 : PH), (0 : Nat), (0 : Nat))) (PJ.it (E := (fun s4 : Int32 × Int32 => ((16 : Nat), ([some (.inr (.inr a0)), some (.inl s4.1), some (.inl s4.2)] : List (Option PV)), ([] : List PV), (h3 : PH), (0 : Nat), (0 : Nat)))) (F := (fun x5 : Int32 => ((75 : Nat), ([none, some (.inl x5), none] : List (Option PV)), ([] : List PV), (h3 : PH), (0 : Nat), (0 : Nat)))) (fun s4 => ?_) FU ((-2 : Int32), (0 : Int32))) (fun x5 => ?_)
  · show PJ l G (pj_rm 33 0 0) Y_T_bestToAsk 16 [some (.inr (.inr a0)), some (.inl s4.1), some (.inl s4.2)] [] h3 0 0 _ _
    refine PJ.iload_n (pc := 16) d_T_bestToAsk_16 rfl ?_
    refine PJ.aload_n (pc := 17) d_T_bestToAsk_17 rfl ?_
    refine PJ.getR (pc := 18) fs_T_20 d_T_bestToAsk_18 (fun v6 => ?_)
    refine PJ.getR (pc := 21) fs_T_261 d_T_bestToAsk_21 (fun v7 => ?_)
    refine PJ.getI (pc := 24) fs_T_293 d_T_bestToAsk_24 (fun v8 => ?_)
    refine PJ.icmp_ge (pc := 27) (tgt := 75) d_T_bestToAsk_27 (by decide) (fun _ => ?_) (fun _ => ?_)
    · refine PJ.mk (L1 := [none, some (.inl s4.1), none]) [false, true, false] rfl ?_
      exact PJ.done rfl
    · refine PJ.aload_n (pc := 30) d_T_bestToAsk_30 rfl ?_
      refine PJ.getR (pc := 31) fs_T_71 d_T_bestToAsk_31 (fun v9 => ?_)
      refine PJ.getR (pc := 34) fs_T_290 d_T_bestToAsk_34 (fun v10 => ?_)
      refine PJ.iload_n (pc := 37) d_T_bestToAsk_37 rfl ?_
      refine PJ.iald (pc := 38) d_T_bestToAsk_38 (fun v11 => ?_)
      refine PJ.if_le (pc := 39) (tgt := 69) d_T_bestToAsk_39 (by decide) (fun _ => ?_) (fun _ => ?_)
      · refine PJ.iinc (pc := 69) (v := 1) (L1 := [some (.inr (.inr a0)), some (.inl s4.1), some (.inl (s4.2 + (1 : Int32)))]) d_T_bestToAsk_69 rfl (by decide) (Nat.le_of_ble_eq_true rfl) rfl rfl ?_
        refine PJ.goto (pc := 72) (tgt := 16) d_T_bestToAsk_72 (by decide) ?_
        exact PJ.done rfl
      · refine PJ.iload_n (pc := 42) d_T_bestToAsk_42 rfl ?_
        refine PJ.if_lt (pc := 43) (tgt := 67) d_T_bestToAsk_43 (by decide) (fun _ => ?_) (fun _ => ?_)
        · refine PJ.iload_n (pc := 67) d_T_bestToAsk_67 rfl ?_
          refine PJ.istore_n (pc := 68) (L1 := [some (.inr (.inr a0)), some (.inl s4.2), some (.inl s4.2)]) d_T_bestToAsk_68 (Nat.le_of_ble_eq_true rfl) rfl rfl ?_
          refine PJ.iinc (pc := 69) (v := 1) (L1 := [some (.inr (.inr a0)), some (.inl s4.2), some (.inl (s4.2 + (1 : Int32)))]) d_T_bestToAsk_69 rfl (by decide) (Nat.le_of_ble_eq_true rfl) rfl rfl ?_
          refine PJ.goto (pc := 72) (tgt := 16) d_T_bestToAsk_72 (by decide) ?_
          exact PJ.done rfl
        · refine PJ.aload_n (pc := 46) d_T_bestToAsk_46 rfl ?_
          refine PJ.getR (pc := 47) fs_T_71 d_T_bestToAsk_47 (fun v12 => ?_)
          refine PJ.getR (pc := 50) fs_T_290 d_T_bestToAsk_50 (fun v13 => ?_)
          refine PJ.iload_n (pc := 53) d_T_bestToAsk_53 rfl ?_
          refine PJ.iald (pc := 54) d_T_bestToAsk_54 (fun v14 => ?_)
          refine PJ.aload_n (pc := 55) d_T_bestToAsk_55 rfl ?_
          refine PJ.getR (pc := 56) fs_T_71 d_T_bestToAsk_56 (fun v15 => ?_)
          refine PJ.getR (pc := 59) fs_T_290 d_T_bestToAsk_59 (fun v16 => ?_)
          refine PJ.iload_n (pc := 62) d_T_bestToAsk_62 rfl ?_
          refine PJ.iald (pc := 63) d_T_bestToAsk_63 (fun v17 => ?_)
          refine PJ.icmp_ge (pc := 64) (tgt := 69) d_T_bestToAsk_64 (by decide) (fun _ => ?_) (fun _ => ?_)
          · refine PJ.iinc (pc := 69) (v := 1) (L1 := [some (.inr (.inr a0)), some (.inl s4.1), some (.inl (s4.2 + (1 : Int32)))]) d_T_bestToAsk_69 rfl (by decide) (Nat.le_of_ble_eq_true rfl) rfl rfl ?_
            refine PJ.goto (pc := 72) (tgt := 16) d_T_bestToAsk_72 (by decide) ?_
            exact PJ.done rfl
          · refine PJ.iload_n (pc := 67) d_T_bestToAsk_67 rfl ?_
            refine PJ.istore_n (pc := 68) (L1 := [some (.inr (.inr a0)), some (.inl s4.2), some (.inl s4.2)]) d_T_bestToAsk_68 (Nat.le_of_ble_eq_true rfl) rfl rfl ?_
            refine PJ.iinc (pc := 69) (v := 1) (L1 := [some (.inr (.inr a0)), some (.inl s4.2), some (.inl (s4.2 + (1 : Int32)))]) d_T_bestToAsk_69 rfl (by decide) (Nat.le_of_ble_eq_true rfl) rfl rfl ?_
            refine PJ.goto (pc := 72) (tgt := 16) d_T_bestToAsk_72 (by decide) ?_
            exact PJ.done rfl
  · show PJ l G (pj_rm 33 0 0) Y_T_bestToAsk 75 [none, some (.inl x5), none] [] h3 0 0 _ _
    refine PJ.iload_n (pc := 75) d_T_bestToAsk_75 rfl ?_
    exact PJ.iret (pc := 76) d_T_bestToAsk_76 rfl (Nat.le_of_ble_eq_true rfl) (Nat.le_of_ble_eq_true rfl)
theorem d_T_ask_0 : decode Y_T_ask.2.1 0 = .ok (.aload_n 0, 1) := by decide +kernel
theorem d_T_ask_1 : decode Y_T_ask.2.1 1 = .ok (.getfield 36, 3) := by decide +kernel
theorem d_T_ask_4 : decode Y_T_ask.2.1 4 = .ok (.ifCond .eq 14, 3) := by decide +kernel
theorem d_T_ask_7 : decode Y_T_ask.2.1 7 = .ok (.aload_n 0, 1) := by decide +kernel
theorem d_T_ask_8 : decode Y_T_ask.2.1 8 = .ok (.aload_n 0, 1) := by decide +kernel
theorem d_T_ask_9 : decode Y_T_ask.2.1 9 = .ok (.invokevirtual 287, 3) := by decide +kernel
theorem d_T_ask_12 : decode Y_T_ask.2.1 12 = .ok (.invokevirtual 114, 3) := by decide +kernel
theorem d_T_ask_15 : decode Y_T_ask.2.1 15 = .ok (.goto 8, 3) := by decide +kernel
theorem d_T_ask_18 : decode Y_T_ask.2.1 18 = .ok (.aload_n 0, 1) := by decide +kernel
theorem d_T_ask_19 : decode Y_T_ask.2.1 19 = .ok (.iconst 1, 1) := by decide +kernel
theorem d_T_ask_20 : decode Y_T_ask.2.1 20 = .ok (.invokevirtual 95, 3) := by decide +kernel
theorem d_T_ask_23 : decode Y_T_ask.2.1 23 = .ok (.ireturn, 1) := by decide +kernel
def f_T_ask (h : PH) (a0 : Option Nat) : Option (Int32 × PH) := (gI h 10 a0 5).bind fun v1 => if v1 = 0 then ((cl h 10 a0 (f_T_refuse h a0 (1 : Int32))).bind fun v2 => some (v2.1, v2.2)) else ((cl h 10 a0 (f_T_bestToAsk h a0)).bind fun v3 => (cl v3.2 10 a0 (f_T_fine v3.2 a0 v3.1)).bind fun v4 => some (v4.1, v4.2))
set_option maxRecDepth 20000 in
theorem PM_T_ask {l : Launch} {G : Cx} {h : PH} {a0 : Option Nat} {z : (Int32 × PH)} (hz : f_T_ask h a0 = some z) : PM l G 34 0 0 Y_T_ask [.inr (.inr a0)] h (some (.inl z.1), z.2) := by
  refine PM.of (Y := Y_T_ask) (cv := (fun z : (Int32 × PH) => (((some (.inl z.1), z.2) : Option PV × PH)))) (by decide) (L0 := [some (.inr (.inr a0))]) 0 rfl (Nat.le_of_ble_eq_true rfl) ?_ hz
  unfold f_T_ask
  refine PJ.aload_n (pc := 0) d_T_ask_0 rfl ?_
  refine PJ.getI (pc := 1) fs_T_36 d_T_ask_1 (fun v1 => ?_)
  refine PJ.if_eq (pc := 4) (tgt := 18) d_T_ask_4 (by decide) (fun _ => ?_) (fun _ => ?_)
  · refine PJ.aload_n (pc := 18) d_T_ask_18 rfl ?_
    refine PJ.iconst (pc := 19) (v := 1) d_T_ask_19 (by decide) ?_
    refine PJ.cVI (pc := 20) cs_T_95 (fun z hz => PM_T_refuse hz) (pj_fitb rfl) rfl rfl (Nat.le_of_ble_eq_true rfl) d_T_ask_20 (fun v2 => ?_)
    exact PJ.iret (pc := 23) d_T_ask_23 rfl (Nat.le_of_ble_eq_true rfl) (Nat.le_of_ble_eq_true rfl)
  · refine PJ.aload_n (pc := 7) d_T_ask_7 rfl ?_
    refine PJ.aload_n (pc := 8) d_T_ask_8 rfl ?_
    refine PJ.cVI (pc := 9) cs_T_287 (fun z hz => PM_T_bestToAsk hz) (pj_fitb rfl) rfl rfl (Nat.le_of_ble_eq_true rfl) d_T_ask_9 (fun v3 => ?_)
    refine PJ.cVI (pc := 12) cs_T_114 (fun z hz => PM_T_fine hz) (pj_fitb rfl) rfl rfl (Nat.le_of_ble_eq_true rfl) d_T_ask_12 (fun v4 => ?_)
    refine PJ.goto (pc := 15) (tgt := 23) d_T_ask_15 (by decide) ?_
    exact PJ.iret (pc := 23) d_T_ask_23 rfl (Nat.le_of_ble_eq_true rfl) (Nat.le_of_ble_eq_true rfl)
theorem d_T_askLeaves_0 : decode Y_T_askLeaves.2.1 0 = .ok (.aload_n 0, 1) := by decide +kernel
theorem d_T_askLeaves_1 : decode Y_T_askLeaves.2.1 1 = .ok (.getfield 36, 3) := by decide +kernel
theorem d_T_askLeaves_4 : decode Y_T_askLeaves.2.1 4 = .ok (.ifCond .ne 9, 3) := by decide +kernel
theorem d_T_askLeaves_7 : decode Y_T_askLeaves.2.1 7 = .ok (.aload_n 0, 1) := by decide +kernel
theorem d_T_askLeaves_8 : decode Y_T_askLeaves.2.1 8 = .ok (.iconst 1, 1) := by decide +kernel
theorem d_T_askLeaves_9 : decode Y_T_askLeaves.2.1 9 = .ok (.invokevirtual 95, 3) := by decide +kernel
theorem d_T_askLeaves_12 : decode Y_T_askLeaves.2.1 12 = .ok (.ireturn, 1) := by decide +kernel
theorem d_T_askLeaves_13 : decode Y_T_askLeaves.2.1 13 = .ok (.aload_n 0, 1) := by decide +kernel
theorem d_T_askLeaves_14 : decode Y_T_askLeaves.2.1 14 = .ok (.invokevirtual 287, 3) := by decide +kernel
theorem d_T_askLeaves_17 : decode Y_T_askLeaves.2.1 17 = .ok (.istore_n 1, 1) := by decide +kernel
theorem d_T_askLeaves_18 : decode Y_T_askLeaves.2.1 18 = .ok (.aload_n 0, 1) := by decide +kernel
theorem d_T_askLeaves_19 : decode Y_T_askLeaves.2.1 19 = .ok (.iload_n 1, 1) := by decide +kernel
theorem d_T_askLeaves_20 : decode Y_T_askLeaves.2.1 20 = .ok (.ifCond .ge 8, 3) := by decide +kernel
theorem d_T_askLeaves_23 : decode Y_T_askLeaves.2.1 23 = .ok (.bipush (-2), 2) := by decide +kernel
theorem d_T_askLeaves_25 : decode Y_T_askLeaves.2.1 25 = .ok (.goto 12, 3) := by decide +kernel
theorem d_T_askLeaves_28 : decode Y_T_askLeaves.2.1 28 = .ok (.aload_n 0, 1) := by decide +kernel
theorem d_T_askLeaves_29 : decode Y_T_askLeaves.2.1 29 = .ok (.getfield 71, 3) := by decide +kernel
theorem d_T_askLeaves_32 : decode Y_T_askLeaves.2.1 32 = .ok (.getfield 290, 3) := by decide +kernel
theorem d_T_askLeaves_35 : decode Y_T_askLeaves.2.1 35 = .ok (.iload_n 1, 1) := by decide +kernel
theorem d_T_askLeaves_36 : decode Y_T_askLeaves.2.1 36 = .ok (.iaload, 1) := by decide +kernel
theorem d_T_askLeaves_37 : decode Y_T_askLeaves.2.1 37 = .ok (.invokevirtual 114, 3) := by decide +kernel
theorem d_T_askLeaves_40 : decode Y_T_askLeaves.2.1 40 = .ok (.ireturn, 1) := by decide +kernel
def f_T_askLeaves (h : PH) (a0 : Option Nat) : Option (Int32 × PH) := (gI h 10 a0 5).bind fun v1 => if ¬ v1 = 0 then ((cl h 10 a0 (f_T_bestToAsk h a0)).bind fun v2 => (if 0 ≤ v2.1 then ((gR v2.2 10 a0 10).bind fun v4 => (gR v2.2 8 v4 6).bind fun v5 => (aI v2.2 v5 v2.1).bind fun v6 => some v6) else (some (-2 : Int32)) : Option (Int32)).bind fun j3 => (cl v2.2 10 a0 (f_T_fine v2.2 a0 j3)).bind fun v7 => some (v7.1, v7.2)) else ((cl h 10 a0 (f_T_refuse h a0 (1 : Int32))).bind fun v8 => some (v8.1, v8.2))
set_option maxRecDepth 20000 in
theorem PM_T_askLeaves {l : Launch} {G : Cx} {h : PH} {a0 : Option Nat} {z : (Int32 × PH)} (hz : f_T_askLeaves h a0 = some z) : PM l G 34 0 0 Y_T_askLeaves [.inr (.inr a0)] h (some (.inl z.1), z.2) := by
  refine PM.of (Y := Y_T_askLeaves) (cv := (fun z : (Int32 × PH) => (((some (.inl z.1), z.2) : Option PV × PH)))) (by decide) (L0 := [some (.inr (.inr a0)), none]) 1 rfl (Nat.le_of_ble_eq_true rfl) ?_ hz
  unfold f_T_askLeaves
  refine PJ.aload_n (pc := 0) d_T_askLeaves_0 rfl ?_
  refine PJ.getI (pc := 1) fs_T_36 d_T_askLeaves_1 (fun v1 => ?_)
  refine PJ.if_ne (pc := 4) (tgt := 13) d_T_askLeaves_4 (by decide) (fun _ => ?_) (fun _ => ?_)
  · refine PJ.aload_n (pc := 13) d_T_askLeaves_13 rfl ?_
    refine PJ.cVI (pc := 14) cs_T_287 (fun z hz => PM_T_bestToAsk hz) (pj_fitb rfl) rfl rfl (Nat.le_of_ble_eq_true rfl) d_T_askLeaves_14 (fun v2 => ?_)
    refine PJ.istore_n (pc := 17) (L1 := [some (.inr (.inr a0)), some (.inl v2.1)]) d_T_askLeaves_17 (Nat.le_of_ble_eq_true rfl) rfl rfl ?_
    refine PJ.aload_n (pc := 18) d_T_askLeaves_18 rfl ?_
    refine PJ.iload_n (pc := 19) d_T_askLeaves_19 rfl ?_
    refine PJ.bind (fun j3 : Int32 => ((37 : Nat), ([none, none] : List (Option PV)), ([.inl j3, .inr (.inr a0)] : List PV), (v2.2 : PH), (0 : Nat), (0 : Nat))) ?_ (fun j3 => ?_)
    · refine PJ.if_ge (pc := 20) (tgt := 28) d_T_askLeaves_20 (by decide) (fun _ => ?_) (fun _ => ?_)
      · refine PJ.aload_n (pc := 28) d_T_askLeaves_28 rfl ?_
        refine PJ.getR (pc := 29) fs_T_71 d_T_askLeaves_29 (fun v4 => ?_)
        refine PJ.getR (pc := 32) fs_T_290 d_T_askLeaves_32 (fun v5 => ?_)
        refine PJ.iload_n (pc := 35) d_T_askLeaves_35 rfl ?_
        refine PJ.iald (pc := 36) d_T_askLeaves_36 (fun v6 => ?_)
        refine PJ.mk (L1 := [none, none]) [false, false] rfl ?_
        exact PJ.done rfl
      · refine PJ.bipush (pc := 23) (v := -2) d_T_askLeaves_23 (by decide) ?_
        refine PJ.goto (pc := 25) (tgt := 37) d_T_askLeaves_25 (by decide) ?_
        refine PJ.mk (L1 := [none, none]) [false, false] rfl ?_
        exact PJ.done rfl
    · show PJ l G (pj_rm 34 0 0) Y_T_askLeaves 37 [none, none] [.inl j3, .inr (.inr a0)] v2.2 0 0 _ _
      refine PJ.cVI (pc := 37) cs_T_114 (fun z hz => PM_T_fine hz) (pj_fitb rfl) rfl rfl (Nat.le_of_ble_eq_true rfl) d_T_askLeaves_37 (fun v7 => ?_)
      exact PJ.iret (pc := 40) d_T_askLeaves_40 rfl (Nat.le_of_ble_eq_true rfl) (Nat.le_of_ble_eq_true rfl)
  · refine PJ.aload_n (pc := 7) d_T_askLeaves_7 rfl ?_
    refine PJ.iconst (pc := 8) (v := 1) d_T_askLeaves_8 (by decide) ?_
    refine PJ.cVI (pc := 9) cs_T_95 (fun z hz => PM_T_refuse hz) (pj_fitb rfl) rfl rfl (Nat.le_of_ble_eq_true rfl) d_T_askLeaves_9 (fun v8 => ?_)
    exact PJ.iret (pc := 12) d_T_askLeaves_12 rfl (Nat.le_of_ble_eq_true rfl) (Nat.le_of_ble_eq_true rfl)
theorem d_T_liar_0 : decode Y_T_liar.2.1 0 = .ok (.aload_n 0, 1) := by decide +kernel
theorem d_T_liar_1 : decode Y_T_liar.2.1 1 = .ok (.getfield 36, 3) := by decide +kernel
theorem d_T_liar_4 : decode Y_T_liar.2.1 4 = .ok (.ifCond .ne 9, 3) := by decide +kernel
theorem d_T_liar_7 : decode Y_T_liar.2.1 7 = .ok (.aload_n 0, 1) := by decide +kernel
theorem d_T_liar_8 : decode Y_T_liar.2.1 8 = .ok (.iconst 1, 1) := by decide +kernel
theorem d_T_liar_9 : decode Y_T_liar.2.1 9 = .ok (.invokevirtual 95, 3) := by decide +kernel
theorem d_T_liar_12 : decode Y_T_liar.2.1 12 = .ok (.ireturn, 1) := by decide +kernel
theorem d_T_liar_13 : decode Y_T_liar.2.1 13 = .ok (.iconst 0, 1) := by decide +kernel
theorem d_T_liar_14 : decode Y_T_liar.2.1 14 = .ok (.istore_n 1, 1) := by decide +kernel
theorem d_T_liar_15 : decode Y_T_liar.2.1 15 = .ok (.iload_n 1, 1) := by decide +kernel
theorem d_T_liar_16 : decode Y_T_liar.2.1 16 = .ok (.aload_n 0, 1) := by decide +kernel
theorem d_T_liar_17 : decode Y_T_liar.2.1 17 = .ok (.getfield 20, 3) := by decide +kernel
theorem d_T_liar_20 : decode Y_T_liar.2.1 20 = .ok (.getfield 111, 3) := by decide +kernel
theorem d_T_liar_23 : decode Y_T_liar.2.1 23 = .ok (.if_icmp .ge 51, 3) := by decide +kernel
theorem d_T_liar_26 : decode Y_T_liar.2.1 26 = .ok (.aload_n 0, 1) := by decide +kernel
theorem d_T_liar_27 : decode Y_T_liar.2.1 27 = .ok (.getfield 20, 3) := by decide +kernel
theorem d_T_liar_30 : decode Y_T_liar.2.1 30 = .ok (.getfield 261, 3) := by decide +kernel
theorem d_T_liar_33 : decode Y_T_liar.2.1 33 = .ok (.iload_n 1, 1) := by decide +kernel
theorem d_T_liar_34 : decode Y_T_liar.2.1 34 = .ok (.invokevirtual 265, 3) := by decide +kernel
theorem d_T_liar_37 : decode Y_T_liar.2.1 37 = .ok (.ifCond .eq 31, 3) := by decide +kernel
theorem d_T_liar_40 : decode Y_T_liar.2.1 40 = .ok (.aload_n 0, 1) := by decide +kernel
theorem d_T_liar_41 : decode Y_T_liar.2.1 41 = .ok (.getfield 71, 3) := by decide +kernel
theorem d_T_liar_44 : decode Y_T_liar.2.1 44 = .ok (.aload_n 0, 1) := by decide +kernel
theorem d_T_liar_45 : decode Y_T_liar.2.1 45 = .ok (.getfield 20, 3) := by decide +kernel
theorem d_T_liar_48 : decode Y_T_liar.2.1 48 = .ok (.iload_n 1, 1) := by decide +kernel
theorem d_T_liar_49 : decode Y_T_liar.2.1 49 = .ok (.invokevirtual 270, 3) := by decide +kernel
theorem d_T_liar_52 : decode Y_T_liar.2.1 52 = .ok (.aload_n 0, 1) := by decide +kernel
theorem d_T_liar_53 : decode Y_T_liar.2.1 53 = .ok (.getfield 71, 3) := by decide +kernel
theorem d_T_liar_56 : decode Y_T_liar.2.1 56 = .ok (.getfield 274, 3) := by decide +kernel
theorem d_T_liar_59 : decode Y_T_liar.2.1 59 = .ok (.ifCond .ne 9, 3) := by decide +kernel
theorem d_T_liar_62 : decode Y_T_liar.2.1 62 = .ok (.aload_n 0, 1) := by decide +kernel
theorem d_T_liar_63 : decode Y_T_liar.2.1 63 = .ok (.iload_n 1, 1) := by decide +kernel
theorem d_T_liar_64 : decode Y_T_liar.2.1 64 = .ok (.invokevirtual 114, 3) := by decide +kernel
theorem d_T_liar_67 : decode Y_T_liar.2.1 67 = .ok (.ireturn, 1) := by decide +kernel
theorem d_T_liar_68 : decode Y_T_liar.2.1 68 = .ok (.iinc 1 1, 3) := by decide +kernel
theorem d_T_liar_71 : decode Y_T_liar.2.1 71 = .ok (.goto (-56), 3) := by decide +kernel
theorem d_T_liar_74 : decode Y_T_liar.2.1 74 = .ok (.aload_n 0, 1) := by decide +kernel
theorem d_T_liar_75 : decode Y_T_liar.2.1 75 = .ok (.bipush (-2), 2) := by decide +kernel
theorem d_T_liar_77 : decode Y_T_liar.2.1 77 = .ok (.invokevirtual 114, 3) := by decide +kernel
theorem d_T_liar_80 : decode Y_T_liar.2.1 80 = .ok (.ireturn, 1) := by decide +kernel
def f_T_liar (h : PH) (a0 : Option Nat) : Option (Int32 × PH) := (gI h 10 a0 5).bind fun v1 => if ¬ v1 = 0 then ((pj_it (X := (PH) ⊕ (Int32 × PH)) (fun s2 : Int32 × PH => (gR s2.2 10 a0 2).bind fun v4 => (gI s2.2 1 v4 3).bind fun v5 => if v5 ≤ s2.1 then (some (.inr (.inl s2.2))) else ((gR s2.2 10 a0 2).bind fun v6 => (gR s2.2 1 v6 11).bind fun v7 => (cl s2.2 7 v7 (f_Receipts_has s2.2 v7 s2.1)).bind fun v8 => if v8 = 0 then (some (.inl ((s2.1 + (1 : Int32)), s2.2))) else ((gR s2.2 10 a0 10).bind fun v9 => (gR s2.2 10 a0 2).bind fun v10 => (cl s2.2 8 v9 (f_Rows_gather s2.2 v9 v10 s2.1)).bind fun h11 => (gR h11 10 a0 10).bind fun v12 => (gI h11 8 v12 4).bind fun v13 => if ¬ v13 = 0 then (some (.inl ((s2.1 + (1 : Int32)), h11))) else (some (.inr (.inr (s2.1, h11))))))) FU ((0 : Int32), h)).bind fun x3 => match x3 with | (.inl yx3_0) => (cl yx3_0 10 a0 (f_T_fine yx3_0 a0 (-2 : Int32))).bind fun v14 => some (v14.1, v14.2) | (.inr yx3_1) => (cl yx3_1.2 10 a0 (f_T_fine yx3_1.2 a0 yx3_1.1)).bind fun v15 => some (v15.1, v15.2)) else ((cl h 10 a0 (f_T_refuse h a0 (1 : Int32))).bind fun v16 => some (v16.1, v16.2))
set_option maxRecDepth 20000 in
theorem PM_T_liar {l : Launch} {G : Cx} {h : PH} {a0 : Option Nat} {z : (Int32 × PH)} (hz : f_T_liar h a0 = some z) : PM l G 32 0 0 Y_T_liar [.inr (.inr a0)] h (some (.inl z.1), z.2) := by
  refine PM.of (Y := Y_T_liar) (cv := (fun z : (Int32 × PH) => (((some (.inl z.1), z.2) : Option PV × PH)))) (by decide) (L0 := [some (.inr (.inr a0)), none]) 1 rfl (Nat.le_of_ble_eq_true rfl) ?_ hz
  unfold f_T_liar
  refine PJ.aload_n (pc := 0) d_T_liar_0 rfl ?_
  refine PJ.getI (pc := 1) fs_T_36 d_T_liar_1 (fun v1 => ?_)
  refine PJ.if_ne (pc := 4) (tgt := 13) d_T_liar_4 (by decide) (fun _ => ?_) (fun _ => ?_)
  · refine PJ.iconst (pc := 13) (v := 0) d_T_liar_13 (by decide) ?_
    refine PJ.istore_n (pc := 14) (L1 := [some (.inr (.inr a0)), some (.inl (0 : Int32))]) d_T_liar_14 (Nat.le_of_ble_eq_true rfl) rfl rfl ?_
    refine PJ.bind (fun x3 : (PH) ⊕ (Int32 × PH) => match x3 with | (.inl y0) => ((74 : Nat), ([some (.inr (.inr a0)), none] : List (Option PV)), ([] : List PV), (y0 : PH), (0 : Nat), (0 : Nat)) | (.inr y1) => ((62 : Nat), ([some (.inr (.inr a0)), some (.inl y1.1)] : List (Option PV)), ([] : List PV), (y1.2 : PH), (0 : Nat), (0 : Nat))) (PJ.it (E := (fun s2 : Int32 × PH => ((15 : Nat), ([some (.inr (.inr a0)), some (.inl s2.1)] : List (Option PV)), ([] : List PV), (s2.2 : PH), (0 : Nat), (0 : Nat)))) (F := (fun x3 : (PH) ⊕ (Int32 × PH) => match x3 with | (.inl y0) => ((74 : Nat), ([some (.inr (.inr a0)), none] : List (Option PV)), ([] : List PV), (y0 : PH), (0 : Nat), (0 : Nat)) | (.inr y1) => ((62 : Nat), ([some (.inr (.inr a0)), some (.inl y1.1)] : List (Option PV)), ([] : List PV), (y1.2 : PH), (0 : Nat), (0 : Nat)))) (fun s2 => ?_) FU ((0 : Int32), h)) (fun x3 => ?_)
    · show PJ l G (pj_rm 32 0 0) Y_T_liar 15 [some (.inr (.inr a0)), some (.inl s2.1)] [] s2.2 0 0 _ _
      refine PJ.iload_n (pc := 15) d_T_liar_15 rfl ?_
      refine PJ.aload_n (pc := 16) d_T_liar_16 rfl ?_
      refine PJ.getR (pc := 17) fs_T_20 d_T_liar_17 (fun v4 => ?_)
      refine PJ.getI (pc := 20) fs_T_111 d_T_liar_20 (fun v5 => ?_)
      refine PJ.icmp_ge (pc := 23) (tgt := 74) d_T_liar_23 (by decide) (fun _ => ?_) (fun _ => ?_)
      · refine PJ.mk (L1 := [some (.inr (.inr a0)), none]) [true, false] rfl ?_
        exact PJ.done rfl
      · refine PJ.aload_n (pc := 26) d_T_liar_26 rfl ?_
        refine PJ.getR (pc := 27) fs_T_20 d_T_liar_27 (fun v6 => ?_)
        refine PJ.getR (pc := 30) fs_T_261 d_T_liar_30 (fun v7 => ?_)
        refine PJ.iload_n (pc := 33) d_T_liar_33 rfl ?_
        refine PJ.cVpI (pc := 34) cs_T_265 (fun z hz => PM_Receipts_has hz) (pj_fitb rfl) rfl rfl (Nat.le_of_ble_eq_true rfl) d_T_liar_34 (fun v8 => ?_)
        refine PJ.if_eq (pc := 37) (tgt := 68) d_T_liar_37 (by decide) (fun _ => ?_) (fun _ => ?_)
        · refine PJ.iinc (pc := 68) (v := 1) (L1 := [some (.inr (.inr a0)), some (.inl (s2.1 + (1 : Int32)))]) d_T_liar_68 rfl (by decide) (Nat.le_of_ble_eq_true rfl) rfl rfl ?_
          refine PJ.goto (pc := 71) (tgt := 15) d_T_liar_71 (by decide) ?_
          exact PJ.done rfl
        · refine PJ.aload_n (pc := 40) d_T_liar_40 rfl ?_
          refine PJ.getR (pc := 41) fs_T_71 d_T_liar_41 (fun v9 => ?_)
          refine PJ.aload_n (pc := 44) d_T_liar_44 rfl ?_
          refine PJ.getR (pc := 45) fs_T_20 d_T_liar_45 (fun v10 => ?_)
          refine PJ.iload_n (pc := 48) d_T_liar_48 rfl ?_
          refine PJ.cVV (pc := 49) cs_T_270 (fun z hz => PM_Rows_gather hz) (pj_fitb rfl) rfl rfl (Nat.le_of_ble_eq_true rfl) d_T_liar_49 (fun h11 => ?_)
          refine PJ.aload_n (pc := 52) d_T_liar_52 rfl ?_
          refine PJ.getR (pc := 53) fs_T_71 d_T_liar_53 (fun v12 => ?_)
          refine PJ.getI (pc := 56) fs_T_274 d_T_liar_56 (fun v13 => ?_)
          refine PJ.if_ne (pc := 59) (tgt := 68) d_T_liar_59 (by decide) (fun _ => ?_) (fun _ => ?_)
          · refine PJ.iinc (pc := 68) (v := 1) (L1 := [some (.inr (.inr a0)), some (.inl (s2.1 + (1 : Int32)))]) d_T_liar_68 rfl (by decide) (Nat.le_of_ble_eq_true rfl) rfl rfl ?_
            refine PJ.goto (pc := 71) (tgt := 15) d_T_liar_71 (by decide) ?_
            exact PJ.done rfl
          · exact PJ.done rfl
    · rcases x3 with yx3_0 | yx3_1
      · show PJ l G (pj_rm 32 0 0) Y_T_liar 74 [some (.inr (.inr a0)), none] [] yx3_0 0 0 _ _
        refine PJ.aload_n (pc := 74) d_T_liar_74 rfl ?_
        refine PJ.bipush (pc := 75) (v := -2) d_T_liar_75 (by decide) ?_
        refine PJ.cVI (pc := 77) cs_T_114 (fun z hz => PM_T_fine hz) (pj_fitb rfl) rfl rfl (Nat.le_of_ble_eq_true rfl) d_T_liar_77 (fun v14 => ?_)
        exact PJ.iret (pc := 80) d_T_liar_80 rfl (Nat.le_of_ble_eq_true rfl) (Nat.le_of_ble_eq_true rfl)
      · show PJ l G (pj_rm 32 0 0) Y_T_liar 62 [some (.inr (.inr a0)), some (.inl yx3_1.1)] [] yx3_1.2 0 0 _ _
        refine PJ.aload_n (pc := 62) d_T_liar_62 rfl ?_
        refine PJ.iload_n (pc := 63) d_T_liar_63 rfl ?_
        refine PJ.cVI (pc := 64) cs_T_114 (fun z hz => PM_T_fine hz) (pj_fitb rfl) rfl rfl (Nat.le_of_ble_eq_true rfl) d_T_liar_64 (fun v15 => ?_)
        exact PJ.iret (pc := 67) d_T_liar_67 rfl (Nat.le_of_ble_eq_true rfl) (Nat.le_of_ble_eq_true rfl)
  · refine PJ.aload_n (pc := 7) d_T_liar_7 rfl ?_
    refine PJ.iconst (pc := 8) (v := 1) d_T_liar_8 (by decide) ?_
    refine PJ.cVI (pc := 9) cs_T_95 (fun z hz => PM_T_refuse hz) (pj_fitb rfl) rfl rfl (Nat.le_of_ble_eq_true rfl) d_T_liar_9 (fun v16 => ?_)
    exact PJ.iret (pc := 12) d_T_liar_12 rfl (Nat.le_of_ble_eq_true rfl) (Nat.le_of_ble_eq_true rfl)
