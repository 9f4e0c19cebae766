-- sites and methods: meth
abbrev Y_Planner_staying : MI := (⟨"WaverTax$Planner", "staying", "(I)J"⟩, prog_6_method_8_code, 8, (some .long))
abbrev Y_T_stays : MI := (⟨"WaverTax", "stays", "(IIZ)J"⟩, prog_1_method_21_code, 5, (some .long))
abbrev Y_Desk_raisedOfAll : MI := (⟨"WaverTax$Desk", "raisedOfAll", "()I"⟩, prog_2_method_8_code, 3, (some .int))
abbrev Y_T_raised : MI := (⟨"WaverTax", "raised", "()I"⟩, prog_1_method_26_code, 1, (some .int))
abbrev Y_Desk_greatestWorth : MI := (⟨"WaverTax$Desk", "greatestWorth", "(I)I"⟩, prog_2_method_10_code, 4, (some .int))
abbrev Y_Desk_harmOfAll : MI := (⟨"WaverTax$Desk", "harmOfAll", "()I"⟩, prog_2_method_9_code, 3, (some .int))
abbrev Y_T_harm : MI := (⟨"WaverTax", "harm", "()I"⟩, prog_1_method_27_code, 1, (some .int))
abbrev Y_T_boundsTrouble : MI := (⟨"WaverTax", "boundsTrouble", "(III)I"⟩, prog_1_method_70_code, 4, (some .int))
abbrev Y_T_byTable : MI := (⟨"WaverTax", "byTable", "(I)LWaverTax$Desk;"⟩, prog_1_method_34_code, 2, (some (.object "WaverTax$Desk")))
abbrev Y_T_raisedBy : MI := (⟨"WaverTax", "raisedBy", "(I)I"⟩, prog_1_method_28_code, 3, (some .int))
abbrev Y_T_harmBy : MI := (⟨"WaverTax", "harmBy", "(I)I"⟩, prog_1_method_29_code, 3, (some .int))
abbrev Y_T_bestTable : MI := (⟨"WaverTax", "bestTable", "()I"⟩, prog_1_method_30_code, 7, (some .int))
abbrev Y_T_byThird : MI := (⟨"WaverTax", "byThird", "(I)LWaverTax$Desk;"⟩, prog_1_method_35_code, 2, (some (.object "WaverTax$Desk")))
abbrev Y_T_raisedThird : MI := (⟨"WaverTax", "raisedThird", "(I)I"⟩, prog_1_method_31_code, 3, (some .int))
abbrev Y_T_harmThird : MI := (⟨"WaverTax", "harmThird", "(I)I"⟩, prog_1_method_32_code, 3, (some .int))
abbrev Y_T_stillTable : MI := (⟨"WaverTax", "stillTable", "()I"⟩, prog_1_method_33_code, 2, (some .int))
abbrev Y_Receipts_nextOf : MI := (⟨"WaverTax$Receipts", "nextOf", "(II)I"⟩, prog_9_method_3_code, 4, (some .int))
abbrev Y_Receipts_has : MI := (⟨"WaverTax$Receipts", "has", "(I)Z"⟩, prog_9_method_2_code, 2, (some .boolean))
abbrev Y_Rows_countRow : MI := (⟨"WaverTax$Rows", "countRow", "()V"⟩, prog_10_method_4_code, 2, (none : Option FieldType))
theorem cm_Desk_greatestWorth : (Cond.code Y_Desk_greatestWorth.1 Y_Desk_greatestWorth.2.1 Y_Desk_greatestWorth.2.2.1 Y_Desk_greatestWorth.2.2.2 ∈ pj_ws) ∧ (Cond.initialized Y_Desk_greatestWorth.1.cls ∈ pj_ws) ∧ (Y_Desk_greatestWorth.1.cls ≠ "java/lang/invoke/MethodHandle" ∧ Y_Desk_greatestWorth.1.cls ≠ "java/lang/invoke/VarHandle" ∧ (parseMethodDescriptor Y_Desk_greatestWorth.1.desc).map (fun d => d.parameters.length) = some 1) ∧ (Cond.instanceMethod Y_Desk_greatestWorth.1 ∈ pj_ws) ∧ (Cond.selects Y_Desk_greatestWorth.1.cls Y_Desk_greatestWorth.1 Y_Desk_greatestWorth.1 ∈ pj_ws) := ⟨pj_mem 1047 (by decide +kernel) rfl, pj_mem 137 (by decide +kernel) rfl, ⟨by decide +kernel, by decide +kernel, by decide +kernel⟩, pj_mem 1046 (by decide +kernel) rfl, pj_mem 37 (by decide +kernel) rfl⟩
theorem cm_Receipts_nextOf : (Cond.code Y_Receipts_nextOf.1 Y_Receipts_nextOf.2.1 Y_Receipts_nextOf.2.2.1 Y_Receipts_nextOf.2.2.2 ∈ pj_ws) ∧ (Cond.initialized Y_Receipts_nextOf.1.cls ∈ pj_ws) ∧ (Y_Receipts_nextOf.1.cls ≠ "java/lang/invoke/MethodHandle" ∧ Y_Receipts_nextOf.1.cls ≠ "java/lang/invoke/VarHandle" ∧ (parseMethodDescriptor Y_Receipts_nextOf.1.desc).map (fun d => d.parameters.length) = some 2) ∧ (Cond.instanceMethod Y_Receipts_nextOf.1 ∈ pj_ws) ∧ (Cond.selects Y_Receipts_nextOf.1.cls Y_Receipts_nextOf.1 Y_Receipts_nextOf.1 ∈ pj_ws) := ⟨pj_mem 1098 (by decide +kernel) rfl, pj_mem 133 (by decide +kernel) rfl, ⟨by decide +kernel, by decide +kernel, by decide +kernel⟩, pj_mem 1096 (by decide +kernel) rfl, pj_mem 1097 (by decide +kernel) rfl⟩
theorem cm_T_planTrouble : (Cond.code Y_T_planTrouble.1 Y_T_planTrouble.2.1 Y_T_planTrouble.2.2.1 Y_T_planTrouble.2.2.2 ∈ pj_ws) ∧ (Cond.initialized Y_T_planTrouble.1.cls ∈ pj_ws) ∧ (Y_T_planTrouble.1.cls ≠ "java/lang/invoke/MethodHandle" ∧ Y_T_planTrouble.1.cls ≠ "java/lang/invoke/VarHandle" ∧ (parseMethodDescriptor Y_T_planTrouble.1.desc).map (fun d => d.parameters.length) = some 2) ∧ (Cond.instanceMethod Y_T_planTrouble.1 ∈ pj_ws) ∧ (Cond.selects Y_T_planTrouble.1.cls Y_T_planTrouble.1 Y_T_planTrouble.1 ∈ pj_ws) := ⟨pj_mem 945 (by decide +kernel) rfl, pj_mem 130 (by decide +kernel) rfl, ⟨by decide +kernel, by decide +kernel, by decide +kernel⟩, pj_mem 944 (by decide +kernel) rfl, pj_mem 31 (by decide +kernel) rfl⟩
theorem cm_T_refuseLong : (Cond.code Y_T_refuseLong.1 Y_T_refuseLong.2.1 Y_T_refuseLong.2.2.1 Y_T_refuseLong.2.2.2 ∈ pj_ws) ∧ (Cond.initialized Y_T_refuseLong.1.cls ∈ pj_ws) ∧ (Y_T_refuseLong.1.cls ≠ "java/lang/invoke/MethodHandle" ∧ Y_T_refuseLong.1.cls ≠ "java/lang/invoke/VarHandle" ∧ (parseMethodDescriptor Y_T_refuseLong.1.desc).map (fun d => d.parameters.length) = some 1) ∧ (Cond.instanceMethod Y_T_refuseLong.1 ∈ pj_ws) ∧ (Cond.selects Y_T_refuseLong.1.cls Y_T_refuseLong.1 Y_T_refuseLong.1 ∈ pj_ws) := ⟨pj_mem 949 (by decide +kernel) rfl, pj_mem 130 (by decide +kernel) rfl, ⟨by decide +kernel, by decide +kernel, by decide +kernel⟩, pj_mem 948 (by decide +kernel) rfl, pj_mem 32 (by decide +kernel) rfl⟩
theorem cm_Planner_begin : (Cond.code Y_Planner_begin.1 Y_Planner_begin.2.1 Y_Planner_begin.2.2.1 Y_Planner_begin.2.2.2 ∈ pj_ws) ∧ (Cond.initialized Y_Planner_begin.1.cls ∈ pj_ws) ∧ (Y_Planner_begin.1.cls ≠ "java/lang/invoke/MethodHandle" ∧ Y_Planner_begin.1.cls ≠ "java/lang/invoke/VarHandle" ∧ (parseMethodDescriptor Y_Planner_begin.1.desc).map (fun d => d.parameters.length) = some 3) ∧ (Cond.instanceMethod Y_Planner_begin.1 ∈ pj_ws) ∧ (Cond.selects Y_Planner_begin.1.cls Y_Planner_begin.1 Y_Planner_begin.1 ∈ pj_ws) := ⟨pj_mem 954 (by decide +kernel) rfl, pj_mem 138 (by decide +kernel) rfl, ⟨by decide +kernel, by decide +kernel, by decide +kernel⟩, pj_mem 952 (by decide +kernel) rfl, pj_mem 953 (by decide +kernel) rfl⟩
theorem cm_T_fineMean : (Cond.code Y_T_fineMean.1 Y_T_fineMean.2.1 Y_T_fineMean.2.2.1 Y_T_fineMean.2.2.2 ∈ pj_ws) ∧ (Cond.initialized Y_T_fineMean.1.cls ∈ pj_ws) ∧ (Y_T_fineMean.1.cls ≠ "java/lang/invoke/MethodHandle" ∧ Y_T_fineMean.1.cls ≠ "java/lang/invoke/VarHandle" ∧ (parseMethodDescriptor Y_T_fineMean.1.desc).map (fun d => d.parameters.length) = some 3) ∧ (Cond.instanceMethod Y_T_fineMean.1 ∈ pj_ws) ∧ (Cond.selects Y_T_fineMean.1.cls Y_T_fineMean.1 Y_T_fineMean.1 ∈ pj_ws) := ⟨pj_mem 998 (by decide +kernel) rfl, pj_mem 130 (by decide +kernel) rfl, ⟨by decide +kernel, by decide +kernel, by decide +kernel⟩, pj_mem 997 (by decide +kernel) rfl, pj_mem 36 (by decide +kernel) rfl⟩
theorem cm_Planner_staying : (Cond.code Y_Planner_staying.1 Y_Planner_staying.2.1 Y_Planner_staying.2.2.1 Y_Planner_staying.2.2.2 ∈ pj_ws) ∧ (Cond.initialized Y_Planner_staying.1.cls ∈ pj_ws) ∧ (Y_Planner_staying.1.cls ≠ "java/lang/invoke/MethodHandle" ∧ Y_Planner_staying.1.cls ≠ "java/lang/invoke/VarHandle" ∧ (parseMethodDescriptor Y_Planner_staying.1.desc).map (fun d => d.parameters.length) = some 1) ∧ (Cond.instanceMethod Y_Planner_staying.1 ∈ pj_ws) ∧ (Cond.selects Y_Planner_staying.1.cls Y_Planner_staying.1 Y_Planner_staying.1 ∈ pj_ws) := ⟨pj_mem 1020 (by decide +kernel) rfl, pj_mem 138 (by decide +kernel) rfl, ⟨by decide +kernel, by decide +kernel, by decide +kernel⟩, pj_mem 1018 (by decide +kernel) rfl, pj_mem 1019 (by decide +kernel) rfl⟩
theorem cm_Desk_raisedOfAll : (Cond.code Y_Desk_raisedOfAll.1 Y_Desk_raisedOfAll.2.1 Y_Desk_raisedOfAll.2.2.1 Y_Desk_raisedOfAll.2.2.2 ∈ pj_ws) ∧ (Cond.initialized Y_Desk_raisedOfAll.1.cls ∈ pj_ws) ∧ (Y_Desk_raisedOfAll.1.cls ≠ "java/lang/invoke/MethodHandle" ∧ Y_Desk_raisedOfAll.1.cls ≠ "java/lang/invoke/VarHandle" ∧ (parseMethodDescriptor Y_Desk_raisedOfAll.1.desc).map (fun d => d.parameters.length) = some 0) ∧ (Cond.instanceMethod Y_Desk_raisedOfAll.1 ∈ pj_ws) ∧ (Cond.selects Y_Desk_raisedOfAll.1.cls Y_Desk_raisedOfAll.1 Y_Desk_raisedOfAll.1 ∈ pj_ws) := ⟨pj_mem 1035 (by decide +kernel) rfl, pj_mem 137 (by decide +kernel) rfl, ⟨by decide +kernel, by decide +kernel, by decide +kernel⟩, pj_mem 1033 (by decide +kernel) rfl, pj_mem 1034 (by decide +kernel) rfl⟩
theorem cm_Desk_harmOfAll : (Cond.code Y_Desk_harmOfAll.1 Y_Desk_harmOfAll.2.1 Y_Desk_harmOfAll.2.2.1 Y_Desk_harmOfAll.2.2.2 ∈ pj_ws) ∧ (Cond.initialized Y_Desk_harmOfAll.1.cls ∈ pj_ws) ∧ (Y_Desk_harmOfAll.1.cls ≠ "java/lang/invoke/MethodHandle" ∧ Y_Desk_harmOfAll.1.cls ≠ "java/lang/invoke/VarHandle" ∧ (parseMethodDescriptor Y_Desk_harmOfAll.1.desc).map (fun d => d.parameters.length) = some 0) ∧ (Cond.instanceMethod Y_Desk_harmOfAll.1 ∈ pj_ws) ∧ (Cond.selects Y_Desk_harmOfAll.1.cls Y_Desk_harmOfAll.1 Y_Desk_harmOfAll.1 ∈ pj_ws) := ⟨pj_mem 1043 (by decide +kernel) rfl, pj_mem 137 (by decide +kernel) rfl, ⟨by decide +kernel, by decide +kernel, by decide +kernel⟩, pj_mem 1041 (by decide +kernel) rfl, pj_mem 1042 (by decide +kernel) rfl⟩
theorem cm_T_boundsTrouble : (Cond.code Y_T_boundsTrouble.1 Y_T_boundsTrouble.2.1 Y_T_boundsTrouble.2.2.1 Y_T_boundsTrouble.2.2.2 ∈ pj_ws) ∧ (Cond.initialized Y_T_boundsTrouble.1.cls ∈ pj_ws) ∧ (Y_T_boundsTrouble.1.cls ≠ "java/lang/invoke/MethodHandle" ∧ Y_T_boundsTrouble.1.cls ≠ "java/lang/invoke/VarHandle" ∧ (parseMethodDescriptor Y_T_boundsTrouble.1.desc).map (fun d => d.parameters.length) = some 3) ∧ (Cond.instanceMethod Y_T_boundsTrouble.1 ∈ pj_ws) ∧ (Cond.selects Y_T_boundsTrouble.1.cls Y_T_boundsTrouble.1 Y_T_boundsTrouble.1 ∈ pj_ws) := ⟨pj_mem 1058 (by decide +kernel) rfl, pj_mem 130 (by decide +kernel) rfl, ⟨by decide +kernel, by decide +kernel, by decide +kernel⟩, pj_mem 1057 (by decide +kernel) rfl, pj_mem 38 (by decide +kernel) rfl⟩
theorem cm_T_byTable : (Cond.code Y_T_byTable.1 Y_T_byTable.2.1 Y_T_byTable.2.2.1 Y_T_byTable.2.2.2 ∈ pj_ws) ∧ (Cond.initialized Y_T_byTable.1.cls ∈ pj_ws) ∧ (Y_T_byTable.1.cls ≠ "java/lang/invoke/MethodHandle" ∧ Y_T_byTable.1.cls ≠ "java/lang/invoke/VarHandle" ∧ (parseMethodDescriptor Y_T_byTable.1.desc).map (fun d => d.parameters.length) = some 1) ∧ (Cond.instanceMethod Y_T_byTable.1 ∈ pj_ws) ∧ (Cond.selects Y_T_byTable.1.cls Y_T_byTable.1 Y_T_byTable.1 ∈ pj_ws) := ⟨pj_mem 1062 (by decide +kernel) rfl, pj_mem 130 (by decide +kernel) rfl, ⟨by decide +kernel, by decide +kernel, by decide +kernel⟩, pj_mem 1061 (by decide +kernel) rfl, pj_mem 39 (by decide +kernel) rfl⟩
theorem cm_T_byThird : (Cond.code Y_T_byThird.1 Y_T_byThird.2.1 Y_T_byThird.2.2.1 Y_T_byThird.2.2.2 ∈ pj_ws) ∧ (Cond.initialized Y_T_byThird.1.cls ∈ pj_ws) ∧ (Y_T_byThird.1.cls ≠ "java/lang/invoke/MethodHandle" ∧ Y_T_byThird.1.cls ≠ "java/lang/invoke/VarHandle" ∧ (parseMethodDescriptor Y_T_byThird.1.desc).map (fun d => d.parameters.length) = some 1) ∧ (Cond.instanceMethod Y_T_byThird.1 ∈ pj_ws) ∧ (Cond.selects Y_T_byThird.1.cls Y_T_byThird.1 Y_T_byThird.1 ∈ pj_ws) := ⟨pj_mem 1078 (by decide +kernel) rfl, pj_mem 130 (by decide +kernel) rfl, ⟨by decide +kernel, by decide +kernel, by decide +kernel⟩, pj_mem 1077 (by decide +kernel) rfl, pj_mem 40 (by decide +kernel) rfl⟩
theorem cs_Desk_102 : pj_cV "WaverTax$Desk" 102 Y_Desk_greatestWorth 1 0 := ⟨⟨cm_Desk_greatestWorth.1, cm_Desk_greatestWorth.2.1, cm_Desk_greatestWorth.2.2.1, Or.inl (pj_mem 1044 (by decide +kernel) rfl)⟩, by decide, cm_Desk_greatestWorth.2.2.2.1, cm_Desk_greatestWorth.2.2.2.2, ⟨_, rfl, rfl⟩⟩
theorem cs_Planner_107 : pj_cV "WaverTax$Planner" 107 Y_Desk_worthOf 2 0 := ⟨⟨cm_Desk_worthOf.1, cm_Desk_worthOf.2.1, cm_Desk_worthOf.2.2.1, Or.inl (pj_mem 1021 (by decide +kernel) rfl)⟩, by decide, cm_Desk_worthOf.2.2.2.1, cm_Desk_worthOf.2.2.2.2, ⟨_, rfl, rfl⟩⟩
theorem cs_Receipts_25 : pj_cV "WaverTax$Receipts" 25 Y_Receipts_nextOf 2 7 := ⟨⟨cm_Receipts_nextOf.1, cm_Receipts_nextOf.2.1, cm_Receipts_nextOf.2.2.1, Or.inl (pj_mem 1095 (by decide +kernel) rfl)⟩, by decide, cm_Receipts_nextOf.2.2.2.1, cm_Receipts_nextOf.2.2.2.2, ⟨_, rfl, rfl⟩⟩
theorem cs_T_193 : pj_cV "WaverTax" 193 Y_T_planTrouble 2 10 := ⟨⟨cm_T_planTrouble.1, cm_T_planTrouble.2.1, cm_T_planTrouble.2.2.1, Or.inl (pj_mem 942 (by decide +kernel) rfl)⟩, by decide, cm_T_planTrouble.2.2.2.1, cm_T_planTrouble.2.2.2.2, ⟨_, rfl, rfl⟩⟩
theorem cs_T_196 : pj_cV "WaverTax" 196 Y_T_refuseLong 1 10 := ⟨⟨cm_T_refuseLong.1, cm_T_refuseLong.2.1, cm_T_refuseLong.2.2.1, Or.inl (pj_mem 946 (by decide +kernel) rfl)⟩, by decide, cm_T_refuseLong.2.2.2.1, cm_T_refuseLong.2.2.2.2, ⟨_, rfl, rfl⟩⟩
theorem cs_T_200 : pj_cV "WaverTax" 200 Y_Planner_begin 3 4 := ⟨⟨cm_Planner_begin.1, cm_Planner_begin.2.1, cm_Planner_begin.2.2.1, Or.inl (pj_mem 951 (by decide +kernel) rfl)⟩, by decide, cm_Planner_begin.2.2.2.1, cm_Planner_begin.2.2.2.2, ⟨_, rfl, rfl⟩⟩
theorem cs_T_209 : pj_cV "WaverTax" 209 Y_T_fineMean 3 10 := ⟨⟨cm_T_fineMean.1, cm_T_fineMean.2.1, cm_T_fineMean.2.2.1, Or.inl (pj_mem 995 (by decide +kernel) rfl)⟩, by decide, cm_T_fineMean.2.2.2.1, cm_T_fineMean.2.2.2.2, ⟨_, rfl, rfl⟩⟩
theorem cs_T_216 : pj_cV "WaverTax" 216 Y_Planner_staying 1 4 := ⟨⟨cm_Planner_staying.1, cm_Planner_staying.2.1, cm_Planner_staying.2.2.1, Or.inl (pj_mem 1017 (by decide +kernel) rfl)⟩, by decide, cm_Planner_staying.2.2.2.1, cm_Planner_staying.2.2.2.2, ⟨_, rfl, rfl⟩⟩
theorem cs_T_235 : pj_cV "WaverTax" 235 Y_Desk_raisedOfAll 0 0 := ⟨⟨cm_Desk_raisedOfAll.1, cm_Desk_raisedOfAll.2.1, cm_Desk_raisedOfAll.2.2.1, Or.inl (pj_mem 1032 (by decide +kernel) rfl)⟩, by decide, cm_Desk_raisedOfAll.2.2.2.1, cm_Desk_raisedOfAll.2.2.2.2, ⟨_, rfl, rfl⟩⟩
theorem cs_T_238 : pj_cV "WaverTax" 238 Y_Desk_harmOfAll 0 0 := ⟨⟨cm_Desk_harmOfAll.1, cm_Desk_harmOfAll.2.1, cm_Desk_harmOfAll.2.2.1, Or.inl (pj_mem 1040 (by decide +kernel) rfl)⟩, by decide, cm_Desk_harmOfAll.2.2.2.1, cm_Desk_harmOfAll.2.2.2.2, ⟨_, rfl, rfl⟩⟩
theorem cs_T_241 : pj_cV "WaverTax" 241 Y_T_boundsTrouble 3 10 := ⟨⟨cm_T_boundsTrouble.1, cm_T_boundsTrouble.2.1, cm_T_boundsTrouble.2.2.1, Or.inl (pj_mem 1055 (by decide +kernel) rfl)⟩, by decide, cm_T_boundsTrouble.2.2.2.1, cm_T_boundsTrouble.2.2.2.2, ⟨_, rfl, rfl⟩⟩
theorem cs_T_245 : pj_cV "WaverTax" 245 Y_T_byTable 1 10 := ⟨⟨cm_T_byTable.1, cm_T_byTable.2.1, cm_T_byTable.2.2.1, Or.inl (pj_mem 1059 (by decide +kernel) rfl)⟩, by decide, cm_T_byTable.2.2.2.1, cm_T_byTable.2.2.2.2, ⟨_, rfl, rfl⟩⟩
theorem cs_T_249 : pj_cV "WaverTax" 249 Y_T_byThird 1 10 := ⟨⟨cm_T_byThird.1, cm_T_byThird.2.1, cm_T_byThird.2.2.1, Or.inl (pj_mem 1075 (by decide +kernel) rfl)⟩, by decide, cm_T_byThird.2.2.2.1, cm_T_byThird.2.2.2.2, ⟨_, rfl, rfl⟩⟩
theorem fs_Planner_101 : pj_fs "WaverTax$Planner" 6 4 101 (.array (.int)) := ⟨_, _, _, _, cd_6, by decide, rfl, Or.inl (pj_mem 198 (by decide +kernel) rfl)⟩
theorem fs_Planner_110 : pj_fs "WaverTax$Planner" 6 3 110 (.array (.int)) := ⟨_, _, _, _, cd_6, by decide, rfl, Or.inl (pj_mem 194 (by decide +kernel) rfl)⟩
theorem fs_Planner_112 : pj_fs "WaverTax$Planner" 6 1 112 (.array (.int)) := ⟨_, _, _, _, cd_6, by decide, rfl, Or.inl (pj_mem 186 (by decide +kernel) rfl)⟩
theorem fs_Planner_115 : pj_fs "WaverTax$Planner" 6 2 115 (.array (.int)) := ⟨_, _, _, _, cd_6, by decide, rfl, Or.inl (pj_mem 190 (by decide +kernel) rfl)⟩
theorem fs_Planner_118 : pj_fs "WaverTax$Planner" 6 5 118 (.array (.int)) := ⟨_, _, _, _, cd_6, by decide, rfl, Or.inl (pj_mem 202 (by decide +kernel) rfl)⟩
theorem fs_Planner_54 : pj_fs "WaverTax$Planner" 2 3 54 (.array (.int)) := ⟨_, _, _, _, cd_2, by decide, rfl, Or.inl (pj_mem 419 (by decide +kernel) rfl)⟩
theorem fs_Planner_95 : pj_fs "WaverTax$Planner" 6 0 95 (.int) := ⟨_, _, _, _, cd_6, by decide, rfl, Or.inl (pj_mem 181 (by decide +kernel) rfl)⟩
theorem fs_Rows_110 : pj_fs "WaverTax$Rows" 7 1 110 (.array (.int)) := ⟨_, _, _, _, cd_7, by decide, rfl, Or.inl (pj_mem 231 (by decide +kernel) rfl)⟩
theorem fs_Rows_15 : pj_fs "WaverTax$Rows" 8 4 15 (.int) := ⟨_, _, _, _, cd_8, by decide, rfl, Or.inl (pj_mem 499 (by decide +kernel) rfl)⟩
theorem fs_Rows_18 : pj_fs "WaverTax$Rows" 8 5 18 (.array (.int)) := ⟨_, _, _, _, cd_8, by decide, rfl, Or.inl (pj_mem 501 (by decide +kernel) rfl)⟩
theorem fs_Rows_25 : pj_fs "WaverTax$Rows" 8 7 25 (.array (.int)) := ⟨_, _, _, _, cd_8, by decide, rfl, Or.inl (pj_mem 505 (by decide +kernel) rfl)⟩
theorem fs_Rows_30 : pj_fs "WaverTax$Rows" 8 8 30 (.array (.array (.int))) := ⟨_, _, _, _, cd_8, by decide, rfl, Or.inl (pj_mem 506 (by decide +kernel) rfl)⟩
theorem fs_Rows_33 : pj_fs "WaverTax$Rows" 8 0 33 (.object "WaverTax$Law") := ⟨_, _, _, _, cd_8, by decide, rfl, Or.inl (pj_mem 495 (by decide +kernel) rfl)⟩
theorem fs_Rows_67 : pj_fs "WaverTax$Rows" 1 11 67 (.object "WaverTax$Receipts") := ⟨_, _, _, _, cd_1, by decide, rfl, Or.inl (pj_mem 318 (by decide +kernel) rfl)⟩
theorem fs_Rows_79 : pj_fs "WaverTax$Rows" 7 0 79 (.int) := ⟨_, _, _, _, cd_7, by decide, rfl, Or.inl (pj_mem 227 (by decide +kernel) rfl)⟩
theorem fs_Rows_9 : pj_fs "WaverTax$Rows" 8 3 9 (.int) := ⟨_, _, _, _, cd_8, by decide, rfl, Or.inl (pj_mem 498 (by decide +kernel) rfl)⟩
theorem fs_T_64 : pj_fs "WaverTax" 10 9 64 (.object "WaverTax$Planner") := ⟨_, _, _, _, cd_10, by decide, rfl, Or.inl (pj_mem 559 (by decide +kernel) rfl)⟩
theorem ps_T_255 {mn : String} : pj_ps "WaverTax" mn 0 2 255 (.int) := ⟨_, _, _, _, cd_0, by decide, rfl, Or.inl ⟨rfl, Or.inl (pj_mem 457 (by decide +kernel) rfl)⟩⟩
theorem ps_T_258 {mn : String} : pj_ps "WaverTax" mn 0 3 258 (.int) := ⟨_, _, _, _, cd_0, by decide, rfl, Or.inl ⟨rfl, Or.inl (pj_mem 459 (by decide +kernel) rfl)⟩⟩
theorem wd_1022 : (Jvm.Cond.constantLong "WaverTax" (219 : Nat) (100 : Int64)) ∈ pj_ws := pj_mem 1022 (by decide +kernel) rfl
theorem wd_1048 : (Jvm.Cond.methodLink "WaverTax$Desk" (105 : Nat) ({ cls := "java/lang/Math", name := "max", desc := "(II)I" } : Jvm.MethodName)) ∈ pj_ws := pj_mem 1048 (by decide +kernel) rfl
theorem d_Planner_staying_0 : decode Y_Planner_staying.2.1 0 = .ok (.aload_n 0, 1) := by decide +kernel
theorem d_Planner_staying_1 : decode Y_Planner_staying.2.1 1 = .ok (.getfield 13, 3) := by decide +kernel
theorem d_Planner_staying_4 : decode Y_Planner_staying.2.1 4 = .ok (.getfield 37, 3) := by decide +kernel
theorem d_Planner_staying_7 : decode Y_Planner_staying.2.1 7 = .ok (.astore_n 2, 1) := by decide +kernel
theorem d_Planner_staying_8 : decode Y_Planner_staying.2.1 8 = .ok (.aload_n 0, 1) := by decide +kernel
theorem d_Planner_staying_9 : decode Y_Planner_staying.2.1 9 = .ok (.getfield 21, 3) := by decide +kernel
theorem d_Planner_staying_12 : decode Y_Planner_staying.2.1 12 = .ok (.getfield 54, 3) := by decide +kernel
theorem d_Planner_staying_15 : decode Y_Planner_staying.2.1 15 = .ok (.aload_n 0, 1) := by decide +kernel
theorem d_Planner_staying_16 : decode Y_Planner_staying.2.1 16 = .ok (.getfield 7, 3) := by decide +kernel
theorem d_Planner_staying_19 : decode Y_Planner_staying.2.1 19 = .ok (.iaload, 1) := by decide +kernel
theorem d_Planner_staying_20 : decode Y_Planner_staying.2.1 20 = .ok (.istore_n 3, 1) := by decide +kernel
theorem d_Planner_staying_21 : decode Y_Planner_staying.2.1 21 = .ok (.ldc2_w 52, 3) := by decide +kernel
theorem d_Planner_staying_24 : decode Y_Planner_staying.2.1 24 = .ok (.iload_n 1, 1) := by decide +kernel
theorem d_Planner_staying_25 : decode Y_Planner_staying.2.1 25 = .ok (.i2l, 1) := by decide +kernel
theorem d_Planner_staying_26 : decode Y_Planner_staying.2.1 26 = .ok (.lmul, 1) := by decide +kernel
theorem d_Planner_staying_27 : decode Y_Planner_staying.2.1 27 = .ok (.aload_n 0, 1) := by decide +kernel
theorem d_Planner_staying_28 : decode Y_Planner_staying.2.1 28 = .ok (.getfield 17, 3) := by decide +kernel
theorem d_Planner_staying_31 : decode Y_Planner_staying.2.1 31 = .ok (.aload_n 0, 1) := by decide +kernel
theorem d_Planner_staying_32 : decode Y_Planner_staying.2.1 32 = .ok (.getfield 7, 3) := by decide +kernel
theorem d_Planner_staying_35 : decode Y_Planner_staying.2.1 35 = .ok (.iload_n 3, 1) := by decide +kernel
theorem d_Planner_staying_36 : decode Y_Planner_staying.2.1 36 = .ok (.invokevirtual 107, 3) := by decide +kernel
theorem d_Planner_staying_39 : decode Y_Planner_staying.2.1 39 = .ok (.i2l, 1) := by decide +kernel
theorem d_Planner_staying_40 : decode Y_Planner_staying.2.1 40 = .ok (.lmul, 1) := by decide +kernel
theorem d_Planner_staying_41 : decode Y_Planner_staying.2.1 41 = .ok (.lstore 4, 2) := by decide +kernel
theorem d_Planner_staying_43 : decode Y_Planner_staying.2.1 43 = .ok (.iconst 0, 1) := by decide +kernel
theorem d_Planner_staying_44 : decode Y_Planner_staying.2.1 44 = .ok (.istore 6, 2) := by decide +kernel
theorem d_Planner_staying_46 : decode Y_Planner_staying.2.1 46 = .ok (.iload 6, 2) := by decide +kernel
theorem d_Planner_staying_48 : decode Y_Planner_staying.2.1 48 = .ok (.aload_n 2, 1) := by decide +kernel
theorem d_Planner_staying_49 : decode Y_Planner_staying.2.1 49 = .ok (.getfield 95, 3) := by decide +kernel
theorem d_Planner_staying_52 : decode Y_Planner_staying.2.1 52 = .ok (.if_icmp .ge 90, 3) := by decide +kernel
theorem d_Planner_staying_55 : decode Y_Planner_staying.2.1 55 = .ok (.aload_n 2, 1) := by decide +kernel
theorem d_Planner_staying_56 : decode Y_Planner_staying.2.1 56 = .ok (.getfield 110, 3) := by decide +kernel
theorem d_Planner_staying_59 : decode Y_Planner_staying.2.1 59 = .ok (.iload 6, 2) := by decide +kernel
theorem d_Planner_staying_61 : decode Y_Planner_staying.2.1 61 = .ok (.iaload, 1) := by decide +kernel
theorem d_Planner_staying_62 : decode Y_Planner_staying.2.1 62 = .ok (.aload_n 0, 1) := by decide +kernel
theorem d_Planner_staying_63 : decode Y_Planner_staying.2.1 63 = .ok (.getfield 21, 3) := by decide +kernel
theorem d_Planner_staying_66 : decode Y_Planner_staying.2.1 66 = .ok (.getfield 43, 3) := by decide +kernel
theorem d_Planner_staying_69 : decode Y_Planner_staying.2.1 69 = .ok (.isub, 1) := by decide +kernel
theorem d_Planner_staying_70 : decode Y_Planner_staying.2.1 70 = .ok (.istore 7, 2) := by decide +kernel
theorem d_Planner_staying_72 : decode Y_Planner_staying.2.1 72 = .ok (.aload_n 2, 1) := by decide +kernel
theorem d_Planner_staying_73 : decode Y_Planner_staying.2.1 73 = .ok (.getfield 112, 3) := by decide +kernel
theorem d_Planner_staying_76 : decode Y_Planner_staying.2.1 76 = .ok (.iload 6, 2) := by decide +kernel
theorem d_Planner_staying_78 : decode Y_Planner_staying.2.1 78 = .ok (.iaload, 1) := by decide +kernel
theorem d_Planner_staying_79 : decode Y_Planner_staying.2.1 79 = .ok (.aload_n 0, 1) := by decide +kernel
theorem d_Planner_staying_80 : decode Y_Planner_staying.2.1 80 = .ok (.getfield 7, 3) := by decide +kernel
theorem d_Planner_staying_83 : decode Y_Planner_staying.2.1 83 = .ok (.if_icmp .ne 53, 3) := by decide +kernel
theorem d_Planner_staying_86 : decode Y_Planner_staying.2.1 86 = .ok (.aload_n 2, 1) := by decide +kernel
theorem d_Planner_staying_87 : decode Y_Planner_staying.2.1 87 = .ok (.getfield 115, 3) := by decide +kernel
theorem d_Planner_staying_90 : decode Y_Planner_staying.2.1 90 = .ok (.iload 6, 2) := by decide +kernel
theorem d_Planner_staying_92 : decode Y_Planner_staying.2.1 92 = .ok (.iaload, 1) := by decide +kernel
theorem d_Planner_staying_93 : decode Y_Planner_staying.2.1 93 = .ok (.iload_n 3, 1) := by decide +kernel
theorem d_Planner_staying_94 : decode Y_Planner_staying.2.1 94 = .ok (.if_icmp .ne 42, 3) := by decide +kernel
theorem d_Planner_staying_97 : decode Y_Planner_staying.2.1 97 = .ok (.iload 7, 2) := by decide +kernel
theorem d_Planner_staying_99 : decode Y_Planner_staying.2.1 99 = .ok (.ifCond .le 37, 3) := by decide +kernel
theorem d_Planner_staying_102 : decode Y_Planner_staying.2.1 102 = .ok (.iload 7, 2) := by decide +kernel
theorem d_Planner_staying_104 : decode Y_Planner_staying.2.1 104 = .ok (.iload_n 1, 1) := by decide +kernel
theorem d_Planner_staying_105 : decode Y_Planner_staying.2.1 105 = .ok (.if_icmp .ge 31, 3) := by decide +kernel
theorem d_Planner_staying_108 : decode Y_Planner_staying.2.1 108 = .ok (.lload 4, 2) := by decide +kernel
theorem d_Planner_staying_110 : decode Y_Planner_staying.2.1 110 = .ok (.aload_n 2, 1) := by decide +kernel
theorem d_Planner_staying_111 : decode Y_Planner_staying.2.1 111 = .ok (.getfield 101, 3) := by decide +kernel
theorem d_Planner_staying_114 : decode Y_Planner_staying.2.1 114 = .ok (.iload 6, 2) := by decide +kernel
theorem d_Planner_staying_116 : decode Y_Planner_staying.2.1 116 = .ok (.iaload, 1) := by decide +kernel
theorem d_Planner_staying_117 : decode Y_Planner_staying.2.1 117 = .ok (.i2l, 1) := by decide +kernel
theorem d_Planner_staying_118 : decode Y_Planner_staying.2.1 118 = .ok (.aload_n 2, 1) := by decide +kernel
theorem d_Planner_staying_119 : decode Y_Planner_staying.2.1 119 = .ok (.getfield 118, 3) := by decide +kernel
theorem d_Planner_staying_122 : decode Y_Planner_staying.2.1 122 = .ok (.iload 6, 2) := by decide +kernel
theorem d_Planner_staying_124 : decode Y_Planner_staying.2.1 124 = .ok (.iaload, 1) := by decide +kernel
theorem d_Planner_staying_125 : decode Y_Planner_staying.2.1 125 = .ok (.i2l, 1) := by decide +kernel
theorem d_Planner_staying_126 : decode Y_Planner_staying.2.1 126 = .ok (.lmul, 1) := by decide +kernel
theorem d_Planner_staying_127 : decode Y_Planner_staying.2.1 127 = .ok (.iload_n 1, 1) := by decide +kernel
theorem d_Planner_staying_128 : decode Y_Planner_staying.2.1 128 = .ok (.iload 7, 2) := by decide +kernel
theorem d_Planner_staying_130 : decode Y_Planner_staying.2.1 130 = .ok (.isub, 1) := by decide +kernel
theorem d_Planner_staying_131 : decode Y_Planner_staying.2.1 131 = .ok (.i2l, 1) := by decide +kernel
theorem d_Planner_staying_132 : decode Y_Planner_staying.2.1 132 = .ok (.lmul, 1) := by decide +kernel
theorem d_Planner_staying_133 : decode Y_Planner_staying.2.1 133 = .ok (.ladd, 1) := by decide +kernel
theorem d_Planner_staying_134 : decode Y_Planner_staying.2.1 134 = .ok (.lstore 4, 2) := by decide +kernel
theorem d_Planner_staying_136 : decode Y_Planner_staying.2.1 136 = .ok (.iinc 6 1, 3) := by decide +kernel
theorem d_Planner_staying_139 : decode Y_Planner_staying.2.1 139 = .ok (.goto (-93), 3) := by decide +kernel
theorem d_Planner_staying_142 : decode Y_Planner_staying.2.1 142 = .ok (.lload 4, 2) := by decide +kernel
theorem d_Planner_staying_144 : decode Y_Planner_staying.2.1 144 = .ok (.lreturn, 1) := by decide +kernel
def f_Planner_staying (h : PH) (a0 : Option Nat) (a1 : Int32) : Option Int64 := (gR h 4 a0 0).bind fun v1 => (gR h 1 v1 10).bind fun v2 => (gR h 4 a0 2).bind fun v3 => (gR h 2 v3 3).bind fun v4 => (gI h 4 a0 3).bind fun v5 => (aI h v4 v5).bind fun v6 => (gR h 4 a0 1).bind fun v7 => (gI h 4 a0 3).bind fun v8 => (cl h 0 v7 (f_Desk_worthOf h v7 v8 v6)).bind fun v9 => (pj_it (X := Int64) (fun s10 : Int64 × Int32 => (gI h 6 v2 0).bind fun v12 => if v12 ≤ s10.2 then (some (.inr s10.1)) else ((gR h 6 v2 3).bind fun v13 => (aI h v13 s10.2).bind fun v14 => (gR h 4 a0 2).bind fun v15 => (gI h 2 v15 0).bind fun v16 => (gR h 6 v2 1).bind fun v17 => (aI h v17 s10.2).bind fun v18 => (gI h 4 a0 3).bind fun v19 => if ¬ v18 = v19 then (some (.inl (s10.1, (s10.2 + (1 : Int32))))) else ((gR h 6 v2 2).bind fun v20 => (aI h v20 s10.2).bind fun v21 => if ¬ v21 = v6 then (some (.inl (s10.1, (s10.2 + (1 : Int32))))) else (if (v14 - v16) ≤ 0 then (some (.inl (s10.1, (s10.2 + (1 : Int32))))) else (if a1 ≤ (v14 - v16) then (some (.inl (s10.1, (s10.2 + (1 : Int32))))) else ((gR h 6 v2 4).bind fun v22 => (aI h v22 s10.2).bind fun v23 => (gR h 6 v2 5).bind fun v24 => (aI h v24 s10.2).bind fun v25 => some (.inl ((s10.1 + (((Int32.toInt64 v23) * (Int32.toInt64 v25)) * (Int32.toInt64 (a1 - (v14 - v16))))), (s10.2 + (1 : Int32)))))))))) FU ((((100 : Int64) * (Int32.toInt64 a1)) * (Int32.toInt64 v9)), (0 : Int32))).bind fun x11 => some x11
set_option maxRecDepth 20000 in
theorem PM_Planner_staying {l : Launch} {G : Cx} {h : PH} {a0 : Option Nat} {a1 : Int32} {z : Int64} (hz : f_Planner_staying h a0 a1 = some z) : PM l G 3 0 0 Y_Planner_staying [.inr (.inr a0), .inl a1] h (some (.inr (.inl z)), h) := by
  refine PM.of (Y := Y_Planner_staying) (cv := (fun z : Int64 => (((some (.inr (.inl z)), h) : Option PV × PH)))) (by decide) (L0 := [some (.inr (.inr a0)), some (.inl a1), none, none, none, none, none, none]) 6 rfl (Nat.le_of_ble_eq_true rfl) ?_ hz
  unfold f_Planner_staying
  refine PJ.aload_n (pc := 0) d_Planner_staying_0 rfl ?_
  refine PJ.getR (pc := 1) fs_Planner_13 d_Planner_staying_1 (fun v1 => ?_)
  refine PJ.getR (pc := 4) fs_Planner_37 d_Planner_staying_4 (fun v2 => ?_)
  refine PJ.astore_n (pc := 7) (L1 := [some (.inr (.inr a0)), some (.inl a1), some (.inr (.inr v2)), none, none, none, none, none]) d_Planner_staying_7 (Nat.le_of_ble_eq_true rfl) rfl rfl ?_
  refine PJ.aload_n (pc := 8) d_Planner_staying_8 rfl ?_
  refine PJ.getR (pc := 9) fs_Planner_21 d_Planner_staying_9 (fun v3 => ?_)
  refine PJ.getR (pc := 12) fs_Planner_54 d_Planner_staying_12 (fun v4 => ?_)
  refine PJ.aload_n (pc := 15) d_Planner_staying_15 rfl ?_
  refine PJ.getI (pc := 16) fs_Planner_7 d_Planner_staying_16 (fun v5 => ?_)
  refine PJ.iald (pc := 19) d_Planner_staying_19 (fun v6 => ?_)
  refine PJ.istore_n (pc := 20) (L1 := [some (.inr (.inr a0)), some (.inl a1), some (.inr (.inr v2)), some (.inl v6), none, none, none, none]) d_Planner_staying_20 (Nat.le_of_ble_eq_true rfl) rfl rfl ?_
  refine PJ.ldc2 (pc := 21) (v := 100) d_Planner_staying_21 wd_977 ?_
  refine PJ.iload_n (pc := 24) d_Planner_staying_24 rfl ?_
  refine PJ.i2l (pc := 25) d_Planner_staying_25 ?_
  refine PJ.lmul (pc := 26) d_Planner_staying_26 ?_
  refine PJ.aload_n (pc := 27) d_Planner_staying_27 rfl ?_
  refine PJ.getR (pc := 28) fs_Planner_17 d_Planner_staying_28 (fun v7 => ?_)
  refine PJ.aload_n (pc := 31) d_Planner_staying_31 rfl ?_
  refine PJ.getI (pc := 32) fs_Planner_7 d_Planner_staying_32 (fun v8 => ?_)
  refine PJ.iload_n (pc := 35) d_Planner_staying_35 rfl ?_
  refine PJ.cVpI (pc := 36) cs_Planner_107 (fun z hz => PM_Desk_worthOf hz) (pj_fitb rfl) rfl rfl (Nat.le_of_ble_eq_true rfl) d_Planner_staying_36 (fun v9 => ?_)
  refine PJ.i2l (pc := 39) d_Planner_staying_39 ?_
  refine PJ.lmul (pc := 40) d_Planner_staying_40 ?_
  refine PJ.lstore (pc := 41) (L1 := [some (.inr (.inr a0)), some (.inl a1), some (.inr (.inr v2)), some (.inl v6), some (.inr (.inl (((100 : Int64) * (Int32.toInt64 a1)) * (Int32.toInt64 v9)))), none, none, none]) d_Planner_staying_41 (Nat.le_of_ble_eq_true rfl) rfl rfl ?_
  refine PJ.iconst (pc := 43) (v := 0) d_Planner_staying_43 (by decide) ?_
  refine PJ.istore (pc := 44) (L1 := [some (.inr (.inr a0)), some (.inl a1), some (.inr (.inr v2)), some (.inl v6), some (.inr (.inl (((100 : Int64) * (Int32.toInt64 a1)) * (Int32.toInt64 v9)))), none, some (.inl (0 : Int32)), none]) d_Planner_staying_44 (Nat.le_of_ble_eq_true rfl) rfl rfl ?_
  refine PJ.bind (fun x11 : Int64 => ((142 : Nat), ([none, none, none, none, some (.inr (.inl x11)), none, none, none] : List (Option PV)), ([] : List PV), (h : PH), (0 : Nat), (0 : Nat))) (PJ.it (E := (fun s10 : Int64 × Int32 => ((46 : Nat), ([some (.inr (.inr a0)), some (.inl a1), some (.inr (.inr v2)), some (.inl v6), some (.inr (.inl s10.1)), none, some (.inl s10.2), none] : List (Option PV)), ([] : List PV), (h : PH), (0 : Nat), (0 : Nat)))) (F := (fun x11 : Int64 => ((142 : Nat), ([none, none, none, none, some (.inr (.inl x11)), none, none, none] : List (Option PV)), ([] : List PV), (h : PH), (0 : Nat), (0 : Nat)))) (fun s10 => ?_) FU ((((100 : Int64) * (Int32.toInt64 a1)) * (Int32.toInt64 v9)), (0 : Int32))) (fun x11 => ?_)
  · show PJ l G (pj_rm 3 0 0) Y_Planner_staying 46 [some (.inr (.inr a0)), some (.inl a1), some (.inr (.inr v2)), some (.inl v6), some (.inr (.inl s10.1)), none, some (.inl s10.2), none] [] h 0 0 _ _
    refine PJ.iload (pc := 46) d_Planner_staying_46 rfl ?_
    refine PJ.aload_n (pc := 48) d_Planner_staying_48 rfl ?_
    refine PJ.getI (pc := 49) fs_Planner_95 d_Planner_staying_49 (fun v12 => ?_)
    refine PJ.icmp_ge (pc := 52) (tgt := 142) d_Planner_staying_52 (by decide) (fun _ => ?_) (fun _ => ?_)
    · refine PJ.mk (L1 := [none, none, none, none, some (.inr (.inl s10.1)), none, none, none]) [false, false, false, false, true, false, false, false] rfl ?_
      exact PJ.done rfl
    · refine PJ.aload_n (pc := 55) d_Planner_staying_55 rfl ?_
      refine PJ.getR (pc := 56) fs_Planner_110 d_Planner_staying_56 (fun v13 => ?_)
      refine PJ.iload (pc := 59) d_Planner_staying_59 rfl ?_
      refine PJ.iald (pc := 61) d_Planner_staying_61 (fun v14 => ?_)
      refine PJ.aload_n (pc := 62) d_Planner_staying_62 rfl ?_
      refine PJ.getR (pc := 63) fs_Planner_21 d_Planner_staying_63 (fun v15 => ?_)
      refine PJ.getI (pc := 66) fs_Planner_43 d_Planner_staying_66 (fun v16 => ?_)
      refine PJ.isub (pc := 69) d_Planner_staying_69 ?_
      refine PJ.istore (pc := 70) (L1 := [some (.inr (.inr a0)), some (.inl a1), some (.inr (.inr v2)), some (.inl v6), some (.inr (.inl s10.1)), none, some (.inl s10.2), some (.inl (v14 - v16))]) d_Planner_staying_70 (Nat.le_of_ble_eq_true rfl) rfl rfl ?_
      refine PJ.aload_n (pc := 72) d_Planner_staying_72 rfl ?_
      refine PJ.getR (pc := 73) fs_Planner_112 d_Planner_staying_73 (fun v17 => ?_)
      refine PJ.iload (pc := 76) d_Planner_staying_76 rfl ?_
      refine PJ.iald (pc := 78) d_Planner_staying_78 (fun v18 => ?_)
      refine PJ.aload_n (pc := 79) d_Planner_staying_79 rfl ?_
      refine PJ.getI (pc := 80) fs_Planner_7 d_Planner_staying_80 (fun v19 => ?_)
      refine PJ.icmp_ne (pc := 83) (tgt := 136) d_Planner_staying_83 (by decide) (fun _ => ?_) (fun _ => ?_)
      · refine PJ.iinc (pc := 136) (v := 1) (L1 := [some (.inr (.inr a0)), some (.inl a1), some (.inr (.inr v2)), some (.inl v6), some (.inr (.inl s10.1)), none, some (.inl (s10.2 + (1 : Int32))), some (.inl (v14 - v16))]) d_Planner_staying_136 rfl (by decide) (Nat.le_of_ble_eq_true rfl) rfl rfl ?_
        refine PJ.goto (pc := 139) (tgt := 46) d_Planner_staying_139 (by decide) ?_
        refine PJ.mk (L1 := [some (.inr (.inr a0)), some (.inl a1), some (.inr (.inr v2)), some (.inl v6), some (.inr (.inl s10.1)), none, some (.inl (s10.2 + (1 : Int32))), none]) [true, true, true, true, true, false, true, false] rfl ?_
        exact PJ.done rfl
      · refine PJ.aload_n (pc := 86) d_Planner_staying_86 rfl ?_
        refine PJ.getR (pc := 87) fs_Planner_115 d_Planner_staying_87 (fun v20 => ?_)
        refine PJ.iload (pc := 90) d_Planner_staying_90 rfl ?_
        refine PJ.iald (pc := 92) d_Planner_staying_92 (fun v21 => ?_)
        refine PJ.iload_n (pc := 93) d_Planner_staying_93 rfl ?_
        refine PJ.icmp_ne (pc := 94) (tgt := 136) d_Planner_staying_94 (by decide) (fun _ => ?_) (fun _ => ?_)
        · refine PJ.iinc (pc := 136) (v := 1) (L1 := [some (.inr (.inr a0)), some (.inl a1), some (.inr (.inr v2)), some (.inl v6), some (.inr (.inl s10.1)), none, some (.inl (s10.2 + (1 : Int32))), some (.inl (v14 - v16))]) d_Planner_staying_136 rfl (by decide) (Nat.le_of_ble_eq_true rfl) rfl rfl ?_
          refine PJ.goto (pc := 139) (tgt := 46) d_Planner_staying_139 (by decide) ?_
          refine PJ.mk (L1 := [some (.inr (.inr a0)), some (.inl a1), some (.inr (.inr v2)), some (.inl v6), some (.inr (.inl s10.1)), none, some (.inl (s10.2 + (1 : Int32))), none]) [true, true, true, true, true, false, true, false] rfl ?_
          exact PJ.done rfl
        · refine PJ.iload (pc := 97) d_Planner_staying_97 rfl ?_
          refine PJ.if_le (pc := 99) (tgt := 136) d_Planner_staying_99 (by decide) (fun _ => ?_) (fun _ => ?_)
          · refine PJ.iinc (pc := 136) (v := 1) (L1 := [some (.inr (.inr a0)), some (.inl a1), some (.inr (.inr v2)), some (.inl v6), some (.inr (.inl s10.1)), none, some (.inl (s10.2 + (1 : Int32))), some (.inl (v14 - v16))]) d_Planner_staying_136 rfl (by decide) (Nat.le_of_ble_eq_true rfl) rfl rfl ?_
            refine PJ.goto (pc := 139) (tgt := 46) d_Planner_staying_139 (by decide) ?_
            refine PJ.mk (L1 := [some (.inr (.inr a0)), some (.inl a1), some (.inr (.inr v2)), some (.inl v6), some (.inr (.inl s10.1)), none, some (.inl (s10.2 + (1 : Int32))), none]) [true, true, true, true, true, false, true, false] rfl ?_
            exact PJ.done rfl
          · refine PJ.iload (pc := 102) d_Planner_staying_102 rfl ?_
            refine PJ.iload_n (pc := 104) d_Planner_staying_104 rfl ?_
            refine PJ.icmp_ge (pc := 105) (tgt := 136) d_Planner_staying_105 (by decide) (fun _ => ?_) (fun _ => ?_)
            · refine PJ.iinc (pc := 136) (v := 1) (L1 := [some (.inr (.inr a0)), some (.inl a1), some (.inr (.inr v2)), some (.inl v6), some (.inr (.inl s10.1)), none, some (.inl (s10.2 + (1 : Int32))), some (.inl (v14 - v16))]) d_Planner_staying_136 rfl (by decide) (Nat.le_of_ble_eq_true rfl) rfl rfl ?_
              refine PJ.goto (pc := 139) (tgt := 46) d_Planner_staying_139 (by decide) ?_
              refine PJ.mk (L1 := [some (.inr (.inr a0)), some (.inl a1), some (.inr (.inr v2)), some (.inl v6), some (.inr (.inl s10.1)), none, some (.inl (s10.2 + (1 : Int32))), none]) [true, true, true, true, true, false, true, false] rfl ?_
              exact PJ.done rfl
            · refine PJ.lload (pc := 108) d_Planner_staying_108 rfl ?_
              refine PJ.aload_n (pc := 110) d_Planner_staying_110 rfl ?_
              refine PJ.getR (pc := 111) fs_Planner_101 d_Planner_staying_111 (fun v22 => ?_)
              refine PJ.iload (pc := 114) d_Planner_staying_114 rfl ?_
              refine PJ.iald (pc := 116) d_Planner_staying_116 (fun v23 => ?_)
              refine PJ.i2l (pc := 117) d_Planner_staying_117 ?_
              refine PJ.aload_n (pc := 118) d_Planner_staying_118 rfl ?_
              refine PJ.getR (pc := 119) fs_Planner_118 d_Planner_staying_119 (fun v24 => ?_)
              refine PJ.iload (pc := 122) d_Planner_staying_122 rfl ?_
              refine PJ.iald (pc := 124) d_Planner_staying_124 (fun v25 => ?_)
              refine PJ.i2l (pc := 125) d_Planner_staying_125 ?_
              refine PJ.lmul (pc := 126) d_Planner_staying_126 ?_
              refine PJ.iload_n (pc := 127) d_Planner_staying_127 rfl ?_
              refine PJ.iload (pc := 128) d_Planner_staying_128 rfl ?_
              refine PJ.isub (pc := 130) d_Planner_staying_130 ?_
              refine PJ.i2l (pc := 131) d_Planner_staying_131 ?_
              refine PJ.lmul (pc := 132) d_Planner_staying_132 ?_
              refine PJ.ladd (pc := 133) d_Planner_staying_133 ?_
              refine PJ.lstore (pc := 134) (L1 := [some (.inr (.inr a0)), some (.inl a1), some (.inr (.inr v2)), some (.inl v6), some (.inr (.inl (s10.1 + (((Int32.toInt64 v23) * (Int32.toInt64 v25)) * (Int32.toInt64 (a1 - (v14 - v16))))))), none, some (.inl s10.2), some (.inl (v14 - v16))]) d_Planner_staying_134 (Nat.le_of_ble_eq_true rfl) rfl rfl ?_
              refine PJ.iinc (pc := 136) (v := 1) (L1 := [some (.inr (.inr a0)), some (.inl a1), some (.inr (.inr v2)), some (.inl v6), some (.inr (.inl (s10.1 + (((Int32.toInt64 v23) * (Int32.toInt64 v25)) * (Int32.toInt64 (a1 - (v14 - v16))))))), none, some (.inl (s10.2 + (1 : Int32))), some (.inl (v14 - v16))]) d_Planner_staying_136 rfl (by decide) (Nat.le_of_ble_eq_true rfl) rfl rfl ?_
              refine PJ.goto (pc := 139) (tgt := 46) d_Planner_staying_139 (by decide) ?_
              refine PJ.mk (L1 := [some (.inr (.inr a0)), some (.inl a1), some (.inr (.inr v2)), some (.inl v6), some (.inr (.inl (s10.1 + (((Int32.toInt64 v23) * (Int32.toInt64 v25)) * (Int32.toInt64 (a1 - (v14 - v16))))))), none, some (.inl (s10.2 + (1 : Int32))), none]) [true, true, true, true, true, false, true, false] rfl ?_
              exact PJ.done rfl
  · show PJ l G (pj_rm 3 0 0) Y_Planner_staying 142 [none, none, none, none, some (.inr (.inl x11)), none, none, none] [] h 0 0 _ _
    refine PJ.lload (pc := 142) d_Planner_staying_142 rfl ?_
    exact PJ.lretp (pc := 144) d_Planner_staying_144 rfl (Nat.le_of_ble_eq_true rfl) (Nat.le_of_ble_eq_true rfl)
theorem d_T_stays_0 : decode Y_T_stays.2.1 0 = .ok (.aload_n 0, 1) := by decide +kernel
theorem d_T_stays_1 : decode Y_T_stays.2.1 1 = .ok (.iload_n 1, 1) := by decide +kernel
theorem d_T_stays_2 : decode Y_T_stays.2.1 2 = .ok (.iload_n 2, 1) := by decide +kernel
theorem d_T_stays_3 : decode Y_T_stays.2.1 3 = .ok (.invokevirtual 193, 3) := by decide +kernel
theorem d_T_stays_6 : decode Y_T_stays.2.1 6 = .ok (.istore 4, 2) := by decide +kernel
theorem d_T_stays_8 : decode Y_T_stays.2.1 8 = .ok (.iload 4, 2) := by decide +kernel
theorem d_T_stays_10 : decode Y_T_stays.2.1 10 = .ok (.ifCond .eq 10, 3) := by decide +kernel
theorem d_T_stays_13 : decode Y_T_stays.2.1 13 = .ok (.aload_n 0, 1) := by decide +kernel
theorem d_T_stays_14 : decode Y_T_stays.2.1 14 = .ok (.iload 4, 2) := by decide +kernel
theorem d_T_stays_16 : decode Y_T_stays.2.1 16 = .ok (.invokevirtual 196, 3) := by decide +kernel
theorem d_T_stays_19 : decode Y_T_stays.2.1 19 = .ok (.lreturn, 1) := by decide +kernel
theorem d_T_stays_20 : decode Y_T_stays.2.1 20 = .ok (.aload_n 0, 1) := by decide +kernel
theorem d_T_stays_21 : decode Y_T_stays.2.1 21 = .ok (.getfield 64, 3) := by decide +kernel
theorem d_T_stays_24 : decode Y_T_stays.2.1 24 = .ok (.aload_n 0, 1) := by decide +kernel
theorem d_T_stays_25 : decode Y_T_stays.2.1 25 = .ok (.getfield 20, 3) := by decide +kernel
theorem d_T_stays_28 : decode Y_T_stays.2.1 28 = .ok (.aload_n 0, 1) := by decide +kernel
theorem d_T_stays_29 : decode Y_T_stays.2.1 29 = .ok (.getfield 43, 3) := by decide +kernel
theorem d_T_stays_32 : decode Y_T_stays.2.1 32 = .ok (.iload_n 1, 1) := by decide +kernel
theorem d_T_stays_33 : decode Y_T_stays.2.1 33 = .ok (.invokevirtual 200, 3) := by decide +kernel
theorem d_T_stays_36 : decode Y_T_stays.2.1 36 = .ok (.aload_n 0, 1) := by decide +kernel
theorem d_T_stays_37 : decode Y_T_stays.2.1 37 = .ok (.aload_n 0, 1) := by decide +kernel
theorem d_T_stays_38 : decode Y_T_stays.2.1 38 = .ok (.getfield 64, 3) := by decide +kernel
theorem d_T_stays_41 : decode Y_T_stays.2.1 41 = .ok (.iload_n 2, 1) := by decide +kernel
theorem d_T_stays_42 : decode Y_T_stays.2.1 42 = .ok (.invokevirtual 216, 3) := by decide +kernel
theorem d_T_stays_45 : decode Y_T_stays.2.1 45 = .ok (.ldc2_w 219, 3) := by decide +kernel
theorem d_T_stays_48 : decode Y_T_stays.2.1 48 = .ok (.iload_n 3, 1) := by decide +kernel
theorem d_T_stays_49 : decode Y_T_stays.2.1 49 = .ok (.invokevirtual 209, 3) := by decide +kernel
theorem d_T_stays_52 : decode Y_T_stays.2.1 52 = .ok (.lreturn, 1) := by decide +kernel
def f_T_stays (h : PH) (a0 : Option Nat) (a1 : Int32) (a2 : Int32) (a3 : Int32) : Option (Int64 × PH) := (cl h 10 a0 (f_T_planTrouble h a0 a1 a2)).bind fun v1 => if v1 = 0 then ((gR h 10 a0 9).bind fun v2 => (gR h 10 a0 2).bind fun v3 => (gR h 10 a0 6).bind fun v4 => (cl h 4 v2 (f_Planner_begin h v2 v3 v4 a1)).bind fun h5 => (gR h5 10 a0 9).bind fun v6 => (cl h5 4 v6 (f_Planner_staying h5 v6 a2)).bind fun v7 => (cl h5 10 a0 (f_T_fineMean h5 a0 v7 (100 : Int64) a3)).bind fun v8 => some (v8.1, v8.2)) else ((cl h 10 a0 (f_T_refuseLong h a0 v1)).bind fun v9 => some (v9.1, v9.2))
set_option maxRecDepth 20000 in
theorem PM_T_stays {l : Launch} {G : Cx} {h : PH} {a0 : Option Nat} {a1 : Int32} {a2 : Int32} {a3 : Int32} {z : (Int64 × PH)} (hz : f_T_stays h a0 a1 a2 a3 = some z) : PM l G 4 0 0 Y_T_stays [.inr (.inr a0), .inl a1, .inl a2, .inl a3] h (some (.inr (.inl z.1)), z.2) := by
  refine PM.of (Y := Y_T_stays) (cv := (fun z : (Int64 × PH) => (((some (.inr (.inl z.1)), z.2) : Option PV × PH)))) (by decide) (L0 := [some (.inr (.inr a0)), some (.inl a1), some (.inl a2), some (.inl a3), none]) 1 rfl (Nat.le_of_ble_eq_true rfl) ?_ hz
  unfold f_T_stays
  refine PJ.aload_n (pc := 0) d_T_stays_0 rfl ?_
  refine PJ.iload_n (pc := 1) d_T_stays_1 rfl ?_
  refine PJ.iload_n (pc := 2) d_T_stays_2 rfl ?_
  refine PJ.cVpI (pc := 3) cs_T_193 (fun z hz => PM_T_planTrouble hz) (pj_fitb rfl) rfl rfl (Nat.le_of_ble_eq_true rfl) d_T_stays_3 (fun v1 => ?_)
  refine PJ.istore (pc := 6) (L1 := [some (.inr (.inr a0)), some (.inl a1), some (.inl a2), some (.inl a3), some (.inl v1)]) d_T_stays_6 (Nat.le_of_ble_eq_true rfl) rfl rfl ?_
  refine PJ.iload (pc := 8) d_T_stays_8 rfl ?_
  refine PJ.if_eq (pc := 10) (tgt := 20) d_T_stays_10 (by decide) (fun _ => ?_) (fun _ => ?_)
  · refine PJ.aload_n (pc := 20) d_T_stays_20 rfl ?_
    refine PJ.getR (pc := 21) fs_T_64 d_T_stays_21 (fun v2 => ?_)
    refine PJ.aload_n (pc := 24) d_T_stays_24 rfl ?_
    refine PJ.getR (pc := 25) fs_T_20 d_T_stays_25 (fun v3 => ?_)
    refine PJ.aload_n (pc := 28) d_T_stays_28 rfl ?_
    refine PJ.getR (pc := 29) fs_T_43 d_T_stays_29 (fun v4 => ?_)
    refine PJ.iload_n (pc := 32) d_T_stays_32 rfl ?_
    refine PJ.cVV (pc := 33) cs_T_200 (fun z hz => PM_Planner_begin hz) (pj_fitb rfl) rfl rfl (Nat.le_of_ble_eq_true rfl) d_T_stays_33 (fun h5 => ?_)
    refine PJ.aload_n (pc := 36) d_T_stays_36 rfl ?_
    refine PJ.aload_n (pc := 37) d_T_stays_37 rfl ?_
    refine PJ.getR (pc := 38) fs_T_64 d_T_stays_38 (fun v6 => ?_)
    refine PJ.iload_n (pc := 41) d_T_stays_41 rfl ?_
    refine PJ.cVpL (pc := 42) cs_T_216 (fun z hz => PM_Planner_staying hz) (pj_fitb rfl) rfl rfl (Nat.le_of_ble_eq_true rfl) d_T_stays_42 (fun v7 => ?_)
    refine PJ.ldc2 (pc := 45) (v := 100) d_T_stays_45 wd_1022 ?_
    refine PJ.iload_n (pc := 48) d_T_stays_48 rfl ?_
    refine PJ.cVL (pc := 49) cs_T_209 (fun z hz => PM_T_fineMean hz) (pj_fitb rfl) rfl rfl (Nat.le_of_ble_eq_true rfl) d_T_stays_49 (fun v8 => ?_)
    exact PJ.lret (pc := 52) d_T_stays_52 rfl (Nat.le_of_ble_eq_true rfl) (Nat.le_of_ble_eq_true rfl)
  · refine PJ.aload_n (pc := 13) d_T_stays_13 rfl ?_
    refine PJ.iload (pc := 14) d_T_stays_14 rfl ?_
    refine PJ.cVL (pc := 16) cs_T_196 (fun z hz => PM_T_refuseLong hz) (pj_fitb rfl) rfl rfl (Nat.le_of_ble_eq_true rfl) d_T_stays_16 (fun v9 => ?_)
    exact PJ.lret (pc := 19) d_T_stays_19 rfl (Nat.le_of_ble_eq_true rfl) (Nat.le_of_ble_eq_true rfl)
theorem d_Desk_raisedOfAll_0 : decode Y_Desk_raisedOfAll.2.1 0 = .ok (.iconst 0, 1) := by decide +kernel
theorem d_Desk_raisedOfAll_1 : decode Y_Desk_raisedOfAll.2.1 1 = .ok (.istore_n 1, 1) := by decide +kernel
theorem d_Desk_raisedOfAll_2 : decode Y_Desk_raisedOfAll.2.1 2 = .ok (.iconst 0, 1) := by decide +kernel
theorem d_Desk_raisedOfAll_3 : decode Y_Desk_raisedOfAll.2.1 3 = .ok (.istore_n 2, 1) := by decide +kernel
theorem d_Desk_raisedOfAll_4 : decode Y_Desk_raisedOfAll.2.1 4 = .ok (.iload_n 2, 1) := by decide +kernel
theorem d_Desk_raisedOfAll_5 : decode Y_Desk_raisedOfAll.2.1 5 = .ok (.aload_n 0, 1) := by decide +kernel
theorem d_Desk_raisedOfAll_6 : decode Y_Desk_raisedOfAll.2.1 6 = .ok (.getfield 18, 3) := by decide +kernel
theorem d_Desk_raisedOfAll_9 : decode Y_Desk_raisedOfAll.2.1 9 = .ok (.getfield 95, 3) := by decide +kernel
theorem d_Desk_raisedOfAll_12 : decode Y_Desk_raisedOfAll.2.1 12 = .ok (.if_icmp .ge 22, 3) := by decide +kernel
theorem d_Desk_raisedOfAll_15 : decode Y_Desk_raisedOfAll.2.1 15 = .ok (.iload_n 1, 1) := by decide +kernel
theorem d_Desk_raisedOfAll_16 : decode Y_Desk_raisedOfAll.2.1 16 = .ok (.aload_n 0, 1) := by decide +kernel
theorem d_Desk_raisedOfAll_17 : decode Y_Desk_raisedOfAll.2.1 17 = .ok (.iload_n 2, 1) := by decide +kernel
theorem d_Desk_raisedOfAll_18 : decode Y_Desk_raisedOfAll.2.1 18 = .ok (.aload_n 0, 1) := by decide +kernel
theorem d_Desk_raisedOfAll_19 : decode Y_Desk_raisedOfAll.2.1 19 = .ok (.iload_n 2, 1) := by decide +kernel
theorem d_Desk_raisedOfAll_20 : decode Y_Desk_raisedOfAll.2.1 20 = .ok (.invokevirtual 98, 3) := by decide +kernel
theorem d_Desk_raisedOfAll_23 : decode Y_Desk_raisedOfAll.2.1 23 = .ok (.invokevirtual 86, 3) := by decide +kernel
theorem d_Desk_raisedOfAll_26 : decode Y_Desk_raisedOfAll.2.1 26 = .ok (.iadd, 1) := by decide +kernel
theorem d_Desk_raisedOfAll_27 : decode Y_Desk_raisedOfAll.2.1 27 = .ok (.istore_n 1, 1) := by decide +kernel
theorem d_Desk_raisedOfAll_28 : decode Y_Desk_raisedOfAll.2.1 28 = .ok (.iinc 2 1, 3) := by decide +kernel
theorem d_Desk_raisedOfAll_31 : decode Y_Desk_raisedOfAll.2.1 31 = .ok (.goto (-27), 3) := by decide +kernel
theorem d_Desk_raisedOfAll_34 : decode Y_Desk_raisedOfAll.2.1 34 = .ok (.iload_n 1, 1) := by decide +kernel
theorem d_Desk_raisedOfAll_35 : decode Y_Desk_raisedOfAll.2.1 35 = .ok (.ireturn, 1) := by decide +kernel
def f_Desk_raisedOfAll (h : PH) (a0 : Option Nat) : Option Int32 := (pj_it (X := Int32) (fun s1 : Int32 × Int32 => (gR h 0 a0 0).bind fun v3 => (gI h 1 v3 3).bind fun v4 => if v4 ≤ s1.2 then (some (.inr s1.1)) else ((cl h 0 a0 (f_Desk_choiceOf h a0 s1.2)).bind fun v5 => (cl h 0 a0 (f_Desk_taxOf h a0 s1.2 v5)).bind fun v6 => some (.inl ((s1.1 + v6), (s1.2 + (1 : Int32)))))) FU ((0 : Int32), (0 : Int32))).bind fun x2 => some x2
set_option maxRecDepth 20000 in
theorem PM_Desk_raisedOfAll {l : Launch} {G : Cx} {h : PH} {a0 : Option Nat} {z : Int32} (hz : f_Desk_raisedOfAll h a0 = some z) : PM l G 5 0 0 Y_Desk_raisedOfAll [.inr (.inr a0)] h (some (.inl z), h) := by
  refine PM.of (Y := Y_Desk_raisedOfAll) (cv := (fun z : Int32 => (((some (.inl z), h) : Option PV × PH)))) (by decide) (L0 := [some (.inr (.inr a0)), none, none]) 2 rfl (Nat.le_of_ble_eq_true rfl) ?_ hz
  unfold f_Desk_raisedOfAll
  refine PJ.iconst (pc := 0) (v := 0) d_Desk_raisedOfAll_0 (by decide) ?_
  refine PJ.istore_n (pc := 1) (L1 := [some (.inr (.inr a0)), some (.inl (0 : Int32)), none]) d_Desk_raisedOfAll_1 (Nat.le_of_ble_eq_true rfl) rfl rfl ?_
  refine PJ.iconst (pc := 2) (v := 0) d_Desk_raisedOfAll_2 (by decide) ?_
  refine PJ.istore_n (pc := 3) (L1 := [some (.inr (.inr a0)), some (.inl (0 : Int32)), some (.inl (0 : Int32))]) d_Desk_raisedOfAll_3 (Nat.le_of_ble_eq_true rfl) rfl rfl ?_
  refine PJ.bind (fun x2 : Int32 => ((34 : Nat), ([none, some (.inl x2), none] : List (Option PV)), ([] : List PV), (h : PH), (0 : Nat), (0 : Nat))) (PJ.it (E := (fun s1 : Int32 × Int32 => ((4 : Nat), ([some (.inr (.inr a0)), some (.inl s1.1), some (.inl s1.2)] : List (Option PV)), ([] : List PV), (h : PH), (0 : Nat), (0 : Nat)))) (F := (fun x2 : Int32 => ((34 : Nat), ([none, some (.inl x2), none] : List (Option PV)), ([] : List PV), (h : PH), (0 : Nat), (0 : Nat)))) (fun s1 => ?_) FU ((0 : Int32), (0 : Int32))) (fun x2 => ?_)
  · show PJ l G (pj_rm 5 0 0) Y_Desk_raisedOfAll 4 [some (.inr (.inr a0)), some (.inl s1.1), some (.inl s1.2)] [] h 0 0 _ _
    refine PJ.iload_n (pc := 4) d_Desk_raisedOfAll_4 rfl ?_
    refine PJ.aload_n (pc := 5) d_Desk_raisedOfAll_5 rfl ?_
    refine PJ.getR (pc := 6) fs_Desk_18 d_Desk_raisedOfAll_6 (fun v3 => ?_)
    refine PJ.getI (pc := 9) fs_Desk_95 d_Desk_raisedOfAll_9 (fun v4 => ?_)
    refine PJ.icmp_ge (pc := 12) (tgt := 34) d_Desk_raisedOfAll_12 (by decide) (fun _ => ?_) (fun _ => ?_)
    · refine PJ.mk (L1 := [none, some (.inl s1.1), none]) [false, true, false] rfl ?_
      exact PJ.done rfl
    · refine PJ.iload_n (pc := 15) d_Desk_raisedOfAll_15 rfl ?_
      refine PJ.aload_n (pc := 16) d_Desk_raisedOfAll_16 rfl ?_
      refine PJ.iload_n (pc := 17) d_Desk_raisedOfAll_17 rfl ?_
      refine PJ.aload_n (pc := 18) d_Desk_raisedOfAll_18 rfl ?_
      refine PJ.iload_n (pc := 19) d_Desk_raisedOfAll_19 rfl ?_
      refine PJ.cVpI (pc := 20) cs_Desk_98 (fun z hz => PM_Desk_choiceOf hz) (pj_fitb rfl) rfl rfl (Nat.le_of_ble_eq_true rfl) d_Desk_raisedOfAll_20 (fun v5 => ?_)
      refine PJ.cVpI (pc := 23) cs_Desk_86 (fun z hz => PM_Desk_taxOf hz) (pj_fitb rfl) rfl rfl (Nat.le_of_ble_eq_true rfl) d_Desk_raisedOfAll_23 (fun v6 => ?_)
      refine PJ.iadd (pc := 26) d_Desk_raisedOfAll_26 ?_
      refine PJ.istore_n (pc := 27) (L1 := [some (.inr (.inr a0)), some (.inl (s1.1 + v6)), some (.inl s1.2)]) d_Desk_raisedOfAll_27 (Nat.le_of_ble_eq_true rfl) rfl rfl ?_
      refine PJ.iinc (pc := 28) (v := 1) (L1 := [some (.inr (.inr a0)), some (.inl (s1.1 + v6)), some (.inl (s1.2 + (1 : Int32)))]) d_Desk_raisedOfAll_28 rfl (by decide) (Nat.le_of_ble_eq_true rfl) rfl rfl ?_
      refine PJ.goto (pc := 31) (tgt := 4) d_Desk_raisedOfAll_31 (by decide) ?_
      exact PJ.done rfl
  · show PJ l G (pj_rm 5 0 0) Y_Desk_raisedOfAll 34 [none, some (.inl x2), none] [] h 0 0 _ _
    refine PJ.iload_n (pc := 34) d_Desk_raisedOfAll_34 rfl ?_
    exact PJ.iretp (pc := 35) d_Desk_raisedOfAll_35 rfl (Nat.le_of_ble_eq_true rfl) (Nat.le_of_ble_eq_true rfl)
theorem d_T_raised_0 : decode Y_T_raised.2.1 0 = .ok (.aload_n 0, 1) := by decide +kernel
theorem d_T_raised_1 : decode Y_T_raised.2.1 1 = .ok (.getfield 36, 3) := by decide +kernel
theorem d_T_raised_4 : decode Y_T_raised.2.1 4 = .ok (.ifCond .eq 17, 3) := by decide +kernel
theorem d_T_raised_7 : decode Y_T_raised.2.1 7 = .ok (.aload_n 0, 1) := by decide +kernel
theorem d_T_raised_8 : decode Y_T_raised.2.1 8 = .ok (.aload_n 0, 1) := by decide +kernel
theorem d_T_raised_9 : decode Y_T_raised.2.1 9 = .ok (.invokevirtual 147, 3) := by decide +kernel
theorem d_T_raised_12 : decode Y_T_raised.2.1 12 = .ok (.invokevirtual 235, 3) := by decide +kernel
theorem d_T_raised_15 : decode Y_T_raised.2.1 15 = .ok (.invokevirtual 114, 3) := by decide +kernel
theorem d_T_raised_18 : decode Y_T_raised.2.1 18 = .ok (.goto 8, 3) := by decide +kernel
theorem d_T_raised_21 : decode Y_T_raised.2.1 21 = .ok (.aload_n 0, 1) := by decide +kernel
theorem d_T_raised_22 : decode Y_T_raised.2.1 22 = .ok (.iconst 1, 1) := by decide +kernel
theorem d_T_raised_23 : decode Y_T_raised.2.1 23 = .ok (.invokevirtual 95, 3) := by decide +kernel
theorem d_T_raised_26 : decode Y_T_raised.2.1 26 = .ok (.ireturn, 1) := by decide +kernel
def f_T_raised (h : PH) (a0 : Option Nat) : Option (Int32 × PH) := (gI h 10 a0 5).bind fun v1 => if v1 = 0 then ((cl h 10 a0 (f_T_refuse h a0 (1 : Int32))).bind fun v2 => some (v2.1, v2.2)) else ((cl h 10 a0 (f_T_present h a0)).bind fun v3 => (cl v3.2 0 v3.1 (f_Desk_raisedOfAll v3.2 v3.1)).bind fun v4 => (cl v3.2 10 a0 (f_T_fine v3.2 a0 v4)).bind fun v5 => some (v5.1, v5.2))
set_option maxRecDepth 20000 in
theorem PM_T_raised {l : Launch} {G : Cx} {h : PH} {a0 : Option Nat} {z : (Int32 × PH)} (hz : f_T_raised h a0 = some z) : PM l G 6 0 0 Y_T_raised [.inr (.inr a0)] h (some (.inl z.1), z.2) := by
  refine PM.of (Y := Y_T_raised) (cv := (fun z : (Int32 × PH) => (((some (.inl z.1), z.2) : Option PV × PH)))) (by decide) (L0 := [some (.inr (.inr a0))]) 0 rfl (Nat.le_of_ble_eq_true rfl) ?_ hz
  unfold f_T_raised
  refine PJ.aload_n (pc := 0) d_T_raised_0 rfl ?_
  refine PJ.getI (pc := 1) fs_T_36 d_T_raised_1 (fun v1 => ?_)
  refine PJ.if_eq (pc := 4) (tgt := 21) d_T_raised_4 (by decide) (fun _ => ?_) (fun _ => ?_)
  · refine PJ.aload_n (pc := 21) d_T_raised_21 rfl ?_
    refine PJ.iconst (pc := 22) (v := 1) d_T_raised_22 (by decide) ?_
    refine PJ.cVI (pc := 23) cs_T_95 (fun z hz => PM_T_refuse hz) (pj_fitb rfl) rfl rfl (Nat.le_of_ble_eq_true rfl) d_T_raised_23 (fun v2 => ?_)
    exact PJ.iret (pc := 26) d_T_raised_26 rfl (Nat.le_of_ble_eq_true rfl) (Nat.le_of_ble_eq_true rfl)
  · refine PJ.aload_n (pc := 7) d_T_raised_7 rfl ?_
    refine PJ.aload_n (pc := 8) d_T_raised_8 rfl ?_
    refine PJ.cVR (pc := 9) cs_T_147 (fun z hz => PM_T_present hz) (pj_fitb rfl) rfl rfl (Nat.le_of_ble_eq_true rfl) d_T_raised_9 (fun v3 => ?_)
    refine PJ.cVpI (pc := 12) cs_T_235 (fun z hz => PM_Desk_raisedOfAll hz) (pj_fitb rfl) rfl rfl (Nat.le_of_ble_eq_true rfl) d_T_raised_12 (fun v4 => ?_)
    refine PJ.cVI (pc := 15) cs_T_114 (fun z hz => PM_T_fine hz) (pj_fitb rfl) rfl rfl (Nat.le_of_ble_eq_true rfl) d_T_raised_15 (fun v5 => ?_)
    refine PJ.goto (pc := 18) (tgt := 26) d_T_raised_18 (by decide) ?_
    exact PJ.iret (pc := 26) d_T_raised_26 rfl (Nat.le_of_ble_eq_true rfl) (Nat.le_of_ble_eq_true rfl)
theorem d_Desk_greatestWorth_0 : decode Y_Desk_greatestWorth.2.1 0 = .ok (.iconst 0, 1) := by decide +kernel
theorem d_Desk_greatestWorth_1 : decode Y_Desk_greatestWorth.2.1 1 = .ok (.istore_n 2, 1) := by decide +kernel
theorem d_Desk_greatestWorth_2 : decode Y_Desk_greatestWorth.2.1 2 = .ok (.iconst 0, 1) := by decide +kernel
theorem d_Desk_greatestWorth_3 : decode Y_Desk_greatestWorth.2.1 3 = .ok (.istore_n 3, 1) := by decide +kernel
theorem d_Desk_greatestWorth_4 : decode Y_Desk_greatestWorth.2.1 4 = .ok (.iload_n 3, 1) := by decide +kernel
theorem d_Desk_greatestWorth_5 : decode Y_Desk_greatestWorth.2.1 5 = .ok (.aload_n 0, 1) := by decide +kernel
theorem d_Desk_greatestWorth_6 : decode Y_Desk_greatestWorth.2.1 6 = .ok (.getfield 18, 3) := by decide +kernel
theorem d_Desk_greatestWorth_9 : decode Y_Desk_greatestWorth.2.1 9 = .ok (.getfield 92, 3) := by decide +kernel
theorem d_Desk_greatestWorth_12 : decode Y_Desk_greatestWorth.2.1 12 = .ok (.if_icmp .ge 20, 3) := by decide +kernel
theorem d_Desk_greatestWorth_15 : decode Y_Desk_greatestWorth.2.1 15 = .ok (.iload_n 2, 1) := by decide +kernel
theorem d_Desk_greatestWorth_16 : decode Y_Desk_greatestWorth.2.1 16 = .ok (.aload_n 0, 1) := by decide +kernel
theorem d_Desk_greatestWorth_17 : decode Y_Desk_greatestWorth.2.1 17 = .ok (.iload_n 1, 1) := by decide +kernel
theorem d_Desk_greatestWorth_18 : decode Y_Desk_greatestWorth.2.1 18 = .ok (.iload_n 3, 1) := by decide +kernel
theorem d_Desk_greatestWorth_19 : decode Y_Desk_greatestWorth.2.1 19 = .ok (.invokevirtual 83, 3) := by decide +kernel
theorem d_Desk_greatestWorth_22 : decode Y_Desk_greatestWorth.2.1 22 = .ok (.invokestatic 105, 3) := by decide +kernel
theorem d_Desk_greatestWorth_25 : decode Y_Desk_greatestWorth.2.1 25 = .ok (.istore_n 2, 1) := by decide +kernel
theorem d_Desk_greatestWorth_26 : decode Y_Desk_greatestWorth.2.1 26 = .ok (.iinc 3 1, 3) := by decide +kernel
theorem d_Desk_greatestWorth_29 : decode Y_Desk_greatestWorth.2.1 29 = .ok (.goto (-25), 3) := by decide +kernel
theorem d_Desk_greatestWorth_32 : decode Y_Desk_greatestWorth.2.1 32 = .ok (.iload_n 2, 1) := by decide +kernel
theorem d_Desk_greatestWorth_33 : decode Y_Desk_greatestWorth.2.1 33 = .ok (.ireturn, 1) := by decide +kernel
def f_Desk_greatestWorth (h : PH) (a0 : Option Nat) (a1 : Int32) : Option Int32 := (pj_it (X := Int32) (fun s1 : Int32 × Int32 => (gR h 0 a0 0).bind fun v3 => (gI h 1 v3 2).bind fun v4 => if v4 ≤ s1.2 then (some (.inr s1.1)) else ((cl h 0 a0 (f_Desk_worthOf h a0 a1 s1.2)).bind fun v5 => some (.inl ((if s1.1 < v5 then v5 else s1.1), (s1.2 + (1 : Int32)))))) FU ((0 : Int32), (0 : Int32))).bind fun x2 => some x2
set_option maxRecDepth 20000 in
theorem PM_Desk_greatestWorth {l : Launch} {G : Cx} {h : PH} {a0 : Option Nat} {a1 : Int32} {z : Int32} (hz : f_Desk_greatestWorth h a0 a1 = some z) : PM l G 3 0 0 Y_Desk_greatestWorth [.inr (.inr a0), .inl a1] h (some (.inl z), h) := by
  refine PM.of (Y := Y_Desk_greatestWorth) (cv := (fun z : Int32 => (((some (.inl z), h) : Option PV × PH)))) (by decide) (L0 := [some (.inr (.inr a0)), some (.inl a1), none, none]) 2 rfl (Nat.le_of_ble_eq_true rfl) ?_ hz
  unfold f_Desk_greatestWorth
  refine PJ.iconst (pc := 0) (v := 0) d_Desk_greatestWorth_0 (by decide) ?_
  refine PJ.istore_n (pc := 1) (L1 := [some (.inr (.inr a0)), some (.inl a1), some (.inl (0 : Int32)), none]) d_Desk_greatestWorth_1 (Nat.le_of_ble_eq_true rfl) rfl rfl ?_
  refine PJ.iconst (pc := 2) (v := 0) d_Desk_greatestWorth_2 (by decide) ?_
  refine PJ.istore_n (pc := 3) (L1 := [some (.inr (.inr a0)), some (.inl a1), some (.inl (0 : Int32)), some (.inl (0 : Int32))]) d_Desk_greatestWorth_3 (Nat.le_of_ble_eq_true rfl) rfl rfl ?_
  refine PJ.bind (fun x2 : Int32 => ((32 : Nat), ([none, none, some (.inl x2), none] : List (Option PV)), ([] : List PV), (h : PH), (0 : Nat), (0 : Nat))) (PJ.it (E := (fun s1 : Int32 × Int32 => ((4 : Nat), ([some (.inr (.inr a0)), some (.inl a1), some (.inl s1.1), some (.inl s1.2)] : List (Option PV)), ([] : List PV), (h : PH), (0 : Nat), (0 : Nat)))) (F := (fun x2 : Int32 => ((32 : Nat), ([none, none, some (.inl x2), none] : List (Option PV)), ([] : List PV), (h : PH), (0 : Nat), (0 : Nat)))) (fun s1 => ?_) FU ((0 : Int32), (0 : Int32))) (fun x2 => ?_)
  · show PJ l G (pj_rm 3 0 0) Y_Desk_greatestWorth 4 [some (.inr (.inr a0)), some (.inl a1), some (.inl s1.1), some (.inl s1.2)] [] h 0 0 _ _
    refine PJ.iload_n (pc := 4) d_Desk_greatestWorth_4 rfl ?_
    refine PJ.aload_n (pc := 5) d_Desk_greatestWorth_5 rfl ?_
    refine PJ.getR (pc := 6) fs_Desk_18 d_Desk_greatestWorth_6 (fun v3 => ?_)
    refine PJ.getI (pc := 9) fs_Desk_92 d_Desk_greatestWorth_9 (fun v4 => ?_)
    refine PJ.icmp_ge (pc := 12) (tgt := 32) d_Desk_greatestWorth_12 (by decide) (fun _ => ?_) (fun _ => ?_)
    · refine PJ.mk (L1 := [none, none, some (.inl s1.1), none]) [false, false, true, false] rfl ?_
      exact PJ.done rfl
    · refine PJ.iload_n (pc := 15) d_Desk_greatestWorth_15 rfl ?_
      refine PJ.aload_n (pc := 16) d_Desk_greatestWorth_16 rfl ?_
      refine PJ.iload_n (pc := 17) d_Desk_greatestWorth_17 rfl ?_
      refine PJ.iload_n (pc := 18) d_Desk_greatestWorth_18 rfl ?_
      refine PJ.cVpI (pc := 19) cs_Desk_83 (fun z hz => PM_Desk_worthOf hz) (pj_fitb rfl) rfl rfl (Nat.le_of_ble_eq_true rfl) d_Desk_greatestWorth_19 (fun v5 => ?_)
      refine PJ.mmaxI (pc := 22) (idx := 105) wd_1048 (Nat.le_of_ble_eq_true rfl) (Nat.le_of_ble_eq_true rfl) (Nat.le_of_ble_eq_true rfl) (Nat.le_of_ble_eq_true rfl) (Nat.le_of_ble_eq_true rfl) d_Desk_greatestWorth_22 ?_
      refine PJ.istore_n (pc := 25) (L1 := [some (.inr (.inr a0)), some (.inl a1), some (.inl (if s1.1 < v5 then v5 else s1.1)), some (.inl s1.2)]) d_Desk_greatestWorth_25 (Nat.le_of_ble_eq_true rfl) rfl rfl ?_
      refine PJ.iinc (pc := 26) (v := 1) (L1 := [some (.inr (.inr a0)), some (.inl a1), some (.inl (if s1.1 < v5 then v5 else s1.1)), some (.inl (s1.2 + (1 : Int32)))]) d_Desk_greatestWorth_26 rfl (by decide) (Nat.le_of_ble_eq_true rfl) rfl rfl ?_
      refine PJ.goto (pc := 29) (tgt := 4) d_Desk_greatestWorth_29 (by decide) ?_
      exact PJ.done rfl
  · show PJ l G (pj_rm 3 0 0) Y_Desk_greatestWorth 32 [none, none, some (.inl x2), none] [] h 0 0 _ _
    refine PJ.iload_n (pc := 32) d_Desk_greatestWorth_32 rfl ?_
    exact PJ.iretp (pc := 33) d_Desk_greatestWorth_33 rfl (Nat.le_of_ble_eq_true rfl) (Nat.le_of_ble_eq_true rfl)
theorem d_Desk_harmOfAll_0 : decode Y_Desk_harmOfAll.2.1 0 = .ok (.iconst 0, 1) := by decide +kernel
theorem d_Desk_harmOfAll_1 : decode Y_Desk_harmOfAll.2.1 1 = .ok (.istore_n 1, 1) := by decide +kernel
theorem d_Desk_harmOfAll_2 : decode Y_Desk_harmOfAll.2.1 2 = .ok (.iconst 0, 1) := by decide +kernel
theorem d_Desk_harmOfAll_3 : decode Y_Desk_harmOfAll.2.1 3 = .ok (.istore_n 2, 1) := by decide +kernel
theorem d_Desk_harmOfAll_4 : decode Y_Desk_harmOfAll.2.1 4 = .ok (.iload_n 2, 1) := by decide +kernel
theorem d_Desk_harmOfAll_5 : decode Y_Desk_harmOfAll.2.1 5 = .ok (.aload_n 0, 1) := by decide +kernel
theorem d_Desk_harmOfAll_6 : decode Y_Desk_harmOfAll.2.1 6 = .ok (.getfield 18, 3) := by decide +kernel
theorem d_Desk_harmOfAll_9 : decode Y_Desk_harmOfAll.2.1 9 = .ok (.getfield 95, 3) := by decide +kernel
theorem d_Desk_harmOfAll_12 : decode Y_Desk_harmOfAll.2.1 12 = .ok (.if_icmp .ge 28, 3) := by decide +kernel
theorem d_Desk_harmOfAll_15 : decode Y_Desk_harmOfAll.2.1 15 = .ok (.iload_n 1, 1) := by decide +kernel
theorem d_Desk_harmOfAll_16 : decode Y_Desk_harmOfAll.2.1 16 = .ok (.aload_n 0, 1) := by decide +kernel
theorem d_Desk_harmOfAll_17 : decode Y_Desk_harmOfAll.2.1 17 = .ok (.iload_n 2, 1) := by decide +kernel
theorem d_Desk_harmOfAll_18 : decode Y_Desk_harmOfAll.2.1 18 = .ok (.invokevirtual 102, 3) := by decide +kernel
theorem d_Desk_harmOfAll_21 : decode Y_Desk_harmOfAll.2.1 21 = .ok (.aload_n 0, 1) := by decide +kernel
theorem d_Desk_harmOfAll_22 : decode Y_Desk_harmOfAll.2.1 22 = .ok (.iload_n 2, 1) := by decide +kernel
theorem d_Desk_harmOfAll_23 : decode Y_Desk_harmOfAll.2.1 23 = .ok (.aload_n 0, 1) := by decide +kernel
theorem d_Desk_harmOfAll_24 : decode Y_Desk_harmOfAll.2.1 24 = .ok (.iload_n 2, 1) := by decide +kernel
theorem d_Desk_harmOfAll_25 : decode Y_Desk_harmOfAll.2.1 25 = .ok (.invokevirtual 98, 3) := by decide +kernel
theorem d_Desk_harmOfAll_28 : decode Y_Desk_harmOfAll.2.1 28 = .ok (.invokevirtual 89, 3) := by decide +kernel
theorem d_Desk_harmOfAll_31 : decode Y_Desk_harmOfAll.2.1 31 = .ok (.isub, 1) := by decide +kernel
theorem d_Desk_harmOfAll_32 : decode Y_Desk_harmOfAll.2.1 32 = .ok (.iadd, 1) := by decide +kernel
theorem d_Desk_harmOfAll_33 : decode Y_Desk_harmOfAll.2.1 33 = .ok (.istore_n 1, 1) := by decide +kernel
theorem d_Desk_harmOfAll_34 : decode Y_Desk_harmOfAll.2.1 34 = .ok (.iinc 2 1, 3) := by decide +kernel
theorem d_Desk_harmOfAll_37 : decode Y_Desk_harmOfAll.2.1 37 = .ok (.goto (-33), 3) := by decide +kernel
theorem d_Desk_harmOfAll_40 : decode Y_Desk_harmOfAll.2.1 40 = .ok (.iload_n 1, 1) := by decide +kernel
theorem d_Desk_harmOfAll_41 : decode Y_Desk_harmOfAll.2.1 41 = .ok (.ireturn, 1) := by decide +kernel
def f_Desk_harmOfAll (h : PH) (a0 : Option Nat) : Option Int32 := (pj_it (X := Int32) (fun s1 : Int32 × Int32 => (gR h 0 a0 0).bind fun v3 => (gI h 1 v3 3).bind fun v4 => if v4 ≤ s1.2 then (some (.inr s1.1)) else ((cl h 0 a0 (f_Desk_greatestWorth h a0 s1.2)).bind fun v5 => (cl h 0 a0 (f_Desk_choiceOf h a0 s1.2)).bind fun v6 => (cl h 0 a0 (f_Desk_leftOf h a0 s1.2 v6)).bind fun v7 => some (.inl ((s1.1 + (v5 - v7)), (s1.2 + (1 : Int32)))))) FU ((0 : Int32), (0 : Int32))).bind fun x2 => some x2
set_option maxRecDepth 20000 in
theorem PM_Desk_harmOfAll {l : Launch} {G : Cx} {h : PH} {a0 : Option Nat} {z : Int32} (hz : f_Desk_harmOfAll h a0 = some z) : PM l G 5 0 0 Y_Desk_harmOfAll [.inr (.inr a0)] h (some (.inl z), h) := by
  refine PM.of (Y := Y_Desk_harmOfAll) (cv := (fun z : Int32 => (((some (.inl z), h) : Option PV × PH)))) (by decide) (L0 := [some (.inr (.inr a0)), none, none]) 2 rfl (Nat.le_of_ble_eq_true rfl) ?_ hz
  unfold f_Desk_harmOfAll
  refine PJ.iconst (pc := 0) (v := 0) d_Desk_harmOfAll_0 (by decide) ?_
  refine PJ.istore_n (pc := 1) (L1 := [some (.inr (.inr a0)), some (.inl (0 : Int32)), none]) d_Desk_harmOfAll_1 (Nat.le_of_ble_eq_true rfl) rfl rfl ?_
  refine PJ.iconst (pc := 2) (v := 0) d_Desk_harmOfAll_2 (by decide) ?_
  refine PJ.istore_n (pc := 3) (L1 := [some (.inr (.inr a0)), some (.inl (0 : Int32)), some (.inl (0 : Int32))]) d_Desk_harmOfAll_3 (Nat.le_of_ble_eq_true rfl) rfl rfl ?_
  refine PJ.bind (fun x2 : Int32 => ((40 : Nat), ([none, some (.inl x2), none] : List (Option PV)), ([] : List PV), (h : PH), (0 : Nat), (0 : Nat))) (PJ.it (E := (fun s1 : Int32 × Int32 => ((4 : Nat), ([some (.inr (.inr a0)), some (.inl s1.1), some (.inl s1.2)] : List (Option PV)), ([] : List PV), (h : PH), (0 : Nat), (0 : Nat)))) (F := (fun x2 : Int32 => ((40 : Nat), ([none, some (.inl x2), none] : List (Option PV)), ([] : List PV), (h : PH), (0 : Nat), (0 : Nat)))) (fun s1 => ?_) FU ((0 : Int32), (0 : Int32))) (fun x2 => ?_)
  · show PJ l G (pj_rm 5 0 0) Y_Desk_harmOfAll 4 [some (.inr (.inr a0)), some (.inl s1.1), some (.inl s1.2)] [] h 0 0 _ _
    refine PJ.iload_n (pc := 4) d_Desk_harmOfAll_4 rfl ?_
    refine PJ.aload_n (pc := 5) d_Desk_harmOfAll_5 rfl ?_
    refine PJ.getR (pc := 6) fs_Desk_18 d_Desk_harmOfAll_6 (fun v3 => ?_)
    refine PJ.getI (pc := 9) fs_Desk_95 d_Desk_harmOfAll_9 (fun v4 => ?_)
    refine PJ.icmp_ge (pc := 12) (tgt := 40) d_Desk_harmOfAll_12 (by decide) (fun _ => ?_) (fun _ => ?_)
    · refine PJ.mk (L1 := [none, some (.inl s1.1), none]) [false, true, false] rfl ?_
      exact PJ.done rfl
    · refine PJ.iload_n (pc := 15) d_Desk_harmOfAll_15 rfl ?_
      refine PJ.aload_n (pc := 16) d_Desk_harmOfAll_16 rfl ?_
      refine PJ.iload_n (pc := 17) d_Desk_harmOfAll_17 rfl ?_
      refine PJ.cVpI (pc := 18) cs_Desk_102 (fun z hz => PM_Desk_greatestWorth hz) (pj_fitb rfl) rfl rfl (Nat.le_of_ble_eq_true rfl) d_Desk_harmOfAll_18 (fun v5 => ?_)
      refine PJ.aload_n (pc := 21) d_Desk_harmOfAll_21 rfl ?_
      refine PJ.iload_n (pc := 22) d_Desk_harmOfAll_22 rfl ?_
      refine PJ.aload_n (pc := 23) d_Desk_harmOfAll_23 rfl ?_
      refine PJ.iload_n (pc := 24) d_Desk_harmOfAll_24 rfl ?_
      refine PJ.cVpI (pc := 25) cs_Desk_98 (fun z hz => PM_Desk_choiceOf hz) (pj_fitb rfl) rfl rfl (Nat.le_of_ble_eq_true rfl) d_Desk_harmOfAll_25 (fun v6 => ?_)
      refine PJ.cVpI (pc := 28) cs_Desk_89 (fun z hz => PM_Desk_leftOf hz) (pj_fitb rfl) rfl rfl (Nat.le_of_ble_eq_true rfl) d_Desk_harmOfAll_28 (fun v7 => ?_)
      refine PJ.isub (pc := 31) d_Desk_harmOfAll_31 ?_
      refine PJ.iadd (pc := 32) d_Desk_harmOfAll_32 ?_
      refine PJ.istore_n (pc := 33) (L1 := [some (.inr (.inr a0)), some (.inl (s1.1 + (v5 - v7))), some (.inl s1.2)]) d_Desk_harmOfAll_33 (Nat.le_of_ble_eq_true rfl) rfl rfl ?_
      refine PJ.iinc (pc := 34) (v := 1) (L1 := [some (.inr (.inr a0)), some (.inl (s1.1 + (v5 - v7))), some (.inl (s1.2 + (1 : Int32)))]) d_Desk_harmOfAll_34 rfl (by decide) (Nat.le_of_ble_eq_true rfl) rfl rfl ?_
      refine PJ.goto (pc := 37) (tgt := 4) d_Desk_harmOfAll_37 (by decide) ?_
      exact PJ.done rfl
  · show PJ l G (pj_rm 5 0 0) Y_Desk_harmOfAll 40 [none, some (.inl x2), none] [] h 0 0 _ _
    refine PJ.iload_n (pc := 40) d_Desk_harmOfAll_40 rfl ?_
    exact PJ.iretp (pc := 41) d_Desk_harmOfAll_41 rfl (Nat.le_of_ble_eq_true rfl) (Nat.le_of_ble_eq_true rfl)
theorem d_T_harm_0 : decode Y_T_harm.2.1 0 = .ok (.aload_n 0, 1) := by decide +kernel
theorem d_T_harm_1 : decode Y_T_harm.2.1 1 = .ok (.getfield 36, 3) := by decide +kernel
theorem d_T_harm_4 : decode Y_T_harm.2.1 4 = .ok (.ifCond .eq 17, 3) := by decide +kernel
theorem d_T_harm_7 : decode Y_T_harm.2.1 7 = .ok (.aload_n 0, 1) := by decide +kernel
theorem d_T_harm_8 : decode Y_T_harm.2.1 8 = .ok (.aload_n 0, 1) := by decide +kernel
theorem d_T_harm_9 : decode Y_T_harm.2.1 9 = .ok (.invokevirtual 147, 3) := by decide +kernel
theorem d_T_harm_12 : decode Y_T_harm.2.1 12 = .ok (.invokevirtual 238, 3) := by decide +kernel
theorem d_T_harm_15 : decode Y_T_harm.2.1 15 = .ok (.invokevirtual 114, 3) := by decide +kernel
theorem d_T_harm_18 : decode Y_T_harm.2.1 18 = .ok (.goto 8, 3) := by decide +kernel
theorem d_T_harm_21 : decode Y_T_harm.2.1 21 = .ok (.aload_n 0, 1) := by decide +kernel
theorem d_T_harm_22 : decode Y_T_harm.2.1 22 = .ok (.iconst 1, 1) := by decide +kernel
theorem d_T_harm_23 : decode Y_T_harm.2.1 23 = .ok (.invokevirtual 95, 3) := by decide +kernel
theorem d_T_harm_26 : decode Y_T_harm.2.1 26 = .ok (.ireturn, 1) := by decide +kernel
def f_T_harm (h : PH) (a0 : Option Nat) : Option (Int32 × PH) := (gI h 10 a0 5).bind fun v1 => if v1 = 0 then ((cl h 10 a0 (f_T_refuse h a0 (1 : Int32))).bind fun v2 => some (v2.1, v2.2)) else ((cl h 10 a0 (f_T_present h a0)).bind fun v3 => (cl v3.2 0 v3.1 (f_Desk_harmOfAll v3.2 v3.1)).bind fun v4 => (cl v3.2 10 a0 (f_T_fine v3.2 a0 v4)).bind fun v5 => some (v5.1, v5.2))
set_option maxRecDepth 20000 in
theorem PM_T_harm {l : Launch} {G : Cx} {h : PH} {a0 : Option Nat} {z : (Int32 × PH)} (hz : f_T_harm h a0 = some z) : PM l G 6 0 0 Y_T_harm [.inr (.inr a0)] h (some (.inl z.1), z.2) := by
  refine PM.of (Y := Y_T_harm) (cv := (fun z : (Int32 × PH) => (((some (.inl z.1), z.2) : Option PV × PH)))) (by decide) (L0 := [some (.inr (.inr a0))]) 0 rfl (Nat.le_of_ble_eq_true rfl) ?_ hz
  unfold f_T_harm
  refine PJ.aload_n (pc := 0) d_T_harm_0 rfl ?_
  refine PJ.getI (pc := 1) fs_T_36 d_T_harm_1 (fun v1 => ?_)
  refine PJ.if_eq (pc := 4) (tgt := 21) d_T_harm_4 (by decide) (fun _ => ?_) (fun _ => ?_)
  · refine PJ.aload_n (pc := 21) d_T_harm_21 rfl ?_
    refine PJ.iconst (pc := 22) (v := 1) d_T_harm_22 (by decide) ?_
    refine PJ.cVI (pc := 23) cs_T_95 (fun z hz => PM_T_refuse hz) (pj_fitb rfl) rfl rfl (Nat.le_of_ble_eq_true rfl) d_T_harm_23 (fun v2 => ?_)
    exact PJ.iret (pc := 26) d_T_harm_26 rfl (Nat.le_of_ble_eq_true rfl) (Nat.le_of_ble_eq_true rfl)
  · refine PJ.aload_n (pc := 7) d_T_harm_7 rfl ?_
    refine PJ.aload_n (pc := 8) d_T_harm_8 rfl ?_
    refine PJ.cVR (pc := 9) cs_T_147 (fun z hz => PM_T_present hz) (pj_fitb rfl) rfl rfl (Nat.le_of_ble_eq_true rfl) d_T_harm_9 (fun v3 => ?_)
    refine PJ.cVpI (pc := 12) cs_T_238 (fun z hz => PM_Desk_harmOfAll hz) (pj_fitb rfl) rfl rfl (Nat.le_of_ble_eq_true rfl) d_T_harm_12 (fun v4 => ?_)
    refine PJ.cVI (pc := 15) cs_T_114 (fun z hz => PM_T_fine hz) (pj_fitb rfl) rfl rfl (Nat.le_of_ble_eq_true rfl) d_T_harm_15 (fun v5 => ?_)
    refine PJ.goto (pc := 18) (tgt := 26) d_T_harm_18 (by decide) ?_
    exact PJ.iret (pc := 26) d_T_harm_26 rfl (Nat.le_of_ble_eq_true rfl) (Nat.le_of_ble_eq_true rfl)
theorem d_T_boundsTrouble_0 : decode Y_T_boundsTrouble.2.1 0 = .ok (.aload_n 0, 1) := by decide +kernel
theorem d_T_boundsTrouble_1 : decode Y_T_boundsTrouble.2.1 1 = .ok (.getfield 36, 3) := by decide +kernel
theorem d_T_boundsTrouble_4 : decode Y_T_boundsTrouble.2.1 4 = .ok (.ifCond .ne 5, 3) := by decide +kernel
theorem d_T_boundsTrouble_7 : decode Y_T_boundsTrouble.2.1 7 = .ok (.iconst 1, 1) := by decide +kernel
theorem d_T_boundsTrouble_8 : decode Y_T_boundsTrouble.2.1 8 = .ok (.ireturn, 1) := by decide +kernel
theorem d_T_boundsTrouble_9 : decode Y_T_boundsTrouble.2.1 9 = .ok (.iload_n 1, 1) := by decide +kernel
theorem d_T_boundsTrouble_10 : decode Y_T_boundsTrouble.2.1 10 = .ok (.iload_n 2, 1) := by decide +kernel
theorem d_T_boundsTrouble_11 : decode Y_T_boundsTrouble.2.1 11 = .ok (.if_icmp .lt 8, 3) := by decide +kernel
theorem d_T_boundsTrouble_14 : decode Y_T_boundsTrouble.2.1 14 = .ok (.iload_n 1, 1) := by decide +kernel
theorem d_T_boundsTrouble_15 : decode Y_T_boundsTrouble.2.1 15 = .ok (.iload_n 3, 1) := by decide +kernel
theorem d_T_boundsTrouble_16 : decode Y_T_boundsTrouble.2.1 16 = .ok (.if_icmp .le 7, 3) := by decide +kernel
theorem d_T_boundsTrouble_19 : decode Y_T_boundsTrouble.2.1 19 = .ok (.iconst 2, 1) := by decide +kernel
theorem d_T_boundsTrouble_20 : decode Y_T_boundsTrouble.2.1 20 = .ok (.goto 4, 3) := by decide +kernel
theorem d_T_boundsTrouble_23 : decode Y_T_boundsTrouble.2.1 23 = .ok (.iconst 0, 1) := by decide +kernel
theorem d_T_boundsTrouble_24 : decode Y_T_boundsTrouble.2.1 24 = .ok (.ireturn, 1) := by decide +kernel
def f_T_boundsTrouble (h : PH) (a0 : Option Nat) (a1 : Int32) (a2 : Int32) (a3 : Int32) : Option Int32 := (gI h 10 a0 5).bind fun v1 => if ¬ v1 = 0 then (if a1 < a2 then (some (2 : Int32)) else (if a1 ≤ a3 then (some (0 : Int32)) else (some (2 : Int32)))) else (some (1 : Int32))
set_option maxRecDepth 20000 in
theorem PM_T_boundsTrouble {l : Launch} {G : Cx} {h : PH} {a0 : Option Nat} {a1 : Int32} {a2 : Int32} {a3 : Int32} {z : Int32} (hz : f_T_boundsTrouble h a0 a1 a2 a3 = some z) : PM l G 1 0 0 Y_T_boundsTrouble [.inr (.inr a0), .inl a1, .inl a2, .inl a3] h (some (.inl z), h) := by
  refine PM.of (Y := Y_T_boundsTrouble) (cv := (fun z : Int32 => (((some (.inl z), h) : Option PV × PH)))) (by decide) (L0 := [some (.inr (.inr a0)), some (.inl a1), some (.inl a2), some (.inl a3)]) 0 rfl (Nat.le_of_ble_eq_true rfl) ?_ hz
  unfold f_T_boundsTrouble
  refine PJ.aload_n (pc := 0) d_T_boundsTrouble_0 rfl ?_
  refine PJ.getI (pc := 1) fs_T_36 d_T_boundsTrouble_1 (fun v1 => ?_)
  refine PJ.if_ne (pc := 4) (tgt := 9) d_T_boundsTrouble_4 (by decide) (fun _ => ?_) (fun _ => ?_)
  · refine PJ.iload_n (pc := 9) d_T_boundsTrouble_9 rfl ?_
    refine PJ.iload_n (pc := 10) d_T_boundsTrouble_10 rfl ?_
    refine PJ.icmp_lt (pc := 11) (tgt := 19) d_T_boundsTrouble_11 (by decide) (fun _ => ?_) (fun _ => ?_)
    · refine PJ.iconst (pc := 19) (v := 2) d_T_boundsTrouble_19 (by decide) ?_
      refine PJ.goto (pc := 20) (tgt := 24) d_T_boundsTrouble_20 (by decide) ?_
      exact PJ.iretp (pc := 24) d_T_boundsTrouble_24 rfl (Nat.le_of_ble_eq_true rfl) (Nat.le_of_ble_eq_true rfl)
    · refine PJ.iload_n (pc := 14) d_T_boundsTrouble_14 rfl ?_
      refine PJ.iload_n (pc := 15) d_T_boundsTrouble_15 rfl ?_
      refine PJ.icmp_le (pc := 16) (tgt := 23) d_T_boundsTrouble_16 (by decide) (fun _ => ?_) (fun _ => ?_)
      · refine PJ.iconst (pc := 23) (v := 0) d_T_boundsTrouble_23 (by decide) ?_
        exact PJ.iretp (pc := 24) d_T_boundsTrouble_24 rfl (Nat.le_of_ble_eq_true rfl) (Nat.le_of_ble_eq_true rfl)
      · refine PJ.iconst (pc := 19) (v := 2) d_T_boundsTrouble_19 (by decide) ?_
        refine PJ.goto (pc := 20) (tgt := 24) d_T_boundsTrouble_20 (by decide) ?_
        exact PJ.iretp (pc := 24) d_T_boundsTrouble_24 rfl (Nat.le_of_ble_eq_true rfl) (Nat.le_of_ble_eq_true rfl)
  · refine PJ.iconst (pc := 7) (v := 1) d_T_boundsTrouble_7 (by decide) ?_
    exact PJ.iretp (pc := 8) d_T_boundsTrouble_8 rfl (Nat.le_of_ble_eq_true rfl) (Nat.le_of_ble_eq_true rfl)
theorem d_T_byTable_0 : decode Y_T_byTable.2.1 0 = .ok (.aload_n 0, 1) := by decide +kernel
theorem d_T_byTable_1 : decode Y_T_byTable.2.1 1 = .ok (.getfield 55, 3) := by decide +kernel
theorem d_T_byTable_4 : decode Y_T_byTable.2.1 4 = .ok (.aload_n 0, 1) := by decide +kernel
theorem d_T_byTable_5 : decode Y_T_byTable.2.1 5 = .ok (.getfield 20, 3) := by decide +kernel
theorem d_T_byTable_8 : decode Y_T_byTable.2.1 8 = .ok (.aload_n 0, 1) := by decide +kernel
theorem d_T_byTable_9 : decode Y_T_byTable.2.1 9 = .ok (.getfield 43, 3) := by decide +kernel
theorem d_T_byTable_12 : decode Y_T_byTable.2.1 12 = .ok (.invokevirtual 252, 3) := by decide +kernel
theorem d_T_byTable_15 : decode Y_T_byTable.2.1 15 = .ok (.aload_n 0, 1) := by decide +kernel
theorem d_T_byTable_16 : decode Y_T_byTable.2.1 16 = .ok (.getfield 55, 3) := by decide +kernel
theorem d_T_byTable_19 : decode Y_T_byTable.2.1 19 = .ok (.iload_n 1, 1) := by decide +kernel
theorem d_T_byTable_20 : decode Y_T_byTable.2.1 20 = .ok (.putfield 255, 3) := by decide +kernel
theorem d_T_byTable_23 : decode Y_T_byTable.2.1 23 = .ok (.aload_n 0, 1) := by decide +kernel
theorem d_T_byTable_24 : decode Y_T_byTable.2.1 24 = .ok (.getfield 55, 3) := by decide +kernel
theorem d_T_byTable_27 : decode Y_T_byTable.2.1 27 = .ok (.areturn, 1) := by decide +kernel
def f_T_byTable (h : PH) (a0 : Option Nat) (a1 : Int32) : Option (Option Nat × PH) := (gR h 10 a0 8).bind fun v1 => (gR h 10 a0 2).bind fun v2 => (gR h 10 a0 6).bind fun v3 => (cl h 0 v1 (f_Desk_look h v1 v2 v3)).bind fun h4 => (gR h4 10 a0 8).bind fun v5 => (sF h4 0 v5 2 (.inl a1)).bind fun h6 => (gR h6 10 a0 8).bind fun v7 => some (v7, h6)
set_option maxRecDepth 20000 in
theorem PM_T_byTable {l : Launch} {G : Cx} {h : PH} {a0 : Option Nat} {a1 : Int32} {z : (Option Nat × PH)} (hz : f_T_byTable h a0 a1 = some z) : PM l G 2 0 0 Y_T_byTable [.inr (.inr a0), .inl a1] h (some (.inr (.inr z.1)), z.2) := by
  refine PM.of (Y := Y_T_byTable) (cv := (fun z : (Option Nat × PH) => (((some (.inr (.inr z.1)), z.2) : Option PV × PH)))) (by decide) (L0 := [some (.inr (.inr a0)), some (.inl a1)]) 0 rfl (Nat.le_of_ble_eq_true rfl) ?_ hz
  unfold f_T_byTable
  refine PJ.aload_n (pc := 0) d_T_byTable_0 rfl ?_
  refine PJ.getR (pc := 1) fs_T_55 d_T_byTable_1 (fun v1 => ?_)
  refine PJ.aload_n (pc := 4) d_T_byTable_4 rfl ?_
  refine PJ.getR (pc := 5) fs_T_20 d_T_byTable_5 (fun v2 => ?_)
  refine PJ.aload_n (pc := 8) d_T_byTable_8 rfl ?_
  refine PJ.getR (pc := 9) fs_T_43 d_T_byTable_9 (fun v3 => ?_)
  refine PJ.cVV (pc := 12) cs_T_252 (fun z hz => PM_Desk_look hz) (pj_fitb rfl) rfl rfl (Nat.le_of_ble_eq_true rfl) d_T_byTable_12 (fun h4 => ?_)
  refine PJ.aload_n (pc := 15) d_T_byTable_15 rfl ?_
  refine PJ.getR (pc := 16) fs_T_55 d_T_byTable_16 (fun v5 => ?_)
  refine PJ.iload_n (pc := 19) d_T_byTable_19 rfl ?_
  refine PJ.putI (pc := 20) ps_T_255 d_T_byTable_20 (fun h6 => ?_)
  refine PJ.aload_n (pc := 23) d_T_byTable_23 rfl ?_
  refine PJ.getR (pc := 24) fs_T_55 d_T_byTable_24 (fun v7 => ?_)
  exact PJ.aret (pc := 27) d_T_byTable_27 rfl (Or.inl ⟨_, rfl⟩) (Nat.le_of_ble_eq_true rfl) (Nat.le_of_ble_eq_true rfl)
theorem d_T_raisedBy_0 : decode Y_T_raisedBy.2.1 0 = .ok (.aload_n 0, 1) := by decide +kernel
theorem d_T_raisedBy_1 : decode Y_T_raisedBy.2.1 1 = .ok (.iload_n 1, 1) := by decide +kernel
theorem d_T_raisedBy_2 : decode Y_T_raisedBy.2.1 2 = .ok (.iconst 0, 1) := by decide +kernel
theorem d_T_raisedBy_3 : decode Y_T_raisedBy.2.1 3 = .ok (.bipush 9, 2) := by decide +kernel
theorem d_T_raisedBy_5 : decode Y_T_raisedBy.2.1 5 = .ok (.invokevirtual 241, 3) := by decide +kernel
theorem d_T_raisedBy_8 : decode Y_T_raisedBy.2.1 8 = .ok (.istore_n 2, 1) := by decide +kernel
theorem d_T_raisedBy_9 : decode Y_T_raisedBy.2.1 9 = .ok (.iload_n 2, 1) := by decide +kernel
theorem d_T_raisedBy_10 : decode Y_T_raisedBy.2.1 10 = .ok (.ifCond .ne 18, 3) := by decide +kernel
theorem d_T_raisedBy_13 : decode Y_T_raisedBy.2.1 13 = .ok (.aload_n 0, 1) := by decide +kernel
theorem d_T_raisedBy_14 : decode Y_T_raisedBy.2.1 14 = .ok (.aload_n 0, 1) := by decide +kernel
theorem d_T_raisedBy_15 : decode Y_T_raisedBy.2.1 15 = .ok (.iload_n 1, 1) := by decide +kernel
theorem d_T_raisedBy_16 : decode Y_T_raisedBy.2.1 16 = .ok (.invokevirtual 245, 3) := by decide +kernel
theorem d_T_raisedBy_19 : decode Y_T_raisedBy.2.1 19 = .ok (.invokevirtual 235, 3) := by decide +kernel
theorem d_T_raisedBy_22 : decode Y_T_raisedBy.2.1 22 = .ok (.invokevirtual 114, 3) := by decide +kernel
theorem d_T_raisedBy_25 : decode Y_T_raisedBy.2.1 25 = .ok (.goto 8, 3) := by decide +kernel
theorem d_T_raisedBy_28 : decode Y_T_raisedBy.2.1 28 = .ok (.aload_n 0, 1) := by decide +kernel
theorem d_T_raisedBy_29 : decode Y_T_raisedBy.2.1 29 = .ok (.iload_n 2, 1) := by decide +kernel
theorem d_T_raisedBy_30 : decode Y_T_raisedBy.2.1 30 = .ok (.invokevirtual 95, 3) := by decide +kernel
theorem d_T_raisedBy_33 : decode Y_T_raisedBy.2.1 33 = .ok (.ireturn, 1) := by decide +kernel
def f_T_raisedBy (h : PH) (a0 : Option Nat) (a1 : Int32) : Option (Int32 × PH) := (cl h 10 a0 (f_T_boundsTrouble h a0 a1 (0 : Int32) (9 : Int32))).bind fun v1 => if ¬ v1 = 0 then ((cl h 10 a0 (f_T_refuse h a0 v1)).bind fun v2 => some (v2.1, v2.2)) else ((cl h 10 a0 (f_T_byTable h a0 a1)).bind fun v3 => (cl v3.2 0 v3.1 (f_Desk_raisedOfAll v3.2 v3.1)).bind fun v4 => (cl v3.2 10 a0 (f_T_fine v3.2 a0 v4)).bind fun v5 => some (v5.1, v5.2))
set_option maxRecDepth 20000 in
theorem PM_T_raisedBy {l : Launch} {G : Cx} {h : PH} {a0 : Option Nat} {a1 : Int32} {z : (Int32 × PH)} (hz : f_T_raisedBy h a0 a1 = some z) : PM l G 6 0 0 Y_T_raisedBy [.inr (.inr a0), .inl a1] h (some (.inl z.1), z.2) := by
  refine PM.of (Y := Y_T_raisedBy) (cv := (fun z : (Int32 × PH) => (((some (.inl z.1), z.2) : Option PV × PH)))) (by decide) (L0 := [some (.inr (.inr a0)), some (.inl a1), none]) 1 rfl (Nat.le_of_ble_eq_true rfl) ?_ hz
  unfold f_T_raisedBy
  refine PJ.aload_n (pc := 0) d_T_raisedBy_0 rfl ?_
  refine PJ.iload_n (pc := 1) d_T_raisedBy_1 rfl ?_
  refine PJ.iconst (pc := 2) (v := 0) d_T_raisedBy_2 (by decide) ?_
  refine PJ.bipush (pc := 3) (v := 9) d_T_raisedBy_3 (by decide) ?_
  refine PJ.cVpI (pc := 5) cs_T_241 (fun z hz => PM_T_boundsTrouble hz) (pj_fitb rfl) rfl rfl (Nat.le_of_ble_eq_true rfl) d_T_raisedBy_5 (fun v1 => ?_)
  refine PJ.istore_n (pc := 8) (L1 := [some (.inr (.inr a0)), some (.inl a1), some (.inl v1)]) d_T_raisedBy_8 (Nat.le_of_ble_eq_true rfl) rfl rfl ?_
  refine PJ.iload_n (pc := 9) d_T_raisedBy_9 rfl ?_
  refine PJ.if_ne (pc := 10) (tgt := 28) d_T_raisedBy_10 (by decide) (fun _ => ?_) (fun _ => ?_)
  · refine PJ.aload_n (pc := 28) d_T_raisedBy_28 rfl ?_
    refine PJ.iload_n (pc := 29) d_T_raisedBy_29 rfl ?_
    refine PJ.cVI (pc := 30) cs_T_95 (fun z hz => PM_T_refuse hz) (pj_fitb rfl) rfl rfl (Nat.le_of_ble_eq_true rfl) d_T_raisedBy_30 (fun v2 => ?_)
    exact PJ.iret (pc := 33) d_T_raisedBy_33 rfl (Nat.le_of_ble_eq_true rfl) (Nat.le_of_ble_eq_true rfl)
  · refine PJ.aload_n (pc := 13) d_T_raisedBy_13 rfl ?_
    refine PJ.aload_n (pc := 14) d_T_raisedBy_14 rfl ?_
    refine PJ.iload_n (pc := 15) d_T_raisedBy_15 rfl ?_
    refine PJ.cVR (pc := 16) cs_T_245 (fun z hz => PM_T_byTable hz) (pj_fitb rfl) rfl rfl (Nat.le_of_ble_eq_true rfl) d_T_raisedBy_16 (fun v3 => ?_)
    refine PJ.cVpI (pc := 19) cs_T_235 (fun z hz => PM_Desk_raisedOfAll hz) (pj_fitb rfl) rfl rfl (Nat.le_of_ble_eq_true rfl) d_T_raisedBy_19 (fun v4 => ?_)
    refine PJ.cVI (pc := 22) cs_T_114 (fun z hz => PM_T_fine hz) (pj_fitb rfl) rfl rfl (Nat.le_of_ble_eq_true rfl) d_T_raisedBy_22 (fun v5 => ?_)
    refine PJ.goto (pc := 25) (tgt := 33) d_T_raisedBy_25 (by decide) ?_
    exact PJ.iret (pc := 33) d_T_raisedBy_33 rfl (Nat.le_of_ble_eq_true rfl) (Nat.le_of_ble_eq_true rfl)
theorem d_T_harmBy_0 : decode Y_T_harmBy.2.1 0 = .ok (.aload_n 0, 1) := by decide +kernel
theorem d_T_harmBy_1 : decode Y_T_harmBy.2.1 1 = .ok (.iload_n 1, 1) := by decide +kernel
theorem d_T_harmBy_2 : decode Y_T_harmBy.2.1 2 = .ok (.iconst 0, 1) := by decide +kernel
theorem d_T_harmBy_3 : decode Y_T_harmBy.2.1 3 = .ok (.bipush 9, 2) := by decide +kernel
theorem d_T_harmBy_5 : decode Y_T_harmBy.2.1 5 = .ok (.invokevirtual 241, 3) := by decide +kernel
theorem d_T_harmBy_8 : decode Y_T_harmBy.2.1 8 = .ok (.istore_n 2, 1) := by decide +kernel
theorem d_T_harmBy_9 : decode Y_T_harmBy.2.1 9 = .ok (.iload_n 2, 1) := by decide +kernel
theorem d_T_harmBy_10 : decode Y_T_harmBy.2.1 10 = .ok (.ifCond .ne 18, 3) := by decide +kernel
theorem d_T_harmBy_13 : decode Y_T_harmBy.2.1 13 = .ok (.aload_n 0, 1) := by decide +kernel
theorem d_T_harmBy_14 : decode Y_T_harmBy.2.1 14 = .ok (.aload_n 0, 1) := by decide +kernel
theorem d_T_harmBy_15 : decode Y_T_harmBy.2.1 15 = .ok (.iload_n 1, 1) := by decide +kernel
theorem d_T_harmBy_16 : decode Y_T_harmBy.2.1 16 = .ok (.invokevirtual 245, 3) := by decide +kernel
theorem d_T_harmBy_19 : decode Y_T_harmBy.2.1 19 = .ok (.invokevirtual 238, 3) := by decide +kernel
theorem d_T_harmBy_22 : decode Y_T_harmBy.2.1 22 = .ok (.invokevirtual 114, 3) := by decide +kernel
theorem d_T_harmBy_25 : decode Y_T_harmBy.2.1 25 = .ok (.goto 8, 3) := by decide +kernel
theorem d_T_harmBy_28 : decode Y_T_harmBy.2.1 28 = .ok (.aload_n 0, 1) := by decide +kernel
theorem d_T_harmBy_29 : decode Y_T_harmBy.2.1 29 = .ok (.iload_n 2, 1) := by decide +kernel
theorem d_T_harmBy_30 : decode Y_T_harmBy.2.1 30 = .ok (.invokevirtual 95, 3) := by decide +kernel
theorem d_T_harmBy_33 : decode Y_T_harmBy.2.1 33 = .ok (.ireturn, 1) := by decide +kernel
def f_T_harmBy (h : PH) (a0 : Option Nat) (a1 : Int32) : Option (Int32 × PH) := (cl h 10 a0 (f_T_boundsTrouble h a0 a1 (0 : Int32) (9 : Int32))).bind fun v1 => if ¬ v1 = 0 then ((cl h 10 a0 (f_T_refuse h a0 v1)).bind fun v2 => some (v2.1, v2.2)) else ((cl h 10 a0 (f_T_byTable h a0 a1)).bind fun v3 => (cl v3.2 0 v3.1 (f_Desk_harmOfAll v3.2 v3.1)).bind fun v4 => (cl v3.2 10 a0 (f_T_fine v3.2 a0 v4)).bind fun v5 => some (v5.1, v5.2))
set_option maxRecDepth 20000 in
theorem PM_T_harmBy {l : Launch} {G : Cx} {h : PH} {a0 : Option Nat} {a1 : Int32} {z : (Int32 × PH)} (hz : f_T_harmBy h a0 a1 = some z) : PM l G 6 0 0 Y_T_harmBy [.inr (.inr a0), .inl a1] h (some (.inl z.1), z.2) := by
  refine PM.of (Y := Y_T_harmBy) (cv := (fun z : (Int32 × PH) => (((some (.inl z.1), z.2) : Option PV × PH)))) (by decide) (L0 := [some (.inr (.inr a0)), some (.inl a1), none]) 1 rfl (Nat.le_of_ble_eq_true rfl) ?_ hz
  unfold f_T_harmBy
  refine PJ.aload_n (pc := 0) d_T_harmBy_0 rfl ?_
  refine PJ.iload_n (pc := 1) d_T_harmBy_1 rfl ?_
  refine PJ.iconst (pc := 2) (v := 0) d_T_harmBy_2 (by decide) ?_
  refine PJ.bipush (pc := 3) (v := 9) d_T_harmBy_3 (by decide) ?_
  refine PJ.cVpI (pc := 5) cs_T_241 (fun z hz => PM_T_boundsTrouble hz) (pj_fitb rfl) rfl rfl (Nat.le_of_ble_eq_true rfl) d_T_harmBy_5 (fun v1 => ?_)
  refine PJ.istore_n (pc := 8) (L1 := [some (.inr (.inr a0)), some (.inl a1), some (.inl v1)]) d_T_harmBy_8 (Nat.le_of_ble_eq_true rfl) rfl rfl ?_
  refine PJ.iload_n (pc := 9) d_T_harmBy_9 rfl ?_
  refine PJ.if_ne (pc := 10) (tgt := 28) d_T_harmBy_10 (by decide) (fun _ => ?_) (fun _ => ?_)
  · refine PJ.aload_n (pc := 28) d_T_harmBy_28 rfl ?_
    refine PJ.iload_n (pc := 29) d_T_harmBy_29 rfl ?_
    refine PJ.cVI (pc := 30) cs_T_95 (fun z hz => PM_T_refuse hz) (pj_fitb rfl) rfl rfl (Nat.le_of_ble_eq_true rfl) d_T_harmBy_30 (fun v2 => ?_)
    exact PJ.iret (pc := 33) d_T_harmBy_33 rfl (Nat.le_of_ble_eq_true rfl) (Nat.le_of_ble_eq_true rfl)
  · refine PJ.aload_n (pc := 13) d_T_harmBy_13 rfl ?_
    refine PJ.aload_n (pc := 14) d_T_harmBy_14 rfl ?_
    refine PJ.iload_n (pc := 15) d_T_harmBy_15 rfl ?_
    refine PJ.cVR (pc := 16) cs_T_245 (fun z hz => PM_T_byTable hz) (pj_fitb rfl) rfl rfl (Nat.le_of_ble_eq_true rfl) d_T_harmBy_16 (fun v3 => ?_)
    refine PJ.cVpI (pc := 19) cs_T_238 (fun z hz => PM_Desk_harmOfAll hz) (pj_fitb rfl) rfl rfl (Nat.le_of_ble_eq_true rfl) d_T_harmBy_19 (fun v4 => ?_)
    refine PJ.cVI (pc := 22) cs_T_114 (fun z hz => PM_T_fine hz) (pj_fitb rfl) rfl rfl (Nat.le_of_ble_eq_true rfl) d_T_harmBy_22 (fun v5 => ?_)
    refine PJ.goto (pc := 25) (tgt := 33) d_T_harmBy_25 (by decide) ?_
    exact PJ.iret (pc := 33) d_T_harmBy_33 rfl (Nat.le_of_ble_eq_true rfl) (Nat.le_of_ble_eq_true rfl)
theorem d_T_bestTable_0 : decode Y_T_bestTable.2.1 0 = .ok (.aload_n 0, 1) := by decide +kernel
theorem d_T_bestTable_1 : decode Y_T_bestTable.2.1 1 = .ok (.getfield 36, 3) := by decide +kernel
theorem d_T_bestTable_4 : decode Y_T_bestTable.2.1 4 = .ok (.ifCond .ne 9, 3) := by decide +kernel
theorem d_T_bestTable_7 : decode Y_T_bestTable.2.1 7 = .ok (.aload_n 0, 1) := by decide +kernel
theorem d_T_bestTable_8 : decode Y_T_bestTable.2.1 8 = .ok (.iconst 1, 1) := by decide +kernel
theorem d_T_bestTable_9 : decode Y_T_bestTable.2.1 9 = .ok (.invokevirtual 95, 3) := by decide +kernel
theorem d_T_bestTable_12 : decode Y_T_bestTable.2.1 12 = .ok (.ireturn, 1) := by decide +kernel
theorem d_T_bestTable_13 : decode Y_T_bestTable.2.1 13 = .ok (.iconst 0, 1) := by decide +kernel
theorem d_T_bestTable_14 : decode Y_T_bestTable.2.1 14 = .ok (.istore_n 1, 1) := by decide +kernel
theorem d_T_bestTable_15 : decode Y_T_bestTable.2.1 15 = .ok (.aload_n 0, 1) := by decide +kernel
theorem d_T_bestTable_16 : decode Y_T_bestTable.2.1 16 = .ok (.iconst 0, 1) := by decide +kernel
theorem d_T_bestTable_17 : decode Y_T_bestTable.2.1 17 = .ok (.invokevirtual 245, 3) := by decide +kernel
theorem d_T_bestTable_20 : decode Y_T_bestTable.2.1 20 = .ok (.invokevirtual 235, 3) := by decide +kernel
theorem d_T_bestTable_23 : decode Y_T_bestTable.2.1 23 = .ok (.istore_n 2, 1) := by decide +kernel
theorem d_T_bestTable_24 : decode Y_T_bestTable.2.1 24 = .ok (.aload_n 0, 1) := by decide +kernel
theorem d_T_bestTable_25 : decode Y_T_bestTable.2.1 25 = .ok (.iconst 0, 1) := by decide +kernel
theorem d_T_bestTable_26 : decode Y_T_bestTable.2.1 26 = .ok (.invokevirtual 245, 3) := by decide +kernel
theorem d_T_bestTable_29 : decode Y_T_bestTable.2.1 29 = .ok (.invokevirtual 238, 3) := by decide +kernel
theorem d_T_bestTable_32 : decode Y_T_bestTable.2.1 32 = .ok (.istore_n 3, 1) := by decide +kernel
theorem d_T_bestTable_33 : decode Y_T_bestTable.2.1 33 = .ok (.iconst 1, 1) := by decide +kernel
theorem d_T_bestTable_34 : decode Y_T_bestTable.2.1 34 = .ok (.istore 4, 2) := by decide +kernel
theorem d_T_bestTable_36 : decode Y_T_bestTable.2.1 36 = .ok (.iload 4, 2) := by decide +kernel
theorem d_T_bestTable_38 : decode Y_T_bestTable.2.1 38 = .ok (.bipush 9, 2) := by decide +kernel
theorem d_T_bestTable_40 : decode Y_T_bestTable.2.1 40 = .ok (.if_icmp .gt 58, 3) := by decide +kernel
theorem d_T_bestTable_43 : decode Y_T_bestTable.2.1 43 = .ok (.aload_n 0, 1) := by decide +kernel
theorem d_T_bestTable_44 : decode Y_T_bestTable.2.1 44 = .ok (.iload 4, 2) := by decide +kernel
theorem d_T_bestTable_46 : decode Y_T_bestTable.2.1 46 = .ok (.invokevirtual 245, 3) := by decide +kernel
theorem d_T_bestTable_49 : decode Y_T_bestTable.2.1 49 = .ok (.invokevirtual 235, 3) := by decide +kernel
theorem d_T_bestTable_52 : decode Y_T_bestTable.2.1 52 = .ok (.istore 5, 2) := by decide +kernel
theorem d_T_bestTable_54 : decode Y_T_bestTable.2.1 54 = .ok (.aload_n 0, 1) := by decide +kernel
theorem d_T_bestTable_55 : decode Y_T_bestTable.2.1 55 = .ok (.iload 4, 2) := by decide +kernel
theorem d_T_bestTable_57 : decode Y_T_bestTable.2.1 57 = .ok (.invokevirtual 245, 3) := by decide +kernel
theorem d_T_bestTable_60 : decode Y_T_bestTable.2.1 60 = .ok (.invokevirtual 238, 3) := by decide +kernel
theorem d_T_bestTable_63 : decode Y_T_bestTable.2.1 63 = .ok (.istore 6, 2) := by decide +kernel
theorem d_T_bestTable_65 : decode Y_T_bestTable.2.1 65 = .ok (.iload 5, 2) := by decide +kernel
theorem d_T_bestTable_67 : decode Y_T_bestTable.2.1 67 = .ok (.iload_n 2, 1) := by decide +kernel
theorem d_T_bestTable_68 : decode Y_T_bestTable.2.1 68 = .ok (.if_icmp .gt 15, 3) := by decide +kernel
theorem d_T_bestTable_71 : decode Y_T_bestTable.2.1 71 = .ok (.iload 5, 2) := by decide +kernel
theorem d_T_bestTable_73 : decode Y_T_bestTable.2.1 73 = .ok (.iload_n 2, 1) := by decide +kernel
theorem d_T_bestTable_74 : decode Y_T_bestTable.2.1 74 = .ok (.if_icmp .ne 18, 3) := by decide +kernel
theorem d_T_bestTable_77 : decode Y_T_bestTable.2.1 77 = .ok (.iload 6, 2) := by decide +kernel
theorem d_T_bestTable_79 : decode Y_T_bestTable.2.1 79 = .ok (.iload_n 3, 1) := by decide +kernel
theorem d_T_bestTable_80 : decode Y_T_bestTable.2.1 80 = .ok (.if_icmp .ge 12, 3) := by decide +kernel
theorem d_T_bestTable_83 : decode Y_T_bestTable.2.1 83 = .ok (.iload 4, 2) := by decide +kernel
theorem d_T_bestTable_85 : decode Y_T_bestTable.2.1 85 = .ok (.istore_n 1, 1) := by decide +kernel
theorem d_T_bestTable_86 : decode Y_T_bestTable.2.1 86 = .ok (.iload 5, 2) := by decide +kernel
theorem d_T_bestTable_88 : decode Y_T_bestTable.2.1 88 = .ok (.istore_n 2, 1) := by decide +kernel
theorem d_T_bestTable_89 : decode Y_T_bestTable.2.1 89 = .ok (.iload 6, 2) := by decide +kernel
theorem d_T_bestTable_91 : decode Y_T_bestTable.2.1 91 = .ok (.istore_n 3, 1) := by decide +kernel
theorem d_T_bestTable_92 : decode Y_T_bestTable.2.1 92 = .ok (.iinc 4 1, 3) := by decide +kernel
theorem d_T_bestTable_95 : decode Y_T_bestTable.2.1 95 = .ok (.goto (-59), 3) := by decide +kernel
theorem d_T_bestTable_98 : decode Y_T_bestTable.2.1 98 = .ok (.aload_n 0, 1) := by decide +kernel
theorem d_T_bestTable_99 : decode Y_T_bestTable.2.1 99 = .ok (.iload_n 1, 1) := by decide +kernel
theorem d_T_bestTable_100 : decode Y_T_bestTable.2.1 100 = .ok (.invokevirtual 114, 3) := by decide +kernel
theorem d_T_bestTable_103 : decode Y_T_bestTable.2.1 103 = .ok (.ireturn, 1) := by decide +kernel
def f_T_bestTable (h : PH) (a0 : Option Nat) : Option (Int32 × PH) := (gI h 10 a0 5).bind fun v1 => if ¬ v1 = 0 then ((cl h 10 a0 (f_T_byTable h a0 (0 : Int32))).bind fun v2 => (cl v2.2 0 v2.1 (f_Desk_raisedOfAll v2.2 v2.1)).bind fun v3 => (cl v2.2 10 a0 (f_T_byTable v2.2 a0 (0 : Int32))).bind fun v4 => (cl v4.2 0 v4.1 (f_Desk_harmOfAll v4.2 v4.1)).bind fun v5 => (pj_it (X := Int32 × PH) (fun s6 : Int32 × Int32 × Int32 × Int32 × PH => if (9 : Int32) < s6.2.2.2.1 then (some (.inr (s6.1, s6.2.2.2.2))) else ((cl s6.2.2.2.2 10 a0 (f_T_byTable s6.2.2.2.2 a0 s6.2.2.2.1)).bind fun v8 => (cl v8.2 0 v8.1 (f_Desk_raisedOfAll v8.2 v8.1)).bind fun v9 => (cl v8.2 10 a0 (f_T_byTable v8.2 a0 s6.2.2.2.1)).bind fun v10 => (cl v10.2 0 v10.1 (f_Desk_harmOfAll v10.2 v10.1)).bind fun v11 => if s6.2.1 < v9 then (some (.inl (s6.2.2.2.1, v9, v11, (s6.2.2.2.1 + (1 : Int32)), v10.2))) else (if ¬ v9 = s6.2.1 then (some (.inl (s6.1, s6.2.1, s6.2.2.1, (s6.2.2.2.1 + (1 : Int32)), v10.2))) else (if s6.2.2.1 ≤ v11 then (some (.inl (s6.1, s6.2.1, s6.2.2.1, (s6.2.2.2.1 + (1 : Int32)), v10.2))) else (some (.inl (s6.2.2.2.1, v9, v11, (s6.2.2.2.1 + (1 : Int32)), v10.2))))))) FU ((0 : Int32), v3, v5, (1 : Int32), v4.2)).bind fun x7 => (cl x7.2 10 a0 (f_T_fine x7.2 a0 x7.1)).bind fun v12 => some (v12.1, v12.2)) else ((cl h 10 a0 (f_T_refuse h a0 (1 : Int32))).bind fun v13 => some (v13.1, v13.2))
set_option maxRecDepth 20000 in
theorem PM_T_bestTable {l : Launch} {G : Cx} {h : PH} {a0 : Option Nat} {z : (Int32 × PH)} (hz : f_T_bestTable h a0 = some z) : PM l G 6 0 0 Y_T_bestTable [.inr (.inr a0)] h (some (.inl z.1), z.2) := by
  refine PM.of (Y := Y_T_bestTable) (cv := (fun z : (Int32 × PH) => (((some (.inl z.1), z.2) : Option PV × PH)))) (by decide) (L0 := [some (.inr (.inr a0)), none, none, none, none, none, none]) 6 rfl (Nat.le_of_ble_eq_true rfl) ?_ hz
  unfold f_T_bestTable
  refine PJ.aload_n (pc := 0) d_T_bestTable_0 rfl ?_
  refine PJ.getI (pc := 1) fs_T_36 d_T_bestTable_1 (fun v1 => ?_)
  refine PJ.if_ne (pc := 4) (tgt := 13) d_T_bestTable_4 (by decide) (fun _ => ?_) (fun _ => ?_)
  · refine PJ.iconst (pc := 13) (v := 0) d_T_bestTable_13 (by decide) ?_
    refine PJ.istore_n (pc := 14) (L1 := [some (.inr (.inr a0)), some (.inl (0 : Int32)), none, none, none, none, none]) d_T_bestTable_14 (Nat.le_of_ble_eq_true rfl) rfl rfl ?_
    refine PJ.aload_n (pc := 15) d_T_bestTable_15 rfl ?_
    refine PJ.iconst (pc := 16) (v := 0) d_T_bestTable_16 (by decide) ?_
    refine PJ.cVR (pc := 17) cs_T_245 (fun z hz => PM_T_byTable hz) (pj_fitb rfl) rfl rfl (Nat.le_of_ble_eq_true rfl) d_T_bestTable_17 (fun v2 => ?_)
    refine PJ.cVpI (pc := 20) cs_T_235 (fun z hz => PM_Desk_raisedOfAll hz) (pj_fitb rfl) rfl rfl (Nat.le_of_ble_eq_true rfl) d_T_bestTable_20 (fun v3 => ?_)
    refine PJ.istore_n (pc := 23) (L1 := [some (.inr (.inr a0)), some (.inl (0 : Int32)), some (.inl v3), none, none, none, none]) d_T_bestTable_23 (Nat.le_of_ble_eq_true rfl) rfl rfl ?_
    refine PJ.aload_n (pc := 24) d_T_bestTable_24 rfl ?_
    refine PJ.iconst (pc := 25) (v := 0) d_T_bestTable_25 (by decide) ?_
    refine PJ.cVR (pc := 26) cs_T_245 (fun z hz => PM_T_byTable hz) (pj_fitb rfl) rfl rfl (Nat.le_of_ble_eq_true rfl) d_T_bestTable_26 (fun v4 => ?_)
    refine PJ.cVpI (pc := 29) cs_T_238 (fun z hz => PM_Desk_harmOfAll hz) (pj_fitb rfl) rfl rfl (Nat.le_of_ble_eq_true rfl) d_T_bestTable_29 (fun v5 => ?_)
    refine PJ.istore_n (pc := 32) (L1 := [some (.inr (.inr a0)), some (.inl (0 : Int32)), some (.inl v3), some (.inl v5), none, none, none]) d_T_bestTable_32 (Nat.le_of_ble_eq_true rfl) rfl rfl ?_
    refine PJ.iconst (pc := 33) (v := 1) d_T_bestTable_33 (by decide) ?_
    refine PJ.istore (pc := 34) (L1 := [some (.inr (.inr a0)), some (.inl (0 : Int32)), some (.inl v3), some (.inl v5), some (.inl (1 : Int32)), none, none]) d_T_bestTable_34 (Nat.le_of_ble_eq_true rfl) rfl rfl ?_
    refine PJ.bind (fun x7 : Int32 × PH => ((98 : Nat), ([some (.inr (.inr a0)), some (.inl x7.1), none, none, none, none, none] : List (Option PV)), ([] : List PV), (x7.2 : PH), (0 : Nat), (0 : Nat))) (PJ.it (E := (fun s6 : Int32 × Int32 × Int32 × Int32 × PH => ((36 : Nat), ([some (.inr (.inr a0)), some (.inl s6.1), some (.inl s6.2.1), some (.inl s6.2.2.1), some (.inl s6.2.2.2.1), none, none] : List (Option PV)), ([] : List PV), (s6.2.2.2.2 : PH), (0 : Nat), (0 : Nat)))) (F := (fun x7 : Int32 × PH => ((98 : Nat), ([some (.inr (.inr a0)), some (.inl x7.1), none, none, none, none, none] : List (Option PV)), ([] : List PV), (x7.2 : PH), (0 : Nat), (0 : Nat)))) (fun s6 => ?_) FU ((0 : Int32), v3, v5, (1 : Int32), v4.2)) (fun x7 => ?_)
    · show PJ l G (pj_rm 6 0 0) Y_T_bestTable 36 [some (.inr (.inr a0)), some (.inl s6.1), some (.inl s6.2.1), some (.inl s6.2.2.1), some (.inl s6.2.2.2.1), none, none] [] s6.2.2.2.2 0 0 _ _
      refine PJ.iload (pc := 36) d_T_bestTable_36 rfl ?_
      refine PJ.bipush (pc := 38) (v := 9) d_T_bestTable_38 (by decide) ?_
      refine PJ.icmp_gt (pc := 40) (tgt := 98) d_T_bestTable_40 (by decide) (fun _ => ?_) (fun _ => ?_)
      · refine PJ.mk (L1 := [some (.inr (.inr a0)), some (.inl s6.1), none, none, none, none, none]) [true, true, false, false, false, false, false] rfl ?_
        exact PJ.done rfl
      · refine PJ.aload_n (pc := 43) d_T_bestTable_43 rfl ?_
        refine PJ.iload (pc := 44) d_T_bestTable_44 rfl ?_
        refine PJ.cVR (pc := 46) cs_T_245 (fun z hz => PM_T_byTable hz) (pj_fitb rfl) rfl rfl (Nat.le_of_ble_eq_true rfl) d_T_bestTable_46 (fun v8 => ?_)
        refine PJ.cVpI (pc := 49) cs_T_235 (fun z hz => PM_Desk_raisedOfAll hz) (pj_fitb rfl) rfl rfl (Nat.le_of_ble_eq_true rfl) d_T_bestTable_49 (fun v9 => ?_)
        refine PJ.istore (pc := 52) (L1 := [some (.inr (.inr a0)), some (.inl s6.1), some (.inl s6.2.1), some (.inl s6.2.2.1), some (.inl s6.2.2.2.1), some (.inl v9), none]) d_T_bestTable_52 (Nat.le_of_ble_eq_true rfl) rfl rfl ?_
        refine PJ.aload_n (pc := 54) d_T_bestTable_54 rfl ?_
        refine PJ.iload (pc := 55) d_T_bestTable_55 rfl ?_
        refine PJ.cVR (pc := 57) cs_T_245 (fun z hz => PM_T_byTable hz) (pj_fitb rfl) rfl rfl (Nat.le_of_ble_eq_true rfl) d_T_bestTable_57 (fun v10 => ?_)
        refine PJ.cVpI (pc := 60) cs_T_238 (fun z hz => PM_Desk_harmOfAll hz) (pj_fitb rfl) rfl rfl (Nat.le_of_ble_eq_true rfl) d_T_bestTable_60 (fun v11 => ?_)
        refine PJ.istore (pc := 63) (L1 := [some (.inr (.inr a0)), some (.inl s6.1), some (.inl s6.2.1), some (.inl s6.2.2.1), some (.inl s6.2.2.2.1), some (.inl v9), some (.inl v11)]) d_T_bestTable_63 (Nat.le_of_ble_eq_true rfl) rfl rfl ?_
        refine PJ.iload (pc := 65) d_T_bestTable_65 rfl ?_
        refine PJ.iload_n (pc := 67) d_T_bestTable_67 rfl ?_
        refine PJ.icmp_gt (pc := 68) (tgt := 83) d_T_bestTable_68 (by decide) (fun _ => ?_) (fun _ => ?_)
        · refine PJ.iload (pc := 83) d_T_bestTable_83 rfl ?_
          refine PJ.istore_n (pc := 85) (L1 := [some (.inr (.inr a0)), some (.inl s6.2.2.2.1), some (.inl s6.2.1), some (.inl s6.2.2.1), some (.inl s6.2.2.2.1), some (.inl v9), some (.inl v11)]) d_T_bestTable_85 (Nat.le_of_ble_eq_true rfl) rfl rfl ?_
          refine PJ.iload (pc := 86) d_T_bestTable_86 rfl ?_
          refine PJ.istore_n (pc := 88) (L1 := [some (.inr (.inr a0)), some (.inl s6.2.2.2.1), some (.inl v9), some (.inl s6.2.2.1), some (.inl s6.2.2.2.1), some (.inl v9), some (.inl v11)]) d_T_bestTable_88 (Nat.le_of_ble_eq_true rfl) rfl rfl ?_
          refine PJ.iload (pc := 89) d_T_bestTable_89 rfl ?_
          refine PJ.istore_n (pc := 91) (L1 := [some (.inr (.inr a0)), some (.inl s6.2.2.2.1), some (.inl v9), some (.inl v11), some (.inl s6.2.2.2.1), some (.inl v9), some (.inl v11)]) d_T_bestTable_91 (Nat.le_of_ble_eq_true rfl) rfl rfl ?_
          refine PJ.iinc (pc := 92) (v := 1) (L1 := [some (.inr (.inr a0)), some (.inl s6.2.2.2.1), some (.inl v9), some (.inl v11), some (.inl (s6.2.2.2.1 + (1 : Int32))), some (.inl v9), some (.inl v11)]) d_T_bestTable_92 rfl (by decide) (Nat.le_of_ble_eq_true rfl) rfl rfl ?_
          refine PJ.goto (pc := 95) (tgt := 36) d_T_bestTable_95 (by decide) ?_
          refine PJ.mk (L1 := [some (.inr (.inr a0)), some (.inl s6.2.2.2.1), some (.inl v9), some (.inl v11), some (.inl (s6.2.2.2.1 + (1 : Int32))), none, none]) [true, true, true, true, true, false, false] rfl ?_
          exact PJ.done rfl
        · refine PJ.iload (pc := 71) d_T_bestTable_71 rfl ?_
          refine PJ.iload_n (pc := 73) d_T_bestTable_73 rfl ?_
          refine PJ.icmp_ne (pc := 74) (tgt := 92) d_T_bestTable_74 (by decide) (fun _ => ?_) (fun _ => ?_)
          · refine PJ.iinc (pc := 92) (v := 1) (L1 := [some (.inr (.inr a0)), some (.inl s6.1), some (.inl s6.2.1), some (.inl s6.2.2.1), some (.inl (s6.2.2.2.1 + (1 : Int32))), some (.inl v9), some (.inl v11)]) d_T_bestTable_92 rfl (by decide) (Nat.le_of_ble_eq_true rfl) rfl rfl ?_
            refine PJ.goto (pc := 95) (tgt := 36) d_T_bestTable_95 (by decide) ?_
            refine PJ.mk (L1 := [some (.inr (.inr a0)), some (.inl s6.1), some (.inl s6.2.1), some (.inl s6.2.2.1), some (.inl (s6.2.2.2.1 + (1 : Int32))), none, none]) [true, true, true, true, true, false, false] rfl ?_
            exact PJ.done rfl
          · refine PJ.iload (pc := 77) d_T_bestTable_77 rfl ?_
            refine PJ.iload_n (pc := 79) d_T_bestTable_79 rfl ?_
            refine PJ.icmp_ge (pc := 80) (tgt := 92) d_T_bestTable_80 (by decide) (fun _ => ?_) (fun _ => ?_)
            · refine PJ.iinc (pc := 92) (v := 1) (L1 := [some (.inr (.inr a0)), some (.inl s6.1), some (.inl s6.2.1), some (.inl s6.2.2.1), some (.inl (s6.2.2.2.1 + (1 : Int32))), some (.inl v9), some (.inl v11)]) d_T_bestTable_92 rfl (by decide) (Nat.le_of_ble_eq_true rfl) rfl rfl ?_
              refine PJ.goto (pc := 95) (tgt := 36) d_T_bestTable_95 (by decide) ?_
              refine PJ.mk (L1 := [some (.inr (.inr a0)), some (.inl s6.1), some (.inl s6.2.1), some (.inl s6.2.2.1), some (.inl (s6.2.2.2.1 + (1 : Int32))), none, none]) [true, true, true, true, true, false, false] rfl ?_
              exact PJ.done rfl
            · refine PJ.iload (pc := 83) d_T_bestTable_83 rfl ?_
              refine PJ.istore_n (pc := 85) (L1 := [some (.inr (.inr a0)), some (.inl s6.2.2.2.1), some (.inl s6.2.1), some (.inl s6.2.2.1), some (.inl s6.2.2.2.1), some (.inl v9), some (.inl v11)]) d_T_bestTable_85 (Nat.le_of_ble_eq_true rfl) rfl rfl ?_
              refine PJ.iload (pc := 86) d_T_bestTable_86 rfl ?_
              refine PJ.istore_n (pc := 88) (L1 := [some (.inr (.inr a0)), some (.inl s6.2.2.2.1), some (.inl v9), some (.inl s6.2.2.1), some (.inl s6.2.2.2.1), some (.inl v9), some (.inl v11)]) d_T_bestTable_88 (Nat.le_of_ble_eq_true rfl) rfl rfl ?_
              refine PJ.iload (pc := 89) d_T_bestTable_89 rfl ?_
              refine PJ.istore_n (pc := 91) (L1 := [some (.inr (.inr a0)), some (.inl s6.2.2.2.1), some (.inl v9), some (.inl v11), some (.inl s6.2.2.2.1), some (.inl v9), some (.inl v11)]) d_T_bestTable_91 (Nat.le_of_ble_eq_true rfl) rfl rfl ?_
              refine PJ.iinc (pc := 92) (v := 1) (L1 := [some (.inr (.inr a0)), some (.inl s6.2.2.2.1), some (.inl v9), some (.inl v11), some (.inl (s6.2.2.2.1 + (1 : Int32))), some (.inl v9), some (.inl v11)]) d_T_bestTable_92 rfl (by decide) (Nat.le_of_ble_eq_true rfl) rfl rfl ?_
              refine PJ.goto (pc := 95) (tgt := 36) d_T_bestTable_95 (by decide) ?_
              refine PJ.mk (L1 := [some (.inr (.inr a0)), some (.inl s6.2.2.2.1), some (.inl v9), some (.inl v11), some (.inl (s6.2.2.2.1 + (1 : Int32))), none, none]) [true, true, true, true, true, false, false] rfl ?_
              exact PJ.done rfl
    · show PJ l G (pj_rm 6 0 0) Y_T_bestTable 98 [some (.inr (.inr a0)), some (.inl x7.1), none, none, none, none, none] [] x7.2 0 0 _ _
      refine PJ.aload_n (pc := 98) d_T_bestTable_98 rfl ?_
      refine PJ.iload_n (pc := 99) d_T_bestTable_99 rfl ?_
      refine PJ.cVI (pc := 100) cs_T_114 (fun z hz => PM_T_fine hz) (pj_fitb rfl) rfl rfl (Nat.le_of_ble_eq_true rfl) d_T_bestTable_100 (fun v12 => ?_)
      exact PJ.iret (pc := 103) d_T_bestTable_103 rfl (Nat.le_of_ble_eq_true rfl) (Nat.le_of_ble_eq_true rfl)
  · refine PJ.aload_n (pc := 7) d_T_bestTable_7 rfl ?_
    refine PJ.iconst (pc := 8) (v := 1) d_T_bestTable_8 (by decide) ?_
    refine PJ.cVI (pc := 9) cs_T_95 (fun z hz => PM_T_refuse hz) (pj_fitb rfl) rfl rfl (Nat.le_of_ble_eq_true rfl) d_T_bestTable_9 (fun v13 => ?_)
    exact PJ.iret (pc := 12) d_T_bestTable_12 rfl (Nat.le_of_ble_eq_true rfl) (Nat.le_of_ble_eq_true rfl)
theorem d_T_byThird_0 : decode Y_T_byThird.2.1 0 = .ok (.aload_n 0, 1) := by decide +kernel
theorem d_T_byThird_1 : decode Y_T_byThird.2.1 1 = .ok (.getfield 55, 3) := by decide +kernel
theorem d_T_byThird_4 : decode Y_T_byThird.2.1 4 = .ok (.aload_n 0, 1) := by decide +kernel
theorem d_T_byThird_5 : decode Y_T_byThird.2.1 5 = .ok (.getfield 20, 3) := by decide +kernel
theorem d_T_byThird_8 : decode Y_T_byThird.2.1 8 = .ok (.aload_n 0, 1) := by decide +kernel
theorem d_T_byThird_9 : decode Y_T_byThird.2.1 9 = .ok (.getfield 43, 3) := by decide +kernel
theorem d_T_byThird_12 : decode Y_T_byThird.2.1 12 = .ok (.invokevirtual 252, 3) := by decide +kernel
theorem d_T_byThird_15 : decode Y_T_byThird.2.1 15 = .ok (.aload_n 0, 1) := by decide +kernel
theorem d_T_byThird_16 : decode Y_T_byThird.2.1 16 = .ok (.getfield 55, 3) := by decide +kernel
theorem d_T_byThird_19 : decode Y_T_byThird.2.1 19 = .ok (.iload_n 1, 1) := by decide +kernel
theorem d_T_byThird_20 : decode Y_T_byThird.2.1 20 = .ok (.putfield 258, 3) := by decide +kernel
theorem d_T_byThird_23 : decode Y_T_byThird.2.1 23 = .ok (.aload_n 0, 1) := by decide +kernel
theorem d_T_byThird_24 : decode Y_T_byThird.2.1 24 = .ok (.getfield 55, 3) := by decide +kernel
theorem d_T_byThird_27 : decode Y_T_byThird.2.1 27 = .ok (.areturn, 1) := by decide +kernel
def f_T_byThird (h : PH) (a0 : Option Nat) (a1 : Int32) : Option (Option Nat × PH) := (gR h 10 a0 8).bind fun v1 => (gR h 10 a0 2).bind fun v2 => (gR h 10 a0 6).bind fun v3 => (cl h 0 v1 (f_Desk_look h v1 v2 v3)).bind fun h4 => (gR h4 10 a0 8).bind fun v5 => (sF h4 0 v5 3 (.inl a1)).bind fun h6 => (gR h6 10 a0 8).bind fun v7 => some (v7, h6)
set_option maxRecDepth 20000 in
theorem PM_T_byThird {l : Launch} {G : Cx} {h : PH} {a0 : Option Nat} {a1 : Int32} {z : (Option Nat × PH)} (hz : f_T_byThird h a0 a1 = some z) : PM l G 2 0 0 Y_T_byThird [.inr (.inr a0), .inl a1] h (some (.inr (.inr z.1)), z.2) := by
  refine PM.of (Y := Y_T_byThird) (cv := (fun z : (Option Nat × PH) => (((some (.inr (.inr z.1)), z.2) : Option PV × PH)))) (by decide) (L0 := [some (.inr (.inr a0)), some (.inl a1)]) 0 rfl (Nat.le_of_ble_eq_true rfl) ?_ hz
  unfold f_T_byThird
  refine PJ.aload_n (pc := 0) d_T_byThird_0 rfl ?_
  refine PJ.getR (pc := 1) fs_T_55 d_T_byThird_1 (fun v1 => ?_)
  refine PJ.aload_n (pc := 4) d_T_byThird_4 rfl ?_
  refine PJ.getR (pc := 5) fs_T_20 d_T_byThird_5 (fun v2 => ?_)
  refine PJ.aload_n (pc := 8) d_T_byThird_8 rfl ?_
  refine PJ.getR (pc := 9) fs_T_43 d_T_byThird_9 (fun v3 => ?_)
  refine PJ.cVV (pc := 12) cs_T_252 (fun z hz => PM_Desk_look hz) (pj_fitb rfl) rfl rfl (Nat.le_of_ble_eq_true rfl) d_T_byThird_12 (fun h4 => ?_)
  refine PJ.aload_n (pc := 15) d_T_byThird_15 rfl ?_
  refine PJ.getR (pc := 16) fs_T_55 d_T_byThird_16 (fun v5 => ?_)
  refine PJ.iload_n (pc := 19) d_T_byThird_19 rfl ?_
  refine PJ.putI (pc := 20) ps_T_258 d_T_byThird_20 (fun h6 => ?_)
  refine PJ.aload_n (pc := 23) d_T_byThird_23 rfl ?_
  refine PJ.getR (pc := 24) fs_T_55 d_T_byThird_24 (fun v7 => ?_)
  exact PJ.aret (pc := 27) d_T_byThird_27 rfl (Or.inl ⟨_, rfl⟩) (Nat.le_of_ble_eq_true rfl) (Nat.le_of_ble_eq_true rfl)
theorem d_T_raisedThird_0 : decode Y_T_raisedThird.2.1 0 = .ok (.aload_n 0, 1) := by decide +kernel
theorem d_T_raisedThird_1 : decode Y_T_raisedThird.2.1 1 = .ok (.iload_n 1, 1) := by decide +kernel
theorem d_T_raisedThird_2 : decode Y_T_raisedThird.2.1 2 = .ok (.iconst 1, 1) := by decide +kernel
theorem d_T_raisedThird_3 : decode Y_T_raisedThird.2.1 3 = .ok (.iconst 4, 1) := by decide +kernel
theorem d_T_raisedThird_4 : decode Y_T_raisedThird.2.1 4 = .ok (.invokevirtual 241, 3) := by decide +kernel
theorem d_T_raisedThird_7 : decode Y_T_raisedThird.2.1 7 = .ok (.istore_n 2, 1) := by decide +kernel
theorem d_T_raisedThird_8 : decode Y_T_raisedThird.2.1 8 = .ok (.iload_n 2, 1) := by decide +kernel
theorem d_T_raisedThird_9 : decode Y_T_raisedThird.2.1 9 = .ok (.ifCond .ne 18, 3) := by decide +kernel
theorem d_T_raisedThird_12 : decode Y_T_raisedThird.2.1 12 = .ok (.aload_n 0, 1) := by decide +kernel
theorem d_T_raisedThird_13 : decode Y_T_raisedThird.2.1 13 = .ok (.aload_n 0, 1) := by decide +kernel
theorem d_T_raisedThird_14 : decode Y_T_raisedThird.2.1 14 = .ok (.iload_n 1, 1) := by decide +kernel
theorem d_T_raisedThird_15 : decode Y_T_raisedThird.2.1 15 = .ok (.invokevirtual 249, 3) := by decide +kernel
theorem d_T_raisedThird_18 : decode Y_T_raisedThird.2.1 18 = .ok (.invokevirtual 235, 3) := by decide +kernel
theorem d_T_raisedThird_21 : decode Y_T_raisedThird.2.1 21 = .ok (.invokevirtual 114, 3) := by decide +kernel
theorem d_T_raisedThird_24 : decode Y_T_raisedThird.2.1 24 = .ok (.goto 8, 3) := by decide +kernel
theorem d_T_raisedThird_27 : decode Y_T_raisedThird.2.1 27 = .ok (.aload_n 0, 1) := by decide +kernel
theorem d_T_raisedThird_28 : decode Y_T_raisedThird.2.1 28 = .ok (.iload_n 2, 1) := by decide +kernel
theorem d_T_raisedThird_29 : decode Y_T_raisedThird.2.1 29 = .ok (.invokevirtual 95, 3) := by decide +kernel
theorem d_T_raisedThird_32 : decode Y_T_raisedThird.2.1 32 = .ok (.ireturn, 1) := by decide +kernel
def f_T_raisedThird (h : PH) (a0 : Option Nat) (a1 : Int32) : Option (Int32 × PH) := (cl h 10 a0 (f_T_boundsTrouble h a0 a1 (1 : Int32) (4 : Int32))).bind fun v1 => if ¬ v1 = 0 then ((cl h 10 a0 (f_T_refuse h a0 v1)).bind fun v2 => some (v2.1, v2.2)) else ((cl h 10 a0 (f_T_byThird h a0 a1)).bind fun v3 => (cl v3.2 0 v3.1 (f_Desk_raisedOfAll v3.2 v3.1)).bind fun v4 => (cl v3.2 10 a0 (f_T_fine v3.2 a0 v4)).bind fun v5 => some (v5.1, v5.2))
set_option maxRecDepth 20000 in
theorem PM_T_raisedThird {l : Launch} {G : Cx} {h : PH} {a0 : Option Nat} {a1 : Int32} {z : (Int32 × PH)} (hz : f_T_raisedThird h a0 a1 = some z) : PM l G 6 0 0 Y_T_raisedThird [.inr (.inr a0), .inl a1] h (some (.inl z.1), z.2) := by
  refine PM.of (Y := Y_T_raisedThird) (cv := (fun z : (Int32 × PH) => (((some (.inl z.1), z.2) : Option PV × PH)))) (by decide) (L0 := [some (.inr (.inr a0)), some (.inl a1), none]) 1 rfl (Nat.le_of_ble_eq_true rfl) ?_ hz
  unfold f_T_raisedThird
  refine PJ.aload_n (pc := 0) d_T_raisedThird_0 rfl ?_
  refine PJ.iload_n (pc := 1) d_T_raisedThird_1 rfl ?_
  refine PJ.iconst (pc := 2) (v := 1) d_T_raisedThird_2 (by decide) ?_
  refine PJ.iconst (pc := 3) (v := 4) d_T_raisedThird_3 (by decide) ?_
  refine PJ.cVpI (pc := 4) cs_T_241 (fun z hz => PM_T_boundsTrouble hz) (pj_fitb rfl) rfl rfl (Nat.le_of_ble_eq_true rfl) d_T_raisedThird_4 (fun v1 => ?_)
  refine PJ.istore_n (pc := 7) (L1 := [some (.inr (.inr a0)), some (.inl a1), some (.inl v1)]) d_T_raisedThird_7 (Nat.le_of_ble_eq_true rfl) rfl rfl ?_
  refine PJ.iload_n (pc := 8) d_T_raisedThird_8 rfl ?_
  refine PJ.if_ne (pc := 9) (tgt := 27) d_T_raisedThird_9 (by decide) (fun _ => ?_) (fun _ => ?_)
  · refine PJ.aload_n (pc := 27) d_T_raisedThird_27 rfl ?_
    refine PJ.iload_n (pc := 28) d_T_raisedThird_28 rfl ?_
    refine PJ.cVI (pc := 29) cs_T_95 (fun z hz => PM_T_refuse hz) (pj_fitb rfl) rfl rfl (Nat.le_of_ble_eq_true rfl) d_T_raisedThird_29 (fun v2 => ?_)
    exact PJ.iret (pc := 32) d_T_raisedThird_32 rfl (Nat.le_of_ble_eq_true rfl) (Nat.le_of_ble_eq_true rfl)
  · refine PJ.aload_n (pc := 12) d_T_raisedThird_12 rfl ?_
    refine PJ.aload_n (pc := 13) d_T_raisedThird_13 rfl ?_
    refine PJ.iload_n (pc := 14) d_T_raisedThird_14 rfl ?_
    refine PJ.cVR (pc := 15) cs_T_249 (fun z hz => PM_T_byThird hz) (pj_fitb rfl) rfl rfl (Nat.le_of_ble_eq_true rfl) d_T_raisedThird_15 (fun v3 => ?_)
    refine PJ.cVpI (pc := 18) cs_T_235 (fun z hz => PM_Desk_raisedOfAll hz) (pj_fitb rfl) rfl rfl (Nat.le_of_ble_eq_true rfl) d_T_raisedThird_18 (fun v4 => ?_)
    refine PJ.cVI (pc := 21) cs_T_114 (fun z hz => PM_T_fine hz) (pj_fitb rfl) rfl rfl (Nat.le_of_ble_eq_true rfl) d_T_raisedThird_21 (fun v5 => ?_)
    refine PJ.goto (pc := 24) (tgt := 32) d_T_raisedThird_24 (by decide) ?_
    exact PJ.iret (pc := 32) d_T_raisedThird_32 rfl (Nat.le_of_ble_eq_true rfl) (Nat.le_of_ble_eq_true rfl)
theorem d_T_harmThird_0 : decode Y_T_harmThird.2.1 0 = .ok (.aload_n 0, 1) := by decide +kernel
theorem d_T_harmThird_1 : decode Y_T_harmThird.2.1 1 = .ok (.iload_n 1, 1) := by decide +kernel
theorem d_T_harmThird_2 : decode Y_T_harmThird.2.1 2 = .ok (.iconst 1, 1) := by decide +kernel
theorem d_T_harmThird_3 : decode Y_T_harmThird.2.1 3 = .ok (.iconst 4, 1) := by decide +kernel
theorem d_T_harmThird_4 : decode Y_T_harmThird.2.1 4 = .ok (.invokevirtual 241, 3) := by decide +kernel
theorem d_T_harmThird_7 : decode Y_T_harmThird.2.1 7 = .ok (.istore_n 2, 1) := by decide +kernel
theorem d_T_harmThird_8 : decode Y_T_harmThird.2.1 8 = .ok (.iload_n 2, 1) := by decide +kernel
theorem d_T_harmThird_9 : decode Y_T_harmThird.2.1 9 = .ok (.ifCond .ne 18, 3) := by decide +kernel
theorem d_T_harmThird_12 : decode Y_T_harmThird.2.1 12 = .ok (.aload_n 0, 1) := by decide +kernel
theorem d_T_harmThird_13 : decode Y_T_harmThird.2.1 13 = .ok (.aload_n 0, 1) := by decide +kernel
theorem d_T_harmThird_14 : decode Y_T_harmThird.2.1 14 = .ok (.iload_n 1, 1) := by decide +kernel
theorem d_T_harmThird_15 : decode Y_T_harmThird.2.1 15 = .ok (.invokevirtual 249, 3) := by decide +kernel
theorem d_T_harmThird_18 : decode Y_T_harmThird.2.1 18 = .ok (.invokevirtual 238, 3) := by decide +kernel
theorem d_T_harmThird_21 : decode Y_T_harmThird.2.1 21 = .ok (.invokevirtual 114, 3) := by decide +kernel
theorem d_T_harmThird_24 : decode Y_T_harmThird.2.1 24 = .ok (.goto 8, 3) := by decide +kernel
theorem d_T_harmThird_27 : decode Y_T_harmThird.2.1 27 = .ok (.aload_n 0, 1) := by decide +kernel
theorem d_T_harmThird_28 : decode Y_T_harmThird.2.1 28 = .ok (.iload_n 2, 1) := by decide +kernel
theorem d_T_harmThird_29 : decode Y_T_harmThird.2.1 29 = .ok (.invokevirtual 95, 3) := by decide +kernel
theorem d_T_harmThird_32 : decode Y_T_harmThird.2.1 32 = .ok (.ireturn, 1) := by decide +kernel
def f_T_harmThird (h : PH) (a0 : Option Nat) (a1 : Int32) : Option (Int32 × PH) := (cl h 10 a0 (f_T_boundsTrouble h a0 a1 (1 : Int32) (4 : Int32))).bind fun v1 => if ¬ v1 = 0 then ((cl h 10 a0 (f_T_refuse h a0 v1)).bind fun v2 => some (v2.1, v2.2)) else ((cl h 10 a0 (f_T_byThird h a0 a1)).bind fun v3 => (cl v3.2 0 v3.1 (f_Desk_harmOfAll v3.2 v3.1)).bind fun v4 => (cl v3.2 10 a0 (f_T_fine v3.2 a0 v4)).bind fun v5 => some (v5.1, v5.2))
set_option maxRecDepth 20000 in
theorem PM_T_harmThird {l : Launch} {G : Cx} {h : PH} {a0 : Option Nat} {a1 : Int32} {z : (Int32 × PH)} (hz : f_T_harmThird h a0 a1 = some z) : PM l G 6 0 0 Y_T_harmThird [.inr (.inr a0), .inl a1] h (some (.inl z.1), z.2) := by
  refine PM.of (Y := Y_T_harmThird) (cv := (fun z : (Int32 × PH) => (((some (.inl z.1), z.2) : Option PV × PH)))) (by decide) (L0 := [some (.inr (.inr a0)), some (.inl a1), none]) 1 rfl (Nat.le_of_ble_eq_true rfl) ?_ hz
  unfold f_T_harmThird
  refine PJ.aload_n (pc := 0) d_T_harmThird_0 rfl ?_
  refine PJ.iload_n (pc := 1) d_T_harmThird_1 rfl ?_
  refine PJ.iconst (pc := 2) (v := 1) d_T_harmThird_2 (by decide) ?_
  refine PJ.iconst (pc := 3) (v := 4) d_T_harmThird_3 (by decide) ?_
  refine PJ.cVpI (pc := 4) cs_T_241 (fun z hz => PM_T_boundsTrouble hz) (pj_fitb rfl) rfl rfl (Nat.le_of_ble_eq_true rfl) d_T_harmThird_4 (fun v1 => ?_)
  refine PJ.istore_n (pc := 7) (L1 := [some (.inr (.inr a0)), some (.inl a1), some (.inl v1)]) d_T_harmThird_7 (Nat.le_of_ble_eq_true rfl) rfl rfl ?_
  refine PJ.iload_n (pc := 8) d_T_harmThird_8 rfl ?_
  refine PJ.if_ne (pc := 9) (tgt := 27) d_T_harmThird_9 (by decide) (fun _ => ?_) (fun _ => ?_)
  · refine PJ.aload_n (pc := 27) d_T_harmThird_27 rfl ?_
    refine PJ.iload_n (pc := 28) d_T_harmThird_28 rfl ?_
    refine PJ.cVI (pc := 29) cs_T_95 (fun z hz => PM_T_refuse hz) (pj_fitb rfl) rfl rfl (Nat.le_of_ble_eq_true rfl) d_T_harmThird_29 (fun v2 => ?_)
    exact PJ.iret (pc := 32) d_T_harmThird_32 rfl (Nat.le_of_ble_eq_true rfl) (Nat.le_of_ble_eq_true rfl)
  · refine PJ.aload_n (pc := 12) d_T_harmThird_12 rfl ?_
    refine PJ.aload_n (pc := 13) d_T_harmThird_13 rfl ?_
    refine PJ.iload_n (pc := 14) d_T_harmThird_14 rfl ?_
    refine PJ.cVR (pc := 15) cs_T_249 (fun z hz => PM_T_byThird hz) (pj_fitb rfl) rfl rfl (Nat.le_of_ble_eq_true rfl) d_T_harmThird_15 (fun v3 => ?_)
    refine PJ.cVpI (pc := 18) cs_T_238 (fun z hz => PM_Desk_harmOfAll hz) (pj_fitb rfl) rfl rfl (Nat.le_of_ble_eq_true rfl) d_T_harmThird_18 (fun v4 => ?_)
    refine PJ.cVI (pc := 21) cs_T_114 (fun z hz => PM_T_fine hz) (pj_fitb rfl) rfl rfl (Nat.le_of_ble_eq_true rfl) d_T_harmThird_21 (fun v5 => ?_)
    refine PJ.goto (pc := 24) (tgt := 32) d_T_harmThird_24 (by decide) ?_
    exact PJ.iret (pc := 32) d_T_harmThird_32 rfl (Nat.le_of_ble_eq_true rfl) (Nat.le_of_ble_eq_true rfl)
theorem d_T_stillTable_0 : decode Y_T_stillTable.2.1 0 = .ok (.aload_n 0, 1) := by decide +kernel
theorem d_T_stillTable_1 : decode Y_T_stillTable.2.1 1 = .ok (.getfield 36, 3) := by decide +kernel
theorem d_T_stillTable_4 : decode Y_T_stillTable.2.1 4 = .ok (.ifCond .ne 9, 3) := by decide +kernel
theorem d_T_stillTable_7 : decode Y_T_stillTable.2.1 7 = .ok (.aload_n 0, 1) := by decide +kernel
theorem d_T_stillTable_8 : decode Y_T_stillTable.2.1 8 = .ok (.iconst 1, 1) := by decide +kernel
theorem d_T_stillTable_9 : decode Y_T_stillTable.2.1 9 = .ok (.invokevirtual 95, 3) := by decide +kernel
theorem d_T_stillTable_12 : decode Y_T_stillTable.2.1 12 = .ok (.ireturn, 1) := by decide +kernel
theorem d_T_stillTable_13 : decode Y_T_stillTable.2.1 13 = .ok (.iconst 0, 1) := by decide +kernel
theorem d_T_stillTable_14 : decode Y_T_stillTable.2.1 14 = .ok (.istore_n 1, 1) := by decide +kernel
theorem d_T_stillTable_15 : decode Y_T_stillTable.2.1 15 = .ok (.iload_n 1, 1) := by decide +kernel
theorem d_T_stillTable_16 : decode Y_T_stillTable.2.1 16 = .ok (.bipush 9, 2) := by decide +kernel
theorem d_T_stillTable_18 : decode Y_T_stillTable.2.1 18 = .ok (.if_icmp .gt 26, 3) := by decide +kernel
theorem d_T_stillTable_21 : decode Y_T_stillTable.2.1 21 = .ok (.aload_n 0, 1) := by decide +kernel
theorem d_T_stillTable_22 : decode Y_T_stillTable.2.1 22 = .ok (.iload_n 1, 1) := by decide +kernel
theorem d_T_stillTable_23 : decode Y_T_stillTable.2.1 23 = .ok (.invokevirtual 245, 3) := by decide +kernel
theorem d_T_stillTable_26 : decode Y_T_stillTable.2.1 26 = .ok (.invokevirtual 160, 3) := by decide +kernel
theorem d_T_stillTable_29 : decode Y_T_stillTable.2.1 29 = .ok (.ifCond .ne 9, 3) := by decide +kernel
theorem d_T_stillTable_32 : decode Y_T_stillTable.2.1 32 = .ok (.aload_n 0, 1) := by decide +kernel
theorem d_T_stillTable_33 : decode Y_T_stillTable.2.1 33 = .ok (.iload_n 1, 1) := by decide +kernel
theorem d_T_stillTable_34 : decode Y_T_stillTable.2.1 34 = .ok (.invokevirtual 114, 3) := by decide +kernel
theorem d_T_stillTable_37 : decode Y_T_stillTable.2.1 37 = .ok (.ireturn, 1) := by decide +kernel
theorem d_T_stillTable_38 : decode Y_T_stillTable.2.1 38 = .ok (.iinc 1 1, 3) := by decide +kernel
theorem d_T_stillTable_41 : decode Y_T_stillTable.2.1 41 = .ok (.goto (-26), 3) := by decide +kernel
theorem d_T_stillTable_44 : decode Y_T_stillTable.2.1 44 = .ok (.aload_n 0, 1) := by decide +kernel
theorem d_T_stillTable_45 : decode Y_T_stillTable.2.1 45 = .ok (.bipush (-2), 2) := by decide +kernel
theorem d_T_stillTable_47 : decode Y_T_stillTable.2.1 47 = .ok (.invokevirtual 114, 3) := by decide +kernel
theorem d_T_stillTable_50 : decode Y_T_stillTable.2.1 50 = .ok (.ireturn, 1) := by decide +kernel
def f_T_stillTable (h : PH) (a0 : Option Nat) : Option (Int32 × PH) := (gI h 10 a0 5).bind fun v1 => if ¬ v1 = 0 then ((pj_it (X := (PH) ⊕ (Int32 × PH)) (fun s2 : Int32 × PH => if (9 : Int32) < s2.1 then (some (.inr (.inl s2.2))) else ((cl s2.2 10 a0 (f_T_byTable s2.2 a0 s2.1)).bind fun v4 => (cl v4.2 0 v4.1 (f_Desk_wavering v4.2 v4.1)).bind fun v5 => if ¬ v5 = 0 then (some (.inl ((s2.1 + (1 : Int32)), v4.2))) else (some (.inr (.inr (s2.1, v4.2)))))) FU ((0 : Int32), h)).bind fun x3 => match x3 with | (.inl yx3_0) => (cl yx3_0 10 a0 (f_T_fine yx3_0 a0 (-2 : Int32))).bind fun v6 => some (v6.1, v6.2) | (.inr yx3_1) => (cl yx3_1.2 10 a0 (f_T_fine yx3_1.2 a0 yx3_1.1)).bind fun v7 => some (v7.1, v7.2)) else ((cl h 10 a0 (f_T_refuse h a0 (1 : Int32))).bind fun v8 => some (v8.1, v8.2))
set_option maxRecDepth 20000 in
theorem PM_T_stillTable {l : Launch} {G : Cx} {h : PH} {a0 : Option Nat} {z : (Int32 × PH)} (hz : f_T_stillTable h a0 = some z) : PM l G 6 0 0 Y_T_stillTable [.inr (.inr a0)] h (some (.inl z.1), z.2) := by
  refine PM.of (Y := Y_T_stillTable) (cv := (fun z : (Int32 × PH) => (((some (.inl z.1), z.2) : Option PV × PH)))) (by decide) (L0 := [some (.inr (.inr a0)), none]) 1 rfl (Nat.le_of_ble_eq_true rfl) ?_ hz
  unfold f_T_stillTable
  refine PJ.aload_n (pc := 0) d_T_stillTable_0 rfl ?_
  refine PJ.getI (pc := 1) fs_T_36 d_T_stillTable_1 (fun v1 => ?_)
  refine PJ.if_ne (pc := 4) (tgt := 13) d_T_stillTable_4 (by decide) (fun _ => ?_) (fun _ => ?_)
  · refine PJ.iconst (pc := 13) (v := 0) d_T_stillTable_13 (by decide) ?_
    refine PJ.istore_n (pc := 14) (L1 := [some (.inr (.inr a0)), some (.inl (0 : Int32))]) d_T_stillTable_14 (Nat.le_of_ble_eq_true rfl) rfl rfl ?_
    refine PJ.bind (fun x3 : (PH) ⊕ (Int32 × PH) => match x3 with | (.inl y0) => ((44 : Nat), ([some (.inr (.inr a0)), none] : List (Option PV)), ([] : List PV), (y0 : PH), (0 : Nat), (0 : Nat)) | (.inr y1) => ((32 : Nat), ([some (.inr (.inr a0)), some (.inl y1.1)] : List (Option PV)), ([] : List PV), (y1.2 : PH), (0 : Nat), (0 : Nat))) (PJ.it (E := (fun s2 : Int32 × PH => ((15 : Nat), ([some (.inr (.inr a0)), some (.inl s2.1)] : List (Option PV)), ([] : List PV), (s2.2 : PH), (0 : Nat), (0 : Nat)))) (F := (fun x3 : (PH) ⊕ (Int32 × PH) => match x3 with | (.inl y0) => ((44 : Nat), ([some (.inr (.inr a0)), none] : List (Option PV)), ([] : List PV), (y0 : PH), (0 : Nat), (0 : Nat)) | (.inr y1) => ((32 : Nat), ([some (.inr (.inr a0)), some (.inl y1.1)] : List (Option PV)), ([] : List PV), (y1.2 : PH), (0 : Nat), (0 : Nat)))) (fun s2 => ?_) FU ((0 : Int32), h)) (fun x3 => ?_)
    · show PJ l G (pj_rm 6 0 0) Y_T_stillTable 15 [some (.inr (.inr a0)), some (.inl s2.1)] [] s2.2 0 0 _ _
      refine PJ.iload_n (pc := 15) d_T_stillTable_15 rfl ?_
      refine PJ.bipush (pc := 16) (v := 9) d_T_stillTable_16 (by decide) ?_
      refine PJ.icmp_gt (pc := 18) (tgt := 44) d_T_stillTable_18 (by decide) (fun _ => ?_) (fun _ => ?_)
      · refine PJ.mk (L1 := [some (.inr (.inr a0)), none]) [true, false] rfl ?_
        exact PJ.done rfl
      · refine PJ.aload_n (pc := 21) d_T_stillTable_21 rfl ?_
        refine PJ.iload_n (pc := 22) d_T_stillTable_22 rfl ?_
        refine PJ.cVR (pc := 23) cs_T_245 (fun z hz => PM_T_byTable hz) (pj_fitb rfl) rfl rfl (Nat.le_of_ble_eq_true rfl) d_T_stillTable_23 (fun v4 => ?_)
        refine PJ.cVpI (pc := 26) cs_T_160 (fun z hz => PM_Desk_wavering hz) (pj_fitb rfl) rfl rfl (Nat.le_of_ble_eq_true rfl) d_T_stillTable_26 (fun v5 => ?_)
        refine PJ.if_ne (pc := 29) (tgt := 38) d_T_stillTable_29 (by decide) (fun _ => ?_) (fun _ => ?_)
        · refine PJ.iinc (pc := 38) (v := 1) (L1 := [some (.inr (.inr a0)), some (.inl (s2.1 + (1 : Int32)))]) d_T_stillTable_38 rfl (by decide) (Nat.le_of_ble_eq_true rfl) rfl rfl ?_
          refine PJ.goto (pc := 41) (tgt := 15) d_T_stillTable_41 (by decide) ?_
          exact PJ.done rfl
        · exact PJ.done rfl
    · rcases x3 with yx3_0 | yx3_1
      · show PJ l G (pj_rm 6 0 0) Y_T_stillTable 44 [some (.inr (.inr a0)), none] [] yx3_0 0 0 _ _
        refine PJ.aload_n (pc := 44) d_T_stillTable_44 rfl ?_
        refine PJ.bipush (pc := 45) (v := -2) d_T_stillTable_45 (by decide) ?_
        refine PJ.cVI (pc := 47) cs_T_114 (fun z hz => PM_T_fine hz) (pj_fitb rfl) rfl rfl (Nat.le_of_ble_eq_true rfl) d_T_stillTable_47 (fun v6 => ?_)
        exact PJ.iret (pc := 50) d_T_stillTable_50 rfl (Nat.le_of_ble_eq_true rfl) (Nat.le_of_ble_eq_true rfl)
      · show PJ l G (pj_rm 6 0 0) Y_T_stillTable 32 [some (.inr (.inr a0)), some (.inl yx3_1.1)] [] yx3_1.2 0 0 _ _
        refine PJ.aload_n (pc := 32) d_T_stillTable_32 rfl ?_
        refine PJ.iload_n (pc := 33) d_T_stillTable_33 rfl ?_
        refine PJ.cVI (pc := 34) cs_T_114 (fun z hz => PM_T_fine hz) (pj_fitb rfl) rfl rfl (Nat.le_of_ble_eq_true rfl) d_T_stillTable_34 (fun v7 => ?_)
        exact PJ.iret (pc := 37) d_T_stillTable_37 rfl (Nat.le_of_ble_eq_true rfl) (Nat.le_of_ble_eq_true rfl)
  · refine PJ.aload_n (pc := 7) d_T_stillTable_7 rfl ?_
    refine PJ.iconst (pc := 8) (v := 1) d_T_stillTable_8 (by decide) ?_
    refine PJ.cVI (pc := 9) cs_T_95 (fun z hz => PM_T_refuse hz) (pj_fitb rfl) rfl rfl (Nat.le_of_ble_eq_true rfl) d_T_stillTable_9 (fun v8 => ?_)
    exact PJ.iret (pc := 12) d_T_stillTable_12 rfl (Nat.le_of_ble_eq_true rfl) (Nat.le_of_ble_eq_true rfl)
theorem d_Receipts_nextOf_0 : decode Y_Receipts_nextOf.2.1 0 = .ok (.iload_n 2, 1) := by decide +kernel
theorem d_Receipts_nextOf_1 : decode Y_Receipts_nextOf.2.1 1 = .ok (.istore_n 3, 1) := by decide +kernel
theorem d_Receipts_nextOf_2 : decode Y_Receipts_nextOf.2.1 2 = .ok (.iload_n 3, 1) := by decide +kernel
theorem d_Receipts_nextOf_3 : decode Y_Receipts_nextOf.2.1 3 = .ok (.aload_n 0, 1) := by decide +kernel
theorem d_Receipts_nextOf_4 : decode Y_Receipts_nextOf.2.1 4 = .ok (.getfield 9, 3) := by decide +kernel
theorem d_Receipts_nextOf_7 : decode Y_Receipts_nextOf.2.1 7 = .ok (.if_icmp .ge 21, 3) := by decide +kernel
theorem d_Receipts_nextOf_10 : decode Y_Receipts_nextOf.2.1 10 = .ok (.aload_n 0, 1) := by decide +kernel
theorem d_Receipts_nextOf_11 : decode Y_Receipts_nextOf.2.1 11 = .ok (.getfield 15, 3) := by decide +kernel
theorem d_Receipts_nextOf_14 : decode Y_Receipts_nextOf.2.1 14 = .ok (.iload_n 3, 1) := by decide +kernel
theorem d_Receipts_nextOf_15 : decode Y_Receipts_nextOf.2.1 15 = .ok (.iaload, 1) := by decide +kernel
theorem d_Receipts_nextOf_16 : decode Y_Receipts_nextOf.2.1 16 = .ok (.iload_n 1, 1) := by decide +kernel
theorem d_Receipts_nextOf_17 : decode Y_Receipts_nextOf.2.1 17 = .ok (.if_icmp .ne 5, 3) := by decide +kernel
theorem d_Receipts_nextOf_20 : decode Y_Receipts_nextOf.2.1 20 = .ok (.iload_n 3, 1) := by decide +kernel
theorem d_Receipts_nextOf_21 : decode Y_Receipts_nextOf.2.1 21 = .ok (.ireturn, 1) := by decide +kernel
theorem d_Receipts_nextOf_22 : decode Y_Receipts_nextOf.2.1 22 = .ok (.iinc 3 1, 3) := by decide +kernel
theorem d_Receipts_nextOf_25 : decode Y_Receipts_nextOf.2.1 25 = .ok (.goto (-23), 3) := by decide +kernel
theorem d_Receipts_nextOf_28 : decode Y_Receipts_nextOf.2.1 28 = .ok (.aload_n 0, 1) := by decide +kernel
theorem d_Receipts_nextOf_29 : decode Y_Receipts_nextOf.2.1 29 = .ok (.getfield 9, 3) := by decide +kernel
theorem d_Receipts_nextOf_32 : decode Y_Receipts_nextOf.2.1 32 = .ok (.ireturn, 1) := by decide +kernel
def f_Receipts_nextOf (h : PH) (a0 : Option Nat) (a1 : Int32) (a2 : Int32) : Option Int32 := (pj_it (X := (Unit) ⊕ (Int32)) (fun s1 : Int32 => (gI h 7 a0 0).bind fun v3 => if v3 ≤ s1 then (some (.inr (.inl ()))) else ((gR h 7 a0 1).bind fun v4 => (aI h v4 s1).bind fun v5 => if ¬ v5 = a1 then (some (.inl (s1 + (1 : Int32)))) else (some (.inr (.inr s1))))) FU a2).bind fun x2 => match x2 with | (.inl yx2_0) => (gI h 7 a0 0).bind fun v6 => some v6 | (.inr yx2_1) => some yx2_1
set_option maxRecDepth 20000 in
theorem PM_Receipts_nextOf {l : Launch} {G : Cx} {h : PH} {a0 : Option Nat} {a1 : Int32} {a2 : Int32} {z : Int32} (hz : f_Receipts_nextOf h a0 a1 a2 = some z) : PM l G 1 0 0 Y_Receipts_nextOf [.inr (.inr a0), .inl a1, .inl a2] h (some (.inl z), h) := by
  refine PM.of (Y := Y_Receipts_nextOf) (cv := (fun z : Int32 => (((some (.inl z), h) : Option PV × PH)))) (by decide) (L0 := [some (.inr (.inr a0)), some (.inl a1), some (.inl a2), none]) 1 rfl (Nat.le_of_ble_eq_true rfl) ?_ hz
  unfold f_Receipts_nextOf
  refine PJ.iload_n (pc := 0) d_Receipts_nextOf_0 rfl ?_
  refine PJ.istore_n (pc := 1) (L1 := [some (.inr (.inr a0)), some (.inl a1), some (.inl a2), some (.inl a2)]) d_Receipts_nextOf_1 (Nat.le_of_ble_eq_true rfl) rfl rfl ?_
  refine PJ.mk (L1 := [some (.inr (.inr a0)), some (.inl a1), none, some (.inl a2)]) [true, true, false, true] rfl ?_
  refine PJ.bind (fun x2 : (Unit) ⊕ (Int32) => match x2 with | (.inl y0) => ((28 : Nat), ([some (.inr (.inr a0)), none, none, none] : List (Option PV)), ([] : List PV), (h : PH), (0 : Nat), (0 : Nat)) | (.inr y1) => ((20 : Nat), ([none, none, none, some (.inl y1)] : List (Option PV)), ([] : List PV), (h : PH), (0 : Nat), (0 : Nat))) (PJ.it (E := (fun s1 : Int32 => ((2 : Nat), ([some (.inr (.inr a0)), some (.inl a1), none, some (.inl s1)] : List (Option PV)), ([] : List PV), (h : PH), (0 : Nat), (0 : Nat)))) (F := (fun x2 : (Unit) ⊕ (Int32) => match x2 with | (.inl y0) => ((28 : Nat), ([some (.inr (.inr a0)), none, none, none] : List (Option PV)), ([] : List PV), (h : PH), (0 : Nat), (0 : Nat)) | (.inr y1) => ((20 : Nat), ([none, none, none, some (.inl y1)] : List (Option PV)), ([] : List PV), (h : PH), (0 : Nat), (0 : Nat)))) (fun s1 => ?_) FU a2) (fun x2 => ?_)
  · show PJ l G (pj_rm 1 0 0) Y_Receipts_nextOf 2 [some (.inr (.inr a0)), some (.inl a1), none, some (.inl s1)] [] h 0 0 _ _
    refine PJ.iload_n (pc := 2) d_Receipts_nextOf_2 rfl ?_
    refine PJ.aload_n (pc := 3) d_Receipts_nextOf_3 rfl ?_
    refine PJ.getI (pc := 4) fs_Receipts_9 d_Receipts_nextOf_4 (fun v3 => ?_)
    refine PJ.icmp_ge (pc := 7) (tgt := 28) d_Receipts_nextOf_7 (by decide) (fun _ => ?_) (fun _ => ?_)
    · refine PJ.mk (L1 := [some (.inr (.inr a0)), none, none, none]) [true, false, false, false] rfl ?_
      exact PJ.done rfl
    · refine PJ.aload_n (pc := 10) d_Receipts_nextOf_10 rfl ?_
      refine PJ.getR (pc := 11) fs_Receipts_15 d_Receipts_nextOf_11 (fun v4 => ?_)
      refine PJ.iload_n (pc := 14) d_Receipts_nextOf_14 rfl ?_
      refine PJ.iald (pc := 15) d_Receipts_nextOf_15 (fun v5 => ?_)
      refine PJ.iload_n (pc := 16) d_Receipts_nextOf_16 rfl ?_
      refine PJ.icmp_ne (pc := 17) (tgt := 22) d_Receipts_nextOf_17 (by decide) (fun _ => ?_) (fun _ => ?_)
      · refine PJ.iinc (pc := 22) (v := 1) (L1 := [some (.inr (.inr a0)), some (.inl a1), none, some (.inl (s1 + (1 : Int32)))]) d_Receipts_nextOf_22 rfl (by decide) (Nat.le_of_ble_eq_true rfl) rfl rfl ?_
        refine PJ.goto (pc := 25) (tgt := 2) d_Receipts_nextOf_25 (by decide) ?_
        exact PJ.done rfl
      · refine PJ.mk (L1 := [none, none, none, some (.inl s1)]) [false, false, false, true] rfl ?_
        exact PJ.done rfl
  · rcases x2 with yx2_0 | yx2_1
    · show PJ l G (pj_rm 1 0 0) Y_Receipts_nextOf 28 [some (.inr (.inr a0)), none, none, none] [] h 0 0 _ _
      refine PJ.aload_n (pc := 28) d_Receipts_nextOf_28 rfl ?_
      refine PJ.getI (pc := 29) fs_Receipts_9 d_Receipts_nextOf_29 (fun v6 => ?_)
      exact PJ.iretp (pc := 32) d_Receipts_nextOf_32 rfl (Nat.le_of_ble_eq_true rfl) (Nat.le_of_ble_eq_true rfl)
    · show PJ l G (pj_rm 1 0 0) Y_Receipts_nextOf 20 [none, none, none, some (.inl yx2_1)] [] h 0 0 _ _
      refine PJ.iload_n (pc := 20) d_Receipts_nextOf_20 rfl ?_
      exact PJ.iretp (pc := 21) d_Receipts_nextOf_21 rfl (Nat.le_of_ble_eq_true rfl) (Nat.le_of_ble_eq_true rfl)
theorem d_Receipts_has_0 : decode Y_Receipts_has.2.1 0 = .ok (.aload_n 0, 1) := by decide +kernel
theorem d_Receipts_has_1 : decode Y_Receipts_has.2.1 1 = .ok (.iload_n 1, 1) := by decide +kernel
theorem d_Receipts_has_2 : decode Y_Receipts_has.2.1 2 = .ok (.iconst 0, 1) := by decide +kernel
theorem d_Receipts_has_3 : decode Y_Receipts_has.2.1 3 = .ok (.invokevirtual 25, 3) := by decide +kernel
theorem d_Receipts_has_6 : decode Y_Receipts_has.2.1 6 = .ok (.aload_n 0, 1) := by decide +kernel
theorem d_Receipts_has_7 : decode Y_Receipts_has.2.1 7 = .ok (.getfield 9, 3) := by decide +kernel
theorem d_Receipts_has_10 : decode Y_Receipts_has.2.1 10 = .ok (.if_icmp .ge 7, 3) := by decide +kernel
theorem d_Receipts_has_13 : decode Y_Receipts_has.2.1 13 = .ok (.iconst 1, 1) := by decide +kernel
theorem d_Receipts_has_14 : decode Y_Receipts_has.2.1 14 = .ok (.goto 4, 3) := by decide +kernel
theorem d_Receipts_has_17 : decode Y_Receipts_has.2.1 17 = .ok (.iconst 0, 1) := by decide +kernel
theorem d_Receipts_has_18 : decode Y_Receipts_has.2.1 18 = .ok (.ireturn, 1) := by decide +kernel
def f_Receipts_has (h : PH) (a0 : Option Nat) (a1 : Int32) : Option Int32 := (cl h 7 a0 (f_Receipts_nextOf h a0 a1 (0 : Int32))).bind fun v1 => (gI h 7 a0 0).bind fun v2 => if v2 ≤ v1 then (some (0 : Int32)) else (some (1 : Int32))
set_option maxRecDepth 20000 in
theorem PM_Receipts_has {l : Launch} {G : Cx} {h : PH} {a0 : Option Nat} {a1 : Int32} {z : Int32} (hz : f_Receipts_has h a0 a1 = some z) : PM l G 2 0 0 Y_Receipts_has [.inr (.inr a0), .inl a1] h (some (.inl z), h) := by
  refine PM.of (Y := Y_Receipts_has) (cv := (fun z : Int32 => (((some (.inl z), h) : Option PV × PH)))) (by decide) (L0 := [some (.inr (.inr a0)), some (.inl a1)]) 0 rfl (Nat.le_of_ble_eq_true rfl) ?_ hz
  unfold f_Receipts_has
  refine PJ.aload_n (pc := 0) d_Receipts_has_0 rfl ?_
  refine PJ.iload_n (pc := 1) d_Receipts_has_1 rfl ?_
  refine PJ.iconst (pc := 2) (v := 0) d_Receipts_has_2 (by decide) ?_
  refine PJ.cVpI (pc := 3) cs_Receipts_25 (fun z hz => PM_Receipts_nextOf hz) (pj_fitb rfl) rfl rfl (Nat.le_of_ble_eq_true rfl) d_Receipts_has_3 (fun v1 => ?_)
  refine PJ.aload_n (pc := 6) d_Receipts_has_6 rfl ?_
  refine PJ.getI (pc := 7) fs_Receipts_9 d_Receipts_has_7 (fun v2 => ?_)
  refine PJ.icmp_ge (pc := 10) (tgt := 17) d_Receipts_has_10 (by decide) (fun _ => ?_) (fun _ => ?_)
  · refine PJ.iconst (pc := 17) (v := 0) d_Receipts_has_17 (by decide) ?_
    exact PJ.zretp (pc := 18) d_Receipts_has_18 rfl rfl (Nat.le_of_ble_eq_true rfl) (Nat.le_of_ble_eq_true rfl)
  · refine PJ.iconst (pc := 13) (v := 1) d_Receipts_has_13 (by decide) ?_
    refine PJ.goto (pc := 14) (tgt := 18) d_Receipts_has_14 (by decide) ?_
    exact PJ.zretp (pc := 18) d_Receipts_has_18 rfl rfl (Nat.le_of_ble_eq_true rfl) (Nat.le_of_ble_eq_true rfl)
theorem d_Rows_countRow_0 : decode Y_Rows_countRow.2.1 0 = .ok (.iconst 0, 1) := by decide +kernel
theorem d_Rows_countRow_1 : decode Y_Rows_countRow.2.1 1 = .ok (.istore_n 1, 1) := by decide +kernel
theorem d_Rows_countRow_2 : decode Y_Rows_countRow.2.1 2 = .ok (.iload_n 1, 1) := by decide +kernel
theorem d_Rows_countRow_3 : decode Y_Rows_countRow.2.1 3 = .ok (.aload_n 0, 1) := by decide +kernel
theorem d_Rows_countRow_4 : decode Y_Rows_countRow.2.1 4 = .ok (.getfield 33, 3) := by decide +kernel
theorem d_Rows_countRow_7 : decode Y_Rows_countRow.2.1 7 = .ok (.getfield 67, 3) := by decide +kernel
theorem d_Rows_countRow_10 : decode Y_Rows_countRow.2.1 10 = .ok (.getfield 79, 3) := by decide +kernel
theorem d_Rows_countRow_13 : decode Y_Rows_countRow.2.1 13 = .ok (.if_icmp .ge 64, 3) := by decide +kernel
theorem d_Rows_countRow_16 : decode Y_Rows_countRow.2.1 16 = .ok (.aload_n 0, 1) := by decide +kernel
theorem d_Rows_countRow_17 : decode Y_Rows_countRow.2.1 17 = .ok (.getfield 33, 3) := by decide +kernel
theorem d_Rows_countRow_20 : decode Y_Rows_countRow.2.1 20 = .ok (.getfield 67, 3) := by decide +kernel
theorem d_Rows_countRow_23 : decode Y_Rows_countRow.2.1 23 = .ok (.getfield 110, 3) := by decide +kernel
theorem d_Rows_countRow_26 : decode Y_Rows_countRow.2.1 26 = .ok (.iload_n 1, 1) := by decide +kernel
theorem d_Rows_countRow_27 : decode Y_Rows_countRow.2.1 27 = .ok (.iaload, 1) := by decide +kernel
theorem d_Rows_countRow_28 : decode Y_Rows_countRow.2.1 28 = .ok (.aload_n 0, 1) := by decide +kernel
theorem d_Rows_countRow_29 : decode Y_Rows_countRow.2.1 29 = .ok (.getfield 9, 3) := by decide +kernel
theorem d_Rows_countRow_32 : decode Y_Rows_countRow.2.1 32 = .ok (.if_icmp .ne 39, 3) := by decide +kernel
theorem d_Rows_countRow_35 : decode Y_Rows_countRow.2.1 35 = .ok (.aload_n 0, 1) := by decide +kernel
theorem d_Rows_countRow_36 : decode Y_Rows_countRow.2.1 36 = .ok (.getfield 30, 3) := by decide +kernel
theorem d_Rows_countRow_39 : decode Y_Rows_countRow.2.1 39 = .ok (.iload_n 1, 1) := by decide +kernel
theorem d_Rows_countRow_40 : decode Y_Rows_countRow.2.1 40 = .ok (.aaload, 1) := by decide +kernel
theorem d_Rows_countRow_41 : decode Y_Rows_countRow.2.1 41 = .ok (.aload_n 0, 1) := by decide +kernel
theorem d_Rows_countRow_42 : decode Y_Rows_countRow.2.1 42 = .ok (.getfield 25, 3) := by decide +kernel
theorem d_Rows_countRow_45 : decode Y_Rows_countRow.2.1 45 = .ok (.iload_n 1, 1) := by decide +kernel
theorem d_Rows_countRow_46 : decode Y_Rows_countRow.2.1 46 = .ok (.iaload, 1) := by decide +kernel
theorem d_Rows_countRow_47 : decode Y_Rows_countRow.2.1 47 = .ok (.dup2, 1) := by decide +kernel
theorem d_Rows_countRow_48 : decode Y_Rows_countRow.2.1 48 = .ok (.iaload, 1) := by decide +kernel
theorem d_Rows_countRow_49 : decode Y_Rows_countRow.2.1 49 = .ok (.iconst 1, 1) := by decide +kernel
theorem d_Rows_countRow_50 : decode Y_Rows_countRow.2.1 50 = .ok (.iadd, 1) := by decide +kernel
theorem d_Rows_countRow_51 : decode Y_Rows_countRow.2.1 51 = .ok (.iastore, 1) := by decide +kernel
theorem d_Rows_countRow_52 : decode Y_Rows_countRow.2.1 52 = .ok (.aload_n 0, 1) := by decide +kernel
theorem d_Rows_countRow_53 : decode Y_Rows_countRow.2.1 53 = .ok (.getfield 15, 3) := by decide +kernel
theorem d_Rows_countRow_56 : decode Y_Rows_countRow.2.1 56 = .ok (.ifCond .ne 15, 3) := by decide +kernel
theorem d_Rows_countRow_59 : decode Y_Rows_countRow.2.1 59 = .ok (.aload_n 0, 1) := by decide +kernel
theorem d_Rows_countRow_60 : decode Y_Rows_countRow.2.1 60 = .ok (.getfield 18, 3) := by decide +kernel
theorem d_Rows_countRow_63 : decode Y_Rows_countRow.2.1 63 = .ok (.iload_n 1, 1) := by decide +kernel
theorem d_Rows_countRow_64 : decode Y_Rows_countRow.2.1 64 = .ok (.aload_n 0, 1) := by decide +kernel
theorem d_Rows_countRow_65 : decode Y_Rows_countRow.2.1 65 = .ok (.getfield 25, 3) := by decide +kernel
theorem d_Rows_countRow_68 : decode Y_Rows_countRow.2.1 68 = .ok (.iload_n 1, 1) := by decide +kernel
theorem d_Rows_countRow_69 : decode Y_Rows_countRow.2.1 69 = .ok (.iaload, 1) := by decide +kernel
theorem d_Rows_countRow_70 : decode Y_Rows_countRow.2.1 70 = .ok (.iastore, 1) := by decide +kernel
theorem d_Rows_countRow_71 : decode Y_Rows_countRow.2.1 71 = .ok (.iinc 1 1, 3) := by decide +kernel
theorem d_Rows_countRow_74 : decode Y_Rows_countRow.2.1 74 = .ok (.goto (-72), 3) := by decide +kernel
theorem d_Rows_countRow_77 : decode Y_Rows_countRow.2.1 77 = .ok (.aload_n 0, 1) := by decide +kernel
theorem d_Rows_countRow_78 : decode Y_Rows_countRow.2.1 78 = .ok (.dup, 1) := by decide +kernel
theorem d_Rows_countRow_79 : decode Y_Rows_countRow.2.1 79 = .ok (.getfield 15, 3) := by decide +kernel
theorem d_Rows_countRow_82 : decode Y_Rows_countRow.2.1 82 = .ok (.iconst 1, 1) := by decide +kernel
theorem d_Rows_countRow_83 : decode Y_Rows_countRow.2.1 83 = .ok (.iadd, 1) := by decide +kernel
theorem d_Rows_countRow_84 : decode Y_Rows_countRow.2.1 84 = .ok (.putfield 15, 3) := by decide +kernel
theorem d_Rows_countRow_87 : decode Y_Rows_countRow.2.1 87 = .ok (.return_, 1) := by decide +kernel
def f_Rows_countRow (h : PH) (a0 : Option Nat) : Option PH := (pj_it (X := PH) (fun s1 : Int32 × PH => (gR s1.2 8 a0 0).bind fun v3 => (gR s1.2 1 v3 11).bind fun v4 => (gI s1.2 7 v4 0).bind fun v5 => if v5 ≤ s1.1 then (some (.inr s1.2)) else ((gR s1.2 8 a0 0).bind fun v6 => (gR s1.2 1 v6 11).bind fun v7 => (gR s1.2 7 v7 1).bind fun v8 => (aI s1.2 v8 s1.1).bind fun v9 => (gI s1.2 8 a0 3).bind fun v10 => if ¬ v9 = v10 then (some (.inl ((s1.1 + (1 : Int32)), s1.2))) else ((gR s1.2 8 a0 8).bind fun v11 => (aR s1.2 53 v11 s1.1).bind fun v12 => (gR s1.2 8 a0 7).bind fun v13 => (aI s1.2 v13 s1.1).bind fun v14 => (aI s1.2 v12 v14).bind fun v15 => (sA s1.2 50 v12 v14 (.inl (v15 + (1 : Int32)))).bind fun h16 => (gI h16 8 a0 4).bind fun v17 => if ¬ v17 = 0 then (some (.inl ((s1.1 + (1 : Int32)), h16))) else ((gR h16 8 a0 5).bind fun v18 => (gR h16 8 a0 7).bind fun v19 => (aI h16 v19 s1.1).bind fun v20 => (sA h16 50 v18 s1.1 (.inl v20)).bind fun h21 => some (.inl ((s1.1 + (1 : Int32)), h21)))))) FU ((0 : Int32), h)).bind fun x2 => (gI x2 8 a0 4).bind fun v22 => (sF x2 8 a0 4 (.inl (v22 + (1 : Int32)))).bind fun h23 => some h23
set_option maxRecDepth 20000 in
theorem PM_Rows_countRow {l : Launch} {G : Cx} {h : PH} {a0 : Option Nat} {z : PH} (hz : f_Rows_countRow h a0 = some z) : PM l G 1 0 0 Y_Rows_countRow [.inr (.inr a0)] h (none, z) := by
  refine PM.of (Y := Y_Rows_countRow) (cv := (fun z : PH => (((none, z) : Option PV × PH)))) (by decide) (L0 := [some (.inr (.inr a0)), none]) 1 rfl (Nat.le_of_ble_eq_true rfl) ?_ hz
  unfold f_Rows_countRow
  refine PJ.iconst (pc := 0) (v := 0) d_Rows_countRow_0 (by decide) ?_
  refine PJ.istore_n (pc := 1) (L1 := [some (.inr (.inr a0)), some (.inl (0 : Int32))]) d_Rows_countRow_1 (Nat.le_of_ble_eq_true rfl) rfl rfl ?_
  refine PJ.bind (fun x2 : PH => ((77 : Nat), ([some (.inr (.inr a0)), none] : List (Option PV)), ([] : List PV), (x2 : PH), (0 : Nat), (0 : Nat))) (PJ.it (E := (fun s1 : Int32 × PH => ((2 : Nat), ([some (.inr (.inr a0)), some (.inl s1.1)] : List (Option PV)), ([] : List PV), (s1.2 : PH), (0 : Nat), (0 : Nat)))) (F := (fun x2 : PH => ((77 : Nat), ([some (.inr (.inr a0)), none] : List (Option PV)), ([] : List PV), (x2 : PH), (0 : Nat), (0 : Nat)))) (fun s1 => ?_) FU ((0 : Int32), h)) (fun x2 => ?_)
  · show PJ l G (pj_rm 1 0 0) Y_Rows_countRow 2 [some (.inr (.inr a0)), some (.inl s1.1)] [] s1.2 0 0 _ _
    refine PJ.iload_n (pc := 2) d_Rows_countRow_2 rfl ?_
    refine PJ.aload_n (pc := 3) d_Rows_countRow_3 rfl ?_
    refine PJ.getR (pc := 4) fs_Rows_33 d_Rows_countRow_4 (fun v3 => ?_)
    refine PJ.getR (pc := 7) fs_Rows_67 d_Rows_countRow_7 (fun v4 => ?_)
    refine PJ.getI (pc := 10) fs_Rows_79 d_Rows_countRow_10 (fun v5 => ?_)
    refine PJ.icmp_ge (pc := 13) (tgt := 77) d_Rows_countRow_13 (by decide) (fun _ => ?_) (fun _ => ?_)
    · refine PJ.mk (L1 := [some (.inr (.inr a0)), none]) [true, false] rfl ?_
      exact PJ.done rfl
    · refine PJ.aload_n (pc := 16) d_Rows_countRow_16 rfl ?_
      refine PJ.getR (pc := 17) fs_Rows_33 d_Rows_countRow_17 (fun v6 => ?_)
      refine PJ.getR (pc := 20) fs_Rows_67 d_Rows_countRow_20 (fun v7 => ?_)
      refine PJ.getR (pc := 23) fs_Rows_110 d_Rows_countRow_23 (fun v8 => ?_)
      refine PJ.iload_n (pc := 26) d_Rows_countRow_26 rfl ?_
      refine PJ.iald (pc := 27) d_Rows_countRow_27 (fun v9 => ?_)
      refine PJ.aload_n (pc := 28) d_Rows_countRow_28 rfl ?_
      refine PJ.getI (pc := 29) fs_Rows_9 d_Rows_countRow_29 (fun v10 => ?_)
      refine PJ.icmp_ne (pc := 32) (tgt := 71) d_Rows_countRow_32 (by decide) (fun _ => ?_) (fun _ => ?_)
      · refine PJ.iinc (pc := 71) (v := 1) (L1 := [some (.inr (.inr a0)), some (.inl (s1.1 + (1 : Int32)))]) d_Rows_countRow_71 rfl (by decide) (Nat.le_of_ble_eq_true rfl) rfl rfl ?_
        refine PJ.goto (pc := 74) (tgt := 2) d_Rows_countRow_74 (by decide) ?_
        exact PJ.done rfl
      · refine PJ.aload_n (pc := 35) d_Rows_countRow_35 rfl ?_
        refine PJ.getR (pc := 36) fs_Rows_30 d_Rows_countRow_36 (fun v11 => ?_)
        refine PJ.iload_n (pc := 39) d_Rows_countRow_39 rfl ?_
        refine PJ.aald (pc := 40) 53 (by decide) d_Rows_countRow_40 (fun v12 => ?_)
        refine PJ.aload_n (pc := 41) d_Rows_countRow_41 rfl ?_
        refine PJ.getR (pc := 42) fs_Rows_25 d_Rows_countRow_42 (fun v13 => ?_)
        refine PJ.iload_n (pc := 45) d_Rows_countRow_45 rfl ?_
        refine PJ.iald (pc := 46) d_Rows_countRow_46 (fun v14 => ?_)
        refine PJ.dup2 (pc := 47) d_Rows_countRow_47 rfl rfl ?_
        refine PJ.iald (pc := 48) d_Rows_countRow_48 (fun v15 => ?_)
        refine PJ.iconst (pc := 49) (v := 1) d_Rows_countRow_49 (by decide) ?_
        refine PJ.iadd (pc := 50) d_Rows_countRow_50 ?_
        refine PJ.iast (pc := 51) d_Rows_countRow_51 (fun h16 => ?_)
        refine PJ.aload_n (pc := 52) d_Rows_countRow_52 rfl ?_
        refine PJ.getI (pc := 53) fs_Rows_15 d_Rows_countRow_53 (fun v17 => ?_)
        refine PJ.if_ne (pc := 56) (tgt := 71) d_Rows_countRow_56 (by decide) (fun _ => ?_) (fun _ => ?_)
        · refine PJ.iinc (pc := 71) (v := 1) (L1 := [some (.inr (.inr a0)), some (.inl (s1.1 + (1 : Int32)))]) d_Rows_countRow_71 rfl (by decide) (Nat.le_of_ble_eq_true rfl) rfl rfl ?_
          refine PJ.goto (pc := 74) (tgt := 2) d_Rows_countRow_74 (by decide) ?_
          exact PJ.done rfl
        · refine PJ.aload_n (pc := 59) d_Rows_countRow_59 rfl ?_
          refine PJ.getR (pc := 60) fs_Rows_18 d_Rows_countRow_60 (fun v18 => ?_)
          refine PJ.iload_n (pc := 63) d_Rows_countRow_63 rfl ?_
          refine PJ.aload_n (pc := 64) d_Rows_countRow_64 rfl ?_
          refine PJ.getR (pc := 65) fs_Rows_25 d_Rows_countRow_65 (fun v19 => ?_)
          refine PJ.iload_n (pc := 68) d_Rows_countRow_68 rfl ?_
          refine PJ.iald (pc := 69) d_Rows_countRow_69 (fun v20 => ?_)
          refine PJ.iast (pc := 70) d_Rows_countRow_70 (fun h21 => ?_)
          refine PJ.iinc (pc := 71) (v := 1) (L1 := [some (.inr (.inr a0)), some (.inl (s1.1 + (1 : Int32)))]) d_Rows_countRow_71 rfl (by decide) (Nat.le_of_ble_eq_true rfl) rfl rfl ?_
          refine PJ.goto (pc := 74) (tgt := 2) d_Rows_countRow_74 (by decide) ?_
          exact PJ.done rfl
  · show PJ l G (pj_rm 1 0 0) Y_Rows_countRow 77 [some (.inr (.inr a0)), none] [] x2 0 0 _ _
    refine PJ.aload_n (pc := 77) d_Rows_countRow_77 rfl ?_
    refine PJ.dup (pc := 78) d_Rows_countRow_78 rfl ?_
    refine PJ.getI (pc := 79) fs_Rows_15 d_Rows_countRow_79 (fun v22 => ?_)
    refine PJ.iconst (pc := 82) (v := 1) d_Rows_countRow_82 (by decide) ?_
    refine PJ.iadd (pc := 83) d_Rows_countRow_83 ?_
    refine PJ.putI (pc := 84) ps_Rows_15 d_Rows_countRow_84 (fun h23 => ?_)
    exact PJ.vret (pc := 87) d_Rows_countRow_87 rfl (Nat.le_of_ble_eq_true rfl) (Nat.le_of_ble_eq_true rfl)
