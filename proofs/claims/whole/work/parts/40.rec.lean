-- methods that call themselves
theorem pj_fits {Y1 : MI} {d d1 : Nat} (h : d1 + 1 ≤ d) (hm : Y1.2.2.1 ≤ 45) : pj_fit (pj_rm d 0 0) Y1 d1 0 0 0 0 := ⟨h, by show 8 + (Y1.2.2.1 + 11) + 64 * d1 ≤ 64 * d; omega, Nat.le_refl _, Nat.le_refl _⟩
abbrev Y_Planner_best : MI := (⟨"WaverTax$Planner", "best", "(I)J"⟩, prog_6_method_4_code, 6, (some .long))
abbrev Y_Planner_by : MI := (⟨"WaverTax$Planner", "by", "(II)J"⟩, prog_6_method_6_code, 8, (some .long))
abbrev Y_Planner_chances : MI := (⟨"WaverTax$Planner", "chances", "(II)J"⟩, prog_6_method_7_code, 11, (some .long))
abbrev Y_Rows_extend : MI := (⟨"WaverTax$Rows", "extend", "(I)V"⟩, prog_10_method_3_code, 8, (none : Option FieldType))
theorem cm_Planner_by : (Cond.code Y_Planner_by.1 Y_Planner_by.2.1 Y_Planner_by.2.2.1 Y_Planner_by.2.2.2 ∈ pj_ws) ∧ (Cond.initialized Y_Planner_by.1.cls ∈ pj_ws) ∧ (Y_Planner_by.1.cls ≠ "java/lang/invoke/MethodHandle" ∧ Y_Planner_by.1.cls ≠ "java/lang/invoke/VarHandle" ∧ (parseMethodDescriptor Y_Planner_by.1.desc).map (fun d => d.parameters.length) = some 2) ∧ (Cond.instanceMethod Y_Planner_by.1 ∈ pj_ws) ∧ (Cond.selects Y_Planner_by.1.cls Y_Planner_by.1 Y_Planner_by.1 ∈ pj_ws) := ⟨pj_mem 967 (by decide +kernel) rfl, pj_mem 138 (by decide +kernel) rfl, ⟨by decide +kernel, by decide +kernel, by decide +kernel⟩, pj_mem 966 (by decide +kernel) rfl, pj_mem 34 (by decide +kernel) rfl⟩
theorem cm_Planner_scale : (Cond.code Y_Planner_scale.1 Y_Planner_scale.2.1 Y_Planner_scale.2.2.1 Y_Planner_scale.2.2.2 ∈ pj_ws) ∧ (Cond.initialized Y_Planner_scale.1.cls ∈ pj_ws) ∧ (Y_Planner_scale.1.cls ≠ "java/lang/invoke/MethodHandle" ∧ Y_Planner_scale.1.cls ≠ "java/lang/invoke/VarHandle" ∧ (parseMethodDescriptor Y_Planner_scale.1.desc).map (fun d => d.parameters.length) = some 1) ∧ (Cond.instanceMethod Y_Planner_scale.1 ∈ pj_ws) ∧ (Cond.selects Y_Planner_scale.1.cls Y_Planner_scale.1 Y_Planner_scale.1 ∈ pj_ws) := ⟨pj_mem 972 (by decide +kernel) rfl, pj_mem 138 (by decide +kernel) rfl, ⟨by decide +kernel, by decide +kernel, by decide +kernel⟩, pj_mem 970 (by decide +kernel) rfl, pj_mem 971 (by decide +kernel) rfl⟩
theorem cm_Planner_chances : (Cond.code Y_Planner_chances.1 Y_Planner_chances.2.1 Y_Planner_chances.2.2.1 Y_Planner_chances.2.2.2 ∈ pj_ws) ∧ (Cond.initialized Y_Planner_chances.1.cls ∈ pj_ws) ∧ (Y_Planner_chances.1.cls ≠ "java/lang/invoke/MethodHandle" ∧ Y_Planner_chances.1.cls ≠ "java/lang/invoke/VarHandle" ∧ (parseMethodDescriptor Y_Planner_chances.1.desc).map (fun d => d.parameters.length) = some 2) ∧ (Cond.instanceMethod Y_Planner_chances.1 ∈ pj_ws) ∧ (Cond.selects Y_Planner_chances.1.cls Y_Planner_chances.1 Y_Planner_chances.1 ∈ pj_ws) := ⟨pj_mem 985 (by decide +kernel) rfl, pj_mem 138 (by decide +kernel) rfl, ⟨by decide +kernel, by decide +kernel, by decide +kernel⟩, pj_mem 984 (by decide +kernel) rfl, pj_mem 35 (by decide +kernel) rfl⟩
theorem cm_Reasons_nextOf : (Cond.code Y_Reasons_nextOf.1 Y_Reasons_nextOf.2.1 Y_Reasons_nextOf.2.2.1 Y_Reasons_nextOf.2.2.2 ∈ pj_ws) ∧ (Cond.initialized Y_Reasons_nextOf.1.cls ∈ pj_ws) ∧ (Y_Reasons_nextOf.1.cls ≠ "java/lang/invoke/MethodHandle" ∧ Y_Reasons_nextOf.1.cls ≠ "java/lang/invoke/VarHandle" ∧ (parseMethodDescriptor Y_Reasons_nextOf.1.desc).map (fun d => d.parameters.length) = some 3) ∧ (Cond.instanceMethod Y_Reasons_nextOf.1 ∈ pj_ws) ∧ (Cond.selects Y_Reasons_nextOf.1.cls Y_Reasons_nextOf.1 Y_Reasons_nextOf.1 ∈ pj_ws) := ⟨pj_mem 989 (by decide +kernel) rfl, pj_mem 132 (by decide +kernel) rfl, ⟨by decide +kernel, by decide +kernel, by decide +kernel⟩, pj_mem 987 (by decide +kernel) rfl, pj_mem 988 (by decide +kernel) rfl⟩
theorem cm_Planner_best : (Cond.code Y_Planner_best.1 Y_Planner_best.2.1 Y_Planner_best.2.2.1 Y_Planner_best.2.2.2 ∈ pj_ws) ∧ (Cond.initialized Y_Planner_best.1.cls ∈ pj_ws) ∧ (Y_Planner_best.1.cls ≠ "java/lang/invoke/MethodHandle" ∧ Y_Planner_best.1.cls ≠ "java/lang/invoke/VarHandle" ∧ (parseMethodDescriptor Y_Planner_best.1.desc).map (fun d => d.parameters.length) = some 1) ∧ (Cond.instanceMethod Y_Planner_best.1 ∈ pj_ws) ∧ (Cond.selects Y_Planner_best.1.cls Y_Planner_best.1 Y_Planner_best.1 ∈ pj_ws) := ⟨pj_mem 963 (by decide +kernel) rfl, pj_mem 138 (by decide +kernel) rfl, ⟨by decide +kernel, by decide +kernel, by decide +kernel⟩, pj_mem 962 (by decide +kernel) rfl, pj_mem 33 (by decide +kernel) rfl⟩
theorem cm_Rows_extend : (Cond.code Y_Rows_extend.1 Y_Rows_extend.2.1 Y_Rows_extend.2.2.1 Y_Rows_extend.2.2.2 ∈ pj_ws) ∧ (Cond.initialized Y_Rows_extend.1.cls ∈ pj_ws) ∧ (Y_Rows_extend.1.cls ≠ "java/lang/invoke/MethodHandle" ∧ Y_Rows_extend.1.cls ≠ "java/lang/invoke/VarHandle" ∧ (parseMethodDescriptor Y_Rows_extend.1.desc).map (fun d => d.parameters.length) = some 1) ∧ (Cond.instanceMethod Y_Rows_extend.1 ∈ pj_ws) ∧ (Cond.selects Y_Rows_extend.1.cls Y_Rows_extend.1 Y_Rows_extend.1 ∈ pj_ws) := ⟨pj_mem 1109 (by decide +kernel) rfl, pj_mem 139 (by decide +kernel) rfl, ⟨by decide +kernel, by decide +kernel, by decide +kernel⟩, pj_mem 1108 (by decide +kernel) rfl, pj_mem 41 (by decide +kernel) rfl⟩
theorem cm_Rows_countRow : (Cond.code Y_Rows_countRow.1 Y_Rows_countRow.2.1 Y_Rows_countRow.2.2.1 Y_Rows_countRow.2.2.2 ∈ pj_ws) ∧ (Cond.initialized Y_Rows_countRow.1.cls ∈ pj_ws) ∧ (Y_Rows_countRow.1.cls ≠ "java/lang/invoke/MethodHandle" ∧ Y_Rows_countRow.1.cls ≠ "java/lang/invoke/VarHandle" ∧ (parseMethodDescriptor Y_Rows_countRow.1.desc).map (fun d => d.parameters.length) = some 0) ∧ (Cond.instanceMethod Y_Rows_countRow.1 ∈ pj_ws) ∧ (Cond.selects Y_Rows_countRow.1.cls Y_Rows_countRow.1 Y_Rows_countRow.1 ∈ pj_ws) := ⟨pj_mem 1114 (by decide +kernel) rfl, pj_mem 139 (by decide +kernel) rfl, ⟨by decide +kernel, by decide +kernel, by decide +kernel⟩, pj_mem 1113 (by decide +kernel) rfl, pj_mem 42 (by decide +kernel) rfl⟩
theorem cs_Planner_58 : pj_cV "WaverTax$Planner" 58 Y_Planner_by 2 4 := ⟨⟨cm_Planner_by.1, cm_Planner_by.2.1, cm_Planner_by.2.2.1, Or.inl (pj_mem 964 (by decide +kernel) rfl)⟩, by decide, cm_Planner_by.2.2.2.1, cm_Planner_by.2.2.2.2, ⟨_, rfl, rfl⟩⟩
theorem cs_Planner_71 : pj_cV "WaverTax$Planner" 71 Y_Desk_leftOf 2 0 := ⟨⟨cm_Desk_leftOf.1, cm_Desk_leftOf.2.1, cm_Desk_leftOf.2.2.1, Or.inl (pj_mem 968 (by decide +kernel) rfl)⟩, by decide, cm_Desk_leftOf.2.2.2.1, cm_Desk_leftOf.2.2.2.2, ⟨_, rfl, rfl⟩⟩
theorem cs_Planner_75 : pj_cV "WaverTax$Planner" 75 Y_Planner_scale 1 4 := ⟨⟨cm_Planner_scale.1, cm_Planner_scale.2.1, cm_Planner_scale.2.2.1, Or.inl (pj_mem 969 (by decide +kernel) rfl)⟩, by decide, cm_Planner_scale.2.2.2.1, cm_Planner_scale.2.2.2.2, ⟨_, rfl, rfl⟩⟩
theorem cs_Planner_85 : pj_cV "WaverTax$Planner" 85 Y_Now_move 3 2 := ⟨⟨cm_Now_move.1, cm_Now_move.2.1, cm_Now_move.2.2.1, Or.inl (pj_mem 978 (by decide +kernel) rfl)⟩, by decide, cm_Now_move.2.2.2.1, cm_Now_move.2.2.2.2, ⟨_, rfl, rfl⟩⟩
theorem cs_Planner_89 : pj_cV "WaverTax$Planner" 89 Y_Planner_chances 2 4 := ⟨⟨cm_Planner_chances.1, cm_Planner_chances.2.1, cm_Planner_chances.2.2.1, Or.inl (pj_mem 982 (by decide +kernel) rfl)⟩, by decide, cm_Planner_chances.2.2.2.1, cm_Planner_chances.2.2.2.2, ⟨_, rfl, rfl⟩⟩
theorem cs_Planner_92 : pj_cV "WaverTax$Planner" 92 Y_Reasons_nextOf 3 6 := ⟨⟨cm_Reasons_nextOf.1, cm_Reasons_nextOf.2.1, cm_Reasons_nextOf.2.2.1, Or.inl (pj_mem 986 (by decide +kernel) rfl)⟩, by decide, cm_Reasons_nextOf.2.2.2.1, cm_Reasons_nextOf.2.2.2.2, ⟨_, rfl, rfl⟩⟩
theorem cs_Planner_98 : pj_cV "WaverTax$Planner" 98 Y_Planner_best 1 4 := ⟨⟨cm_Planner_best.1, cm_Planner_best.2.1, cm_Planner_best.2.2.1, Or.inl (pj_mem 990 (by decide +kernel) rfl)⟩, by decide, cm_Planner_best.2.2.2.1, cm_Planner_best.2.2.2.2, ⟨_, rfl, rfl⟩⟩
theorem cs_Rows_100 : pj_cV "WaverTax$Rows" 100 Y_Desk_taxOf 2 0 := ⟨⟨cm_Desk_taxOf.1, cm_Desk_taxOf.2.1, cm_Desk_taxOf.2.2.1, Or.inl (pj_mem 1115 (by decide +kernel) rfl)⟩, by decide, cm_Desk_taxOf.2.2.2.1, cm_Desk_taxOf.2.2.2.2, ⟨_, rfl, rfl⟩⟩
theorem cs_Rows_106 : pj_cV "WaverTax$Rows" 106 Y_Now_move 3 2 := ⟨⟨cm_Now_move.1, cm_Now_move.2.1, cm_Now_move.2.2.1, Or.inl (pj_mem 1116 (by decide +kernel) rfl)⟩, by decide, cm_Now_move.2.2.2.1, cm_Now_move.2.2.2.2, ⟨_, rfl, rfl⟩⟩
theorem cs_Rows_63 : pj_cV "WaverTax$Rows" 63 Y_Rows_extend 1 8 := ⟨⟨cm_Rows_extend.1, cm_Rows_extend.2.1, cm_Rows_extend.2.2.1, Or.inl (pj_mem 1106 (by decide +kernel) rfl)⟩, by decide, cm_Rows_extend.2.2.2.1, cm_Rows_extend.2.2.2.2, ⟨_, rfl, rfl⟩⟩
theorem cs_Rows_73 : pj_cV "WaverTax$Rows" 73 Y_Receipts_nextOf 2 7 := ⟨⟨cm_Receipts_nextOf.1, cm_Receipts_nextOf.2.1, cm_Receipts_nextOf.2.2.1, Or.inl (pj_mem 1110 (by decide +kernel) rfl)⟩, by decide, cm_Receipts_nextOf.2.2.2.1, cm_Receipts_nextOf.2.2.2.2, ⟨_, rfl, rfl⟩⟩
theorem cs_Rows_80 : pj_cV "WaverTax$Rows" 80 Y_Rows_countRow 0 8 := ⟨⟨cm_Rows_countRow.1, cm_Rows_countRow.2.1, cm_Rows_countRow.2.2.1, Or.inl (pj_mem 1111 (by decide +kernel) rfl)⟩, by decide, cm_Rows_countRow.2.2.2.1, cm_Rows_countRow.2.2.2.2, ⟨_, rfl, rfl⟩⟩
theorem fs_Planner_104 : pj_fs "WaverTax$Planner" 2 2 104 (.int) := ⟨_, _, _, _, cd_2, by decide, rfl, Or.inl (pj_mem 415 (by decide +kernel) rfl)⟩
theorem fs_Planner_62 : pj_fs "WaverTax$Planner" 1 2 62 (.int) := ⟨_, _, _, _, cd_1, by decide, rfl, Or.inl (pj_mem 285 (by decide +kernel) rfl)⟩
theorem fs_Planner_79 : pj_fs "WaverTax$Planner" 2 4 79 (.array (.int)) := ⟨_, _, _, _, cd_2, by decide, rfl, Or.inl (pj_mem 424 (by decide +kernel) rfl)⟩
theorem fs_Planner_82 : pj_fs "WaverTax$Planner" 2 6 82 (.array (.int)) := ⟨_, _, _, _, cd_2, by decide, rfl, Or.inl (pj_mem 431 (by decide +kernel) rfl)⟩
theorem fs_Rows_103 : pj_fs "WaverTax$Rows" 7 2 103 (.array (.int)) := ⟨_, _, _, _, cd_7, by decide, rfl, Or.inl (pj_mem 235 (by decide +kernel) rfl)⟩
theorem fs_Rows_37 : pj_fs "WaverTax$Rows" 8 1 37 (.object "WaverTax$Desk") := ⟨_, _, _, _, cd_8, by decide, rfl, Or.inl (pj_mem 496 (by decide +kernel) rfl)⟩
theorem fs_Rows_41 : pj_fs "WaverTax$Rows" 8 2 41 (.object "WaverTax$Now") := ⟨_, _, _, _, cd_8, by decide, rfl, Or.inl (pj_mem 497 (by decide +kernel) rfl)⟩
theorem fs_Rows_83 : pj_fs "WaverTax$Rows" 2 3 83 (.array (.int)) := ⟨_, _, _, _, cd_2, by decide, rfl, Or.inl (pj_mem 418 (by decide +kernel) rfl)⟩
theorem fs_Rows_86 : pj_fs "WaverTax$Rows" 2 4 86 (.array (.int)) := ⟨_, _, _, _, cd_2, by decide, rfl, Or.inl (pj_mem 422 (by decide +kernel) rfl)⟩
theorem fs_Rows_89 : pj_fs "WaverTax$Rows" 2 6 89 (.array (.int)) := ⟨_, _, _, _, cd_2, by decide, rfl, Or.inl (pj_mem 429 (by decide +kernel) rfl)⟩
theorem fs_Rows_95 : pj_fs "WaverTax$Rows" 7 3 95 (.array (.int)) := ⟨_, _, _, _, cd_7, by decide, rfl, Or.inl (pj_mem 238 (by decide +kernel) rfl)⟩
theorem ps_Planner_104 {mn : String} : pj_ps "WaverTax$Planner" mn 2 2 104 (.int) := ⟨_, _, _, _, cd_2, by decide, rfl, Or.inl ⟨rfl, Or.inl (pj_mem 415 (by decide +kernel) rfl)⟩⟩
theorem ps_Planner_43 {mn : String} : pj_ps "WaverTax$Planner" mn 2 0 43 (.int) := ⟨_, _, _, _, cd_2, by decide, rfl, Or.inl ⟨rfl, Or.inl (pj_mem 408 (by decide +kernel) rfl)⟩⟩
theorem ps_Rows_98 {mn : String} : pj_ps "WaverTax$Rows" mn 2 0 98 (.int) := ⟨_, _, _, _, cd_2, by decide, rfl, Or.inl ⟨rfl, Or.inl (pj_mem 410 (by decide +kernel) rfl)⟩⟩
theorem wd_991 : (Jvm.Cond.methodLink "WaverTax$Planner" (65 : Nat) ({ cls := "java/lang/Math", name := "max", desc := "(JJ)J" } : Jvm.MethodName)) ∈ pj_ws := pj_mem 991 (by decide +kernel) rfl
theorem d_Planner_best_0 : decode Y_Planner_best.2.1 0 = .ok (.aload_n 0, 1) := by decide +kernel
theorem d_Planner_best_1 : decode Y_Planner_best.2.1 1 = .ok (.getfield 21, 3) := by decide +kernel
theorem d_Planner_best_4 : decode Y_Planner_best.2.1 4 = .ok (.getfield 54, 3) := by decide +kernel
theorem d_Planner_best_7 : decode Y_Planner_best.2.1 7 = .ok (.aload_n 0, 1) := by decide +kernel
theorem d_Planner_best_8 : decode Y_Planner_best.2.1 8 = .ok (.getfield 7, 3) := by decide +kernel
theorem d_Planner_best_11 : decode Y_Planner_best.2.1 11 = .ok (.iaload, 1) := by decide +kernel
theorem d_Planner_best_12 : decode Y_Planner_best.2.1 12 = .ok (.istore_n 2, 1) := by decide +kernel
theorem d_Planner_best_13 : decode Y_Planner_best.2.1 13 = .ok (.aload_n 0, 1) := by decide +kernel
theorem d_Planner_best_14 : decode Y_Planner_best.2.1 14 = .ok (.iload_n 2, 1) := by decide +kernel
theorem d_Planner_best_15 : decode Y_Planner_best.2.1 15 = .ok (.iload_n 1, 1) := by decide +kernel
theorem d_Planner_best_16 : decode Y_Planner_best.2.1 16 = .ok (.invokevirtual 58, 3) := by decide +kernel
theorem d_Planner_best_19 : decode Y_Planner_best.2.1 19 = .ok (.lstore_n 3, 1) := by decide +kernel
theorem d_Planner_best_20 : decode Y_Planner_best.2.1 20 = .ok (.iconst 0, 1) := by decide +kernel
theorem d_Planner_best_21 : decode Y_Planner_best.2.1 21 = .ok (.istore 5, 2) := by decide +kernel
theorem d_Planner_best_23 : decode Y_Planner_best.2.1 23 = .ok (.iload 5, 2) := by decide +kernel
theorem d_Planner_best_25 : decode Y_Planner_best.2.1 25 = .ok (.aload_n 0, 1) := by decide +kernel
theorem d_Planner_best_26 : decode Y_Planner_best.2.1 26 = .ok (.getfield 13, 3) := by decide +kernel
theorem d_Planner_best_29 : decode Y_Planner_best.2.1 29 = .ok (.getfield 62, 3) := by decide +kernel
theorem d_Planner_best_32 : decode Y_Planner_best.2.1 32 = .ok (.if_icmp .ge 27, 3) := by decide +kernel
theorem d_Planner_best_35 : decode Y_Planner_best.2.1 35 = .ok (.iload 5, 2) := by decide +kernel
theorem d_Planner_best_37 : decode Y_Planner_best.2.1 37 = .ok (.iload_n 2, 1) := by decide +kernel
theorem d_Planner_best_38 : decode Y_Planner_best.2.1 38 = .ok (.if_icmp .eq 15, 3) := by decide +kernel
theorem d_Planner_best_41 : decode Y_Planner_best.2.1 41 = .ok (.lload_n 3, 1) := by decide +kernel
theorem d_Planner_best_42 : decode Y_Planner_best.2.1 42 = .ok (.aload_n 0, 1) := by decide +kernel
theorem d_Planner_best_43 : decode Y_Planner_best.2.1 43 = .ok (.iload 5, 2) := by decide +kernel
theorem d_Planner_best_45 : decode Y_Planner_best.2.1 45 = .ok (.iload_n 1, 1) := by decide +kernel
theorem d_Planner_best_46 : decode Y_Planner_best.2.1 46 = .ok (.invokevirtual 58, 3) := by decide +kernel
theorem d_Planner_best_49 : decode Y_Planner_best.2.1 49 = .ok (.invokestatic 65, 3) := by decide +kernel
theorem d_Planner_best_52 : decode Y_Planner_best.2.1 52 = .ok (.lstore_n 3, 1) := by decide +kernel
theorem d_Planner_best_53 : decode Y_Planner_best.2.1 53 = .ok (.iinc 5 1, 3) := by decide +kernel
theorem d_Planner_best_56 : decode Y_Planner_best.2.1 56 = .ok (.goto (-33), 3) := by decide +kernel
theorem d_Planner_best_59 : decode Y_Planner_best.2.1 59 = .ok (.lload_n 3, 1) := by decide +kernel
theorem d_Planner_best_60 : decode Y_Planner_best.2.1 60 = .ok (.lreturn, 1) := by decide +kernel
def f_Planner_best_ (F_by : PH → Option Nat → Int32 → Int32 → Option (Int64 × PH)) (h : PH) (a0 : Option Nat) (a1 : Int32) : Option (Int64 × PH) := (gR h 4 a0 2).bind fun v1 => (gR h 2 v1 3).bind fun v2 => (gI h 4 a0 3).bind fun v3 => (aI h v2 v3).bind fun v4 => (cl h 4 a0 (F_by h a0 v4 a1)).bind fun v5 => (pj_it (X := Int64 × PH) (fun s6 : Int64 × Int32 × PH => (gR s6.2.2 4 a0 0).bind fun v8 => (gI s6.2.2 1 v8 2).bind fun v9 => if v9 ≤ s6.2.1 then (some (.inr (s6.1, s6.2.2))) else (if s6.2.1 = v4 then (some (.inl (s6.1, (s6.2.1 + (1 : Int32)), s6.2.2))) else ((cl s6.2.2 4 a0 (F_by s6.2.2 a0 s6.2.1 a1)).bind fun v10 => some (.inl ((if v10.1 < s6.1 then s6.1 else v10.1), (s6.2.1 + (1 : Int32)), v10.2))))) FU (v5.1, (0 : Int32), v5.2)).bind fun x7 => some (x7.1, x7.2)
set_option maxRecDepth 20000 in
theorem PMo_Planner_best {l : Launch} {G : Cx} {d : Nat} (hd9 : 9 ≤ d + 1) {F_by : PH → Option Nat → Int32 → Int32 → Option (Int64 × PH)} (hby : ∀ h a0 a1 a2 z, F_by h a0 a1 a2 = some z → PM l G d 0 0 Y_Planner_by [.inr (.inr a0), .inl a1, .inl a2] h (some (.inr (.inl z.1)), z.2)) {h : PH} {a0 : Option Nat} {a1 : Int32} {z : (Int64 × PH)} (hz : f_Planner_best_ F_by h a0 a1 = some z) : PM l G (d + 1) 0 0 Y_Planner_best [.inr (.inr a0), .inl a1] h (some (.inr (.inl z.1)), z.2) := by
  refine PM.of (Y := Y_Planner_best) (cv := (fun z : (Int64 × PH) => (((some (.inr (.inl z.1)), z.2) : Option PV × PH)))) (by decide) (L0 := [some (.inr (.inr a0)), some (.inl a1), none, none, none, none]) 4 rfl (Nat.le_of_ble_eq_true rfl) ?_ hz
  unfold f_Planner_best_
  refine PJ.aload_n (pc := 0) d_Planner_best_0 rfl ?_
  refine PJ.getR (pc := 1) fs_Planner_21 d_Planner_best_1 (fun v1 => ?_)
  refine PJ.getR (pc := 4) fs_Planner_54 d_Planner_best_4 (fun v2 => ?_)
  refine PJ.aload_n (pc := 7) d_Planner_best_7 rfl ?_
  refine PJ.getI (pc := 8) fs_Planner_7 d_Planner_best_8 (fun v3 => ?_)
  refine PJ.iald (pc := 11) d_Planner_best_11 (fun v4 => ?_)
  refine PJ.istore_n (pc := 12) (L1 := [some (.inr (.inr a0)), some (.inl a1), some (.inl v4), none, none, none]) d_Planner_best_12 (Nat.le_of_ble_eq_true rfl) rfl rfl ?_
  refine PJ.aload_n (pc := 13) d_Planner_best_13 rfl ?_
  refine PJ.iload_n (pc := 14) d_Planner_best_14 rfl ?_
  refine PJ.iload_n (pc := 15) d_Planner_best_15 rfl ?_
  refine PJ.cVL (pc := 16) cs_Planner_58 (fun z hz => hby _ _ _ _ z hz) (pj_fits (Nat.le_refl _) (Nat.le_of_ble_eq_true rfl)) rfl rfl (Nat.le_of_ble_eq_true rfl) d_Planner_best_16 (fun v5 => ?_)
  refine PJ.lstore_n (pc := 19) (L1 := [some (.inr (.inr a0)), some (.inl a1), some (.inl v4), some (.inr (.inl v5.1)), none, none]) d_Planner_best_19 (Nat.le_of_ble_eq_true rfl) rfl rfl ?_
  refine PJ.iconst (pc := 20) (v := 0) d_Planner_best_20 (by decide) ?_
  refine PJ.istore (pc := 21) (L1 := [some (.inr (.inr a0)), some (.inl a1), some (.inl v4), some (.inr (.inl v5.1)), none, some (.inl (0 : Int32))]) d_Planner_best_21 (Nat.le_of_ble_eq_true rfl) rfl rfl ?_
  refine PJ.bind (fun x7 : Int64 × PH => ((59 : Nat), ([none, none, none, some (.inr (.inl x7.1)), none, none] : List (Option PV)), ([] : List PV), (x7.2 : PH), (0 : Nat), (0 : Nat))) (PJ.it (E := (fun s6 : Int64 × Int32 × PH => ((23 : Nat), ([some (.inr (.inr a0)), some (.inl a1), some (.inl v4), some (.inr (.inl s6.1)), none, some (.inl s6.2.1)] : List (Option PV)), ([] : List PV), (s6.2.2 : PH), (0 : Nat), (0 : Nat)))) (F := (fun x7 : Int64 × PH => ((59 : Nat), ([none, none, none, some (.inr (.inl x7.1)), none, none] : List (Option PV)), ([] : List PV), (x7.2 : PH), (0 : Nat), (0 : Nat)))) (fun s6 => ?_) FU (v5.1, (0 : Int32), v5.2)) (fun x7 => ?_)
  · show PJ l G (pj_rm (d + 1) 0 0) Y_Planner_best 23 [some (.inr (.inr a0)), some (.inl a1), some (.inl v4), some (.inr (.inl s6.1)), none, some (.inl s6.2.1)] [] s6.2.2 0 0 _ _
    refine PJ.iload (pc := 23) d_Planner_best_23 rfl ?_
    refine PJ.aload_n (pc := 25) d_Planner_best_25 rfl ?_
    refine PJ.getR (pc := 26) fs_Planner_13 d_Planner_best_26 (fun v8 => ?_)
    refine PJ.getI (pc := 29) fs_Planner_62 d_Planner_best_29 (fun v9 => ?_)
    refine PJ.icmp_ge (pc := 32) (tgt := 59) d_Planner_best_32 (by decide) (fun _ => ?_) (fun _ => ?_)
    · refine PJ.mk (L1 := [none, none, none, some (.inr (.inl s6.1)), none, none]) [false, false, false, true, false, false] rfl ?_
      exact PJ.done rfl
    · refine PJ.iload (pc := 35) d_Planner_best_35 rfl ?_
      refine PJ.iload_n (pc := 37) d_Planner_best_37 rfl ?_
      refine PJ.icmp_eq (pc := 38) (tgt := 53) d_Planner_best_38 (by decide) (fun _ => ?_) (fun _ => ?_)
      · refine PJ.iinc (pc := 53) (v := 1) (L1 := [some (.inr (.inr a0)), some (.inl a1), some (.inl v4), some (.inr (.inl s6.1)), none, some (.inl (s6.2.1 + (1 : Int32)))]) d_Planner_best_53 rfl (by decide) (Nat.le_of_ble_eq_true rfl) rfl rfl ?_
        refine PJ.goto (pc := 56) (tgt := 23) d_Planner_best_56 (by decide) ?_
        exact PJ.done rfl
      · refine PJ.lload_n (pc := 41) d_Planner_best_41 rfl ?_
        refine PJ.aload_n (pc := 42) d_Planner_best_42 rfl ?_
        refine PJ.iload (pc := 43) d_Planner_best_43 rfl ?_
        refine PJ.iload_n (pc := 45) d_Planner_best_45 rfl ?_
        refine PJ.cVL (pc := 46) cs_Planner_58 (fun z hz => hby _ _ _ _ z hz) (pj_fits (Nat.le_refl _) (Nat.le_of_ble_eq_true rfl)) rfl rfl (Nat.le_of_ble_eq_true rfl) d_Planner_best_46 (fun v10 => ?_)
        refine PJ.mmaxJ (pc := 49) (idx := 65) wd_991 (Nat.le_of_ble_eq_true rfl) (Nat.le_of_ble_eq_true rfl) (Nat.le_of_ble_eq_true rfl) (Nat.le_of_ble_eq_true rfl) (Nat.le_of_ble_eq_true rfl) d_Planner_best_49 ?_
        refine PJ.lstore_n (pc := 52) (L1 := [some (.inr (.inr a0)), some (.inl a1), some (.inl v4), some (.inr (.inl (if v10.1 < s6.1 then s6.1 else v10.1))), none, some (.inl s6.2.1)]) d_Planner_best_52 (Nat.le_of_ble_eq_true rfl) rfl rfl ?_
        refine PJ.iinc (pc := 53) (v := 1) (L1 := [some (.inr (.inr a0)), some (.inl a1), some (.inl v4), some (.inr (.inl (if v10.1 < s6.1 then s6.1 else v10.1))), none, some (.inl (s6.2.1 + (1 : Int32)))]) d_Planner_best_53 rfl (by decide) (Nat.le_of_ble_eq_true rfl) rfl rfl ?_
        refine PJ.goto (pc := 56) (tgt := 23) d_Planner_best_56 (by decide) ?_
        exact PJ.done rfl
  · show PJ l G (pj_rm (d + 1) 0 0) Y_Planner_best 59 [none, none, none, some (.inr (.inl x7.1)), none, none] [] x7.2 0 0 _ _
    refine PJ.lload_n (pc := 59) d_Planner_best_59 rfl ?_
    exact PJ.lret (pc := 60) d_Planner_best_60 rfl (Nat.le_of_ble_eq_true rfl) (Nat.le_of_ble_eq_true rfl)
theorem d_Planner_by_0 : decode Y_Planner_by.2.1 0 = .ok (.aload_n 0, 1) := by decide +kernel
theorem d_Planner_by_1 : decode Y_Planner_by.2.1 1 = .ok (.getfield 17, 3) := by decide +kernel
theorem d_Planner_by_4 : decode Y_Planner_by.2.1 4 = .ok (.aload_n 0, 1) := by decide +kernel
theorem d_Planner_by_5 : decode Y_Planner_by.2.1 5 = .ok (.getfield 7, 3) := by decide +kernel
theorem d_Planner_by_8 : decode Y_Planner_by.2.1 8 = .ok (.iload_n 1, 1) := by decide +kernel
theorem d_Planner_by_9 : decode Y_Planner_by.2.1 9 = .ok (.invokevirtual 71, 3) := by decide +kernel
theorem d_Planner_by_12 : decode Y_Planner_by.2.1 12 = .ok (.i2l, 1) := by decide +kernel
theorem d_Planner_by_13 : decode Y_Planner_by.2.1 13 = .ok (.lstore_n 3, 1) := by decide +kernel
theorem d_Planner_by_14 : decode Y_Planner_by.2.1 14 = .ok (.iload_n 2, 1) := by decide +kernel
theorem d_Planner_by_15 : decode Y_Planner_by.2.1 15 = .ok (.iconst 1, 1) := by decide +kernel
theorem d_Planner_by_16 : decode Y_Planner_by.2.1 16 = .ok (.if_icmp .gt 5, 3) := by decide +kernel
theorem d_Planner_by_19 : decode Y_Planner_by.2.1 19 = .ok (.lload_n 3, 1) := by decide +kernel
theorem d_Planner_by_20 : decode Y_Planner_by.2.1 20 = .ok (.lreturn, 1) := by decide +kernel
theorem d_Planner_by_21 : decode Y_Planner_by.2.1 21 = .ok (.lload_n 3, 1) := by decide +kernel
theorem d_Planner_by_22 : decode Y_Planner_by.2.1 22 = .ok (.aload_n 0, 1) := by decide +kernel
theorem d_Planner_by_23 : decode Y_Planner_by.2.1 23 = .ok (.iload_n 2, 1) := by decide +kernel
theorem d_Planner_by_24 : decode Y_Planner_by.2.1 24 = .ok (.invokevirtual 75, 3) := by decide +kernel
theorem d_Planner_by_27 : decode Y_Planner_by.2.1 27 = .ok (.lmul, 1) := by decide +kernel
theorem d_Planner_by_28 : decode Y_Planner_by.2.1 28 = .ok (.lstore_n 3, 1) := by decide +kernel
theorem d_Planner_by_29 : decode Y_Planner_by.2.1 29 = .ok (.aload_n 0, 1) := by decide +kernel
theorem d_Planner_by_30 : decode Y_Planner_by.2.1 30 = .ok (.getfield 21, 3) := by decide +kernel
theorem d_Planner_by_33 : decode Y_Planner_by.2.1 33 = .ok (.getfield 54, 3) := by decide +kernel
theorem d_Planner_by_36 : decode Y_Planner_by.2.1 36 = .ok (.aload_n 0, 1) := by decide +kernel
theorem d_Planner_by_37 : decode Y_Planner_by.2.1 37 = .ok (.getfield 7, 3) := by decide +kernel
theorem d_Planner_by_40 : decode Y_Planner_by.2.1 40 = .ok (.iaload, 1) := by decide +kernel
theorem d_Planner_by_41 : decode Y_Planner_by.2.1 41 = .ok (.istore 5, 2) := by decide +kernel
theorem d_Planner_by_43 : decode Y_Planner_by.2.1 43 = .ok (.aload_n 0, 1) := by decide +kernel
theorem d_Planner_by_44 : decode Y_Planner_by.2.1 44 = .ok (.getfield 21, 3) := by decide +kernel
theorem d_Planner_by_47 : decode Y_Planner_by.2.1 47 = .ok (.getfield 79, 3) := by decide +kernel
theorem d_Planner_by_50 : decode Y_Planner_by.2.1 50 = .ok (.aload_n 0, 1) := by decide +kernel
theorem d_Planner_by_51 : decode Y_Planner_by.2.1 51 = .ok (.getfield 7, 3) := by decide +kernel
theorem d_Planner_by_54 : decode Y_Planner_by.2.1 54 = .ok (.iaload, 1) := by decide +kernel
theorem d_Planner_by_55 : decode Y_Planner_by.2.1 55 = .ok (.istore 6, 2) := by decide +kernel
theorem d_Planner_by_57 : decode Y_Planner_by.2.1 57 = .ok (.aload_n 0, 1) := by decide +kernel
theorem d_Planner_by_58 : decode Y_Planner_by.2.1 58 = .ok (.getfield 21, 3) := by decide +kernel
theorem d_Planner_by_61 : decode Y_Planner_by.2.1 61 = .ok (.getfield 82, 3) := by decide +kernel
theorem d_Planner_by_64 : decode Y_Planner_by.2.1 64 = .ok (.aload_n 0, 1) := by decide +kernel
theorem d_Planner_by_65 : decode Y_Planner_by.2.1 65 = .ok (.getfield 7, 3) := by decide +kernel
theorem d_Planner_by_68 : decode Y_Planner_by.2.1 68 = .ok (.iaload, 1) := by decide +kernel
theorem d_Planner_by_69 : decode Y_Planner_by.2.1 69 = .ok (.istore 7, 2) := by decide +kernel
theorem d_Planner_by_71 : decode Y_Planner_by.2.1 71 = .ok (.iload_n 1, 1) := by decide +kernel
theorem d_Planner_by_72 : decode Y_Planner_by.2.1 72 = .ok (.iload 5, 2) := by decide +kernel
theorem d_Planner_by_74 : decode Y_Planner_by.2.1 74 = .ok (.if_icmp .eq 16, 3) := by decide +kernel
theorem d_Planner_by_77 : decode Y_Planner_by.2.1 77 = .ok (.aload_n 0, 1) := by decide +kernel
theorem d_Planner_by_78 : decode Y_Planner_by.2.1 78 = .ok (.getfield 21, 3) := by decide +kernel
theorem d_Planner_by_81 : decode Y_Planner_by.2.1 81 = .ok (.aload_n 0, 1) := by decide +kernel
theorem d_Planner_by_82 : decode Y_Planner_by.2.1 82 = .ok (.getfield 7, 3) := by decide +kernel
theorem d_Planner_by_85 : decode Y_Planner_by.2.1 85 = .ok (.iload_n 1, 1) := by decide +kernel
theorem d_Planner_by_86 : decode Y_Planner_by.2.1 86 = .ok (.iconst 0, 1) := by decide +kernel
theorem d_Planner_by_87 : decode Y_Planner_by.2.1 87 = .ok (.invokevirtual 85, 3) := by decide +kernel
theorem d_Planner_by_90 : decode Y_Planner_by.2.1 90 = .ok (.aload_n 0, 1) := by decide +kernel
theorem d_Planner_by_91 : decode Y_Planner_by.2.1 91 = .ok (.getfield 21, 3) := by decide +kernel
theorem d_Planner_by_94 : decode Y_Planner_by.2.1 94 = .ok (.dup, 1) := by decide +kernel
theorem d_Planner_by_95 : decode Y_Planner_by.2.1 95 = .ok (.getfield 43, 3) := by decide +kernel
theorem d_Planner_by_98 : decode Y_Planner_by.2.1 98 = .ok (.iconst 1, 1) := by decide +kernel
theorem d_Planner_by_99 : decode Y_Planner_by.2.1 99 = .ok (.iadd, 1) := by decide +kernel
theorem d_Planner_by_100 : decode Y_Planner_by.2.1 100 = .ok (.putfield 43, 3) := by decide +kernel
theorem d_Planner_by_103 : decode Y_Planner_by.2.1 103 = .ok (.lload_n 3, 1) := by decide +kernel
theorem d_Planner_by_104 : decode Y_Planner_by.2.1 104 = .ok (.aload_n 0, 1) := by decide +kernel
theorem d_Planner_by_105 : decode Y_Planner_by.2.1 105 = .ok (.iconst 0, 1) := by decide +kernel
theorem d_Planner_by_106 : decode Y_Planner_by.2.1 106 = .ok (.iload_n 2, 1) := by decide +kernel
theorem d_Planner_by_107 : decode Y_Planner_by.2.1 107 = .ok (.iconst 1, 1) := by decide +kernel
theorem d_Planner_by_108 : decode Y_Planner_by.2.1 108 = .ok (.isub, 1) := by decide +kernel
theorem d_Planner_by_109 : decode Y_Planner_by.2.1 109 = .ok (.invokevirtual 89, 3) := by decide +kernel
theorem d_Planner_by_112 : decode Y_Planner_by.2.1 112 = .ok (.ladd, 1) := by decide +kernel
theorem d_Planner_by_113 : decode Y_Planner_by.2.1 113 = .ok (.lstore_n 3, 1) := by decide +kernel
theorem d_Planner_by_114 : decode Y_Planner_by.2.1 114 = .ok (.aload_n 0, 1) := by decide +kernel
theorem d_Planner_by_115 : decode Y_Planner_by.2.1 115 = .ok (.getfield 21, 3) := by decide +kernel
theorem d_Planner_by_118 : decode Y_Planner_by.2.1 118 = .ok (.dup, 1) := by decide +kernel
theorem d_Planner_by_119 : decode Y_Planner_by.2.1 119 = .ok (.getfield 43, 3) := by decide +kernel
theorem d_Planner_by_122 : decode Y_Planner_by.2.1 122 = .ok (.iconst 1, 1) := by decide +kernel
theorem d_Planner_by_123 : decode Y_Planner_by.2.1 123 = .ok (.isub, 1) := by decide +kernel
theorem d_Planner_by_124 : decode Y_Planner_by.2.1 124 = .ok (.putfield 43, 3) := by decide +kernel
theorem d_Planner_by_127 : decode Y_Planner_by.2.1 127 = .ok (.aload_n 0, 1) := by decide +kernel
theorem d_Planner_by_128 : decode Y_Planner_by.2.1 128 = .ok (.getfield 21, 3) := by decide +kernel
theorem d_Planner_by_131 : decode Y_Planner_by.2.1 131 = .ok (.getfield 54, 3) := by decide +kernel
theorem d_Planner_by_134 : decode Y_Planner_by.2.1 134 = .ok (.aload_n 0, 1) := by decide +kernel
theorem d_Planner_by_135 : decode Y_Planner_by.2.1 135 = .ok (.getfield 7, 3) := by decide +kernel
theorem d_Planner_by_138 : decode Y_Planner_by.2.1 138 = .ok (.iload 5, 2) := by decide +kernel
theorem d_Planner_by_140 : decode Y_Planner_by.2.1 140 = .ok (.iastore, 1) := by decide +kernel
theorem d_Planner_by_141 : decode Y_Planner_by.2.1 141 = .ok (.aload_n 0, 1) := by decide +kernel
theorem d_Planner_by_142 : decode Y_Planner_by.2.1 142 = .ok (.getfield 21, 3) := by decide +kernel
theorem d_Planner_by_145 : decode Y_Planner_by.2.1 145 = .ok (.getfield 79, 3) := by decide +kernel
theorem d_Planner_by_148 : decode Y_Planner_by.2.1 148 = .ok (.aload_n 0, 1) := by decide +kernel
theorem d_Planner_by_149 : decode Y_Planner_by.2.1 149 = .ok (.getfield 7, 3) := by decide +kernel
theorem d_Planner_by_152 : decode Y_Planner_by.2.1 152 = .ok (.iload 6, 2) := by decide +kernel
theorem d_Planner_by_154 : decode Y_Planner_by.2.1 154 = .ok (.iastore, 1) := by decide +kernel
theorem d_Planner_by_155 : decode Y_Planner_by.2.1 155 = .ok (.aload_n 0, 1) := by decide +kernel
theorem d_Planner_by_156 : decode Y_Planner_by.2.1 156 = .ok (.getfield 21, 3) := by decide +kernel
theorem d_Planner_by_159 : decode Y_Planner_by.2.1 159 = .ok (.getfield 82, 3) := by decide +kernel
theorem d_Planner_by_162 : decode Y_Planner_by.2.1 162 = .ok (.aload_n 0, 1) := by decide +kernel
theorem d_Planner_by_163 : decode Y_Planner_by.2.1 163 = .ok (.getfield 7, 3) := by decide +kernel
theorem d_Planner_by_166 : decode Y_Planner_by.2.1 166 = .ok (.iload 7, 2) := by decide +kernel
theorem d_Planner_by_168 : decode Y_Planner_by.2.1 168 = .ok (.iastore, 1) := by decide +kernel
theorem d_Planner_by_169 : decode Y_Planner_by.2.1 169 = .ok (.lload_n 3, 1) := by decide +kernel
theorem d_Planner_by_170 : decode Y_Planner_by.2.1 170 = .ok (.lreturn, 1) := by decide +kernel
def f_Planner_by_ (F_chances : PH → Option Nat → Int32 → Int32 → Option (Int64 × PH)) (h : PH) (a0 : Option Nat) (a1 : Int32) (a2 : Int32) : Option (Int64 × PH) := (gR h 4 a0 1).bind fun v1 => (gI h 4 a0 3).bind fun v2 => (cl h 0 v1 (f_Desk_leftOf h v1 v2 a1)).bind fun v3 => if (1 : Int32) < a2 then ((cl h 4 a0 (f_Planner_scale h a0 a2)).bind fun v4 => (gR h 4 a0 2).bind fun v5 => (gR h 2 v5 3).bind fun v6 => (gI h 4 a0 3).bind fun v7 => (aI h v6 v7).bind fun v8 => (gR h 4 a0 2).bind fun v9 => (gR h 2 v9 4).bind fun v10 => (gI h 4 a0 3).bind fun v11 => (aI h v10 v11).bind fun v12 => (gR h 4 a0 2).bind fun v13 => (gR h 2 v13 6).bind fun v14 => (gI h 4 a0 3).bind fun v15 => (aI h v14 v15).bind fun v16 => (if a1 = v8 then (some h) else ((gR h 4 a0 2).bind fun v18 => (gI h 4 a0 3).bind fun v19 => (cl h 2 v18 (f_Now_move h v18 v19 a1 (0 : Int32))).bind fun h20 => some h20) : Option (PH)).bind fun j17 => (gR j17 4 a0 2).bind fun v21 => (gI j17 2 v21 0).bind fun v22 => (sF j17 2 v21 0 (.inl (v22 + (1 : Int32)))).bind fun h23 => (cl h23 4 a0 (F_chances h23 a0 (0 : Int32) (a2 - (1 : Int32)))).bind fun v24 => (gR v24.2 4 a0 2).bind fun v25 => (gI v24.2 2 v25 0).bind fun v26 => (sF v24.2 2 v25 0 (.inl (v26 - (1 : Int32)))).bind fun h27 => (gR h27 4 a0 2).bind fun v28 => (gR h27 2 v28 3).bind fun v29 => (gI h27 4 a0 3).bind fun v30 => (sA h27 50 v29 v30 (.inl v8)).bind fun h31 => (gR h31 4 a0 2).bind fun v32 => (gR h31 2 v32 4).bind fun v33 => (gI h31 4 a0 3).bind fun v34 => (sA h31 50 v33 v34 (.inl v12)).bind fun h35 => (gR h35 4 a0 2).bind fun v36 => (gR h35 2 v36 6).bind fun v37 => (gI h35 4 a0 3).bind fun v38 => (sA h35 50 v37 v38 (.inl v16)).bind fun h39 => some ((((Int32.toInt64 v3) * v4) + v24.1), h39)) else (some ((Int32.toInt64 v3), h))
set_option maxRecDepth 20000 in
theorem PMo_Planner_by {l : Launch} {G : Cx} {d : Nat} (hd9 : 9 ≤ d + 1) {F_chances : PH → Option Nat → Int32 → Int32 → Option (Int64 × PH)} (hch : ∀ h a0 a1 a2 z, F_chances h a0 a1 a2 = some z → PM l G d 0 0 Y_Planner_chances [.inr (.inr a0), .inl a1, .inl a2] h (some (.inr (.inl z.1)), z.2)) {h : PH} {a0 : Option Nat} {a1 : Int32} {a2 : Int32} {z : (Int64 × PH)} (hz : f_Planner_by_ F_chances h a0 a1 a2 = some z) : PM l G (d + 1) 0 0 Y_Planner_by [.inr (.inr a0), .inl a1, .inl a2] h (some (.inr (.inl z.1)), z.2) := by
  refine PM.of (Y := Y_Planner_by) (cv := (fun z : (Int64 × PH) => (((some (.inr (.inl z.1)), z.2) : Option PV × PH)))) (by decide) (L0 := [some (.inr (.inr a0)), some (.inl a1), some (.inl a2), none, none, none, none, none]) 5 rfl (Nat.le_of_ble_eq_true rfl) ?_ hz
  unfold f_Planner_by_
  refine PJ.aload_n (pc := 0) d_Planner_by_0 rfl ?_
  refine PJ.getR (pc := 1) fs_Planner_17 d_Planner_by_1 (fun v1 => ?_)
  refine PJ.aload_n (pc := 4) d_Planner_by_4 rfl ?_
  refine PJ.getI (pc := 5) fs_Planner_7 d_Planner_by_5 (fun v2 => ?_)
  refine PJ.iload_n (pc := 8) d_Planner_by_8 rfl ?_
  refine PJ.cVpI (pc := 9) cs_Planner_71 (fun z hz => PM_Desk_leftOf hz) (pj_fits (Nat.le_trans (Nat.le_of_ble_eq_true rfl) hd9) (Nat.le_of_ble_eq_true rfl)) rfl rfl (Nat.le_of_ble_eq_true rfl) d_Planner_by_9 (fun v3 => ?_)
  refine PJ.i2l (pc := 12) d_Planner_by_12 ?_
  refine PJ.lstore_n (pc := 13) (L1 := [some (.inr (.inr a0)), some (.inl a1), some (.inl a2), some (.inr (.inl (Int32.toInt64 v3))), none, none, none, none]) d_Planner_by_13 (Nat.le_of_ble_eq_true rfl) rfl rfl ?_
  refine PJ.iload_n (pc := 14) d_Planner_by_14 rfl ?_
  refine PJ.iconst (pc := 15) (v := 1) d_Planner_by_15 (by decide) ?_
  refine PJ.icmp_gt (pc := 16) (tgt := 21) d_Planner_by_16 (by decide) (fun _ => ?_) (fun _ => ?_)
  · refine PJ.lload_n (pc := 21) d_Planner_by_21 rfl ?_
    refine PJ.aload_n (pc := 22) d_Planner_by_22 rfl ?_
    refine PJ.iload_n (pc := 23) d_Planner_by_23 rfl ?_
    refine PJ.cVpL (pc := 24) cs_Planner_75 (fun z hz => PM_Planner_scale hz) (pj_fits (Nat.le_trans (Nat.le_of_ble_eq_true rfl) hd9) (Nat.le_of_ble_eq_true rfl)) rfl rfl (Nat.le_of_ble_eq_true rfl) d_Planner_by_24 (fun v4 => ?_)
    refine PJ.lmul (pc := 27) d_Planner_by_27 ?_
    refine PJ.lstore_n (pc := 28) (L1 := [some (.inr (.inr a0)), some (.inl a1), some (.inl a2), some (.inr (.inl ((Int32.toInt64 v3) * v4))), none, none, none, none]) d_Planner_by_28 (Nat.le_of_ble_eq_true rfl) rfl rfl ?_
    refine PJ.aload_n (pc := 29) d_Planner_by_29 rfl ?_
    refine PJ.getR (pc := 30) fs_Planner_21 d_Planner_by_30 (fun v5 => ?_)
    refine PJ.getR (pc := 33) fs_Planner_54 d_Planner_by_33 (fun v6 => ?_)
    refine PJ.aload_n (pc := 36) d_Planner_by_36 rfl ?_
    refine PJ.getI (pc := 37) fs_Planner_7 d_Planner_by_37 (fun v7 => ?_)
    refine PJ.iald (pc := 40) d_Planner_by_40 (fun v8 => ?_)
    refine PJ.istore (pc := 41) (L1 := [some (.inr (.inr a0)), some (.inl a1), some (.inl a2), some (.inr (.inl ((Int32.toInt64 v3) * v4))), none, some (.inl v8), none, none]) d_Planner_by_41 (Nat.le_of_ble_eq_true rfl) rfl rfl ?_
    refine PJ.aload_n (pc := 43) d_Planner_by_43 rfl ?_
    refine PJ.getR (pc := 44) fs_Planner_21 d_Planner_by_44 (fun v9 => ?_)
    refine PJ.getR (pc := 47) fs_Planner_79 d_Planner_by_47 (fun v10 => ?_)
    refine PJ.aload_n (pc := 50) d_Planner_by_50 rfl ?_
    refine PJ.getI (pc := 51) fs_Planner_7 d_Planner_by_51 (fun v11 => ?_)
    refine PJ.iald (pc := 54) d_Planner_by_54 (fun v12 => ?_)
    refine PJ.istore (pc := 55) (L1 := [some (.inr (.inr a0)), some (.inl a1), some (.inl a2), some (.inr (.inl ((Int32.toInt64 v3) * v4))), none, some (.inl v8), some (.inl v12), none]) d_Planner_by_55 (Nat.le_of_ble_eq_true rfl) rfl rfl ?_
    refine PJ.aload_n (pc := 57) d_Planner_by_57 rfl ?_
    refine PJ.getR (pc := 58) fs_Planner_21 d_Planner_by_58 (fun v13 => ?_)
    refine PJ.getR (pc := 61) fs_Planner_82 d_Planner_by_61 (fun v14 => ?_)
    refine PJ.aload_n (pc := 64) d_Planner_by_64 rfl ?_
    refine PJ.getI (pc := 65) fs_Planner_7 d_Planner_by_65 (fun v15 => ?_)
    refine PJ.iald (pc := 68) d_Planner_by_68 (fun v16 => ?_)
    refine PJ.istore (pc := 69) (L1 := [some (.inr (.inr a0)), some (.inl a1), some (.inl a2), some (.inr (.inl ((Int32.toInt64 v3) * v4))), none, some (.inl v8), some (.inl v12), some (.inl v16)]) d_Planner_by_69 (Nat.le_of_ble_eq_true rfl) rfl rfl ?_
    refine PJ.iload_n (pc := 71) d_Planner_by_71 rfl ?_
    refine PJ.iload (pc := 72) d_Planner_by_72 rfl ?_
    refine PJ.bind (fun j17 : PH => ((90 : Nat), ([some (.inr (.inr a0)), none, some (.inl a2), some (.inr (.inl ((Int32.toInt64 v3) * v4))), none, some (.inl v8), some (.inl v12), some (.inl v16)] : List (Option PV)), ([] : List PV), (j17 : PH), (0 : Nat), (0 : Nat))) ?_ (fun j17 => ?_)
    · refine PJ.icmp_eq (pc := 74) (tgt := 90) d_Planner_by_74 (by decide) (fun _ => ?_) (fun _ => ?_)
      · refine PJ.mk (L1 := [some (.inr (.inr a0)), none, some (.inl a2), some (.inr (.inl ((Int32.toInt64 v3) * v4))), none, some (.inl v8), some (.inl v12), some (.inl v16)]) [true, false, true, true, false, true, true, true] rfl ?_
        exact PJ.done rfl
      · refine PJ.aload_n (pc := 77) d_Planner_by_77 rfl ?_
        refine PJ.getR (pc := 78) fs_Planner_21 d_Planner_by_78 (fun v18 => ?_)
        refine PJ.aload_n (pc := 81) d_Planner_by_81 rfl ?_
        refine PJ.getI (pc := 82) fs_Planner_7 d_Planner_by_82 (fun v19 => ?_)
        refine PJ.iload_n (pc := 85) d_Planner_by_85 rfl ?_
        refine PJ.iconst (pc := 86) (v := 0) d_Planner_by_86 (by decide) ?_
        refine PJ.cVV (pc := 87) cs_Planner_85 (fun z hz => PM_Now_move hz) (pj_fits (Nat.le_trans (Nat.le_of_ble_eq_true rfl) hd9) (Nat.le_of_ble_eq_true rfl)) rfl rfl (Nat.le_of_ble_eq_true rfl) d_Planner_by_87 (fun h20 => ?_)
        refine PJ.mk (L1 := [some (.inr (.inr a0)), none, some (.inl a2), some (.inr (.inl ((Int32.toInt64 v3) * v4))), none, some (.inl v8), some (.inl v12), some (.inl v16)]) [true, false, true, true, false, true, true, true] rfl ?_
        exact PJ.done rfl
    · show PJ l G (pj_rm (d + 1) 0 0) Y_Planner_by 90 [some (.inr (.inr a0)), none, some (.inl a2), some (.inr (.inl ((Int32.toInt64 v3) * v4))), none, some (.inl v8), some (.inl v12), some (.inl v16)] [] j17 0 0 _ _
      refine PJ.aload_n (pc := 90) d_Planner_by_90 rfl ?_
      refine PJ.getR (pc := 91) fs_Planner_21 d_Planner_by_91 (fun v21 => ?_)
      refine PJ.dup (pc := 94) d_Planner_by_94 rfl ?_
      refine PJ.getI (pc := 95) fs_Planner_43 d_Planner_by_95 (fun v22 => ?_)
      refine PJ.iconst (pc := 98) (v := 1) d_Planner_by_98 (by decide) ?_
      refine PJ.iadd (pc := 99) d_Planner_by_99 ?_
      refine PJ.putI (pc := 100) ps_Planner_43 d_Planner_by_100 (fun h23 => ?_)
      refine PJ.lload_n (pc := 103) d_Planner_by_103 rfl ?_
      refine PJ.aload_n (pc := 104) d_Planner_by_104 rfl ?_
      refine PJ.iconst (pc := 105) (v := 0) d_Planner_by_105 (by decide) ?_
      refine PJ.iload_n (pc := 106) d_Planner_by_106 rfl ?_
      refine PJ.iconst (pc := 107) (v := 1) d_Planner_by_107 (by decide) ?_
      refine PJ.isub (pc := 108) d_Planner_by_108 ?_
      refine PJ.cVL (pc := 109) cs_Planner_89 (fun z hz => hch _ _ _ _ z hz) (pj_fits (Nat.le_refl _) (Nat.le_of_ble_eq_true rfl)) rfl rfl (Nat.le_of_ble_eq_true rfl) d_Planner_by_109 (fun v24 => ?_)
      refine PJ.ladd (pc := 112) d_Planner_by_112 ?_
      refine PJ.lstore_n (pc := 113) (L1 := [some (.inr (.inr a0)), none, some (.inl a2), some (.inr (.inl (((Int32.toInt64 v3) * v4) + v24.1))), none, some (.inl v8), some (.inl v12), some (.inl v16)]) d_Planner_by_113 (Nat.le_of_ble_eq_true rfl) rfl rfl ?_
      refine PJ.aload_n (pc := 114) d_Planner_by_114 rfl ?_
      refine PJ.getR (pc := 115) fs_Planner_21 d_Planner_by_115 (fun v25 => ?_)
      refine PJ.dup (pc := 118) d_Planner_by_118 rfl ?_
      refine PJ.getI (pc := 119) fs_Planner_43 d_Planner_by_119 (fun v26 => ?_)
      refine PJ.iconst (pc := 122) (v := 1) d_Planner_by_122 (by decide) ?_
      refine PJ.isub (pc := 123) d_Planner_by_123 ?_
      refine PJ.putI (pc := 124) ps_Planner_43 d_Planner_by_124 (fun h27 => ?_)
      refine PJ.aload_n (pc := 127) d_Planner_by_127 rfl ?_
      refine PJ.getR (pc := 128) fs_Planner_21 d_Planner_by_128 (fun v28 => ?_)
      refine PJ.getR (pc := 131) fs_Planner_54 d_Planner_by_131 (fun v29 => ?_)
      refine PJ.aload_n (pc := 134) d_Planner_by_134 rfl ?_
      refine PJ.getI (pc := 135) fs_Planner_7 d_Planner_by_135 (fun v30 => ?_)
      refine PJ.iload (pc := 138) d_Planner_by_138 rfl ?_
      refine PJ.iast (pc := 140) d_Planner_by_140 (fun h31 => ?_)
      refine PJ.aload_n (pc := 141) d_Planner_by_141 rfl ?_
      refine PJ.getR (pc := 142) fs_Planner_21 d_Planner_by_142 (fun v32 => ?_)
      refine PJ.getR (pc := 145) fs_Planner_79 d_Planner_by_145 (fun v33 => ?_)
      refine PJ.aload_n (pc := 148) d_Planner_by_148 rfl ?_
      refine PJ.getI (pc := 149) fs_Planner_7 d_Planner_by_149 (fun v34 => ?_)
      refine PJ.iload (pc := 152) d_Planner_by_152 rfl ?_
      refine PJ.iast (pc := 154) d_Planner_by_154 (fun h35 => ?_)
      refine PJ.aload_n (pc := 155) d_Planner_by_155 rfl ?_
      refine PJ.getR (pc := 156) fs_Planner_21 d_Planner_by_156 (fun v36 => ?_)
      refine PJ.getR (pc := 159) fs_Planner_82 d_Planner_by_159 (fun v37 => ?_)
      refine PJ.aload_n (pc := 162) d_Planner_by_162 rfl ?_
      refine PJ.getI (pc := 163) fs_Planner_7 d_Planner_by_163 (fun v38 => ?_)
      refine PJ.iload (pc := 166) d_Planner_by_166 rfl ?_
      refine PJ.iast (pc := 168) d_Planner_by_168 (fun h39 => ?_)
      refine PJ.lload_n (pc := 169) d_Planner_by_169 rfl ?_
      exact PJ.lret (pc := 170) d_Planner_by_170 rfl (Nat.le_of_ble_eq_true rfl) (Nat.le_of_ble_eq_true rfl)
  · refine PJ.lload_n (pc := 19) d_Planner_by_19 rfl ?_
    exact PJ.lret (pc := 20) d_Planner_by_20 rfl (Nat.le_of_ble_eq_true rfl) (Nat.le_of_ble_eq_true rfl)
theorem d_Planner_chances_0 : decode Y_Planner_chances.2.1 0 = .ok (.aload_n 0, 1) := by decide +kernel
theorem d_Planner_chances_1 : decode Y_Planner_chances.2.1 1 = .ok (.getfield 13, 3) := by decide +kernel
theorem d_Planner_chances_4 : decode Y_Planner_chances.2.1 4 = .ok (.getfield 37, 3) := by decide +kernel
theorem d_Planner_chances_7 : decode Y_Planner_chances.2.1 7 = .ok (.astore_n 3, 1) := by decide +kernel
theorem d_Planner_chances_8 : decode Y_Planner_chances.2.1 8 = .ok (.aload_n 3, 1) := by decide +kernel
theorem d_Planner_chances_9 : decode Y_Planner_chances.2.1 9 = .ok (.aload_n 0, 1) := by decide +kernel
theorem d_Planner_chances_10 : decode Y_Planner_chances.2.1 10 = .ok (.getfield 7, 3) := by decide +kernel
theorem d_Planner_chances_13 : decode Y_Planner_chances.2.1 13 = .ok (.aload_n 0, 1) := by decide +kernel
theorem d_Planner_chances_14 : decode Y_Planner_chances.2.1 14 = .ok (.getfield 21, 3) := by decide +kernel
theorem d_Planner_chances_17 : decode Y_Planner_chances.2.1 17 = .ok (.getfield 43, 3) := by decide +kernel
theorem d_Planner_chances_20 : decode Y_Planner_chances.2.1 20 = .ok (.iload_n 1, 1) := by decide +kernel
theorem d_Planner_chances_21 : decode Y_Planner_chances.2.1 21 = .ok (.invokevirtual 92, 3) := by decide +kernel
theorem d_Planner_chances_24 : decode Y_Planner_chances.2.1 24 = .ok (.istore 4, 2) := by decide +kernel
theorem d_Planner_chances_26 : decode Y_Planner_chances.2.1 26 = .ok (.iload 4, 2) := by decide +kernel
theorem d_Planner_chances_28 : decode Y_Planner_chances.2.1 28 = .ok (.ifCond .lt 12, 3) := by decide +kernel
theorem d_Planner_chances_31 : decode Y_Planner_chances.2.1 31 = .ok (.iload 4, 2) := by decide +kernel
theorem d_Planner_chances_33 : decode Y_Planner_chances.2.1 33 = .ok (.aload_n 3, 1) := by decide +kernel
theorem d_Planner_chances_34 : decode Y_Planner_chances.2.1 34 = .ok (.getfield 95, 3) := by decide +kernel
theorem d_Planner_chances_37 : decode Y_Planner_chances.2.1 37 = .ok (.if_icmp .lt 9, 3) := by decide +kernel
theorem d_Planner_chances_40 : decode Y_Planner_chances.2.1 40 = .ok (.aload_n 0, 1) := by decide +kernel
theorem d_Planner_chances_41 : decode Y_Planner_chances.2.1 41 = .ok (.iload_n 2, 1) := by decide +kernel
theorem d_Planner_chances_42 : decode Y_Planner_chances.2.1 42 = .ok (.invokevirtual 98, 3) := by decide +kernel
theorem d_Planner_chances_45 : decode Y_Planner_chances.2.1 45 = .ok (.lreturn, 1) := by decide +kernel
theorem d_Planner_chances_46 : decode Y_Planner_chances.2.1 46 = .ok (.aload_n 3, 1) := by decide +kernel
theorem d_Planner_chances_47 : decode Y_Planner_chances.2.1 47 = .ok (.getfield 101, 3) := by decide +kernel
theorem d_Planner_chances_50 : decode Y_Planner_chances.2.1 50 = .ok (.iload 4, 2) := by decide +kernel
theorem d_Planner_chances_52 : decode Y_Planner_chances.2.1 52 = .ok (.iaload, 1) := by decide +kernel
theorem d_Planner_chances_53 : decode Y_Planner_chances.2.1 53 = .ok (.i2l, 1) := by decide +kernel
theorem d_Planner_chances_54 : decode Y_Planner_chances.2.1 54 = .ok (.lstore 5, 2) := by decide +kernel
theorem d_Planner_chances_56 : decode Y_Planner_chances.2.1 56 = .ok (.ldc2_w 52, 3) := by decide +kernel
theorem d_Planner_chances_59 : decode Y_Planner_chances.2.1 59 = .ok (.lload 5, 2) := by decide +kernel
theorem d_Planner_chances_61 : decode Y_Planner_chances.2.1 61 = .ok (.lsub, 1) := by decide +kernel
theorem d_Planner_chances_62 : decode Y_Planner_chances.2.1 62 = .ok (.aload_n 0, 1) := by decide +kernel
theorem d_Planner_chances_63 : decode Y_Planner_chances.2.1 63 = .ok (.iload 4, 2) := by decide +kernel
theorem d_Planner_chances_65 : decode Y_Planner_chances.2.1 65 = .ok (.iconst 1, 1) := by decide +kernel
theorem d_Planner_chances_66 : decode Y_Planner_chances.2.1 66 = .ok (.iadd, 1) := by decide +kernel
theorem d_Planner_chances_67 : decode Y_Planner_chances.2.1 67 = .ok (.iload_n 2, 1) := by decide +kernel
theorem d_Planner_chances_68 : decode Y_Planner_chances.2.1 68 = .ok (.invokevirtual 89, 3) := by decide +kernel
theorem d_Planner_chances_71 : decode Y_Planner_chances.2.1 71 = .ok (.lmul, 1) := by decide +kernel
theorem d_Planner_chances_72 : decode Y_Planner_chances.2.1 72 = .ok (.lstore 7, 2) := by decide +kernel
theorem d_Planner_chances_74 : decode Y_Planner_chances.2.1 74 = .ok (.aload_n 0, 1) := by decide +kernel
theorem d_Planner_chances_75 : decode Y_Planner_chances.2.1 75 = .ok (.getfield 21, 3) := by decide +kernel
theorem d_Planner_chances_78 : decode Y_Planner_chances.2.1 78 = .ok (.dup, 1) := by decide +kernel
theorem d_Planner_chances_79 : decode Y_Planner_chances.2.1 79 = .ok (.getfield 104, 3) := by decide +kernel
theorem d_Planner_chances_82 : decode Y_Planner_chances.2.1 82 = .ok (.iconst 1, 1) := by decide +kernel
theorem d_Planner_chances_83 : decode Y_Planner_chances.2.1 83 = .ok (.iload 4, 2) := by decide +kernel
theorem d_Planner_chances_85 : decode Y_Planner_chances.2.1 85 = .ok (.ishl, 1) := by decide +kernel
theorem d_Planner_chances_86 : decode Y_Planner_chances.2.1 86 = .ok (.ior, 1) := by decide +kernel
theorem d_Planner_chances_87 : decode Y_Planner_chances.2.1 87 = .ok (.putfield 104, 3) := by decide +kernel
theorem d_Planner_chances_90 : decode Y_Planner_chances.2.1 90 = .ok (.lload 5, 2) := by decide +kernel
theorem d_Planner_chances_92 : decode Y_Planner_chances.2.1 92 = .ok (.aload_n 0, 1) := by decide +kernel
theorem d_Planner_chances_93 : decode Y_Planner_chances.2.1 93 = .ok (.iload 4, 2) := by decide +kernel
theorem d_Planner_chances_95 : decode Y_Planner_chances.2.1 95 = .ok (.iconst 1, 1) := by decide +kernel
theorem d_Planner_chances_96 : decode Y_Planner_chances.2.1 96 = .ok (.iadd, 1) := by decide +kernel
theorem d_Planner_chances_97 : decode Y_Planner_chances.2.1 97 = .ok (.iload_n 2, 1) := by decide +kernel
theorem d_Planner_chances_98 : decode Y_Planner_chances.2.1 98 = .ok (.invokevirtual 89, 3) := by decide +kernel
theorem d_Planner_chances_101 : decode Y_Planner_chances.2.1 101 = .ok (.lmul, 1) := by decide +kernel
theorem d_Planner_chances_102 : decode Y_Planner_chances.2.1 102 = .ok (.lstore 9, 2) := by decide +kernel
theorem d_Planner_chances_104 : decode Y_Planner_chances.2.1 104 = .ok (.aload_n 0, 1) := by decide +kernel
theorem d_Planner_chances_105 : decode Y_Planner_chances.2.1 105 = .ok (.getfield 21, 3) := by decide +kernel
theorem d_Planner_chances_108 : decode Y_Planner_chances.2.1 108 = .ok (.dup, 1) := by decide +kernel
theorem d_Planner_chances_109 : decode Y_Planner_chances.2.1 109 = .ok (.getfield 104, 3) := by decide +kernel
theorem d_Planner_chances_112 : decode Y_Planner_chances.2.1 112 = .ok (.iconst 1, 1) := by decide +kernel
theorem d_Planner_chances_113 : decode Y_Planner_chances.2.1 113 = .ok (.iload 4, 2) := by decide +kernel
theorem d_Planner_chances_115 : decode Y_Planner_chances.2.1 115 = .ok (.ishl, 1) := by decide +kernel
theorem d_Planner_chances_116 : decode Y_Planner_chances.2.1 116 = .ok (.iconst (-1), 1) := by decide +kernel
theorem d_Planner_chances_117 : decode Y_Planner_chances.2.1 117 = .ok (.ixor, 1) := by decide +kernel
theorem d_Planner_chances_118 : decode Y_Planner_chances.2.1 118 = .ok (.iand, 1) := by decide +kernel
theorem d_Planner_chances_119 : decode Y_Planner_chances.2.1 119 = .ok (.putfield 104, 3) := by decide +kernel
theorem d_Planner_chances_122 : decode Y_Planner_chances.2.1 122 = .ok (.lload 9, 2) := by decide +kernel
theorem d_Planner_chances_124 : decode Y_Planner_chances.2.1 124 = .ok (.lload 7, 2) := by decide +kernel
theorem d_Planner_chances_126 : decode Y_Planner_chances.2.1 126 = .ok (.ladd, 1) := by decide +kernel
theorem d_Planner_chances_127 : decode Y_Planner_chances.2.1 127 = .ok (.lreturn, 1) := by decide +kernel
def f_Planner_chances_ (F_best : PH → Option Nat → Int32 → Option (Int64 × PH)) (F_chances : PH → Option Nat → Int32 → Int32 → Option (Int64 × PH)) (h : PH) (a0 : Option Nat) (a1 : Int32) (a2 : Int32) : Option (Int64 × PH) := (gR h 4 a0 0).bind fun v1 => (gR h 1 v1 10).bind fun v2 => (gI h 4 a0 3).bind fun v3 => (gR h 4 a0 2).bind fun v4 => (gI h 2 v4 0).bind fun v5 => (cl h 6 v2 (f_Reasons_nextOf h v2 v3 v5 a1)).bind fun v6 => if v6 < 0 then ((cl h 4 a0 (F_best h a0 a2)).bind fun v7 => some (v7.1, v7.2)) else ((gI h 6 v2 0).bind fun v8 => if v6 < v8 then ((gR h 6 v2 4).bind fun v9 => (aI h v9 v6).bind fun v10 => (cl h 4 a0 (F_chances h a0 (v6 + (1 : Int32)) a2)).bind fun v11 => (gR v11.2 4 a0 2).bind fun v12 => (gI v11.2 2 v12 2).bind fun v13 => (sF v11.2 2 v12 2 (.inl (v13 ||| ((1 : Int32) <<< (v6 &&& 31))))).bind fun h14 => (cl h14 4 a0 (F_chances h14 a0 (v6 + (1 : Int32)) a2)).bind fun v15 => (gR v15.2 4 a0 2).bind fun v16 => (gI v15.2 2 v16 2).bind fun v17 => (sF v15.2 2 v16 2 (.inl (v17 &&& (((1 : Int32) <<< (v6 &&& 31)) ^^^ (-1 : Int32))))).bind fun h18 => some ((((Int32.toInt64 v10) * v15.1) + (((100 : Int64) - (Int32.toInt64 v10)) * v11.1)), h18)) else ((cl h 4 a0 (F_best h a0 a2)).bind fun v19 => some (v19.1, v19.2)))
set_option maxRecDepth 20000 in
theorem PMo_Planner_chances {l : Launch} {G : Cx} {d : Nat} (hd9 : 9 ≤ d + 1) {F_best : PH → Option Nat → Int32 → Option (Int64 × PH)} {F_chances : PH → Option Nat → Int32 → Int32 → Option (Int64 × PH)} (hbest : ∀ h a0 a1 z, F_best h a0 a1 = some z → PM l G d 0 0 Y_Planner_best [.inr (.inr a0), .inl a1] h (some (.inr (.inl z.1)), z.2)) (hch : ∀ h a0 a1 a2 z, F_chances h a0 a1 a2 = some z → PM l G d 0 0 Y_Planner_chances [.inr (.inr a0), .inl a1, .inl a2] h (some (.inr (.inl z.1)), z.2)) {h : PH} {a0 : Option Nat} {a1 : Int32} {a2 : Int32} {z : (Int64 × PH)} (hz : f_Planner_chances_ F_best F_chances h a0 a1 a2 = some z) : PM l G (d + 1) 0 0 Y_Planner_chances [.inr (.inr a0), .inl a1, .inl a2] h (some (.inr (.inl z.1)), z.2) := by
  refine PM.of (Y := Y_Planner_chances) (cv := (fun z : (Int64 × PH) => (((some (.inr (.inl z.1)), z.2) : Option PV × PH)))) (by decide) (L0 := [some (.inr (.inr a0)), some (.inl a1), some (.inl a2), none, none, none, none, none, none, none, none]) 8 rfl (Nat.le_of_ble_eq_true rfl) ?_ hz
  unfold f_Planner_chances_
  refine PJ.aload_n (pc := 0) d_Planner_chances_0 rfl ?_
  refine PJ.getR (pc := 1) fs_Planner_13 d_Planner_chances_1 (fun v1 => ?_)
  refine PJ.getR (pc := 4) fs_Planner_37 d_Planner_chances_4 (fun v2 => ?_)
  refine PJ.astore_n (pc := 7) (L1 := [some (.inr (.inr a0)), some (.inl a1), some (.inl a2), some (.inr (.inr v2)), none, none, none, none, none, none, none]) d_Planner_chances_7 (Nat.le_of_ble_eq_true rfl) rfl rfl ?_
  refine PJ.aload_n (pc := 8) d_Planner_chances_8 rfl ?_
  refine PJ.aload_n (pc := 9) d_Planner_chances_9 rfl ?_
  refine PJ.getI (pc := 10) fs_Planner_7 d_Planner_chances_10 (fun v3 => ?_)
  refine PJ.aload_n (pc := 13) d_Planner_chances_13 rfl ?_
  refine PJ.getR (pc := 14) fs_Planner_21 d_Planner_chances_14 (fun v4 => ?_)
  refine PJ.getI (pc := 17) fs_Planner_43 d_Planner_chances_17 (fun v5 => ?_)
  refine PJ.iload_n (pc := 20) d_Planner_chances_20 rfl ?_
  refine PJ.cVpI (pc := 21) cs_Planner_92 (fun z hz => PM_Reasons_nextOf hz) (pj_fits (Nat.le_trans (Nat.le_of_ble_eq_true rfl) hd9) (Nat.le_of_ble_eq_true rfl)) rfl rfl (Nat.le_of_ble_eq_true rfl) d_Planner_chances_21 (fun v6 => ?_)
  refine PJ.istore (pc := 24) (L1 := [some (.inr (.inr a0)), some (.inl a1), some (.inl a2), some (.inr (.inr v2)), some (.inl v6), none, none, none, none, none, none]) d_Planner_chances_24 (Nat.le_of_ble_eq_true rfl) rfl rfl ?_
  refine PJ.iload (pc := 26) d_Planner_chances_26 rfl ?_
  refine PJ.if_lt (pc := 28) (tgt := 40) d_Planner_chances_28 (by decide) (fun _ => ?_) (fun _ => ?_)
  · refine PJ.aload_n (pc := 40) d_Planner_chances_40 rfl ?_
    refine PJ.iload_n (pc := 41) d_Planner_chances_41 rfl ?_
    refine PJ.cVL (pc := 42) cs_Planner_98 (fun z hz => hbest _ _ _ z hz) (pj_fits (Nat.le_refl _) (Nat.le_of_ble_eq_true rfl)) rfl rfl (Nat.le_of_ble_eq_true rfl) d_Planner_chances_42 (fun v7 => ?_)
    exact PJ.lret (pc := 45) d_Planner_chances_45 rfl (Nat.le_of_ble_eq_true rfl) (Nat.le_of_ble_eq_true rfl)
  · refine PJ.iload (pc := 31) d_Planner_chances_31 rfl ?_
    refine PJ.aload_n (pc := 33) d_Planner_chances_33 rfl ?_
    refine PJ.getI (pc := 34) fs_Planner_95 d_Planner_chances_34 (fun v8 => ?_)
    refine PJ.icmp_lt (pc := 37) (tgt := 46) d_Planner_chances_37 (by decide) (fun _ => ?_) (fun _ => ?_)
    · refine PJ.aload_n (pc := 46) d_Planner_chances_46 rfl ?_
      refine PJ.getR (pc := 47) fs_Planner_101 d_Planner_chances_47 (fun v9 => ?_)
      refine PJ.iload (pc := 50) d_Planner_chances_50 rfl ?_
      refine PJ.iald (pc := 52) d_Planner_chances_52 (fun v10 => ?_)
      refine PJ.i2l (pc := 53) d_Planner_chances_53 ?_
      refine PJ.lstore (pc := 54) (L1 := [some (.inr (.inr a0)), some (.inl a1), some (.inl a2), some (.inr (.inr v2)), some (.inl v6), some (.inr (.inl (Int32.toInt64 v10))), none, none, none, none, none]) d_Planner_chances_54 (Nat.le_of_ble_eq_true rfl) rfl rfl ?_
      refine PJ.ldc2 (pc := 56) (v := 100) d_Planner_chances_56 wd_977 ?_
      refine PJ.lload (pc := 59) d_Planner_chances_59 rfl ?_
      refine PJ.lsub (pc := 61) d_Planner_chances_61 ?_
      refine PJ.aload_n (pc := 62) d_Planner_chances_62 rfl ?_
      refine PJ.iload (pc := 63) d_Planner_chances_63 rfl ?_
      refine PJ.iconst (pc := 65) (v := 1) d_Planner_chances_65 (by decide) ?_
      refine PJ.iadd (pc := 66) d_Planner_chances_66 ?_
      refine PJ.iload_n (pc := 67) d_Planner_chances_67 rfl ?_
      refine PJ.cVL (pc := 68) cs_Planner_89 (fun z hz => hch _ _ _ _ z hz) (pj_fits (Nat.le_refl _) (Nat.le_of_ble_eq_true rfl)) rfl rfl (Nat.le_of_ble_eq_true rfl) d_Planner_chances_68 (fun v11 => ?_)
      refine PJ.lmul (pc := 71) d_Planner_chances_71 ?_
      refine PJ.lstore (pc := 72) (L1 := [some (.inr (.inr a0)), some (.inl a1), some (.inl a2), some (.inr (.inr v2)), some (.inl v6), some (.inr (.inl (Int32.toInt64 v10))), none, some (.inr (.inl (((100 : Int64) - (Int32.toInt64 v10)) * v11.1))), none, none, none]) d_Planner_chances_72 (Nat.le_of_ble_eq_true rfl) rfl rfl ?_
      refine PJ.aload_n (pc := 74) d_Planner_chances_74 rfl ?_
      refine PJ.getR (pc := 75) fs_Planner_21 d_Planner_chances_75 (fun v12 => ?_)
      refine PJ.dup (pc := 78) d_Planner_chances_78 rfl ?_
      refine PJ.getI (pc := 79) fs_Planner_104 d_Planner_chances_79 (fun v13 => ?_)
      refine PJ.iconst (pc := 82) (v := 1) d_Planner_chances_82 (by decide) ?_
      refine PJ.iload (pc := 83) d_Planner_chances_83 rfl ?_
      refine PJ.ishl (pc := 85) d_Planner_chances_85 ?_
      refine PJ.ior (pc := 86) d_Planner_chances_86 ?_
      refine PJ.putI (pc := 87) ps_Planner_104 d_Planner_chances_87 (fun h14 => ?_)
      refine PJ.lload (pc := 90) d_Planner_chances_90 rfl ?_
      refine PJ.aload_n (pc := 92) d_Planner_chances_92 rfl ?_
      refine PJ.iload (pc := 93) d_Planner_chances_93 rfl ?_
      refine PJ.iconst (pc := 95) (v := 1) d_Planner_chances_95 (by decide) ?_
      refine PJ.iadd (pc := 96) d_Planner_chances_96 ?_
      refine PJ.iload_n (pc := 97) d_Planner_chances_97 rfl ?_
      refine PJ.cVL (pc := 98) cs_Planner_89 (fun z hz => hch _ _ _ _ z hz) (pj_fits (Nat.le_refl _) (Nat.le_of_ble_eq_true rfl)) rfl rfl (Nat.le_of_ble_eq_true rfl) d_Planner_chances_98 (fun v15 => ?_)
      refine PJ.lmul (pc := 101) d_Planner_chances_101 ?_
      refine PJ.lstore (pc := 102) (L1 := [some (.inr (.inr a0)), some (.inl a1), some (.inl a2), some (.inr (.inr v2)), some (.inl v6), some (.inr (.inl (Int32.toInt64 v10))), none, some (.inr (.inl (((100 : Int64) - (Int32.toInt64 v10)) * v11.1))), none, some (.inr (.inl ((Int32.toInt64 v10) * v15.1))), none]) d_Planner_chances_102 (Nat.le_of_ble_eq_true rfl) rfl rfl ?_
      refine PJ.aload_n (pc := 104) d_Planner_chances_104 rfl ?_
      refine PJ.getR (pc := 105) fs_Planner_21 d_Planner_chances_105 (fun v16 => ?_)
      refine PJ.dup (pc := 108) d_Planner_chances_108 rfl ?_
      refine PJ.getI (pc := 109) fs_Planner_104 d_Planner_chances_109 (fun v17 => ?_)
      refine PJ.iconst (pc := 112) (v := 1) d_Planner_chances_112 (by decide) ?_
      refine PJ.iload (pc := 113) d_Planner_chances_113 rfl ?_
      refine PJ.ishl (pc := 115) d_Planner_chances_115 ?_
      refine PJ.iconst (pc := 116) (v := -1) d_Planner_chances_116 (by decide) ?_
      refine PJ.ixor (pc := 117) d_Planner_chances_117 ?_
      refine PJ.iand (pc := 118) d_Planner_chances_118 ?_
      refine PJ.putI (pc := 119) ps_Planner_104 d_Planner_chances_119 (fun h18 => ?_)
      refine PJ.lload (pc := 122) d_Planner_chances_122 rfl ?_
      refine PJ.lload (pc := 124) d_Planner_chances_124 rfl ?_
      refine PJ.ladd (pc := 126) d_Planner_chances_126 ?_
      exact PJ.lret (pc := 127) d_Planner_chances_127 rfl (Nat.le_of_ble_eq_true rfl) (Nat.le_of_ble_eq_true rfl)
    · refine PJ.aload_n (pc := 40) d_Planner_chances_40 rfl ?_
      refine PJ.iload_n (pc := 41) d_Planner_chances_41 rfl ?_
      refine PJ.cVL (pc := 42) cs_Planner_98 (fun z hz => hbest _ _ _ z hz) (pj_fits (Nat.le_refl _) (Nat.le_of_ble_eq_true rfl)) rfl rfl (Nat.le_of_ble_eq_true rfl) d_Planner_chances_42 (fun v19 => ?_)
      exact PJ.lret (pc := 45) d_Planner_chances_45 rfl (Nat.le_of_ble_eq_true rfl) (Nat.le_of_ble_eq_true rfl)
theorem d_Rows_extend_0 : decode Y_Rows_extend.2.1 0 = .ok (.aload_n 0, 1) := by decide +kernel
theorem d_Rows_extend_1 : decode Y_Rows_extend.2.1 1 = .ok (.getfield 33, 3) := by decide +kernel
theorem d_Rows_extend_4 : decode Y_Rows_extend.2.1 4 = .ok (.getfield 67, 3) := by decide +kernel
theorem d_Rows_extend_7 : decode Y_Rows_extend.2.1 7 = .ok (.astore_n 2, 1) := by decide +kernel
theorem d_Rows_extend_8 : decode Y_Rows_extend.2.1 8 = .ok (.aload_n 2, 1) := by decide +kernel
theorem d_Rows_extend_9 : decode Y_Rows_extend.2.1 9 = .ok (.aload_n 0, 1) := by decide +kernel
theorem d_Rows_extend_10 : decode Y_Rows_extend.2.1 10 = .ok (.getfield 9, 3) := by decide +kernel
theorem d_Rows_extend_13 : decode Y_Rows_extend.2.1 13 = .ok (.iload_n 1, 1) := by decide +kernel
theorem d_Rows_extend_14 : decode Y_Rows_extend.2.1 14 = .ok (.invokevirtual 73, 3) := by decide +kernel
theorem d_Rows_extend_17 : decode Y_Rows_extend.2.1 17 = .ok (.istore_n 3, 1) := by decide +kernel
theorem d_Rows_extend_18 : decode Y_Rows_extend.2.1 18 = .ok (.iload_n 3, 1) := by decide +kernel
theorem d_Rows_extend_19 : decode Y_Rows_extend.2.1 19 = .ok (.ifCond .lt 11, 3) := by decide +kernel
theorem d_Rows_extend_22 : decode Y_Rows_extend.2.1 22 = .ok (.iload_n 3, 1) := by decide +kernel
theorem d_Rows_extend_23 : decode Y_Rows_extend.2.1 23 = .ok (.aload_n 2, 1) := by decide +kernel
theorem d_Rows_extend_24 : decode Y_Rows_extend.2.1 24 = .ok (.getfield 79, 3) := by decide +kernel
theorem d_Rows_extend_27 : decode Y_Rows_extend.2.1 27 = .ok (.if_icmp .lt 8, 3) := by decide +kernel
theorem d_Rows_extend_30 : decode Y_Rows_extend.2.1 30 = .ok (.aload_n 0, 1) := by decide +kernel
theorem d_Rows_extend_31 : decode Y_Rows_extend.2.1 31 = .ok (.invokevirtual 80, 3) := by decide +kernel
theorem d_Rows_extend_34 : decode Y_Rows_extend.2.1 34 = .ok (.return_, 1) := by decide +kernel
theorem d_Rows_extend_35 : decode Y_Rows_extend.2.1 35 = .ok (.aload_n 0, 1) := by decide +kernel
theorem d_Rows_extend_36 : decode Y_Rows_extend.2.1 36 = .ok (.getfield 41, 3) := by decide +kernel
theorem d_Rows_extend_39 : decode Y_Rows_extend.2.1 39 = .ok (.getfield 83, 3) := by decide +kernel
theorem d_Rows_extend_42 : decode Y_Rows_extend.2.1 42 = .ok (.aload_n 0, 1) := by decide +kernel
theorem d_Rows_extend_43 : decode Y_Rows_extend.2.1 43 = .ok (.getfield 9, 3) := by decide +kernel
theorem d_Rows_extend_46 : decode Y_Rows_extend.2.1 46 = .ok (.iaload, 1) := by decide +kernel
theorem d_Rows_extend_47 : decode Y_Rows_extend.2.1 47 = .ok (.istore 4, 2) := by decide +kernel
theorem d_Rows_extend_49 : decode Y_Rows_extend.2.1 49 = .ok (.aload_n 0, 1) := by decide +kernel
theorem d_Rows_extend_50 : decode Y_Rows_extend.2.1 50 = .ok (.getfield 41, 3) := by decide +kernel
theorem d_Rows_extend_53 : decode Y_Rows_extend.2.1 53 = .ok (.getfield 86, 3) := by decide +kernel
theorem d_Rows_extend_56 : decode Y_Rows_extend.2.1 56 = .ok (.aload_n 0, 1) := by decide +kernel
theorem d_Rows_extend_57 : decode Y_Rows_extend.2.1 57 = .ok (.getfield 9, 3) := by decide +kernel
theorem d_Rows_extend_60 : decode Y_Rows_extend.2.1 60 = .ok (.iaload, 1) := by decide +kernel
theorem d_Rows_extend_61 : decode Y_Rows_extend.2.1 61 = .ok (.istore 5, 2) := by decide +kernel
theorem d_Rows_extend_63 : decode Y_Rows_extend.2.1 63 = .ok (.aload_n 0, 1) := by decide +kernel
theorem d_Rows_extend_64 : decode Y_Rows_extend.2.1 64 = .ok (.getfield 41, 3) := by decide +kernel
theorem d_Rows_extend_67 : decode Y_Rows_extend.2.1 67 = .ok (.getfield 89, 3) := by decide +kernel
theorem d_Rows_extend_70 : decode Y_Rows_extend.2.1 70 = .ok (.aload_n 0, 1) := by decide +kernel
theorem d_Rows_extend_71 : decode Y_Rows_extend.2.1 71 = .ok (.getfield 9, 3) := by decide +kernel
theorem d_Rows_extend_74 : decode Y_Rows_extend.2.1 74 = .ok (.iaload, 1) := by decide +kernel
theorem d_Rows_extend_75 : decode Y_Rows_extend.2.1 75 = .ok (.istore 6, 2) := by decide +kernel
theorem d_Rows_extend_77 : decode Y_Rows_extend.2.1 77 = .ok (.iconst 0, 1) := by decide +kernel
theorem d_Rows_extend_78 : decode Y_Rows_extend.2.1 78 = .ok (.istore 7, 2) := by decide +kernel
theorem d_Rows_extend_80 : decode Y_Rows_extend.2.1 80 = .ok (.iload 7, 2) := by decide +kernel
theorem d_Rows_extend_82 : decode Y_Rows_extend.2.1 82 = .ok (.aload_n 0, 1) := by decide +kernel
theorem d_Rows_extend_83 : decode Y_Rows_extend.2.1 83 = .ok (.getfield 33, 3) := by decide +kernel
theorem d_Rows_extend_86 : decode Y_Rows_extend.2.1 86 = .ok (.getfield 92, 3) := by decide +kernel
theorem d_Rows_extend_89 : decode Y_Rows_extend.2.1 89 = .ok (.if_icmp .ge 122, 3) := by decide +kernel
theorem d_Rows_extend_92 : decode Y_Rows_extend.2.1 92 = .ok (.aload_n 0, 1) := by decide +kernel
theorem d_Rows_extend_93 : decode Y_Rows_extend.2.1 93 = .ok (.getfield 41, 3) := by decide +kernel
theorem d_Rows_extend_96 : decode Y_Rows_extend.2.1 96 = .ok (.aload_n 2, 1) := by decide +kernel
theorem d_Rows_extend_97 : decode Y_Rows_extend.2.1 97 = .ok (.getfield 95, 3) := by decide +kernel
theorem d_Rows_extend_100 : decode Y_Rows_extend.2.1 100 = .ok (.iload_n 3, 1) := by decide +kernel
theorem d_Rows_extend_101 : decode Y_Rows_extend.2.1 101 = .ok (.iaload, 1) := by decide +kernel
theorem d_Rows_extend_102 : decode Y_Rows_extend.2.1 102 = .ok (.putfield 98, 3) := by decide +kernel
theorem d_Rows_extend_105 : decode Y_Rows_extend.2.1 105 = .ok (.iload 7, 2) := by decide +kernel
theorem d_Rows_extend_107 : decode Y_Rows_extend.2.1 107 = .ok (.iload 4, 2) := by decide +kernel
theorem d_Rows_extend_109 : decode Y_Rows_extend.2.1 109 = .ok (.if_icmp .eq 96, 3) := by decide +kernel
theorem d_Rows_extend_112 : decode Y_Rows_extend.2.1 112 = .ok (.aload_n 0, 1) := by decide +kernel
theorem d_Rows_extend_113 : decode Y_Rows_extend.2.1 113 = .ok (.getfield 37, 3) := by decide +kernel
theorem d_Rows_extend_116 : decode Y_Rows_extend.2.1 116 = .ok (.aload_n 0, 1) := by decide +kernel
theorem d_Rows_extend_117 : decode Y_Rows_extend.2.1 117 = .ok (.getfield 9, 3) := by decide +kernel
theorem d_Rows_extend_120 : decode Y_Rows_extend.2.1 120 = .ok (.iload 7, 2) := by decide +kernel
theorem d_Rows_extend_122 : decode Y_Rows_extend.2.1 122 = .ok (.invokevirtual 100, 3) := by decide +kernel
theorem d_Rows_extend_125 : decode Y_Rows_extend.2.1 125 = .ok (.aload_n 2, 1) := by decide +kernel
theorem d_Rows_extend_126 : decode Y_Rows_extend.2.1 126 = .ok (.getfield 103, 3) := by decide +kernel
theorem d_Rows_extend_129 : decode Y_Rows_extend.2.1 129 = .ok (.iload_n 3, 1) := by decide +kernel
theorem d_Rows_extend_130 : decode Y_Rows_extend.2.1 130 = .ok (.iaload, 1) := by decide +kernel
theorem d_Rows_extend_131 : decode Y_Rows_extend.2.1 131 = .ok (.if_icmp .ne 74, 3) := by decide +kernel
theorem d_Rows_extend_134 : decode Y_Rows_extend.2.1 134 = .ok (.aload_n 0, 1) := by decide +kernel
theorem d_Rows_extend_135 : decode Y_Rows_extend.2.1 135 = .ok (.getfield 41, 3) := by decide +kernel
theorem d_Rows_extend_138 : decode Y_Rows_extend.2.1 138 = .ok (.aload_n 0, 1) := by decide +kernel
theorem d_Rows_extend_139 : decode Y_Rows_extend.2.1 139 = .ok (.getfield 9, 3) := by decide +kernel
theorem d_Rows_extend_142 : decode Y_Rows_extend.2.1 142 = .ok (.iload 7, 2) := by decide +kernel
theorem d_Rows_extend_144 : decode Y_Rows_extend.2.1 144 = .ok (.iconst 0, 1) := by decide +kernel
theorem d_Rows_extend_145 : decode Y_Rows_extend.2.1 145 = .ok (.invokevirtual 106, 3) := by decide +kernel
theorem d_Rows_extend_148 : decode Y_Rows_extend.2.1 148 = .ok (.aload_n 0, 1) := by decide +kernel
theorem d_Rows_extend_149 : decode Y_Rows_extend.2.1 149 = .ok (.getfield 25, 3) := by decide +kernel
theorem d_Rows_extend_152 : decode Y_Rows_extend.2.1 152 = .ok (.iload_n 3, 1) := by decide +kernel
theorem d_Rows_extend_153 : decode Y_Rows_extend.2.1 153 = .ok (.iload 7, 2) := by decide +kernel
theorem d_Rows_extend_155 : decode Y_Rows_extend.2.1 155 = .ok (.iastore, 1) := by decide +kernel
theorem d_Rows_extend_156 : decode Y_Rows_extend.2.1 156 = .ok (.aload_n 0, 1) := by decide +kernel
theorem d_Rows_extend_157 : decode Y_Rows_extend.2.1 157 = .ok (.iload_n 3, 1) := by decide +kernel
theorem d_Rows_extend_158 : decode Y_Rows_extend.2.1 158 = .ok (.iconst 1, 1) := by decide +kernel
theorem d_Rows_extend_159 : decode Y_Rows_extend.2.1 159 = .ok (.iadd, 1) := by decide +kernel
theorem d_Rows_extend_160 : decode Y_Rows_extend.2.1 160 = .ok (.invokevirtual 63, 3) := by decide +kernel
theorem d_Rows_extend_163 : decode Y_Rows_extend.2.1 163 = .ok (.aload_n 0, 1) := by decide +kernel
theorem d_Rows_extend_164 : decode Y_Rows_extend.2.1 164 = .ok (.getfield 41, 3) := by decide +kernel
theorem d_Rows_extend_167 : decode Y_Rows_extend.2.1 167 = .ok (.getfield 83, 3) := by decide +kernel
theorem d_Rows_extend_170 : decode Y_Rows_extend.2.1 170 = .ok (.aload_n 0, 1) := by decide +kernel
theorem d_Rows_extend_171 : decode Y_Rows_extend.2.1 171 = .ok (.getfield 9, 3) := by decide +kernel
theorem d_Rows_extend_174 : decode Y_Rows_extend.2.1 174 = .ok (.iload 4, 2) := by decide +kernel
theorem d_Rows_extend_176 : decode Y_Rows_extend.2.1 176 = .ok (.iastore, 1) := by decide +kernel
theorem d_Rows_extend_177 : decode Y_Rows_extend.2.1 177 = .ok (.aload_n 0, 1) := by decide +kernel
theorem d_Rows_extend_178 : decode Y_Rows_extend.2.1 178 = .ok (.getfield 41, 3) := by decide +kernel
theorem d_Rows_extend_181 : decode Y_Rows_extend.2.1 181 = .ok (.getfield 86, 3) := by decide +kernel
theorem d_Rows_extend_184 : decode Y_Rows_extend.2.1 184 = .ok (.aload_n 0, 1) := by decide +kernel
theorem d_Rows_extend_185 : decode Y_Rows_extend.2.1 185 = .ok (.getfield 9, 3) := by decide +kernel
theorem d_Rows_extend_188 : decode Y_Rows_extend.2.1 188 = .ok (.iload 5, 2) := by decide +kernel
theorem d_Rows_extend_190 : decode Y_Rows_extend.2.1 190 = .ok (.iastore, 1) := by decide +kernel
theorem d_Rows_extend_191 : decode Y_Rows_extend.2.1 191 = .ok (.aload_n 0, 1) := by decide +kernel
theorem d_Rows_extend_192 : decode Y_Rows_extend.2.1 192 = .ok (.getfield 41, 3) := by decide +kernel
theorem d_Rows_extend_195 : decode Y_Rows_extend.2.1 195 = .ok (.getfield 89, 3) := by decide +kernel
theorem d_Rows_extend_198 : decode Y_Rows_extend.2.1 198 = .ok (.aload_n 0, 1) := by decide +kernel
theorem d_Rows_extend_199 : decode Y_Rows_extend.2.1 199 = .ok (.getfield 9, 3) := by decide +kernel
theorem d_Rows_extend_202 : decode Y_Rows_extend.2.1 202 = .ok (.iload 6, 2) := by decide +kernel
theorem d_Rows_extend_204 : decode Y_Rows_extend.2.1 204 = .ok (.iastore, 1) := by decide +kernel
theorem d_Rows_extend_205 : decode Y_Rows_extend.2.1 205 = .ok (.iinc 7 1, 3) := by decide +kernel
theorem d_Rows_extend_208 : decode Y_Rows_extend.2.1 208 = .ok (.goto (-128), 3) := by decide +kernel
theorem d_Rows_extend_211 : decode Y_Rows_extend.2.1 211 = .ok (.return_, 1) := by decide +kernel
def f_Rows_extend_ (F_ext : PH → Option Nat → Int32 → Option PH) (h : PH) (a0 : Option Nat) (a1 : Int32) : Option PH := (gR h 8 a0 0).bind fun v1 => (gR h 1 v1 11).bind fun v2 => (gI h 8 a0 3).bind fun v3 => (cl h 7 v2 (f_Receipts_nextOf h v2 v3 a1)).bind fun v4 => if v4 < 0 then ((cl h 8 a0 (f_Rows_countRow h a0)).bind fun h5 => some h5) else ((gI h 7 v2 0).bind fun v6 => if v4 < v6 then ((gR h 8 a0 2).bind fun v7 => (gR h 2 v7 3).bind fun v8 => (gI h 8 a0 3).bind fun v9 => (aI h v8 v9).bind fun v10 => (gR h 8 a0 2).bind fun v11 => (gR h 2 v11 4).bind fun v12 => (gI h 8 a0 3).bind fun v13 => (aI h v12 v13).bind fun v14 => (gR h 8 a0 2).bind fun v15 => (gR h 2 v15 6).bind fun v16 => (gI h 8 a0 3).bind fun v17 => (aI h v16 v17).bind fun v18 => (pj_it (X := PH) (fun s19 : Int32 × PH => (gR s19.2 8 a0 0).bind fun v21 => (gI s19.2 1 v21 2).bind fun v22 => if v22 ≤ s19.1 then (some (.inr s19.2)) else ((gR s19.2 8 a0 2).bind fun v23 => (gR s19.2 7 v2 3).bind fun v24 => (aI s19.2 v24 v4).bind fun v25 => (sF s19.2 2 v23 0 (.inl v25)).bind fun h26 => if s19.1 = v10 then (some (.inl ((s19.1 + (1 : Int32)), h26))) else ((gR h26 8 a0 1).bind fun v27 => (gI h26 8 a0 3).bind fun v28 => (cl h26 0 v27 (f_Desk_taxOf h26 v27 v28 s19.1)).bind fun v29 => (gR h26 7 v2 2).bind fun v30 => (aI h26 v30 v4).bind fun v31 => if ¬ v29 = v31 then (some (.inl ((s19.1 + (1 : Int32)), h26))) else ((gR h26 8 a0 2).bind fun v32 => (gI h26 8 a0 3).bind fun v33 => (cl h26 2 v32 (f_Now_move h26 v32 v33 s19.1 (0 : Int32))).bind fun h34 => (gR h34 8 a0 7).bind fun v35 => (sA h34 50 v35 v4 (.inl s19.1)).bind fun h36 => (cl h36 8 a0 (F_ext h36 a0 (v4 + (1 : Int32)))).bind fun h37 => (gR h37 8 a0 2).bind fun v38 => (gR h37 2 v38 3).bind fun v39 => (gI h37 8 a0 3).bind fun v40 => (sA h37 50 v39 v40 (.inl v10)).bind fun h41 => (gR h41 8 a0 2).bind fun v42 => (gR h41 2 v42 4).bind fun v43 => (gI h41 8 a0 3).bind fun v44 => (sA h41 50 v43 v44 (.inl v14)).bind fun h45 => (gR h45 8 a0 2).bind fun v46 => (gR h45 2 v46 6).bind fun v47 => (gI h45 8 a0 3).bind fun v48 => (sA h45 50 v47 v48 (.inl v18)).bind fun h49 => some (.inl ((s19.1 + (1 : Int32)), h49)))))) FU ((0 : Int32), h)).bind fun x20 => some x20) else ((cl h 8 a0 (f_Rows_countRow h a0)).bind fun h50 => some h50))
set_option maxRecDepth 20000 in
theorem PMo_Rows_extend {l : Launch} {G : Cx} {d : Nat} (hd9 : 9 ≤ d + 1) {F_ext : PH → Option Nat → Int32 → Option PH} (hext : ∀ h a0 a1 z, F_ext h a0 a1 = some z → PM l G d 0 0 Y_Rows_extend [.inr (.inr a0), .inl a1] h (none, z)) {h : PH} {a0 : Option Nat} {a1 : Int32} {z : PH} (hz : f_Rows_extend_ F_ext h a0 a1 = some z) : PM l G (d + 1) 0 0 Y_Rows_extend [.inr (.inr a0), .inl a1] h (none, z) := by
  refine PM.of (Y := Y_Rows_extend) (cv := (fun z : PH => (((none, z) : Option PV × PH)))) (by decide) (L0 := [some (.inr (.inr a0)), some (.inl a1), none, none, none, none, none, none]) 6 rfl (Nat.le_of_ble_eq_true rfl) ?_ hz
  unfold f_Rows_extend_
  refine PJ.aload_n (pc := 0) d_Rows_extend_0 rfl ?_
  refine PJ.getR (pc := 1) fs_Rows_33 d_Rows_extend_1 (fun v1 => ?_)
  refine PJ.getR (pc := 4) fs_Rows_67 d_Rows_extend_4 (fun v2 => ?_)
  refine PJ.astore_n (pc := 7) (L1 := [some (.inr (.inr a0)), some (.inl a1), some (.inr (.inr v2)), none, none, none, none, none]) d_Rows_extend_7 (Nat.le_of_ble_eq_true rfl) rfl rfl ?_
  refine PJ.aload_n (pc := 8) d_Rows_extend_8 rfl ?_
  refine PJ.aload_n (pc := 9) d_Rows_extend_9 rfl ?_
  refine PJ.getI (pc := 10) fs_Rows_9 d_Rows_extend_10 (fun v3 => ?_)
  refine PJ.iload_n (pc := 13) d_Rows_extend_13 rfl ?_
  refine PJ.cVpI (pc := 14) cs_Rows_73 (fun z hz => PM_Receipts_nextOf hz) (pj_fits (Nat.le_trans (Nat.le_of_ble_eq_true rfl) hd9) (Nat.le_of_ble_eq_true rfl)) rfl rfl (Nat.le_of_ble_eq_true rfl) d_Rows_extend_14 (fun v4 => ?_)
  refine PJ.istore_n (pc := 17) (L1 := [some (.inr (.inr a0)), some (.inl a1), some (.inr (.inr v2)), some (.inl v4), none, none, none, none]) d_Rows_extend_17 (Nat.le_of_ble_eq_true rfl) rfl rfl ?_
  refine PJ.iload_n (pc := 18) d_Rows_extend_18 rfl ?_
  refine PJ.if_lt (pc := 19) (tgt := 30) d_Rows_extend_19 (by decide) (fun _ => ?_) (fun _ => ?_)
  · refine PJ.aload_n (pc := 30) d_Rows_extend_30 rfl ?_
    refine PJ.cVV (pc := 31) cs_Rows_80 (fun z hz => PM_Rows_countRow hz) (pj_fits (Nat.le_trans (Nat.le_of_ble_eq_true rfl) hd9) (Nat.le_of_ble_eq_true rfl)) rfl rfl (Nat.le_of_ble_eq_true rfl) d_Rows_extend_31 (fun h5 => ?_)
    exact PJ.vret (pc := 34) d_Rows_extend_34 rfl (Nat.le_of_ble_eq_true rfl) (Nat.le_of_ble_eq_true rfl)
  · refine PJ.iload_n (pc := 22) d_Rows_extend_22 rfl ?_
    refine PJ.aload_n (pc := 23) d_Rows_extend_23 rfl ?_
    refine PJ.getI (pc := 24) fs_Rows_79 d_Rows_extend_24 (fun v6 => ?_)
    refine PJ.icmp_lt (pc := 27) (tgt := 35) d_Rows_extend_27 (by decide) (fun _ => ?_) (fun _ => ?_)
    · refine PJ.aload_n (pc := 35) d_Rows_extend_35 rfl ?_
      refine PJ.getR (pc := 36) fs_Rows_41 d_Rows_extend_36 (fun v7 => ?_)
      refine PJ.getR (pc := 39) fs_Rows_83 d_Rows_extend_39 (fun v8 => ?_)
      refine PJ.aload_n (pc := 42) d_Rows_extend_42 rfl ?_
      refine PJ.getI (pc := 43) fs_Rows_9 d_Rows_extend_43 (fun v9 => ?_)
      refine PJ.iald (pc := 46) d_Rows_extend_46 (fun v10 => ?_)
      refine PJ.istore (pc := 47) (L1 := [some (.inr (.inr a0)), some (.inl a1), some (.inr (.inr v2)), some (.inl v4), some (.inl v10), none, none, none]) d_Rows_extend_47 (Nat.le_of_ble_eq_true rfl) rfl rfl ?_
      refine PJ.aload_n (pc := 49) d_Rows_extend_49 rfl ?_
      refine PJ.getR (pc := 50) fs_Rows_41 d_Rows_extend_50 (fun v11 => ?_)
      refine PJ.getR (pc := 53) fs_Rows_86 d_Rows_extend_53 (fun v12 => ?_)
      refine PJ.aload_n (pc := 56) d_Rows_extend_56 rfl ?_
      refine PJ.getI (pc := 57) fs_Rows_9 d_Rows_extend_57 (fun v13 => ?_)
      refine PJ.iald (pc := 60) d_Rows_extend_60 (fun v14 => ?_)
      refine PJ.istore (pc := 61) (L1 := [some (.inr (.inr a0)), some (.inl a1), some (.inr (.inr v2)), some (.inl v4), some (.inl v10), some (.inl v14), none, none]) d_Rows_extend_61 (Nat.le_of_ble_eq_true rfl) rfl rfl ?_
      refine PJ.aload_n (pc := 63) d_Rows_extend_63 rfl ?_
      refine PJ.getR (pc := 64) fs_Rows_41 d_Rows_extend_64 (fun v15 => ?_)
      refine PJ.getR (pc := 67) fs_Rows_89 d_Rows_extend_67 (fun v16 => ?_)
      refine PJ.aload_n (pc := 70) d_Rows_extend_70 rfl ?_
      refine PJ.getI (pc := 71) fs_Rows_9 d_Rows_extend_71 (fun v17 => ?_)
      refine PJ.iald (pc := 74) d_Rows_extend_74 (fun v18 => ?_)
      refine PJ.istore (pc := 75) (L1 := [some (.inr (.inr a0)), some (.inl a1), some (.inr (.inr v2)), some (.inl v4), some (.inl v10), some (.inl v14), some (.inl v18), none]) d_Rows_extend_75 (Nat.le_of_ble_eq_true rfl) rfl rfl ?_
      refine PJ.iconst (pc := 77) (v := 0) d_Rows_extend_77 (by decide) ?_
      refine PJ.istore (pc := 78) (L1 := [some (.inr (.inr a0)), some (.inl a1), some (.inr (.inr v2)), some (.inl v4), some (.inl v10), some (.inl v14), some (.inl v18), some (.inl (0 : Int32))]) d_Rows_extend_78 (Nat.le_of_ble_eq_true rfl) rfl rfl ?_
      refine PJ.mk (L1 := [some (.inr (.inr a0)), none, some (.inr (.inr v2)), some (.inl v4), some (.inl v10), some (.inl v14), some (.inl v18), some (.inl (0 : Int32))]) [true, false, true, true, true, true, true, true] rfl ?_
      refine PJ.bind (fun x20 : PH => ((211 : Nat), ([none, none, none, none, none, none, none, none] : List (Option PV)), ([] : List PV), (x20 : PH), (0 : Nat), (0 : Nat))) (PJ.it (E := (fun s19 : Int32 × PH => ((80 : Nat), ([some (.inr (.inr a0)), none, some (.inr (.inr v2)), some (.inl v4), some (.inl v10), some (.inl v14), some (.inl v18), some (.inl s19.1)] : List (Option PV)), ([] : List PV), (s19.2 : PH), (0 : Nat), (0 : Nat)))) (F := (fun x20 : PH => ((211 : Nat), ([none, none, none, none, none, none, none, none] : List (Option PV)), ([] : List PV), (x20 : PH), (0 : Nat), (0 : Nat)))) (fun s19 => ?_) FU ((0 : Int32), h)) (fun x20 => ?_)
      · show PJ l G (pj_rm (d + 1) 0 0) Y_Rows_extend 80 [some (.inr (.inr a0)), none, some (.inr (.inr v2)), some (.inl v4), some (.inl v10), some (.inl v14), some (.inl v18), some (.inl s19.1)] [] s19.2 0 0 _ _
        refine PJ.iload (pc := 80) d_Rows_extend_80 rfl ?_
        refine PJ.aload_n (pc := 82) d_Rows_extend_82 rfl ?_
        refine PJ.getR (pc := 83) fs_Rows_33 d_Rows_extend_83 (fun v21 => ?_)
        refine PJ.getI (pc := 86) fs_Rows_92 d_Rows_extend_86 (fun v22 => ?_)
        refine PJ.icmp_ge (pc := 89) (tgt := 211) d_Rows_extend_89 (by decide) (fun _ => ?_) (fun _ => ?_)
        · refine PJ.mk (L1 := [none, none, none, none, none, none, none, none]) [false, false, false, false, false, false, false, false] rfl ?_
          exact PJ.done rfl
        · refine PJ.aload_n (pc := 92) d_Rows_extend_92 rfl ?_
          refine PJ.getR (pc := 93) fs_Rows_41 d_Rows_extend_93 (fun v23 => ?_)
          refine PJ.aload_n (pc := 96) d_Rows_extend_96 rfl ?_
          refine PJ.getR (pc := 97) fs_Rows_95 d_Rows_extend_97 (fun v24 => ?_)
          refine PJ.iload_n (pc := 100) d_Rows_extend_100 rfl ?_
          refine PJ.iald (pc := 101) d_Rows_extend_101 (fun v25 => ?_)
          refine PJ.putI (pc := 102) ps_Rows_98 d_Rows_extend_102 (fun h26 => ?_)
          refine PJ.iload (pc := 105) d_Rows_extend_105 rfl ?_
          refine PJ.iload (pc := 107) d_Rows_extend_107 rfl ?_
          refine PJ.icmp_eq (pc := 109) (tgt := 205) d_Rows_extend_109 (by decide) (fun _ => ?_) (fun _ => ?_)
          · refine PJ.iinc (pc := 205) (v := 1) (L1 := [some (.inr (.inr a0)), none, some (.inr (.inr v2)), some (.inl v4), some (.inl v10), some (.inl v14), some (.inl v18), some (.inl (s19.1 + (1 : Int32)))]) d_Rows_extend_205 rfl (by decide) (Nat.le_of_ble_eq_true rfl) rfl rfl ?_
            refine PJ.goto (pc := 208) (tgt := 80) d_Rows_extend_208 (by decide) ?_
            exact PJ.done rfl
          · refine PJ.aload_n (pc := 112) d_Rows_extend_112 rfl ?_
            refine PJ.getR (pc := 113) fs_Rows_37 d_Rows_extend_113 (fun v27 => ?_)
            refine PJ.aload_n (pc := 116) d_Rows_extend_116 rfl ?_
            refine PJ.getI (pc := 117) fs_Rows_9 d_Rows_extend_117 (fun v28 => ?_)
            refine PJ.iload (pc := 120) d_Rows_extend_120 rfl ?_
            refine PJ.cVpI (pc := 122) cs_Rows_100 (fun z hz => PM_Desk_taxOf hz) (pj_fits (Nat.le_trans (Nat.le_of_ble_eq_true rfl) hd9) (Nat.le_of_ble_eq_true rfl)) rfl rfl (Nat.le_of_ble_eq_true rfl) d_Rows_extend_122 (fun v29 => ?_)
            refine PJ.aload_n (pc := 125) d_Rows_extend_125 rfl ?_
            refine PJ.getR (pc := 126) fs_Rows_103 d_Rows_extend_126 (fun v30 => ?_)
            refine PJ.iload_n (pc := 129) d_Rows_extend_129 rfl ?_
            refine PJ.iald (pc := 130) d_Rows_extend_130 (fun v31 => ?_)
            refine PJ.icmp_ne (pc := 131) (tgt := 205) d_Rows_extend_131 (by decide) (fun _ => ?_) (fun _ => ?_)
            · refine PJ.iinc (pc := 205) (v := 1) (L1 := [some (.inr (.inr a0)), none, some (.inr (.inr v2)), some (.inl v4), some (.inl v10), some (.inl v14), some (.inl v18), some (.inl (s19.1 + (1 : Int32)))]) d_Rows_extend_205 rfl (by decide) (Nat.le_of_ble_eq_true rfl) rfl rfl ?_
              refine PJ.goto (pc := 208) (tgt := 80) d_Rows_extend_208 (by decide) ?_
              exact PJ.done rfl
            · refine PJ.aload_n (pc := 134) d_Rows_extend_134 rfl ?_
              refine PJ.getR (pc := 135) fs_Rows_41 d_Rows_extend_135 (fun v32 => ?_)
              refine PJ.aload_n (pc := 138) d_Rows_extend_138 rfl ?_
              refine PJ.getI (pc := 139) fs_Rows_9 d_Rows_extend_139 (fun v33 => ?_)
              refine PJ.iload (pc := 142) d_Rows_extend_142 rfl ?_
              refine PJ.iconst (pc := 144) (v := 0) d_Rows_extend_144 (by decide) ?_
              refine PJ.cVV (pc := 145) cs_Rows_106 (fun z hz => PM_Now_move hz) (pj_fits (Nat.le_trans (Nat.le_of_ble_eq_true rfl) hd9) (Nat.le_of_ble_eq_true rfl)) rfl rfl (Nat.le_of_ble_eq_true rfl) d_Rows_extend_145 (fun h34 => ?_)
              refine PJ.aload_n (pc := 148) d_Rows_extend_148 rfl ?_
              refine PJ.getR (pc := 149) fs_Rows_25 d_Rows_extend_149 (fun v35 => ?_)
              refine PJ.iload_n (pc := 152) d_Rows_extend_152 rfl ?_
              refine PJ.iload (pc := 153) d_Rows_extend_153 rfl ?_
              refine PJ.iast (pc := 155) d_Rows_extend_155 (fun h36 => ?_)
              refine PJ.aload_n (pc := 156) d_Rows_extend_156 rfl ?_
              refine PJ.iload_n (pc := 157) d_Rows_extend_157 rfl ?_
              refine PJ.iconst (pc := 158) (v := 1) d_Rows_extend_158 (by decide) ?_
              refine PJ.iadd (pc := 159) d_Rows_extend_159 ?_
              refine PJ.cVV (pc := 160) cs_Rows_63 (fun z hz => hext _ _ _ z hz) (pj_fits (Nat.le_refl _) (Nat.le_of_ble_eq_true rfl)) rfl rfl (Nat.le_of_ble_eq_true rfl) d_Rows_extend_160 (fun h37 => ?_)
              refine PJ.aload_n (pc := 163) d_Rows_extend_163 rfl ?_
              refine PJ.getR (pc := 164) fs_Rows_41 d_Rows_extend_164 (fun v38 => ?_)
              refine PJ.getR (pc := 167) fs_Rows_83 d_Rows_extend_167 (fun v39 => ?_)
              refine PJ.aload_n (pc := 170) d_Rows_extend_170 rfl ?_
              refine PJ.getI (pc := 171) fs_Rows_9 d_Rows_extend_171 (fun v40 => ?_)
              refine PJ.iload (pc := 174) d_Rows_extend_174 rfl ?_
              refine PJ.iast (pc := 176) d_Rows_extend_176 (fun h41 => ?_)
              refine PJ.aload_n (pc := 177) d_Rows_extend_177 rfl ?_
              refine PJ.getR (pc := 178) fs_Rows_41 d_Rows_extend_178 (fun v42 => ?_)
              refine PJ.getR (pc := 181) fs_Rows_86 d_Rows_extend_181 (fun v43 => ?_)
              refine PJ.aload_n (pc := 184) d_Rows_extend_184 rfl ?_
              refine PJ.getI (pc := 185) fs_Rows_9 d_Rows_extend_185 (fun v44 => ?_)
              refine PJ.iload (pc := 188) d_Rows_extend_188 rfl ?_
              refine PJ.iast (pc := 190) d_Rows_extend_190 (fun h45 => ?_)
              refine PJ.aload_n (pc := 191) d_Rows_extend_191 rfl ?_
              refine PJ.getR (pc := 192) fs_Rows_41 d_Rows_extend_192 (fun v46 => ?_)
              refine PJ.getR (pc := 195) fs_Rows_89 d_Rows_extend_195 (fun v47 => ?_)
              refine PJ.aload_n (pc := 198) d_Rows_extend_198 rfl ?_
              refine PJ.getI (pc := 199) fs_Rows_9 d_Rows_extend_199 (fun v48 => ?_)
              refine PJ.iload (pc := 202) d_Rows_extend_202 rfl ?_
              refine PJ.iast (pc := 204) d_Rows_extend_204 (fun h49 => ?_)
              refine PJ.iinc (pc := 205) (v := 1) (L1 := [some (.inr (.inr a0)), none, some (.inr (.inr v2)), some (.inl v4), some (.inl v10), some (.inl v14), some (.inl v18), some (.inl (s19.1 + (1 : Int32)))]) d_Rows_extend_205 rfl (by decide) (Nat.le_of_ble_eq_true rfl) rfl rfl ?_
              refine PJ.goto (pc := 208) (tgt := 80) d_Rows_extend_208 (by decide) ?_
              exact PJ.done rfl
      · show PJ l G (pj_rm (d + 1) 0 0) Y_Rows_extend 211 [none, none, none, none, none, none, none, none] [] x20 0 0 _ _
        exact PJ.vret (pc := 211) d_Rows_extend_211 rfl (Nat.le_of_ble_eq_true rfl) (Nat.le_of_ble_eq_true rfl)
    · refine PJ.aload_n (pc := 30) d_Rows_extend_30 rfl ?_
      refine PJ.cVV (pc := 31) cs_Rows_80 (fun z hz => PM_Rows_countRow hz) (pj_fits (Nat.le_trans (Nat.le_of_ble_eq_true rfl) hd9) (Nat.le_of_ble_eq_true rfl)) rfl rfl (Nat.le_of_ble_eq_true rfl) d_Rows_extend_31 (fun h50 => ?_)
      exact PJ.vret (pc := 34) d_Rows_extend_34 rfl (Nat.le_of_ble_eq_true rfl) (Nat.le_of_ble_eq_true rfl)
def F_Planner : Nat → (PH → Option Nat → Int32 → Option (Int64 × PH)) × (PH → Option Nat → Int32 → Int32 → Option (Int64 × PH)) × (PH → Option Nat → Int32 → Int32 → Option (Int64 × PH))
  | 0 => (fun _ _ _ => none, fun _ _ _ _ => none, fun _ _ _ _ => none)
  | n + 1 => (f_Planner_best_ (F_Planner n).2.1, f_Planner_by_ (F_Planner n).2.2, f_Planner_chances_ (F_Planner n).1 (F_Planner n).2.2)
def F_Rows : Nat → (PH → Option Nat → Int32 → Option PH)
  | 0 => fun _ _ _ => none
  | n + 1 => f_Rows_extend_ (F_Rows n)
theorem PM_F_Planner {l : Launch} {G : Cx} : ∀ n : Nat, (∀ h a0 a1 z, (F_Planner n).1 h a0 a1 = some z → PM l G (n + 8) 0 0 Y_Planner_best [.inr (.inr a0), .inl a1] h (some (.inr (.inl z.1)), z.2)) ∧ (∀ h a0 a1 a2 z, (F_Planner n).2.1 h a0 a1 a2 = some z → PM l G (n + 8) 0 0 Y_Planner_by [.inr (.inr a0), .inl a1, .inl a2] h (some (.inr (.inl z.1)), z.2)) ∧ (∀ h a0 a1 a2 z, (F_Planner n).2.2 h a0 a1 a2 = some z → PM l G (n + 8) 0 0 Y_Planner_chances [.inr (.inr a0), .inl a1, .inl a2] h (some (.inr (.inl z.1)), z.2))
  | 0 => ⟨fun _ _ _ _ h => (by cases h), fun _ _ _ _ _ h => (by cases h), fun _ _ _ _ _ h => (by cases h)⟩
  | n + 1 => by
    obtain ⟨i1, i2, i3⟩ := PM_F_Planner (l := l) (G := G) n
    rw [show n + 1 + 8 = n + 8 + 1 by omega]
    exact ⟨fun _ _ _ _ h => PMo_Planner_best (by omega) i2 h, fun _ _ _ _ _ h => PMo_Planner_by (by omega) i3 h, fun _ _ _ _ _ h => PMo_Planner_chances (by omega) i1 i3 h⟩
theorem PM_F_Rows {l : Launch} {G : Cx} : ∀ n : Nat, ∀ h a0 a1 z, F_Rows n h a0 a1 = some z → PM l G (n + 8) 0 0 Y_Rows_extend [.inr (.inr a0), .inl a1] h (none, z)
  | 0 => fun _ _ _ _ h => (by cases h)
  | n + 1 => by
    have i1 := PM_F_Rows (l := l) (G := G) n
    rw [show n + 1 + 8 = n + 8 + 1 by omega]
    exact fun _ _ _ _ h => PMo_Rows_extend (by omega) i1 h
def f_Planner_best (h : PH) (a0 : Option Nat) (a1 : Int32) : Option (Int64 × PH) := (F_Planner 52).1 h a0 a1
def f_Planner_by (h : PH) (a0 : Option Nat) (a1 a2 : Int32) : Option (Int64 × PH) := (F_Planner 52).2.1 h a0 a1 a2
def f_Rows_extend (h : PH) (a0 : Option Nat) (a1 : Int32) : Option PH := F_Rows 22 h a0 a1
theorem PM_Planner_best {l : Launch} {G : Cx} {h : PH} {a0 : Option Nat} {a1 : Int32} {z : Int64 × PH} (hz : f_Planner_best h a0 a1 = some z) : PM l G 60 0 0 Y_Planner_best [.inr (.inr a0), .inl a1] h (some (.inr (.inl z.1)), z.2) := (PM_F_Planner 52).1 _ _ _ _ hz
theorem PM_Planner_by {l : Launch} {G : Cx} {h : PH} {a0 : Option Nat} {a1 a2 : Int32} {z : Int64 × PH} (hz : f_Planner_by h a0 a1 a2 = some z) : PM l G 60 0 0 Y_Planner_by [.inr (.inr a0), .inl a1, .inl a2] h (some (.inr (.inl z.1)), z.2) := (PM_F_Planner 52).2.1 _ _ _ _ _ hz
theorem PM_Rows_extend {l : Launch} {G : Cx} {h : PH} {a0 : Option Nat} {a1 : Int32} {z : PH} (hz : f_Rows_extend h a0 a1 = some z) : PM l G 30 0 0 Y_Rows_extend [.inr (.inr a0), .inl a1] h (none, z) := PM_F_Rows 22 _ _ _ _ hz
