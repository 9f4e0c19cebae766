-- sites and methods: meth
abbrev Y_T_holders : MI := (⟨"WaverTax", "holders", "(I)I"⟩, prog_1_method_13_code, 2, (some .int))
abbrev Y_Integer_bitCount : MI := (⟨"java/lang/Integer", "bitCount", "(I)I"⟩, prog_19_method_49_code, 1, (some .int))
abbrev Y_T_fashion : MI := (⟨"WaverTax", "fashion", "()I"⟩, prog_1_method_15_code, 3, (some .int))
abbrev Y_T_came : MI := (⟨"WaverTax", "came", "(I)I"⟩, prog_1_method_16_code, 2, (some .int))
abbrev Y_Now_allSpent : MI := (⟨"WaverTax$Now", "allSpent", "()I"⟩, prog_4_method_7_code, 3, (some .int))
abbrev Y_T_paid : MI := (⟨"WaverTax", "paid", "()I"⟩, prog_1_method_17_code, 1, (some .int))
abbrev Y_Law_farthestTwo : MI := (⟨"WaverTax$Law", "farthestTwo", "()I"⟩, prog_3_method_4_code, 5, (some .int))
abbrev Y_T_farthest : MI := (⟨"WaverTax", "farthest", "()I"⟩, prog_1_method_18_code, 1, (some .int))
abbrev Y_T_planTrouble : MI := (⟨"WaverTax", "planTrouble", "(II)I"⟩, prog_1_method_23_code, 3, (some .int))
abbrev Y_T_refuseLong : MI := (⟨"WaverTax", "refuseLong", "(I)J"⟩, prog_1_method_74_code, 2, (some .long))
abbrev Y_Now_become : MI := (⟨"WaverTax$Now", "become", "(LWaverTax$Now;)V"⟩, prog_4_method_3_code, 2, (none : Option FieldType))
abbrev Y_Planner_begin : MI := (⟨"WaverTax$Planner", "begin", "(LWaverTax$Law;LWaverTax$Now;I)V"⟩, prog_6_method_2_code, 4, (none : Option FieldType))
abbrev Y_Reasons_between : MI := (⟨"WaverTax$Reasons", "between", "(III)I"⟩, prog_8_method_3_code, 6, (some .int))
abbrev Y_Planner_scale : MI := (⟨"WaverTax$Planner", "scale", "(I)J"⟩, prog_6_method_3_code, 6, (some .long))
abbrev Y_T_sharedDivisor : MI := (⟨"WaverTax", "sharedDivisor", "(JJ)J"⟩, prog_1_method_25_code, 11, (some .long))
abbrev Y_T_fineMean : MI := (⟨"WaverTax", "fineMean", "(JJZ)J"⟩, prog_1_method_24_code, 8, (some .long))
abbrev Y_Now_move : MI := (⟨"WaverTax$Now", "move", "(III)V"⟩, prog_4_method_5_code, 4, (none : Option FieldType))
abbrev Y_Reasons_nextOf : MI := (⟨"WaverTax$Reasons", "nextOf", "(III)I"⟩, prog_8_method_2_code, 5, (some .int))
theorem cm_Now_become : (Cond.code Y_Now_become.1 Y_Now_become.2.1 Y_Now_become.2.2.1 Y_Now_become.2.2.2 ∈ pj_ws) ∧ (Cond.initialized Y_Now_become.1.cls ∈ pj_ws) ∧ (Y_Now_become.1.cls ≠ "java/lang/invoke/MethodHandle" ∧ Y_Now_become.1.cls ≠ "java/lang/invoke/VarHandle" ∧ (parseMethodDescriptor Y_Now_become.1.desc).map (fun d => d.parameters.length) = some 1) ∧ (Cond.instanceMethod Y_Now_become.1 ∈ pj_ws) ∧ (Cond.selects Y_Now_become.1.cls Y_Now_become.1 Y_Now_become.1 ∈ pj_ws) := ⟨pj_mem 958 (by decide +kernel) rfl, pj_mem 136 (by decide +kernel) rfl, ⟨by decide +kernel, by decide +kernel, by decide +kernel⟩, pj_mem 956 (by decide +kernel) rfl, pj_mem 957 (by decide +kernel) rfl⟩
theorem cm_Reasons_between : (Cond.code Y_Reasons_between.1 Y_Reasons_between.2.1 Y_Reasons_between.2.2.1 Y_Reasons_between.2.2.2 ∈ pj_ws) ∧ (Cond.initialized Y_Reasons_between.1.cls ∈ pj_ws) ∧ (Y_Reasons_between.1.cls ≠ "java/lang/invoke/MethodHandle" ∧ Y_Reasons_between.1.cls ≠ "java/lang/invoke/VarHandle" ∧ (parseMethodDescriptor Y_Reasons_between.1.desc).map (fun d => d.parameters.length) = some 3) ∧ (Cond.instanceMethod Y_Reasons_between.1 ∈ pj_ws) ∧ (Cond.selects Y_Reasons_between.1.cls Y_Reasons_between.1 Y_Reasons_between.1 ∈ pj_ws) := ⟨pj_mem 976 (by decide +kernel) rfl, pj_mem 132 (by decide +kernel) rfl, ⟨by decide +kernel, by decide +kernel, by decide +kernel⟩, pj_mem 974 (by decide +kernel) rfl, pj_mem 975 (by decide +kernel) rfl⟩
theorem cm_T_holding : (Cond.code Y_T_holding.1 Y_T_holding.2.1 Y_T_holding.2.2.1 Y_T_holding.2.2.2 ∈ pj_ws) ∧ (Cond.initialized Y_T_holding.1.cls ∈ pj_ws) ∧ (Y_T_holding.1.cls ≠ "java/lang/invoke/MethodHandle" ∧ Y_T_holding.1.cls ≠ "java/lang/invoke/VarHandle" ∧ (parseMethodDescriptor Y_T_holding.1.desc).map (fun d => d.parameters.length) = some 1) ∧ (Cond.instanceMethod Y_T_holding.1 ∈ pj_ws) ∧ (Cond.selects Y_T_holding.1.cls Y_T_holding.1 Y_T_holding.1 ∈ pj_ws) := ⟨pj_mem 905 (by decide +kernel) rfl, pj_mem 130 (by decide +kernel) rfl, ⟨by decide +kernel, by decide +kernel, by decide +kernel⟩, pj_mem 904 (by decide +kernel) rfl, pj_mem 30 (by decide +kernel) rfl⟩
theorem cm_Integer_bitCount : (Cond.code Y_Integer_bitCount.1 Y_Integer_bitCount.2.1 Y_Integer_bitCount.2.2.1 Y_Integer_bitCount.2.2.2 ∈ pj_ws) ∧ (Cond.initialized Y_Integer_bitCount.1.cls ∈ pj_ws) ∧ (Y_Integer_bitCount.1.cls ≠ "java/lang/invoke/MethodHandle" ∧ Y_Integer_bitCount.1.cls ≠ "java/lang/invoke/VarHandle" ∧ (parseMethodDescriptor Y_Integer_bitCount.1.desc).map (fun d => d.parameters.length) = some 1) ∧ (Cond.static Y_Integer_bitCount.1 ∈ pj_ws) := ⟨pj_mem 912 (by decide +kernel) rfl, pj_mem 150 (by decide +kernel) rfl, ⟨by decide +kernel, by decide +kernel, by decide +kernel⟩, pj_mem 911 (by decide +kernel) rfl⟩
theorem cm_Now_allSpent : (Cond.code Y_Now_allSpent.1 Y_Now_allSpent.2.1 Y_Now_allSpent.2.2.1 Y_Now_allSpent.2.2.2 ∈ pj_ws) ∧ (Cond.initialized Y_Now_allSpent.1.cls ∈ pj_ws) ∧ (Y_Now_allSpent.1.cls ≠ "java/lang/invoke/MethodHandle" ∧ Y_Now_allSpent.1.cls ≠ "java/lang/invoke/VarHandle" ∧ (parseMethodDescriptor Y_Now_allSpent.1.desc).map (fun d => d.parameters.length) = some 0) ∧ (Cond.instanceMethod Y_Now_allSpent.1 ∈ pj_ws) ∧ (Cond.selects Y_Now_allSpent.1.cls Y_Now_allSpent.1 Y_Now_allSpent.1 ∈ pj_ws) := ⟨pj_mem 928 (by decide +kernel) rfl, pj_mem 136 (by decide +kernel) rfl, ⟨by decide +kernel, by decide +kernel, by decide +kernel⟩, pj_mem 926 (by decide +kernel) rfl, pj_mem 927 (by decide +kernel) rfl⟩
theorem cm_Law_farthestTwo : (Cond.code Y_Law_farthestTwo.1 Y_Law_farthestTwo.2.1 Y_Law_farthestTwo.2.2.1 Y_Law_farthestTwo.2.2.2 ∈ pj_ws) ∧ (Cond.initialized Y_Law_farthestTwo.1.cls ∈ pj_ws) ∧ (Y_Law_farthestTwo.1.cls ≠ "java/lang/invoke/MethodHandle" ∧ Y_Law_farthestTwo.1.cls ≠ "java/lang/invoke/VarHandle" ∧ (parseMethodDescriptor Y_Law_farthestTwo.1.desc).map (fun d => d.parameters.length) = some 0) ∧ (Cond.instanceMethod Y_Law_farthestTwo.1 ∈ pj_ws) ∧ (Cond.selects Y_Law_farthestTwo.1.cls Y_Law_farthestTwo.1 Y_Law_farthestTwo.1 ∈ pj_ws) := ⟨pj_mem 936 (by decide +kernel) rfl, pj_mem 131 (by decide +kernel) rfl, ⟨by decide +kernel, by decide +kernel, by decide +kernel⟩, pj_mem 934 (by decide +kernel) rfl, pj_mem 935 (by decide +kernel) rfl⟩
theorem cm_T_sharedDivisor : (Cond.code Y_T_sharedDivisor.1 Y_T_sharedDivisor.2.1 Y_T_sharedDivisor.2.2.1 Y_T_sharedDivisor.2.2.2 ∈ pj_ws) ∧ (Cond.initialized Y_T_sharedDivisor.1.cls ∈ pj_ws) ∧ (Y_T_sharedDivisor.1.cls ≠ "java/lang/invoke/MethodHandle" ∧ Y_T_sharedDivisor.1.cls ≠ "java/lang/invoke/VarHandle" ∧ (parseMethodDescriptor Y_T_sharedDivisor.1.desc).map (fun d => d.parameters.length) = some 2) ∧ (Cond.static Y_T_sharedDivisor.1 ∈ pj_ws) := ⟨pj_mem 1004 (by decide +kernel) rfl, pj_mem 130 (by decide +kernel) rfl, ⟨by decide +kernel, by decide +kernel, by decide +kernel⟩, pj_mem 1003 (by decide +kernel) rfl⟩
theorem cs_Law_79 : pj_cV "WaverTax$Law" 79 Y_Law_apart 2 1 := ⟨⟨cm_Law_apart.1, cm_Law_apart.2.1, cm_Law_apart.2.2.1, Or.inl (pj_mem 937 (by decide +kernel) rfl)⟩, by decide, cm_Law_apart.2.2.2.1, cm_Law_apart.2.2.2.2, ⟨_, rfl, rfl⟩⟩
theorem cs_Planner_25 : pj_cV "WaverTax$Planner" 25 Y_Now_become 1 2 := ⟨⟨cm_Now_become.1, cm_Now_become.2.1, cm_Now_become.2.2.1, Or.inl (pj_mem 955 (by decide +kernel) rfl)⟩, by decide, cm_Now_become.2.2.2.1, cm_Now_become.2.2.2.2, ⟨_, rfl, rfl⟩⟩
theorem cs_Planner_31 : pj_cV "WaverTax$Planner" 31 Y_Desk_look 2 0 := ⟨⟨cm_Desk_look.1, cm_Desk_look.2.1, cm_Desk_look.2.2.1, Or.inl (pj_mem 959 (by decide +kernel) rfl)⟩, by decide, cm_Desk_look.2.2.2.1, cm_Desk_look.2.2.2.2, ⟨_, rfl, rfl⟩⟩
theorem cs_Planner_46 : pj_cV "WaverTax$Planner" 46 Y_Reasons_between 3 6 := ⟨⟨cm_Reasons_between.1, cm_Reasons_between.2.1, cm_Reasons_between.2.2.1, Or.inl (pj_mem 973 (by decide +kernel) rfl)⟩, by decide, cm_Reasons_between.2.2.2.1, cm_Reasons_between.2.2.2.2, ⟨_, rfl, rfl⟩⟩
theorem cs_T_164 : pj_cV "WaverTax" 164 Y_T_holding 1 10 := ⟨⟨cm_T_holding.1, cm_T_holding.2.1, cm_T_holding.2.2.1, Or.inl (pj_mem 902 (by decide +kernel) rfl)⟩, by decide, cm_T_holding.2.2.2.1, cm_T_holding.2.2.2.2, ⟨_, rfl, rfl⟩⟩
theorem cs_T_170 : pj_cS "WaverTax" 170 Y_Integer_bitCount 1 := ⟨⟨cm_Integer_bitCount.1, cm_Integer_bitCount.2.1, cm_Integer_bitCount.2.2.1, Or.inl (pj_mem 910 (by decide +kernel) rfl)⟩, cm_Integer_bitCount.2.2.2⟩
theorem cs_T_184 : pj_cV "WaverTax" 184 Y_Now_hasCome 1 2 := ⟨⟨cm_Now_hasCome.1, cm_Now_hasCome.2.1, cm_Now_hasCome.2.2.1, Or.inl (pj_mem 920 (by decide +kernel) rfl)⟩, by decide, cm_Now_hasCome.2.2.2.1, cm_Now_hasCome.2.2.2.2, ⟨_, rfl, rfl⟩⟩
theorem cs_T_187 : pj_cV "WaverTax" 187 Y_Now_allSpent 0 2 := ⟨⟨cm_Now_allSpent.1, cm_Now_allSpent.2.1, cm_Now_allSpent.2.2.1, Or.inl (pj_mem 925 (by decide +kernel) rfl)⟩, by decide, cm_Now_allSpent.2.2.2.1, cm_Now_allSpent.2.2.2.2, ⟨_, rfl, rfl⟩⟩
theorem cs_T_190 : pj_cV "WaverTax" 190 Y_Law_farthestTwo 0 1 := ⟨⟨cm_Law_farthestTwo.1, cm_Law_farthestTwo.2.1, cm_Law_farthestTwo.2.2.1, Or.inl (pj_mem 933 (by decide +kernel) rfl)⟩, by decide, cm_Law_farthestTwo.2.2.2.1, cm_Law_farthestTwo.2.2.2.2, ⟨_, rfl, rfl⟩⟩
theorem cs_T_231 : pj_cS "WaverTax" 231 Y_T_sharedDivisor 2 := ⟨⟨cm_T_sharedDivisor.1, cm_T_sharedDivisor.2.1, cm_T_sharedDivisor.2.2.1, Or.inl (pj_mem 1002 (by decide +kernel) rfl)⟩, cm_T_sharedDivisor.2.2.2⟩
theorem fs_Law_18 : pj_fs "WaverTax$Law" 1 2 18 (.int) := ⟨_, _, _, _, cd_1, by decide, rfl, Or.inl (pj_mem 282 (by decide +kernel) rfl)⟩
theorem fs_Now_15 : pj_fs "WaverTax$Now" 2 1 15 (.int) := ⟨_, _, _, _, cd_2, by decide, rfl, Or.inl (pj_mem 412 (by decide +kernel) rfl)⟩
theorem fs_Now_9 : pj_fs "WaverTax$Now" 2 0 9 (.int) := ⟨_, _, _, _, cd_2, by decide, rfl, Or.inl (pj_mem 407 (by decide +kernel) rfl)⟩
theorem fs_Planner_13 : pj_fs "WaverTax$Planner" 4 0 13 (.object "WaverTax$Law") := ⟨_, _, _, _, cd_4, by decide, rfl, Or.inl (pj_mem 475 (by decide +kernel) rfl)⟩
theorem fs_Planner_17 : pj_fs "WaverTax$Planner" 4 1 17 (.object "WaverTax$Desk") := ⟨_, _, _, _, cd_4, by decide, rfl, Or.inl (pj_mem 476 (by decide +kernel) rfl)⟩
theorem fs_Planner_21 : pj_fs "WaverTax$Planner" 4 2 21 (.object "WaverTax$Now") := ⟨_, _, _, _, cd_4, by decide, rfl, Or.inl (pj_mem 477 (by decide +kernel) rfl)⟩
theorem fs_Planner_37 : pj_fs "WaverTax$Planner" 1 10 37 (.object "WaverTax$Reasons") := ⟨_, _, _, _, cd_1, by decide, rfl, Or.inl (pj_mem 313 (by decide +kernel) rfl)⟩
theorem fs_Planner_43 : pj_fs "WaverTax$Planner" 2 0 43 (.int) := ⟨_, _, _, _, cd_2, by decide, rfl, Or.inl (pj_mem 408 (by decide +kernel) rfl)⟩
theorem fs_Planner_7 : pj_fs "WaverTax$Planner" 4 3 7 (.int) := ⟨_, _, _, _, cd_4, by decide, rfl, Or.inl (pj_mem 478 (by decide +kernel) rfl)⟩
theorem fs_Reasons_15 : pj_fs "WaverTax$Reasons" 6 1 15 (.array (.int)) := ⟨_, _, _, _, cd_6, by decide, rfl, Or.inl (pj_mem 184 (by decide +kernel) rfl)⟩
theorem fs_Reasons_22 : pj_fs "WaverTax$Reasons" 6 3 22 (.array (.int)) := ⟨_, _, _, _, cd_6, by decide, rfl, Or.inl (pj_mem 192 (by decide +kernel) rfl)⟩
theorem fs_Reasons_9 : pj_fs "WaverTax$Reasons" 6 0 9 (.int) := ⟨_, _, _, _, cd_6, by decide, rfl, Or.inl (pj_mem 177 (by decide +kernel) rfl)⟩
theorem fs_T_175 : pj_fs "WaverTax" 1 10 175 (.object "WaverTax$Reasons") := ⟨_, _, _, _, cd_1, by decide, rfl, Or.inl (pj_mem 316 (by decide +kernel) rfl)⟩
theorem fs_T_179 : pj_fs "WaverTax" 6 0 179 (.int) := ⟨_, _, _, _, cd_6, by decide, rfl, Or.inl (pj_mem 183 (by decide +kernel) rfl)⟩
theorem wd_913 : (Jvm.Cond.constant "java/lang/Integer" (265 : Nat) (1431655765 : Int32)) ∈ pj_ws := pj_mem 913 (by decide +kernel) rfl
theorem wd_914 : (Jvm.Cond.constant "java/lang/Integer" (266 : Nat) (858993459 : Int32)) ∈ pj_ws := pj_mem 914 (by decide +kernel) rfl
theorem wd_915 : (Jvm.Cond.constant "java/lang/Integer" (267 : Nat) (252645135 : Int32)) ∈ pj_ws := pj_mem 915 (by decide +kernel) rfl
theorem wd_950 : (Jvm.Cond.constantLong "WaverTax" (400 : Nat) (-9223372036854775808 : Int64)) ∈ pj_ws := pj_mem 950 (by decide +kernel) rfl
theorem wd_977 : (Jvm.Cond.constantLong "WaverTax$Planner" (52 : Nat) (100 : Int64)) ∈ pj_ws := pj_mem 977 (by decide +kernel) rfl
theorem wd_999 : (Jvm.Cond.methodLink "WaverTax" (225 : Nat) ({ cls := "java/lang/Math", name := "abs", desc := "(J)J" } : Jvm.MethodName)) ∈ pj_ws := pj_mem 999 (by decide +kernel) rfl
theorem d_T_holders_0 : decode Y_T_holders.2.1 0 = .ok (.aload_n 0, 1) := by decide +kernel
theorem d_T_holders_1 : decode Y_T_holders.2.1 1 = .ok (.iload_n 1, 1) := by decide +kernel
theorem d_T_holders_2 : decode Y_T_holders.2.1 2 = .ok (.invokevirtual 140, 3) := by decide +kernel
theorem d_T_holders_5 : decode Y_T_holders.2.1 5 = .ok (.ifCond .eq 15, 3) := by decide +kernel
theorem d_T_holders_8 : decode Y_T_holders.2.1 8 = .ok (.aload_n 0, 1) := by decide +kernel
theorem d_T_holders_9 : decode Y_T_holders.2.1 9 = .ok (.aload_n 0, 1) := by decide +kernel
theorem d_T_holders_10 : decode Y_T_holders.2.1 10 = .ok (.iload_n 1, 1) := by decide +kernel
theorem d_T_holders_11 : decode Y_T_holders.2.1 11 = .ok (.invokevirtual 164, 3) := by decide +kernel
theorem d_T_holders_14 : decode Y_T_holders.2.1 14 = .ok (.invokevirtual 114, 3) := by decide +kernel
theorem d_T_holders_17 : decode Y_T_holders.2.1 17 = .ok (.goto 8, 3) := by decide +kernel
theorem d_T_holders_20 : decode Y_T_holders.2.1 20 = .ok (.aload_n 0, 1) := by decide +kernel
theorem d_T_holders_21 : decode Y_T_holders.2.1 21 = .ok (.iconst 1, 1) := by decide +kernel
theorem d_T_holders_22 : decode Y_T_holders.2.1 22 = .ok (.invokevirtual 95, 3) := by decide +kernel
theorem d_T_holders_25 : decode Y_T_holders.2.1 25 = .ok (.ireturn, 1) := by decide +kernel
def f_T_holders (h : PH) (a0 : Option Nat) (a1 : Int32) : Option (Int32 × PH) := (cl h 10 a0 (f_T_isChoice h a0 a1)).bind fun v1 => if v1 = 0 then ((cl h 10 a0 (f_T_refuse h a0 (1 : Int32))).bind fun v2 => some (v2.1, v2.2)) else ((cl h 10 a0 (f_T_holding h a0 a1)).bind fun v3 => (cl h 10 a0 (f_T_fine h a0 v3)).bind fun v4 => some (v4.1, v4.2))
set_option maxRecDepth 20000 in
theorem PM_T_holders {l : Launch} {G : Cx} {h : PH} {a0 : Option Nat} {a1 : Int32} {z : (Int32 × PH)} (hz : f_T_holders h a0 a1 = some z) : PM l G 2 0 0 Y_T_holders [.inr (.inr a0), .inl a1] h (some (.inl z.1), z.2) := by
  refine PM.of (Y := Y_T_holders) (cv := (fun z : (Int32 × PH) => (((some (.inl z.1), z.2) : Option PV × PH)))) (by decide) (L0 := [some (.inr (.inr a0)), some (.inl a1)]) 0 rfl (Nat.le_of_ble_eq_true rfl) ?_ hz
  unfold f_T_holders
  refine PJ.aload_n (pc := 0) d_T_holders_0 rfl ?_
  refine PJ.iload_n (pc := 1) d_T_holders_1 rfl ?_
  refine PJ.cVpI (pc := 2) cs_T_140 (fun z hz => PM_T_isChoice hz) (pj_fitb rfl) rfl rfl (Nat.le_of_ble_eq_true rfl) d_T_holders_2 (fun v1 => ?_)
  refine PJ.if_eq (pc := 5) (tgt := 20) d_T_holders_5 (by decide) (fun _ => ?_) (fun _ => ?_)
  · refine PJ.aload_n (pc := 20) d_T_holders_20 rfl ?_
    refine PJ.iconst (pc := 21) (v := 1) d_T_holders_21 (by decide) ?_
    refine PJ.cVI (pc := 22) cs_T_95 (fun z hz => PM_T_refuse hz) (pj_fitb rfl) rfl rfl (Nat.le_of_ble_eq_true rfl) d_T_holders_22 (fun v2 => ?_)
    exact PJ.iret (pc := 25) d_T_holders_25 rfl (Nat.le_of_ble_eq_true rfl) (Nat.le_of_ble_eq_true rfl)
  · refine PJ.aload_n (pc := 8) d_T_holders_8 rfl ?_
    refine PJ.aload_n (pc := 9) d_T_holders_9 rfl ?_
    refine PJ.iload_n (pc := 10) d_T_holders_10 rfl ?_
    refine PJ.cVpI (pc := 11) cs_T_164 (fun z hz => PM_T_holding hz) (pj_fitb rfl) rfl rfl (Nat.le_of_ble_eq_true rfl) d_T_holders_11 (fun v3 => ?_)
    refine PJ.cVI (pc := 14) cs_T_114 (fun z hz => PM_T_fine hz) (pj_fitb rfl) rfl rfl (Nat.le_of_ble_eq_true rfl) d_T_holders_14 (fun v4 => ?_)
    refine PJ.goto (pc := 17) (tgt := 25) d_T_holders_17 (by decide) ?_
    exact PJ.iret (pc := 25) d_T_holders_25 rfl (Nat.le_of_ble_eq_true rfl) (Nat.le_of_ble_eq_true rfl)
theorem d_Integer_bitCount_0 : decode Y_Integer_bitCount.2.1 0 = .ok (.iload_n 0, 1) := by decide +kernel
theorem d_Integer_bitCount_1 : decode Y_Integer_bitCount.2.1 1 = .ok (.iload_n 0, 1) := by decide +kernel
theorem d_Integer_bitCount_2 : decode Y_Integer_bitCount.2.1 2 = .ok (.iconst 1, 1) := by decide +kernel
theorem d_Integer_bitCount_3 : decode Y_Integer_bitCount.2.1 3 = .ok (.iushr, 1) := by decide +kernel
theorem d_Integer_bitCount_4 : decode Y_Integer_bitCount.2.1 4 = .ok (.ldc_w 265, 3) := by decide +kernel
theorem d_Integer_bitCount_7 : decode Y_Integer_bitCount.2.1 7 = .ok (.iand, 1) := by decide +kernel
theorem d_Integer_bitCount_8 : decode Y_Integer_bitCount.2.1 8 = .ok (.isub, 1) := by decide +kernel
theorem d_Integer_bitCount_9 : decode Y_Integer_bitCount.2.1 9 = .ok (.istore_n 0, 1) := by decide +kernel
theorem d_Integer_bitCount_10 : decode Y_Integer_bitCount.2.1 10 = .ok (.iload_n 0, 1) := by decide +kernel
theorem d_Integer_bitCount_11 : decode Y_Integer_bitCount.2.1 11 = .ok (.ldc_w 266, 3) := by decide +kernel
theorem d_Integer_bitCount_14 : decode Y_Integer_bitCount.2.1 14 = .ok (.iand, 1) := by decide +kernel
theorem d_Integer_bitCount_15 : decode Y_Integer_bitCount.2.1 15 = .ok (.iload_n 0, 1) := by decide +kernel
theorem d_Integer_bitCount_16 : decode Y_Integer_bitCount.2.1 16 = .ok (.iconst 2, 1) := by decide +kernel
theorem d_Integer_bitCount_17 : decode Y_Integer_bitCount.2.1 17 = .ok (.iushr, 1) := by decide +kernel
theorem d_Integer_bitCount_18 : decode Y_Integer_bitCount.2.1 18 = .ok (.ldc_w 266, 3) := by decide +kernel
theorem d_Integer_bitCount_21 : decode Y_Integer_bitCount.2.1 21 = .ok (.iand, 1) := by decide +kernel
theorem d_Integer_bitCount_22 : decode Y_Integer_bitCount.2.1 22 = .ok (.iadd, 1) := by decide +kernel
theorem d_Integer_bitCount_23 : decode Y_Integer_bitCount.2.1 23 = .ok (.istore_n 0, 1) := by decide +kernel
theorem d_Integer_bitCount_24 : decode Y_Integer_bitCount.2.1 24 = .ok (.iload_n 0, 1) := by decide +kernel
theorem d_Integer_bitCount_25 : decode Y_Integer_bitCount.2.1 25 = .ok (.iload_n 0, 1) := by decide +kernel
theorem d_Integer_bitCount_26 : decode Y_Integer_bitCount.2.1 26 = .ok (.iconst 4, 1) := by decide +kernel
theorem d_Integer_bitCount_27 : decode Y_Integer_bitCount.2.1 27 = .ok (.iushr, 1) := by decide +kernel
theorem d_Integer_bitCount_28 : decode Y_Integer_bitCount.2.1 28 = .ok (.iadd, 1) := by decide +kernel
theorem d_Integer_bitCount_29 : decode Y_Integer_bitCount.2.1 29 = .ok (.ldc_w 267, 3) := by decide +kernel
theorem d_Integer_bitCount_32 : decode Y_Integer_bitCount.2.1 32 = .ok (.iand, 1) := by decide +kernel
theorem d_Integer_bitCount_33 : decode Y_Integer_bitCount.2.1 33 = .ok (.istore_n 0, 1) := by decide +kernel
theorem d_Integer_bitCount_34 : decode Y_Integer_bitCount.2.1 34 = .ok (.iload_n 0, 1) := by decide +kernel
theorem d_Integer_bitCount_35 : decode Y_Integer_bitCount.2.1 35 = .ok (.iload_n 0, 1) := by decide +kernel
theorem d_Integer_bitCount_36 : decode Y_Integer_bitCount.2.1 36 = .ok (.bipush 8, 2) := by decide +kernel
theorem d_Integer_bitCount_38 : decode Y_Integer_bitCount.2.1 38 = .ok (.iushr, 1) := by decide +kernel
theorem d_Integer_bitCount_39 : decode Y_Integer_bitCount.2.1 39 = .ok (.iadd, 1) := by decide +kernel
theorem d_Integer_bitCount_40 : decode Y_Integer_bitCount.2.1 40 = .ok (.istore_n 0, 1) := by decide +kernel
theorem d_Integer_bitCount_41 : decode Y_Integer_bitCount.2.1 41 = .ok (.iload_n 0, 1) := by decide +kernel
theorem d_Integer_bitCount_42 : decode Y_Integer_bitCount.2.1 42 = .ok (.iload_n 0, 1) := by decide +kernel
theorem d_Integer_bitCount_43 : decode Y_Integer_bitCount.2.1 43 = .ok (.bipush 16, 2) := by decide +kernel
theorem d_Integer_bitCount_45 : decode Y_Integer_bitCount.2.1 45 = .ok (.iushr, 1) := by decide +kernel
theorem d_Integer_bitCount_46 : decode Y_Integer_bitCount.2.1 46 = .ok (.iadd, 1) := by decide +kernel
theorem d_Integer_bitCount_47 : decode Y_Integer_bitCount.2.1 47 = .ok (.istore_n 0, 1) := by decide +kernel
theorem d_Integer_bitCount_48 : decode Y_Integer_bitCount.2.1 48 = .ok (.iload_n 0, 1) := by decide +kernel
theorem d_Integer_bitCount_49 : decode Y_Integer_bitCount.2.1 49 = .ok (.bipush 63, 2) := by decide +kernel
theorem d_Integer_bitCount_51 : decode Y_Integer_bitCount.2.1 51 = .ok (.iand, 1) := by decide +kernel
theorem d_Integer_bitCount_52 : decode Y_Integer_bitCount.2.1 52 = .ok (.ireturn, 1) := by decide +kernel
def f_Integer_bitCount (h : PH) (a0 : Int32) : Option Int32 := some ((((((((a0 - ((((a0).toUInt32 >>> (((1 : Int32)).toUInt32 &&& Int32.toUInt32 31)).toInt32) &&& (1431655765 : Int32))) &&& (858993459 : Int32)) + (((((a0 - ((((a0).toUInt32 >>> (((1 : Int32)).toUInt32 &&& Int32.toUInt32 31)).toInt32) &&& (1431655765 : Int32)))).toUInt32 >>> (((2 : Int32)).toUInt32 &&& Int32.toUInt32 31)).toInt32) &&& (858993459 : Int32))) + ((((((a0 - ((((a0).toUInt32 >>> (((1 : Int32)).toUInt32 &&& Int32.toUInt32 31)).toInt32) &&& (1431655765 : Int32))) &&& (858993459 : Int32)) + (((((a0 - ((((a0).toUInt32 >>> (((1 : Int32)).toUInt32 &&& Int32.toUInt32 31)).toInt32) &&& (1431655765 : Int32)))).toUInt32 >>> (((2 : Int32)).toUInt32 &&& Int32.toUInt32 31)).toInt32) &&& (858993459 : Int32)))).toUInt32 >>> (((4 : Int32)).toUInt32 &&& Int32.toUInt32 31)).toInt32)) &&& (252645135 : Int32)) + ((((((((a0 - ((((a0).toUInt32 >>> (((1 : Int32)).toUInt32 &&& Int32.toUInt32 31)).toInt32) &&& (1431655765 : Int32))) &&& (858993459 : Int32)) + (((((a0 - ((((a0).toUInt32 >>> (((1 : Int32)).toUInt32 &&& Int32.toUInt32 31)).toInt32) &&& (1431655765 : Int32)))).toUInt32 >>> (((2 : Int32)).toUInt32 &&& Int32.toUInt32 31)).toInt32) &&& (858993459 : Int32))) + ((((((a0 - ((((a0).toUInt32 >>> (((1 : Int32)).toUInt32 &&& Int32.toUInt32 31)).toInt32) &&& (1431655765 : Int32))) &&& (858993459 : Int32)) + (((((a0 - ((((a0).toUInt32 >>> (((1 : Int32)).toUInt32 &&& Int32.toUInt32 31)).toInt32) &&& (1431655765 : Int32)))).toUInt32 >>> (((2 : Int32)).toUInt32 &&& Int32.toUInt32 31)).toInt32) &&& (858993459 : Int32)))).toUInt32 >>> (((4 : Int32)).toUInt32 &&& Int32.toUInt32 31)).toInt32)) &&& (252645135 : Int32))).toUInt32 >>> (((8 : Int32)).toUInt32 &&& Int32.toUInt32 31)).toInt32)) + (((((((((a0 - ((((a0).toUInt32 >>> (((1 : Int32)).toUInt32 &&& Int32.toUInt32 31)).toInt32) &&& (1431655765 : Int32))) &&& (858993459 : Int32)) + (((((a0 - ((((a0).toUInt32 >>> (((1 : Int32)).toUInt32 &&& Int32.toUInt32 31)).toInt32) &&& (1431655765 : Int32)))).toUInt32 >>> (((2 : Int32)).toUInt32 &&& Int32.toUInt32 31)).toInt32) &&& (858993459 : Int32))) + ((((((a0 - ((((a0).toUInt32 >>> (((1 : Int32)).toUInt32 &&& Int32.toUInt32 31)).toInt32) &&& (1431655765 : Int32))) &&& (858993459 : Int32)) + (((((a0 - ((((a0).toUInt32 >>> (((1 : Int32)).toUInt32 &&& Int32.toUInt32 31)).toInt32) &&& (1431655765 : Int32)))).toUInt32 >>> (((2 : Int32)).toUInt32 &&& Int32.toUInt32 31)).toInt32) &&& (858993459 : Int32)))).toUInt32 >>> (((4 : Int32)).toUInt32 &&& Int32.toUInt32 31)).toInt32)) &&& (252645135 : Int32)) + ((((((((a0 - ((((a0).toUInt32 >>> (((1 : Int32)).toUInt32 &&& Int32.toUInt32 31)).toInt32) &&& (1431655765 : Int32))) &&& (858993459 : Int32)) + (((((a0 - ((((a0).toUInt32 >>> (((1 : Int32)).toUInt32 &&& Int32.toUInt32 31)).toInt32) &&& (1431655765 : Int32)))).toUInt32 >>> (((2 : Int32)).toUInt32 &&& Int32.toUInt32 31)).toInt32) &&& (858993459 : Int32))) + ((((((a0 - ((((a0).toUInt32 >>> (((1 : Int32)).toUInt32 &&& Int32.toUInt32 31)).toInt32) &&& (1431655765 : Int32))) &&& (858993459 : Int32)) + (((((a0 - ((((a0).toUInt32 >>> (((1 : Int32)).toUInt32 &&& Int32.toUInt32 31)).toInt32) &&& (1431655765 : Int32)))).toUInt32 >>> (((2 : Int32)).toUInt32 &&& Int32.toUInt32 31)).toInt32) &&& (858993459 : Int32)))).toUInt32 >>> (((4 : Int32)).toUInt32 &&& Int32.toUInt32 31)).toInt32)) &&& (252645135 : Int32))).toUInt32 >>> (((8 : Int32)).toUInt32 &&& Int32.toUInt32 31)).toInt32))).toUInt32 >>> (((16 : Int32)).toUInt32 &&& Int32.toUInt32 31)).toInt32)) &&& (63 : Int32))
set_option maxRecDepth 20000 in
theorem PM_Integer_bitCount {l : Launch} {G : Cx} {h : PH} {a0 : Int32} {z : Int32} (hz : f_Integer_bitCount h a0 = some z) : PM l G 1 0 0 Y_Integer_bitCount [.inl a0] h (some (.inl z), h) := by
  refine PM.of (Y := Y_Integer_bitCount) (cv := (fun z : Int32 => (((some (.inl z), h) : Option PV × PH)))) (by decide) (L0 := [some (.inl a0)]) 0 rfl (Nat.le_of_ble_eq_true rfl) ?_ hz
  unfold f_Integer_bitCount
  refine PJ.iload_n (pc := 0) d_Integer_bitCount_0 rfl ?_
  refine PJ.iload_n (pc := 1) d_Integer_bitCount_1 rfl ?_
  refine PJ.iconst (pc := 2) (v := 1) d_Integer_bitCount_2 (by decide) ?_
  refine PJ.iushr (pc := 3) d_Integer_bitCount_3 ?_
  refine PJ.ldcw (pc := 4) (v := 1431655765) d_Integer_bitCount_4 wd_913 ?_
  refine PJ.iand (pc := 7) d_Integer_bitCount_7 ?_
  refine PJ.isub (pc := 8) d_Integer_bitCount_8 ?_
  refine PJ.istore_n (pc := 9) (L1 := [some (.inl (a0 - ((((a0).toUInt32 >>> (((1 : Int32)).toUInt32 &&& Int32.toUInt32 31)).toInt32) &&& (1431655765 : Int32))))]) d_Integer_bitCount_9 (Nat.le_of_ble_eq_true rfl) rfl rfl ?_
  refine PJ.iload_n (pc := 10) d_Integer_bitCount_10 rfl ?_
  refine PJ.ldcw (pc := 11) (v := 858993459) d_Integer_bitCount_11 wd_914 ?_
  refine PJ.iand (pc := 14) d_Integer_bitCount_14 ?_
  refine PJ.iload_n (pc := 15) d_Integer_bitCount_15 rfl ?_
  refine PJ.iconst (pc := 16) (v := 2) d_Integer_bitCount_16 (by decide) ?_
  refine PJ.iushr (pc := 17) d_Integer_bitCount_17 ?_
  refine PJ.ldcw (pc := 18) (v := 858993459) d_Integer_bitCount_18 wd_914 ?_
  refine PJ.iand (pc := 21) d_Integer_bitCount_21 ?_
  refine PJ.iadd (pc := 22) d_Integer_bitCount_22 ?_
  refine PJ.istore_n (pc := 23) (L1 := [some (.inl (((a0 - ((((a0).toUInt32 >>> (((1 : Int32)).toUInt32 &&& Int32.toUInt32 31)).toInt32) &&& (1431655765 : Int32))) &&& (858993459 : Int32)) + (((((a0 - ((((a0).toUInt32 >>> (((1 : Int32)).toUInt32 &&& Int32.toUInt32 31)).toInt32) &&& (1431655765 : Int32)))).toUInt32 >>> (((2 : Int32)).toUInt32 &&& Int32.toUInt32 31)).toInt32) &&& (858993459 : Int32))))]) d_Integer_bitCount_23 (Nat.le_of_ble_eq_true rfl) rfl rfl ?_
  refine PJ.iload_n (pc := 24) d_Integer_bitCount_24 rfl ?_
  refine PJ.iload_n (pc := 25) d_Integer_bitCount_25 rfl ?_
  refine PJ.iconst (pc := 26) (v := 4) d_Integer_bitCount_26 (by decide) ?_
  refine PJ.iushr (pc := 27) d_Integer_bitCount_27 ?_
  refine PJ.iadd (pc := 28) d_Integer_bitCount_28 ?_
  refine PJ.ldcw (pc := 29) (v := 252645135) d_Integer_bitCount_29 wd_915 ?_
  refine PJ.iand (pc := 32) d_Integer_bitCount_32 ?_
  refine PJ.istore_n (pc := 33) (L1 := [some (.inl (((((a0 - ((((a0).toUInt32 >>> (((1 : Int32)).toUInt32 &&& Int32.toUInt32 31)).toInt32) &&& (1431655765 : Int32))) &&& (858993459 : Int32)) + (((((a0 - ((((a0).toUInt32 >>> (((1 : Int32)).toUInt32 &&& Int32.toUInt32 31)).toInt32) &&& (1431655765 : Int32)))).toUInt32 >>> (((2 : Int32)).toUInt32 &&& Int32.toUInt32 31)).toInt32) &&& (858993459 : Int32))) + ((((((a0 - ((((a0).toUInt32 >>> (((1 : Int32)).toUInt32 &&& Int32.toUInt32 31)).toInt32) &&& (1431655765 : Int32))) &&& (858993459 : Int32)) + (((((a0 - ((((a0).toUInt32 >>> (((1 : Int32)).toUInt32 &&& Int32.toUInt32 31)).toInt32) &&& (1431655765 : Int32)))).toUInt32 >>> (((2 : Int32)).toUInt32 &&& Int32.toUInt32 31)).toInt32) &&& (858993459 : Int32)))).toUInt32 >>> (((4 : Int32)).toUInt32 &&& Int32.toUInt32 31)).toInt32)) &&& (252645135 : Int32)))]) d_Integer_bitCount_33 (Nat.le_of_ble_eq_true rfl) rfl rfl ?_
  refine PJ.iload_n (pc := 34) d_Integer_bitCount_34 rfl ?_
  refine PJ.iload_n (pc := 35) d_Integer_bitCount_35 rfl ?_
  refine PJ.bipush (pc := 36) (v := 8) d_Integer_bitCount_36 (by decide) ?_
  refine PJ.iushr (pc := 38) d_Integer_bitCount_38 ?_
  refine PJ.iadd (pc := 39) d_Integer_bitCount_39 ?_
  refine PJ.istore_n (pc := 40) (L1 := [some (.inl ((((((a0 - ((((a0).toUInt32 >>> (((1 : Int32)).toUInt32 &&& Int32.toUInt32 31)).toInt32) &&& (1431655765 : Int32))) &&& (858993459 : Int32)) + (((((a0 - ((((a0).toUInt32 >>> (((1 : Int32)).toUInt32 &&& Int32.toUInt32 31)).toInt32) &&& (1431655765 : Int32)))).toUInt32 >>> (((2 : Int32)).toUInt32 &&& Int32.toUInt32 31)).toInt32) &&& (858993459 : Int32))) + ((((((a0 - ((((a0).toUInt32 >>> (((1 : Int32)).toUInt32 &&& Int32.toUInt32 31)).toInt32) &&& (1431655765 : Int32))) &&& (858993459 : Int32)) + (((((a0 - ((((a0).toUInt32 >>> (((1 : Int32)).toUInt32 &&& Int32.toUInt32 31)).toInt32) &&& (1431655765 : Int32)))).toUInt32 >>> (((2 : Int32)).toUInt32 &&& Int32.toUInt32 31)).toInt32) &&& (858993459 : Int32)))).toUInt32 >>> (((4 : Int32)).toUInt32 &&& Int32.toUInt32 31)).toInt32)) &&& (252645135 : Int32)) + ((((((((a0 - ((((a0).toUInt32 >>> (((1 : Int32)).toUInt32 &&& Int32.toUInt32 31)).toInt32) &&& (1431655765 : Int32))) &&& (858993459 : Int32)) + (((((a0 - ((((a0).toUInt32 >>> (((1 : Int32)).toUInt32 &&& Int32.toUInt32 31)).toInt32) &&& (1431655765 : Int32)))).toUInt32 >>> (((2 : Int32)).toUInt32 &&& Int32.toUInt32 31)).toInt32) &&& (858993459 : Int32))) + ((((((a0 - ((((a0).toUInt32 >>> (((1 : Int32)).toUInt32 &&& Int32.toUInt32 31)).toInt32) &&& (1431655765 : Int32))) &&& (858993459 : Int32)) + (((((a0 - ((((a0).toUInt32 >>> (((1 : Int32)).toUInt32 &&& Int32.toUInt32 31)).toInt32) &&& (1431655765 : Int32)))).toUInt32 >>> (((2 : Int32)).toUInt32 &&& Int32.toUInt32 31)).toInt32) &&& (858993459 : Int32)))).toUInt32 >>> (((4 : Int32)).toUInt32 &&& Int32.toUInt32 31)).toInt32)) &&& (252645135 : Int32))).toUInt32 >>> (((8 : Int32)).toUInt32 &&& Int32.toUInt32 31)).toInt32)))]) d_Integer_bitCount_40 (Nat.le_of_ble_eq_true rfl) rfl rfl ?_
  refine PJ.iload_n (pc := 41) d_Integer_bitCount_41 rfl ?_
  refine PJ.iload_n (pc := 42) d_Integer_bitCount_42 rfl ?_
  refine PJ.bipush (pc := 43) (v := 16) d_Integer_bitCount_43 (by decide) ?_
  refine PJ.iushr (pc := 45) d_Integer_bitCount_45 ?_
  refine PJ.iadd (pc := 46) d_Integer_bitCount_46 ?_
  refine PJ.istore_n (pc := 47) (L1 := [some (.inl (((((((a0 - ((((a0).toUInt32 >>> (((1 : Int32)).toUInt32 &&& Int32.toUInt32 31)).toInt32) &&& (1431655765 : Int32))) &&& (858993459 : Int32)) + (((((a0 - ((((a0).toUInt32 >>> (((1 : Int32)).toUInt32 &&& Int32.toUInt32 31)).toInt32) &&& (1431655765 : Int32)))).toUInt32 >>> (((2 : Int32)).toUInt32 &&& Int32.toUInt32 31)).toInt32) &&& (858993459 : Int32))) + ((((((a0 - ((((a0).toUInt32 >>> (((1 : Int32)).toUInt32 &&& Int32.toUInt32 31)).toInt32) &&& (1431655765 : Int32))) &&& (858993459 : Int32)) + (((((a0 - ((((a0).toUInt32 >>> (((1 : Int32)).toUInt32 &&& Int32.toUInt32 31)).toInt32) &&& (1431655765 : Int32)))).toUInt32 >>> (((2 : Int32)).toUInt32 &&& Int32.toUInt32 31)).toInt32) &&& (858993459 : Int32)))).toUInt32 >>> (((4 : Int32)).toUInt32 &&& Int32.toUInt32 31)).toInt32)) &&& (252645135 : Int32)) + ((((((((a0 - ((((a0).toUInt32 >>> (((1 : Int32)).toUInt32 &&& Int32.toUInt32 31)).toInt32) &&& (1431655765 : Int32))) &&& (858993459 : Int32)) + (((((a0 - ((((a0).toUInt32 >>> (((1 : Int32)).toUInt32 &&& Int32.toUInt32 31)).toInt32) &&& (1431655765 : Int32)))).toUInt32 >>> (((2 : Int32)).toUInt32 &&& Int32.toUInt32 31)).toInt32) &&& (858993459 : Int32))) + ((((((a0 - ((((a0).toUInt32 >>> (((1 : Int32)).toUInt32 &&& Int32.toUInt32 31)).toInt32) &&& (1431655765 : Int32))) &&& (858993459 : Int32)) + (((((a0 - ((((a0).toUInt32 >>> (((1 : Int32)).toUInt32 &&& Int32.toUInt32 31)).toInt32) &&& (1431655765 : Int32)))).toUInt32 >>> (((2 : Int32)).toUInt32 &&& Int32.toUInt32 31)).toInt32) &&& (858993459 : Int32)))).toUInt32 >>> (((4 : Int32)).toUInt32 &&& Int32.toUInt32 31)).toInt32)) &&& (252645135 : Int32))).toUInt32 >>> (((8 : Int32)).toUInt32 &&& Int32.toUInt32 31)).toInt32)) + (((((((((a0 - ((((a0).toUInt32 >>> (((1 : Int32)).toUInt32 &&& Int32.toUInt32 31)).toInt32) &&& (1431655765 : Int32))) &&& (858993459 : Int32)) + (((((a0 - ((((a0).toUInt32 >>> (((1 : Int32)).toUInt32 &&& Int32.toUInt32 31)).toInt32) &&& (1431655765 : Int32)))).toUInt32 >>> (((2 : Int32)).toUInt32 &&& Int32.toUInt32 31)).toInt32) &&& (858993459 : Int32))) + ((((((a0 - ((((a0).toUInt32 >>> (((1 : Int32)).toUInt32 &&& Int32.toUInt32 31)).toInt32) &&& (1431655765 : Int32))) &&& (858993459 : Int32)) + (((((a0 - ((((a0).toUInt32 >>> (((1 : Int32)).toUInt32 &&& Int32.toUInt32 31)).toInt32) &&& (1431655765 : Int32)))).toUInt32 >>> (((2 : Int32)).toUInt32 &&& Int32.toUInt32 31)).toInt32) &&& (858993459 : Int32)))).toUInt32 >>> (((4 : Int32)).toUInt32 &&& Int32.toUInt32 31)).toInt32)) &&& (252645135 : Int32)) + ((((((((a0 - ((((a0).toUInt32 >>> (((1 : Int32)).toUInt32 &&& Int32.toUInt32 31)).toInt32) &&& (1431655765 : Int32))) &&& (858993459 : Int32)) + (((((a0 - ((((a0).toUInt32 >>> (((1 : Int32)).toUInt32 &&& Int32.toUInt32 31)).toInt32) &&& (1431655765 : Int32)))).toUInt32 >>> (((2 : Int32)).toUInt32 &&& Int32.toUInt32 31)).toInt32) &&& (858993459 : Int32))) + ((((((a0 - ((((a0).toUInt32 >>> (((1 : Int32)).toUInt32 &&& Int32.toUInt32 31)).toInt32) &&& (1431655765 : Int32))) &&& (858993459 : Int32)) + (((((a0 - ((((a0).toUInt32 >>> (((1 : Int32)).toUInt32 &&& Int32.toUInt32 31)).toInt32) &&& (1431655765 : Int32)))).toUInt32 >>> (((2 : Int32)).toUInt32 &&& Int32.toUInt32 31)).toInt32) &&& (858993459 : Int32)))).toUInt32 >>> (((4 : Int32)).toUInt32 &&& Int32.toUInt32 31)).toInt32)) &&& (252645135 : Int32))).toUInt32 >>> (((8 : Int32)).toUInt32 &&& Int32.toUInt32 31)).toInt32))).toUInt32 >>> (((16 : Int32)).toUInt32 &&& Int32.toUInt32 31)).toInt32)))]) d_Integer_bitCount_47 (Nat.le_of_ble_eq_true rfl) rfl rfl ?_
  refine PJ.iload_n (pc := 48) d_Integer_bitCount_48 rfl ?_
  refine PJ.bipush (pc := 49) (v := 63) d_Integer_bitCount_49 (by decide) ?_
  refine PJ.iand (pc := 51) d_Integer_bitCount_51 ?_
  exact PJ.iretp (pc := 52) d_Integer_bitCount_52 rfl (Nat.le_of_ble_eq_true rfl) (Nat.le_of_ble_eq_true rfl)
theorem d_T_fashion_0 : decode Y_T_fashion.2.1 0 = .ok (.aload_n 0, 1) := by decide +kernel
theorem d_T_fashion_1 : decode Y_T_fashion.2.1 1 = .ok (.getfield 36, 3) := by decide +kernel
theorem d_T_fashion_4 : decode Y_T_fashion.2.1 4 = .ok (.ifCond .ne 9, 3) := by decide +kernel
theorem d_T_fashion_7 : decode Y_T_fashion.2.1 7 = .ok (.aload_n 0, 1) := by decide +kernel
theorem d_T_fashion_8 : decode Y_T_fashion.2.1 8 = .ok (.iconst 1, 1) := by decide +kernel
theorem d_T_fashion_9 : decode Y_T_fashion.2.1 9 = .ok (.invokevirtual 95, 3) := by decide +kernel
theorem d_T_fashion_12 : decode Y_T_fashion.2.1 12 = .ok (.ireturn, 1) := by decide +kernel
theorem d_T_fashion_13 : decode Y_T_fashion.2.1 13 = .ok (.iconst 0, 1) := by decide +kernel
theorem d_T_fashion_14 : decode Y_T_fashion.2.1 14 = .ok (.istore_n 1, 1) := by decide +kernel
theorem d_T_fashion_15 : decode Y_T_fashion.2.1 15 = .ok (.iconst 1, 1) := by decide +kernel
theorem d_T_fashion_16 : decode Y_T_fashion.2.1 16 = .ok (.istore_n 2, 1) := by decide +kernel
theorem d_T_fashion_17 : decode Y_T_fashion.2.1 17 = .ok (.iload_n 2, 1) := by decide +kernel
theorem d_T_fashion_18 : decode Y_T_fashion.2.1 18 = .ok (.aload_n 0, 1) := by decide +kernel
theorem d_T_fashion_19 : decode Y_T_fashion.2.1 19 = .ok (.getfield 20, 3) := by decide +kernel
theorem d_T_fashion_22 : decode Y_T_fashion.2.1 22 = .ok (.getfield 167, 3) := by decide +kernel
theorem d_T_fashion_25 : decode Y_T_fashion.2.1 25 = .ok (.if_icmp .ge 30, 3) := by decide +kernel
theorem d_T_fashion_28 : decode Y_T_fashion.2.1 28 = .ok (.aload_n 0, 1) := by decide +kernel
theorem d_T_fashion_29 : decode Y_T_fashion.2.1 29 = .ok (.iload_n 2, 1) := by decide +kernel
theorem d_T_fashion_30 : decode Y_T_fashion.2.1 30 = .ok (.invokevirtual 164, 3) := by decide +kernel
theorem d_T_fashion_33 : decode Y_T_fashion.2.1 33 = .ok (.invokestatic 170, 3) := by decide +kernel
theorem d_T_fashion_36 : decode Y_T_fashion.2.1 36 = .ok (.aload_n 0, 1) := by decide +kernel
theorem d_T_fashion_37 : decode Y_T_fashion.2.1 37 = .ok (.iload_n 1, 1) := by decide +kernel
theorem d_T_fashion_38 : decode Y_T_fashion.2.1 38 = .ok (.invokevirtual 164, 3) := by decide +kernel
theorem d_T_fashion_41 : decode Y_T_fashion.2.1 41 = .ok (.invokestatic 170, 3) := by decide +kernel
theorem d_T_fashion_44 : decode Y_T_fashion.2.1 44 = .ok (.if_icmp .le 5, 3) := by decide +kernel
theorem d_T_fashion_47 : decode Y_T_fashion.2.1 47 = .ok (.iload_n 2, 1) := by decide +kernel
theorem d_T_fashion_48 : decode Y_T_fashion.2.1 48 = .ok (.istore_n 1, 1) := by decide +kernel
theorem d_T_fashion_49 : decode Y_T_fashion.2.1 49 = .ok (.iinc 2 1, 3) := by decide +kernel
theorem d_T_fashion_52 : decode Y_T_fashion.2.1 52 = .ok (.goto (-35), 3) := by decide +kernel
theorem d_T_fashion_55 : decode Y_T_fashion.2.1 55 = .ok (.aload_n 0, 1) := by decide +kernel
theorem d_T_fashion_56 : decode Y_T_fashion.2.1 56 = .ok (.iload_n 1, 1) := by decide +kernel
theorem d_T_fashion_57 : decode Y_T_fashion.2.1 57 = .ok (.invokevirtual 114, 3) := by decide +kernel
theorem d_T_fashion_60 : decode Y_T_fashion.2.1 60 = .ok (.ireturn, 1) := by decide +kernel
def f_T_fashion (h : PH) (a0 : Option Nat) : Option (Int32 × PH) := (gI h 10 a0 5).bind fun v1 => if ¬ v1 = 0 then ((pj_it (X := Int32) (fun s2 : Int32 × Int32 => (gR h 10 a0 2).bind fun v4 => (gI h 1 v4 2).bind fun v5 => if v5 ≤ s2.2 then (some (.inr s2.1)) else ((cl h 10 a0 (f_T_holding h a0 s2.2)).bind fun v6 => (f_Integer_bitCount h v6).bind fun v7 => (cl h 10 a0 (f_T_holding h a0 s2.1)).bind fun v8 => (f_Integer_bitCount h v8).bind fun v9 => if v7 ≤ v9 then (some (.inl (s2.1, (s2.2 + (1 : Int32))))) else (some (.inl (s2.2, (s2.2 + (1 : Int32))))))) FU ((0 : Int32), (1 : Int32))).bind fun x3 => (cl h 10 a0 (f_T_fine h a0 x3)).bind fun v10 => some (v10.1, v10.2)) else ((cl h 10 a0 (f_T_refuse h a0 (1 : Int32))).bind fun v11 => some (v11.1, v11.2))
set_option maxRecDepth 20000 in
theorem PM_T_fashion {l : Launch} {G : Cx} {h : PH} {a0 : Option Nat} {z : (Int32 × PH)} (hz : f_T_fashion h a0 = some z) : PM l G 2 0 0 Y_T_fashion [.inr (.inr a0)] h (some (.inl z.1), z.2) := by
  refine PM.of (Y := Y_T_fashion) (cv := (fun z : (Int32 × PH) => (((some (.inl z.1), z.2) : Option PV × PH)))) (by decide) (L0 := [some (.inr (.inr a0)), none, none]) 2 rfl (Nat.le_of_ble_eq_true rfl) ?_ hz
  unfold f_T_fashion
  refine PJ.aload_n (pc := 0) d_T_fashion_0 rfl ?_
  refine PJ.getI (pc := 1) fs_T_36 d_T_fashion_1 (fun v1 => ?_)
  refine PJ.if_ne (pc := 4) (tgt := 13) d_T_fashion_4 (by decide) (fun _ => ?_) (fun _ => ?_)
  · refine PJ.iconst (pc := 13) (v := 0) d_T_fashion_13 (by decide) ?_
    refine PJ.istore_n (pc := 14) (L1 := [some (.inr (.inr a0)), some (.inl (0 : Int32)), none]) d_T_fashion_14 (Nat.le_of_ble_eq_true rfl) rfl rfl ?_
    refine PJ.iconst (pc := 15) (v := 1) d_T_fashion_15 (by decide) ?_
    refine PJ.istore_n (pc := 16) (L1 := [some (.inr (.inr a0)), some (.inl (0 : Int32)), some (.inl (1 : Int32))]) d_T_fashion_16 (Nat.le_of_ble_eq_true rfl) rfl rfl ?_
    refine PJ.bind (fun x3 : Int32 => ((55 : Nat), ([some (.inr (.inr a0)), some (.inl x3), none] : List (Option PV)), ([] : List PV), (h : PH), (0 : Nat), (0 : Nat))) (PJ.it (E := (fun s2 : Int32 × Int32 => ((17 : Nat), ([some (.inr (.inr a0)), some (.inl s2.1), some (.inl s2.2)] : List (Option PV)), ([] : List PV), (h : PH), (0 : Nat), (0 : Nat)))) (F := (fun x3 : Int32 => ((55 : Nat), ([some (.inr (.inr a0)), some (.inl x3), none] : List (Option PV)), ([] : List PV), (h : PH), (0 : Nat), (0 : Nat)))) (fun s2 => ?_) FU ((0 : Int32), (1 : Int32))) (fun x3 => ?_)
    · show PJ l G (pj_rm 2 0 0) Y_T_fashion 17 [some (.inr (.inr a0)), some (.inl s2.1), some (.inl s2.2)] [] h 0 0 _ _
      refine PJ.iload_n (pc := 17) d_T_fashion_17 rfl ?_
      refine PJ.aload_n (pc := 18) d_T_fashion_18 rfl ?_
      refine PJ.getR (pc := 19) fs_T_20 d_T_fashion_19 (fun v4 => ?_)
      refine PJ.getI (pc := 22) fs_T_167 d_T_fashion_22 (fun v5 => ?_)
      refine PJ.icmp_ge (pc := 25) (tgt := 55) d_T_fashion_25 (by decide) (fun _ => ?_) (fun _ => ?_)
      · refine PJ.mk (L1 := [some (.inr (.inr a0)), some (.inl s2.1), none]) [true, true, false] rfl ?_
        exact PJ.done rfl
      · refine PJ.aload_n (pc := 28) d_T_fashion_28 rfl ?_
        refine PJ.iload_n (pc := 29) d_T_fashion_29 rfl ?_
        refine PJ.cVpI (pc := 30) cs_T_164 (fun z hz => PM_T_holding hz) (pj_fitb rfl) rfl rfl (Nat.le_of_ble_eq_true rfl) d_T_fashion_30 (fun v6 => ?_)
        refine PJ.cSpI (pc := 33) cs_T_170 (fun z hz => PM_Integer_bitCount hz) (pj_fitb rfl) rfl rfl (Nat.le_of_ble_eq_true rfl) d_T_fashion_33 (fun v7 => ?_)
        refine PJ.aload_n (pc := 36) d_T_fashion_36 rfl ?_
        refine PJ.iload_n (pc := 37) d_T_fashion_37 rfl ?_
        refine PJ.cVpI (pc := 38) cs_T_164 (fun z hz => PM_T_holding hz) (pj_fitb rfl) rfl rfl (Nat.le_of_ble_eq_true rfl) d_T_fashion_38 (fun v8 => ?_)
        refine PJ.cSpI (pc := 41) cs_T_170 (fun z hz => PM_Integer_bitCount hz) (pj_fitb rfl) rfl rfl (Nat.le_of_ble_eq_true rfl) d_T_fashion_41 (fun v9 => ?_)
        refine PJ.icmp_le (pc := 44) (tgt := 49) d_T_fashion_44 (by decide) (fun _ => ?_) (fun _ => ?_)
        · refine PJ.iinc (pc := 49) (v := 1) (L1 := [some (.inr (.inr a0)), some (.inl s2.1), some (.inl (s2.2 + (1 : Int32)))]) d_T_fashion_49 rfl (by decide) (Nat.le_of_ble_eq_true rfl) rfl rfl ?_
          refine PJ.goto (pc := 52) (tgt := 17) d_T_fashion_52 (by decide) ?_
          exact PJ.done rfl
        · refine PJ.iload_n (pc := 47) d_T_fashion_47 rfl ?_
          refine PJ.istore_n (pc := 48) (L1 := [some (.inr (.inr a0)), some (.inl s2.2), some (.inl s2.2)]) d_T_fashion_48 (Nat.le_of_ble_eq_true rfl) rfl rfl ?_
          refine PJ.iinc (pc := 49) (v := 1) (L1 := [some (.inr (.inr a0)), some (.inl s2.2), some (.inl (s2.2 + (1 : Int32)))]) d_T_fashion_49 rfl (by decide) (Nat.le_of_ble_eq_true rfl) rfl rfl ?_
          refine PJ.goto (pc := 52) (tgt := 17) d_T_fashion_52 (by decide) ?_
          exact PJ.done rfl
    · show PJ l G (pj_rm 2 0 0) Y_T_fashion 55 [some (.inr (.inr a0)), some (.inl x3), none] [] h 0 0 _ _
      refine PJ.aload_n (pc := 55) d_T_fashion_55 rfl ?_
      refine PJ.iload_n (pc := 56) d_T_fashion_56 rfl ?_
      refine PJ.cVI (pc := 57) cs_T_114 (fun z hz => PM_T_fine hz) (pj_fitb rfl) rfl rfl (Nat.le_of_ble_eq_true rfl) d_T_fashion_57 (fun v10 => ?_)
      exact PJ.iret (pc := 60) d_T_fashion_60 rfl (Nat.le_of_ble_eq_true rfl) (Nat.le_of_ble_eq_true rfl)
  · refine PJ.aload_n (pc := 7) d_T_fashion_7 rfl ?_
    refine PJ.iconst (pc := 8) (v := 1) d_T_fashion_8 (by decide) ?_
    refine PJ.cVI (pc := 9) cs_T_95 (fun z hz => PM_T_refuse hz) (pj_fitb rfl) rfl rfl (Nat.le_of_ble_eq_true rfl) d_T_fashion_9 (fun v11 => ?_)
    exact PJ.iret (pc := 12) d_T_fashion_12 rfl (Nat.le_of_ble_eq_true rfl) (Nat.le_of_ble_eq_true rfl)
theorem d_T_came_0 : decode Y_T_came.2.1 0 = .ok (.iload_n 1, 1) := by decide +kernel
theorem d_T_came_1 : decode Y_T_came.2.1 1 = .ok (.ifCond .lt 24, 3) := by decide +kernel
theorem d_T_came_4 : decode Y_T_came.2.1 4 = .ok (.aload_n 0, 1) := by decide +kernel
theorem d_T_came_5 : decode Y_T_came.2.1 5 = .ok (.getfield 36, 3) := by decide +kernel
theorem d_T_came_8 : decode Y_T_came.2.1 8 = .ok (.ifCond .eq 17, 3) := by decide +kernel
theorem d_T_came_11 : decode Y_T_came.2.1 11 = .ok (.iload_n 1, 1) := by decide +kernel
theorem d_T_came_12 : decode Y_T_came.2.1 12 = .ok (.aload_n 0, 1) := by decide +kernel
theorem d_T_came_13 : decode Y_T_came.2.1 13 = .ok (.getfield 20, 3) := by decide +kernel
theorem d_T_came_16 : decode Y_T_came.2.1 16 = .ok (.getfield 175, 3) := by decide +kernel
theorem d_T_came_19 : decode Y_T_came.2.1 19 = .ok (.getfield 179, 3) := by decide +kernel
theorem d_T_came_22 : decode Y_T_came.2.1 22 = .ok (.if_icmp .lt 9, 3) := by decide +kernel
theorem d_T_came_25 : decode Y_T_came.2.1 25 = .ok (.aload_n 0, 1) := by decide +kernel
theorem d_T_came_26 : decode Y_T_came.2.1 26 = .ok (.iconst 1, 1) := by decide +kernel
theorem d_T_came_27 : decode Y_T_came.2.1 27 = .ok (.invokevirtual 95, 3) := by decide +kernel
theorem d_T_came_30 : decode Y_T_came.2.1 30 = .ok (.ireturn, 1) := by decide +kernel
theorem d_T_came_31 : decode Y_T_came.2.1 31 = .ok (.aload_n 0, 1) := by decide +kernel
theorem d_T_came_32 : decode Y_T_came.2.1 32 = .ok (.aload_n 0, 1) := by decide +kernel
theorem d_T_came_33 : decode Y_T_came.2.1 33 = .ok (.getfield 43, 3) := by decide +kernel
theorem d_T_came_36 : decode Y_T_came.2.1 36 = .ok (.iload_n 1, 1) := by decide +kernel
theorem d_T_came_37 : decode Y_T_came.2.1 37 = .ok (.invokevirtual 184, 3) := by decide +kernel
theorem d_T_came_40 : decode Y_T_came.2.1 40 = .ok (.ifCond .eq 7, 3) := by decide +kernel
theorem d_T_came_43 : decode Y_T_came.2.1 43 = .ok (.iconst 1, 1) := by decide +kernel
theorem d_T_came_44 : decode Y_T_came.2.1 44 = .ok (.goto 4, 3) := by decide +kernel
theorem d_T_came_47 : decode Y_T_came.2.1 47 = .ok (.iconst 0, 1) := by decide +kernel
theorem d_T_came_48 : decode Y_T_came.2.1 48 = .ok (.invokevirtual 114, 3) := by decide +kernel
theorem d_T_came_51 : decode Y_T_came.2.1 51 = .ok (.ireturn, 1) := by decide +kernel
def f_T_came (h : PH) (a0 : Option Nat) (a1 : Int32) : Option (Int32 × PH) := if a1 < 0 then ((cl h 10 a0 (f_T_refuse h a0 (1 : Int32))).bind fun v1 => some (v1.1, v1.2)) else ((gI h 10 a0 5).bind fun v2 => if v2 = 0 then ((cl h 10 a0 (f_T_refuse h a0 (1 : Int32))).bind fun v3 => some (v3.1, v3.2)) else ((gR h 10 a0 2).bind fun v4 => (gR h 1 v4 10).bind fun v5 => (gI h 6 v5 0).bind fun v6 => if a1 < v6 then ((gR h 10 a0 6).bind fun v7 => (cl h 2 v7 (f_Now_hasCome h v7 a1)).bind fun v8 => (if v8 = 0 then (some (0 : Int32)) else (some (1 : Int32)) : Option (Int32)).bind fun j9 => (cl h 10 a0 (f_T_fine h a0 j9)).bind fun v10 => some (v10.1, v10.2)) else ((cl h 10 a0 (f_T_refuse h a0 (1 : Int32))).bind fun v11 => some (v11.1, v11.2))))
set_option maxRecDepth 20000 in
theorem PM_T_came {l : Launch} {G : Cx} {h : PH} {a0 : Option Nat} {a1 : Int32} {z : (Int32 × PH)} (hz : f_T_came h a0 a1 = some z) : PM l G 2 0 0 Y_T_came [.inr (.inr a0), .inl a1] h (some (.inl z.1), z.2) := by
  refine PM.of (Y := Y_T_came) (cv := (fun z : (Int32 × PH) => (((some (.inl z.1), z.2) : Option PV × PH)))) (by decide) (L0 := [some (.inr (.inr a0)), some (.inl a1)]) 0 rfl (Nat.le_of_ble_eq_true rfl) ?_ hz
  unfold f_T_came
  refine PJ.iload_n (pc := 0) d_T_came_0 rfl ?_
  refine PJ.if_lt (pc := 1) (tgt := 25) d_T_came_1 (by decide) (fun _ => ?_) (fun _ => ?_)
  · refine PJ.aload_n (pc := 25) d_T_came_25 rfl ?_
    refine PJ.iconst (pc := 26) (v := 1) d_T_came_26 (by decide) ?_
    refine PJ.cVI (pc := 27) cs_T_95 (fun z hz => PM_T_refuse hz) (pj_fitb rfl) rfl rfl (Nat.le_of_ble_eq_true rfl) d_T_came_27 (fun v1 => ?_)
    exact PJ.iret (pc := 30) d_T_came_30 rfl (Nat.le_of_ble_eq_true rfl) (Nat.le_of_ble_eq_true rfl)
  · refine PJ.aload_n (pc := 4) d_T_came_4 rfl ?_
    refine PJ.getI (pc := 5) fs_T_36 d_T_came_5 (fun v2 => ?_)
    refine PJ.if_eq (pc := 8) (tgt := 25) d_T_came_8 (by decide) (fun _ => ?_) (fun _ => ?_)
    · refine PJ.aload_n (pc := 25) d_T_came_25 rfl ?_
      refine PJ.iconst (pc := 26) (v := 1) d_T_came_26 (by decide) ?_
      refine PJ.cVI (pc := 27) cs_T_95 (fun z hz => PM_T_refuse hz) (pj_fitb rfl) rfl rfl (Nat.le_of_ble_eq_true rfl) d_T_came_27 (fun v3 => ?_)
      exact PJ.iret (pc := 30) d_T_came_30 rfl (Nat.le_of_ble_eq_true rfl) (Nat.le_of_ble_eq_true rfl)
    · refine PJ.iload_n (pc := 11) d_T_came_11 rfl ?_
      refine PJ.aload_n (pc := 12) d_T_came_12 rfl ?_
      refine PJ.getR (pc := 13) fs_T_20 d_T_came_13 (fun v4 => ?_)
      refine PJ.getR (pc := 16) fs_T_175 d_T_came_16 (fun v5 => ?_)
      refine PJ.getI (pc := 19) fs_T_179 d_T_came_19 (fun v6 => ?_)
      refine PJ.icmp_lt (pc := 22) (tgt := 31) d_T_came_22 (by decide) (fun _ => ?_) (fun _ => ?_)
      · refine PJ.aload_n (pc := 31) d_T_came_31 rfl ?_
        refine PJ.aload_n (pc := 32) d_T_came_32 rfl ?_
        refine PJ.getR (pc := 33) fs_T_43 d_T_came_33 (fun v7 => ?_)
        refine PJ.iload_n (pc := 36) d_T_came_36 rfl ?_
        refine PJ.cVpI (pc := 37) cs_T_184 (fun z hz => PM_Now_hasCome hz) (pj_fitb rfl) rfl rfl (Nat.le_of_ble_eq_true rfl) d_T_came_37 (fun v8 => ?_)
        refine PJ.bind (fun j9 : Int32 => ((48 : Nat), ([none, none] : List (Option PV)), ([.inl j9, .inr (.inr a0)] : List PV), (h : PH), (0 : Nat), (0 : Nat))) ?_ (fun j9 => ?_)
        · refine PJ.if_eq (pc := 40) (tgt := 47) d_T_came_40 (by decide) (fun _ => ?_) (fun _ => ?_)
          · refine PJ.iconst (pc := 47) (v := 0) d_T_came_47 (by decide) ?_
            refine PJ.mk (L1 := [none, none]) [false, false] rfl ?_
            exact PJ.done rfl
          · refine PJ.iconst (pc := 43) (v := 1) d_T_came_43 (by decide) ?_
            refine PJ.goto (pc := 44) (tgt := 48) d_T_came_44 (by decide) ?_
            refine PJ.mk (L1 := [none, none]) [false, false] rfl ?_
            exact PJ.done rfl
        · show PJ l G (pj_rm 2 0 0) Y_T_came 48 [none, none] [.inl j9, .inr (.inr a0)] h 0 0 _ _
          refine PJ.cVI (pc := 48) cs_T_114 (fun z hz => PM_T_fine hz) (pj_fitb rfl) rfl rfl (Nat.le_of_ble_eq_true rfl) d_T_came_48 (fun v10 => ?_)
          exact PJ.iret (pc := 51) d_T_came_51 rfl (Nat.le_of_ble_eq_true rfl) (Nat.le_of_ble_eq_true rfl)
      · refine PJ.aload_n (pc := 25) d_T_came_25 rfl ?_
        refine PJ.iconst (pc := 26) (v := 1) d_T_came_26 (by decide) ?_
        refine PJ.cVI (pc := 27) cs_T_95 (fun z hz => PM_T_refuse hz) (pj_fitb rfl) rfl rfl (Nat.le_of_ble_eq_true rfl) d_T_came_27 (fun v11 => ?_)
        exact PJ.iret (pc := 30) d_T_came_30 rfl (Nat.le_of_ble_eq_true rfl) (Nat.le_of_ble_eq_true rfl)
theorem d_Now_allSpent_0 : decode Y_Now_allSpent.2.1 0 = .ok (.iconst 0, 1) := by decide +kernel
theorem d_Now_allSpent_1 : decode Y_Now_allSpent.2.1 1 = .ok (.istore_n 1, 1) := by decide +kernel
theorem d_Now_allSpent_2 : decode Y_Now_allSpent.2.1 2 = .ok (.iconst 0, 1) := by decide +kernel
theorem d_Now_allSpent_3 : decode Y_Now_allSpent.2.1 3 = .ok (.istore_n 2, 1) := by decide +kernel
theorem d_Now_allSpent_4 : decode Y_Now_allSpent.2.1 4 = .ok (.iload_n 2, 1) := by decide +kernel
theorem d_Now_allSpent_5 : decode Y_Now_allSpent.2.1 5 = .ok (.iconst 5, 1) := by decide +kernel
theorem d_Now_allSpent_6 : decode Y_Now_allSpent.2.1 6 = .ok (.if_icmp .ge 18, 3) := by decide +kernel
theorem d_Now_allSpent_9 : decode Y_Now_allSpent.2.1 9 = .ok (.iload_n 1, 1) := by decide +kernel
theorem d_Now_allSpent_10 : decode Y_Now_allSpent.2.1 10 = .ok (.aload_n 0, 1) := by decide +kernel
theorem d_Now_allSpent_11 : decode Y_Now_allSpent.2.1 11 = .ok (.getfield 28, 3) := by decide +kernel
theorem d_Now_allSpent_14 : decode Y_Now_allSpent.2.1 14 = .ok (.iload_n 2, 1) := by decide +kernel
theorem d_Now_allSpent_15 : decode Y_Now_allSpent.2.1 15 = .ok (.iaload, 1) := by decide +kernel
theorem d_Now_allSpent_16 : decode Y_Now_allSpent.2.1 16 = .ok (.iadd, 1) := by decide +kernel
theorem d_Now_allSpent_17 : decode Y_Now_allSpent.2.1 17 = .ok (.istore_n 1, 1) := by decide +kernel
theorem d_Now_allSpent_18 : decode Y_Now_allSpent.2.1 18 = .ok (.iinc 2 1, 3) := by decide +kernel
theorem d_Now_allSpent_21 : decode Y_Now_allSpent.2.1 21 = .ok (.goto (-17), 3) := by decide +kernel
theorem d_Now_allSpent_24 : decode Y_Now_allSpent.2.1 24 = .ok (.iload_n 1, 1) := by decide +kernel
theorem d_Now_allSpent_25 : decode Y_Now_allSpent.2.1 25 = .ok (.ireturn, 1) := by decide +kernel
def f_Now_allSpent (h : PH) (a0 : Option Nat) : Option Int32 := (pj_it (X := Int32) (fun s1 : Int32 × Int32 => if (5 : Int32) ≤ s1.2 then (some (.inr s1.1)) else ((gR h 2 a0 5).bind fun v3 => (aI h v3 s1.2).bind fun v4 => some (.inl ((s1.1 + v4), (s1.2 + (1 : Int32)))))) FU ((0 : Int32), (0 : Int32))).bind fun x2 => some x2
set_option maxRecDepth 20000 in
theorem PM_Now_allSpent {l : Launch} {G : Cx} {h : PH} {a0 : Option Nat} {z : Int32} (hz : f_Now_allSpent h a0 = some z) : PM l G 1 0 0 Y_Now_allSpent [.inr (.inr a0)] h (some (.inl z), h) := by
  refine PM.of (Y := Y_Now_allSpent) (cv := (fun z : Int32 => (((some (.inl z), h) : Option PV × PH)))) (by decide) (L0 := [some (.inr (.inr a0)), none, none]) 2 rfl (Nat.le_of_ble_eq_true rfl) ?_ hz
  unfold f_Now_allSpent
  refine PJ.iconst (pc := 0) (v := 0) d_Now_allSpent_0 (by decide) ?_
  refine PJ.istore_n (pc := 1) (L1 := [some (.inr (.inr a0)), some (.inl (0 : Int32)), none]) d_Now_allSpent_1 (Nat.le_of_ble_eq_true rfl) rfl rfl ?_
  refine PJ.iconst (pc := 2) (v := 0) d_Now_allSpent_2 (by decide) ?_
  refine PJ.istore_n (pc := 3) (L1 := [some (.inr (.inr a0)), some (.inl (0 : Int32)), some (.inl (0 : Int32))]) d_Now_allSpent_3 (Nat.le_of_ble_eq_true rfl) rfl rfl ?_
  refine PJ.bind (fun x2 : Int32 => ((24 : Nat), ([none, some (.inl x2), none] : List (Option PV)), ([] : List PV), (h : PH), (0 : Nat), (0 : Nat))) (PJ.it (E := (fun s1 : Int32 × Int32 => ((4 : Nat), ([some (.inr (.inr a0)), some (.inl s1.1), some (.inl s1.2)] : List (Option PV)), ([] : List PV), (h : PH), (0 : Nat), (0 : Nat)))) (F := (fun x2 : Int32 => ((24 : Nat), ([none, some (.inl x2), none] : List (Option PV)), ([] : List PV), (h : PH), (0 : Nat), (0 : Nat)))) (fun s1 => ?_) FU ((0 : Int32), (0 : Int32))) (fun x2 => ?_)
  · show PJ l G (pj_rm 1 0 0) Y_Now_allSpent 4 [some (.inr (.inr a0)), some (.inl s1.1), some (.inl s1.2)] [] h 0 0 _ _
    refine PJ.iload_n (pc := 4) d_Now_allSpent_4 rfl ?_
    refine PJ.iconst (pc := 5) (v := 5) d_Now_allSpent_5 (by decide) ?_
    refine PJ.icmp_ge (pc := 6) (tgt := 24) d_Now_allSpent_6 (by decide) (fun _ => ?_) (fun _ => ?_)
    · refine PJ.mk (L1 := [none, some (.inl s1.1), none]) [false, true, false] rfl ?_
      exact PJ.done rfl
    · refine PJ.iload_n (pc := 9) d_Now_allSpent_9 rfl ?_
      refine PJ.aload_n (pc := 10) d_Now_allSpent_10 rfl ?_
      refine PJ.getR (pc := 11) fs_Now_28 d_Now_allSpent_11 (fun v3 => ?_)
      refine PJ.iload_n (pc := 14) d_Now_allSpent_14 rfl ?_
      refine PJ.iald (pc := 15) d_Now_allSpent_15 (fun v4 => ?_)
      refine PJ.iadd (pc := 16) d_Now_allSpent_16 ?_
      refine PJ.istore_n (pc := 17) (L1 := [some (.inr (.inr a0)), some (.inl (s1.1 + v4)), some (.inl s1.2)]) d_Now_allSpent_17 (Nat.le_of_ble_eq_true rfl) rfl rfl ?_
      refine PJ.iinc (pc := 18) (v := 1) (L1 := [some (.inr (.inr a0)), some (.inl (s1.1 + v4)), some (.inl (s1.2 + (1 : Int32)))]) d_Now_allSpent_18 rfl (by decide) (Nat.le_of_ble_eq_true rfl) rfl rfl ?_
      refine PJ.goto (pc := 21) (tgt := 4) d_Now_allSpent_21 (by decide) ?_
      exact PJ.done rfl
  · show PJ l G (pj_rm 1 0 0) Y_Now_allSpent 24 [none, some (.inl x2), none] [] h 0 0 _ _
    refine PJ.iload_n (pc := 24) d_Now_allSpent_24 rfl ?_
    exact PJ.iretp (pc := 25) d_Now_allSpent_25 rfl (Nat.le_of_ble_eq_true rfl) (Nat.le_of_ble_eq_true rfl)
theorem d_T_paid_0 : decode Y_T_paid.2.1 0 = .ok (.aload_n 0, 1) := by decide +kernel
theorem d_T_paid_1 : decode Y_T_paid.2.1 1 = .ok (.getfield 36, 3) := by decide +kernel
theorem d_T_paid_4 : decode Y_T_paid.2.1 4 = .ok (.ifCond .eq 17, 3) := by decide +kernel
theorem d_T_paid_7 : decode Y_T_paid.2.1 7 = .ok (.aload_n 0, 1) := by decide +kernel
theorem d_T_paid_8 : decode Y_T_paid.2.1 8 = .ok (.aload_n 0, 1) := by decide +kernel
theorem d_T_paid_9 : decode Y_T_paid.2.1 9 = .ok (.getfield 43, 3) := by decide +kernel
theorem d_T_paid_12 : decode Y_T_paid.2.1 12 = .ok (.invokevirtual 187, 3) := by decide +kernel
theorem d_T_paid_15 : decode Y_T_paid.2.1 15 = .ok (.invokevirtual 114, 3) := by decide +kernel
theorem d_T_paid_18 : decode Y_T_paid.2.1 18 = .ok (.goto 8, 3) := by decide +kernel
theorem d_T_paid_21 : decode Y_T_paid.2.1 21 = .ok (.aload_n 0, 1) := by decide +kernel
theorem d_T_paid_22 : decode Y_T_paid.2.1 22 = .ok (.iconst 1, 1) := by decide +kernel
theorem d_T_paid_23 : decode Y_T_paid.2.1 23 = .ok (.invokevirtual 95, 3) := by decide +kernel
theorem d_T_paid_26 : decode Y_T_paid.2.1 26 = .ok (.ireturn, 1) := by decide +kernel
def f_T_paid (h : PH) (a0 : Option Nat) : Option (Int32 × PH) := (gI h 10 a0 5).bind fun v1 => if v1 = 0 then ((cl h 10 a0 (f_T_refuse h a0 (1 : Int32))).bind fun v2 => some (v2.1, v2.2)) else ((gR h 10 a0 6).bind fun v3 => (cl h 2 v3 (f_Now_allSpent h v3)).bind fun v4 => (cl h 10 a0 (f_T_fine h a0 v4)).bind fun v5 => some (v5.1, v5.2))
set_option maxRecDepth 20000 in
theorem PM_T_paid {l : Launch} {G : Cx} {h : PH} {a0 : Option Nat} {z : (Int32 × PH)} (hz : f_T_paid h a0 = some z) : PM l G 2 0 0 Y_T_paid [.inr (.inr a0)] h (some (.inl z.1), z.2) := by
  refine PM.of (Y := Y_T_paid) (cv := (fun z : (Int32 × PH) => (((some (.inl z.1), z.2) : Option PV × PH)))) (by decide) (L0 := [some (.inr (.inr a0))]) 0 rfl (Nat.le_of_ble_eq_true rfl) ?_ hz
  unfold f_T_paid
  refine PJ.aload_n (pc := 0) d_T_paid_0 rfl ?_
  refine PJ.getI (pc := 1) fs_T_36 d_T_paid_1 (fun v1 => ?_)
  refine PJ.if_eq (pc := 4) (tgt := 21) d_T_paid_4 (by decide) (fun _ => ?_) (fun _ => ?_)
  · refine PJ.aload_n (pc := 21) d_T_paid_21 rfl ?_
    refine PJ.iconst (pc := 22) (v := 1) d_T_paid_22 (by decide) ?_
    refine PJ.cVI (pc := 23) cs_T_95 (fun z hz => PM_T_refuse hz) (pj_fitb rfl) rfl rfl (Nat.le_of_ble_eq_true rfl) d_T_paid_23 (fun v2 => ?_)
    exact PJ.iret (pc := 26) d_T_paid_26 rfl (Nat.le_of_ble_eq_true rfl) (Nat.le_of_ble_eq_true rfl)
  · refine PJ.aload_n (pc := 7) d_T_paid_7 rfl ?_
    refine PJ.aload_n (pc := 8) d_T_paid_8 rfl ?_
    refine PJ.getR (pc := 9) fs_T_43 d_T_paid_9 (fun v3 => ?_)
    refine PJ.cVpI (pc := 12) cs_T_187 (fun z hz => PM_Now_allSpent hz) (pj_fitb rfl) rfl rfl (Nat.le_of_ble_eq_true rfl) d_T_paid_12 (fun v4 => ?_)
    refine PJ.cVI (pc := 15) cs_T_114 (fun z hz => PM_T_fine hz) (pj_fitb rfl) rfl rfl (Nat.le_of_ble_eq_true rfl) d_T_paid_15 (fun v5 => ?_)
    refine PJ.goto (pc := 18) (tgt := 26) d_T_paid_18 (by decide) ?_
    exact PJ.iret (pc := 26) d_T_paid_26 rfl (Nat.le_of_ble_eq_true rfl) (Nat.le_of_ble_eq_true rfl)
theorem d_Law_farthestTwo_0 : decode Y_Law_farthestTwo.2.1 0 = .ok (.iconst 0, 1) := by decide +kernel
theorem d_Law_farthestTwo_1 : decode Y_Law_farthestTwo.2.1 1 = .ok (.istore_n 1, 1) := by decide +kernel
theorem d_Law_farthestTwo_2 : decode Y_Law_farthestTwo.2.1 2 = .ok (.bipush (-2), 2) := by decide +kernel
theorem d_Law_farthestTwo_4 : decode Y_Law_farthestTwo.2.1 4 = .ok (.istore_n 2, 1) := by decide +kernel
theorem d_Law_farthestTwo_5 : decode Y_Law_farthestTwo.2.1 5 = .ok (.iconst 0, 1) := by decide +kernel
theorem d_Law_farthestTwo_6 : decode Y_Law_farthestTwo.2.1 6 = .ok (.istore_n 3, 1) := by decide +kernel
theorem d_Law_farthestTwo_7 : decode Y_Law_farthestTwo.2.1 7 = .ok (.iload_n 3, 1) := by decide +kernel
theorem d_Law_farthestTwo_8 : decode Y_Law_farthestTwo.2.1 8 = .ok (.aload_n 0, 1) := by decide +kernel
theorem d_Law_farthestTwo_9 : decode Y_Law_farthestTwo.2.1 9 = .ok (.getfield 18, 3) := by decide +kernel
theorem d_Law_farthestTwo_12 : decode Y_Law_farthestTwo.2.1 12 = .ok (.if_icmp .ge 56, 3) := by decide +kernel
theorem d_Law_farthestTwo_15 : decode Y_Law_farthestTwo.2.1 15 = .ok (.iload_n 3, 1) := by decide +kernel
theorem d_Law_farthestTwo_16 : decode Y_Law_farthestTwo.2.1 16 = .ok (.iconst 1, 1) := by decide +kernel
theorem d_Law_farthestTwo_17 : decode Y_Law_farthestTwo.2.1 17 = .ok (.iadd, 1) := by decide +kernel
theorem d_Law_farthestTwo_18 : decode Y_Law_farthestTwo.2.1 18 = .ok (.istore 4, 2) := by decide +kernel
theorem d_Law_farthestTwo_20 : decode Y_Law_farthestTwo.2.1 20 = .ok (.iload 4, 2) := by decide +kernel
theorem d_Law_farthestTwo_22 : decode Y_Law_farthestTwo.2.1 22 = .ok (.aload_n 0, 1) := by decide +kernel
theorem d_Law_farthestTwo_23 : decode Y_Law_farthestTwo.2.1 23 = .ok (.getfield 18, 3) := by decide +kernel
theorem d_Law_farthestTwo_26 : decode Y_Law_farthestTwo.2.1 26 = .ok (.if_icmp .ge 36, 3) := by decide +kernel
theorem d_Law_farthestTwo_29 : decode Y_Law_farthestTwo.2.1 29 = .ok (.aload_n 0, 1) := by decide +kernel
theorem d_Law_farthestTwo_30 : decode Y_Law_farthestTwo.2.1 30 = .ok (.iload_n 3, 1) := by decide +kernel
theorem d_Law_farthestTwo_31 : decode Y_Law_farthestTwo.2.1 31 = .ok (.iload 4, 2) := by decide +kernel
theorem d_Law_farthestTwo_33 : decode Y_Law_farthestTwo.2.1 33 = .ok (.invokevirtual 79, 3) := by decide +kernel
theorem d_Law_farthestTwo_36 : decode Y_Law_farthestTwo.2.1 36 = .ok (.iload_n 1, 1) := by decide +kernel
theorem d_Law_farthestTwo_37 : decode Y_Law_farthestTwo.2.1 37 = .ok (.if_icmp .le 19, 3) := by decide +kernel
theorem d_Law_farthestTwo_40 : decode Y_Law_farthestTwo.2.1 40 = .ok (.aload_n 0, 1) := by decide +kernel
theorem d_Law_farthestTwo_41 : decode Y_Law_farthestTwo.2.1 41 = .ok (.iload_n 3, 1) := by decide +kernel
theorem d_Law_farthestTwo_42 : decode Y_Law_farthestTwo.2.1 42 = .ok (.iload 4, 2) := by decide +kernel
theorem d_Law_farthestTwo_44 : decode Y_Law_farthestTwo.2.1 44 = .ok (.invokevirtual 79, 3) := by decide +kernel
theorem d_Law_farthestTwo_47 : decode Y_Law_farthestTwo.2.1 47 = .ok (.istore_n 1, 1) := by decide +kernel
theorem d_Law_farthestTwo_48 : decode Y_Law_farthestTwo.2.1 48 = .ok (.bipush 10, 2) := by decide +kernel
theorem d_Law_farthestTwo_50 : decode Y_Law_farthestTwo.2.1 50 = .ok (.iload_n 3, 1) := by decide +kernel
theorem d_Law_farthestTwo_51 : decode Y_Law_farthestTwo.2.1 51 = .ok (.imul, 1) := by decide +kernel
theorem d_Law_farthestTwo_52 : decode Y_Law_farthestTwo.2.1 52 = .ok (.iload 4, 2) := by decide +kernel
theorem d_Law_farthestTwo_54 : decode Y_Law_farthestTwo.2.1 54 = .ok (.iadd, 1) := by decide +kernel
theorem d_Law_farthestTwo_55 : decode Y_Law_farthestTwo.2.1 55 = .ok (.istore_n 2, 1) := by decide +kernel
theorem d_Law_farthestTwo_56 : decode Y_Law_farthestTwo.2.1 56 = .ok (.iinc 4 1, 3) := by decide +kernel
theorem d_Law_farthestTwo_59 : decode Y_Law_farthestTwo.2.1 59 = .ok (.goto (-39), 3) := by decide +kernel
theorem d_Law_farthestTwo_62 : decode Y_Law_farthestTwo.2.1 62 = .ok (.iinc 3 1, 3) := by decide +kernel
theorem d_Law_farthestTwo_65 : decode Y_Law_farthestTwo.2.1 65 = .ok (.goto (-58), 3) := by decide +kernel
theorem d_Law_farthestTwo_68 : decode Y_Law_farthestTwo.2.1 68 = .ok (.iload_n 2, 1) := by decide +kernel
theorem d_Law_farthestTwo_69 : decode Y_Law_farthestTwo.2.1 69 = .ok (.ireturn, 1) := by decide +kernel
def f_Law_farthestTwo (h : PH) (a0 : Option Nat) : Option Int32 := (pj_it (X := Int32) (fun s1 : Int32 × Int32 × Int32 => (gI h 1 a0 2).bind fun v3 => if v3 ≤ s1.2.2 then (some (.inr s1.2.1)) else ((pj_it (X := Int32 × Int32) (fun s4 : Int32 × Int32 × Int32 => (gI h 1 a0 2).bind fun v6 => if v6 ≤ s4.2.2 then (some (.inr (s4.1, s4.2.1))) else ((cl h 1 a0 (f_Law_apart h a0 s1.2.2 s4.2.2)).bind fun v7 => if v7 ≤ s4.1 then (some (.inl (s4.1, s4.2.1, (s4.2.2 + (1 : Int32))))) else ((cl h 1 a0 (f_Law_apart h a0 s1.2.2 s4.2.2)).bind fun v8 => some (.inl (v8, (((10 : Int32) * s1.2.2) + s4.2.2), (s4.2.2 + (1 : Int32))))))) FU (s1.1, s1.2.1, (s1.2.2 + (1 : Int32)))).bind fun x5 => some (.inl (x5.1, x5.2, (s1.2.2 + (1 : Int32)))))) FU ((0 : Int32), (-2 : Int32), (0 : Int32))).bind fun x2 => some x2
set_option maxRecDepth 20000 in
theorem PM_Law_farthestTwo {l : Launch} {G : Cx} {h : PH} {a0 : Option Nat} {z : Int32} (hz : f_Law_farthestTwo h a0 = some z) : PM l G 2 0 0 Y_Law_farthestTwo [.inr (.inr a0)] h (some (.inl z), h) := by
  refine PM.of (Y := Y_Law_farthestTwo) (cv := (fun z : Int32 => (((some (.inl z), h) : Option PV × PH)))) (by decide) (L0 := [some (.inr (.inr a0)), none, none, none, none]) 4 rfl (Nat.le_of_ble_eq_true rfl) ?_ hz
  unfold f_Law_farthestTwo
  refine PJ.iconst (pc := 0) (v := 0) d_Law_farthestTwo_0 (by decide) ?_
  refine PJ.istore_n (pc := 1) (L1 := [some (.inr (.inr a0)), some (.inl (0 : Int32)), none, none, none]) d_Law_farthestTwo_1 (Nat.le_of_ble_eq_true rfl) rfl rfl ?_
  refine PJ.bipush (pc := 2) (v := -2) d_Law_farthestTwo_2 (by decide) ?_
  refine PJ.istore_n (pc := 4) (L1 := [some (.inr (.inr a0)), some (.inl (0 : Int32)), some (.inl (-2 : Int32)), none, none]) d_Law_farthestTwo_4 (Nat.le_of_ble_eq_true rfl) rfl rfl ?_
  refine PJ.iconst (pc := 5) (v := 0) d_Law_farthestTwo_5 (by decide) ?_
  refine PJ.istore_n (pc := 6) (L1 := [some (.inr (.inr a0)), some (.inl (0 : Int32)), some (.inl (-2 : Int32)), some (.inl (0 : Int32)), none]) d_Law_farthestTwo_6 (Nat.le_of_ble_eq_true rfl) rfl rfl ?_
  refine PJ.bind (fun x2 : Int32 => ((68 : Nat), ([none, none, some (.inl x2), none, none] : List (Option PV)), ([] : List PV), (h : PH), (0 : Nat), (0 : Nat))) (PJ.it (E := (fun s1 : Int32 × Int32 × Int32 => ((7 : Nat), ([some (.inr (.inr a0)), some (.inl s1.1), some (.inl s1.2.1), some (.inl s1.2.2), none] : List (Option PV)), ([] : List PV), (h : PH), (0 : Nat), (0 : Nat)))) (F := (fun x2 : Int32 => ((68 : Nat), ([none, none, some (.inl x2), none, none] : List (Option PV)), ([] : List PV), (h : PH), (0 : Nat), (0 : Nat)))) (fun s1 => ?_) FU ((0 : Int32), (-2 : Int32), (0 : Int32))) (fun x2 => ?_)
  · show PJ l G (pj_rm 2 0 0) Y_Law_farthestTwo 7 [some (.inr (.inr a0)), some (.inl s1.1), some (.inl s1.2.1), some (.inl s1.2.2), none] [] h 0 0 _ _
    refine PJ.iload_n (pc := 7) d_Law_farthestTwo_7 rfl ?_
    refine PJ.aload_n (pc := 8) d_Law_farthestTwo_8 rfl ?_
    refine PJ.getI (pc := 9) fs_Law_18 d_Law_farthestTwo_9 (fun v3 => ?_)
    refine PJ.icmp_ge (pc := 12) (tgt := 68) d_Law_farthestTwo_12 (by decide) (fun _ => ?_) (fun _ => ?_)
    · refine PJ.mk (L1 := [none, none, some (.inl s1.2.1), none, none]) [false, false, true, false, false] rfl ?_
      exact PJ.done rfl
    · refine PJ.iload_n (pc := 15) d_Law_farthestTwo_15 rfl ?_
      refine PJ.iconst (pc := 16) (v := 1) d_Law_farthestTwo_16 (by decide) ?_
      refine PJ.iadd (pc := 17) d_Law_farthestTwo_17 ?_
      refine PJ.istore (pc := 18) (L1 := [some (.inr (.inr a0)), some (.inl s1.1), some (.inl s1.2.1), some (.inl s1.2.2), some (.inl (s1.2.2 + (1 : Int32)))]) d_Law_farthestTwo_18 (Nat.le_of_ble_eq_true rfl) rfl rfl ?_
      refine PJ.bind (fun x5 : Int32 × Int32 => ((62 : Nat), ([some (.inr (.inr a0)), some (.inl x5.1), some (.inl x5.2), some (.inl s1.2.2), none] : List (Option PV)), ([] : List PV), (h : PH), (0 : Nat), (0 : Nat))) (PJ.it (E := (fun s4 : Int32 × Int32 × Int32 => ((20 : Nat), ([some (.inr (.inr a0)), some (.inl s4.1), some (.inl s4.2.1), some (.inl s1.2.2), some (.inl s4.2.2)] : List (Option PV)), ([] : List PV), (h : PH), (0 : Nat), (0 : Nat)))) (F := (fun x5 : Int32 × Int32 => ((62 : Nat), ([some (.inr (.inr a0)), some (.inl x5.1), some (.inl x5.2), some (.inl s1.2.2), none] : List (Option PV)), ([] : List PV), (h : PH), (0 : Nat), (0 : Nat)))) (fun s4 => ?_) FU (s1.1, s1.2.1, (s1.2.2 + (1 : Int32)))) (fun x5 => ?_)
      · show PJ l G (pj_rm 2 0 0) Y_Law_farthestTwo 20 [some (.inr (.inr a0)), some (.inl s4.1), some (.inl s4.2.1), some (.inl s1.2.2), some (.inl s4.2.2)] [] h 0 0 _ _
        refine PJ.iload (pc := 20) d_Law_farthestTwo_20 rfl ?_
        refine PJ.aload_n (pc := 22) d_Law_farthestTwo_22 rfl ?_
        refine PJ.getI (pc := 23) fs_Law_18 d_Law_farthestTwo_23 (fun v6 => ?_)
        refine PJ.icmp_ge (pc := 26) (tgt := 62) d_Law_farthestTwo_26 (by decide) (fun _ => ?_) (fun _ => ?_)
        · refine PJ.mk (L1 := [some (.inr (.inr a0)), some (.inl s4.1), some (.inl s4.2.1), some (.inl s1.2.2), none]) [true, true, true, true, false] rfl ?_
          exact PJ.done rfl
        · refine PJ.aload_n (pc := 29) d_Law_farthestTwo_29 rfl ?_
          refine PJ.iload_n (pc := 30) d_Law_farthestTwo_30 rfl ?_
          refine PJ.iload (pc := 31) d_Law_farthestTwo_31 rfl ?_
          refine PJ.cVpI (pc := 33) cs_Law_79 (fun z hz => PM_Law_apart hz) (pj_fitb rfl) rfl rfl (Nat.le_of_ble_eq_true rfl) d_Law_farthestTwo_33 (fun v7 => ?_)
          refine PJ.iload_n (pc := 36) d_Law_farthestTwo_36 rfl ?_
          refine PJ.icmp_le (pc := 37) (tgt := 56) d_Law_farthestTwo_37 (by decide) (fun _ => ?_) (fun _ => ?_)
          · refine PJ.iinc (pc := 56) (v := 1) (L1 := [some (.inr (.inr a0)), some (.inl s4.1), some (.inl s4.2.1), some (.inl s1.2.2), some (.inl (s4.2.2 + (1 : Int32)))]) d_Law_farthestTwo_56 rfl (by decide) (Nat.le_of_ble_eq_true rfl) rfl rfl ?_
            refine PJ.goto (pc := 59) (tgt := 20) d_Law_farthestTwo_59 (by decide) ?_
            exact PJ.done rfl
          · refine PJ.aload_n (pc := 40) d_Law_farthestTwo_40 rfl ?_
            refine PJ.iload_n (pc := 41) d_Law_farthestTwo_41 rfl ?_
            refine PJ.iload (pc := 42) d_Law_farthestTwo_42 rfl ?_
            refine PJ.cVpI (pc := 44) cs_Law_79 (fun z hz => PM_Law_apart hz) (pj_fitb rfl) rfl rfl (Nat.le_of_ble_eq_true rfl) d_Law_farthestTwo_44 (fun v8 => ?_)
            refine PJ.istore_n (pc := 47) (L1 := [some (.inr (.inr a0)), some (.inl v8), some (.inl s4.2.1), some (.inl s1.2.2), some (.inl s4.2.2)]) d_Law_farthestTwo_47 (Nat.le_of_ble_eq_true rfl) rfl rfl ?_
            refine PJ.bipush (pc := 48) (v := 10) d_Law_farthestTwo_48 (by decide) ?_
            refine PJ.iload_n (pc := 50) d_Law_farthestTwo_50 rfl ?_
            refine PJ.imul (pc := 51) d_Law_farthestTwo_51 ?_
            refine PJ.iload (pc := 52) d_Law_farthestTwo_52 rfl ?_
            refine PJ.iadd (pc := 54) d_Law_farthestTwo_54 ?_
            refine PJ.istore_n (pc := 55) (L1 := [some (.inr (.inr a0)), some (.inl v8), some (.inl (((10 : Int32) * s1.2.2) + s4.2.2)), some (.inl s1.2.2), some (.inl s4.2.2)]) d_Law_farthestTwo_55 (Nat.le_of_ble_eq_true rfl) rfl rfl ?_
            refine PJ.iinc (pc := 56) (v := 1) (L1 := [some (.inr (.inr a0)), some (.inl v8), some (.inl (((10 : Int32) * s1.2.2) + s4.2.2)), some (.inl s1.2.2), some (.inl (s4.2.2 + (1 : Int32)))]) d_Law_farthestTwo_56 rfl (by decide) (Nat.le_of_ble_eq_true rfl) rfl rfl ?_
            refine PJ.goto (pc := 59) (tgt := 20) d_Law_farthestTwo_59 (by decide) ?_
            exact PJ.done rfl
      · show PJ l G (pj_rm 2 0 0) Y_Law_farthestTwo 62 [some (.inr (.inr a0)), some (.inl x5.1), some (.inl x5.2), some (.inl s1.2.2), none] [] h 0 0 _ _
        refine PJ.iinc (pc := 62) (v := 1) (L1 := [some (.inr (.inr a0)), some (.inl x5.1), some (.inl x5.2), some (.inl (s1.2.2 + (1 : Int32))), none]) d_Law_farthestTwo_62 rfl (by decide) (Nat.le_of_ble_eq_true rfl) rfl rfl ?_
        refine PJ.goto (pc := 65) (tgt := 7) d_Law_farthestTwo_65 (by decide) ?_
        exact PJ.done rfl
  · show PJ l G (pj_rm 2 0 0) Y_Law_farthestTwo 68 [none, none, some (.inl x2), none, none] [] h 0 0 _ _
    refine PJ.iload_n (pc := 68) d_Law_farthestTwo_68 rfl ?_
    exact PJ.iretp (pc := 69) d_Law_farthestTwo_69 rfl (Nat.le_of_ble_eq_true rfl) (Nat.le_of_ble_eq_true rfl)
theorem d_T_farthest_0 : decode Y_T_farthest.2.1 0 = .ok (.aload_n 0, 1) := by decide +kernel
theorem d_T_farthest_1 : decode Y_T_farthest.2.1 1 = .ok (.getfield 36, 3) := by decide +kernel
theorem d_T_farthest_4 : decode Y_T_farthest.2.1 4 = .ok (.ifCond .eq 17, 3) := by decide +kernel
theorem d_T_farthest_7 : decode Y_T_farthest.2.1 7 = .ok (.aload_n 0, 1) := by decide +kernel
theorem d_T_farthest_8 : decode Y_T_farthest.2.1 8 = .ok (.aload_n 0, 1) := by decide +kernel
theorem d_T_farthest_9 : decode Y_T_farthest.2.1 9 = .ok (.getfield 20, 3) := by decide +kernel
theorem d_T_farthest_12 : decode Y_T_farthest.2.1 12 = .ok (.invokevirtual 190, 3) := by decide +kernel
theorem d_T_farthest_15 : decode Y_T_farthest.2.1 15 = .ok (.invokevirtual 114, 3) := by decide +kernel
theorem d_T_farthest_18 : decode Y_T_farthest.2.1 18 = .ok (.goto 8, 3) := by decide +kernel
theorem d_T_farthest_21 : decode Y_T_farthest.2.1 21 = .ok (.aload_n 0, 1) := by decide +kernel
theorem d_T_farthest_22 : decode Y_T_farthest.2.1 22 = .ok (.iconst 1, 1) := by decide +kernel
theorem d_T_farthest_23 : decode Y_T_farthest.2.1 23 = .ok (.invokevirtual 95, 3) := by decide +kernel
theorem d_T_farthest_26 : decode Y_T_farthest.2.1 26 = .ok (.ireturn, 1) := by decide +kernel
def f_T_farthest (h : PH) (a0 : Option Nat) : Option (Int32 × PH) := (gI h 10 a0 5).bind fun v1 => if v1 = 0 then ((cl h 10 a0 (f_T_refuse h a0 (1 : Int32))).bind fun v2 => some (v2.1, v2.2)) else ((gR h 10 a0 2).bind fun v3 => (cl h 1 v3 (f_Law_farthestTwo h v3)).bind fun v4 => (cl h 10 a0 (f_T_fine h a0 v4)).bind fun v5 => some (v5.1, v5.2))
set_option maxRecDepth 20000 in
theorem PM_T_farthest {l : Launch} {G : Cx} {h : PH} {a0 : Option Nat} {z : (Int32 × PH)} (hz : f_T_farthest h a0 = some z) : PM l G 3 0 0 Y_T_farthest [.inr (.inr a0)] h (some (.inl z.1), z.2) := by
  refine PM.of (Y := Y_T_farthest) (cv := (fun z : (Int32 × PH) => (((some (.inl z.1), z.2) : Option PV × PH)))) (by decide) (L0 := [some (.inr (.inr a0))]) 0 rfl (Nat.le_of_ble_eq_true rfl) ?_ hz
  unfold f_T_farthest
  refine PJ.aload_n (pc := 0) d_T_farthest_0 rfl ?_
  refine PJ.getI (pc := 1) fs_T_36 d_T_farthest_1 (fun v1 => ?_)
  refine PJ.if_eq (pc := 4) (tgt := 21) d_T_farthest_4 (by decide) (fun _ => ?_) (fun _ => ?_)
  · refine PJ.aload_n (pc := 21) d_T_farthest_21 rfl ?_
    refine PJ.iconst (pc := 22) (v := 1) d_T_farthest_22 (by decide) ?_
    refine PJ.cVI (pc := 23) cs_T_95 (fun z hz => PM_T_refuse hz) (pj_fitb rfl) rfl rfl (Nat.le_of_ble_eq_true rfl) d_T_farthest_23 (fun v2 => ?_)
    exact PJ.iret (pc := 26) d_T_farthest_26 rfl (Nat.le_of_ble_eq_true rfl) (Nat.le_of_ble_eq_true rfl)
  · refine PJ.aload_n (pc := 7) d_T_farthest_7 rfl ?_
    refine PJ.aload_n (pc := 8) d_T_farthest_8 rfl ?_
    refine PJ.getR (pc := 9) fs_T_20 d_T_farthest_9 (fun v3 => ?_)
    refine PJ.cVpI (pc := 12) cs_T_190 (fun z hz => PM_Law_farthestTwo hz) (pj_fitb rfl) rfl rfl (Nat.le_of_ble_eq_true rfl) d_T_farthest_12 (fun v4 => ?_)
    refine PJ.cVI (pc := 15) cs_T_114 (fun z hz => PM_T_fine hz) (pj_fitb rfl) rfl rfl (Nat.le_of_ble_eq_true rfl) d_T_farthest_15 (fun v5 => ?_)
    refine PJ.goto (pc := 18) (tgt := 26) d_T_farthest_18 (by decide) ?_
    exact PJ.iret (pc := 26) d_T_farthest_26 rfl (Nat.le_of_ble_eq_true rfl) (Nat.le_of_ble_eq_true rfl)
theorem d_T_planTrouble_0 : decode Y_T_planTrouble.2.1 0 = .ok (.aload_n 0, 1) := by decide +kernel
theorem d_T_planTrouble_1 : decode Y_T_planTrouble.2.1 1 = .ok (.iload_n 1, 1) := by decide +kernel
theorem d_T_planTrouble_2 : decode Y_T_planTrouble.2.1 2 = .ok (.invokevirtual 117, 3) := by decide +kernel
theorem d_T_planTrouble_5 : decode Y_T_planTrouble.2.1 5 = .ok (.ifCond .ne 5, 3) := by decide +kernel
theorem d_T_planTrouble_8 : decode Y_T_planTrouble.2.1 8 = .ok (.iconst 1, 1) := by decide +kernel
theorem d_T_planTrouble_9 : decode Y_T_planTrouble.2.1 9 = .ok (.ireturn, 1) := by decide +kernel
theorem d_T_planTrouble_10 : decode Y_T_planTrouble.2.1 10 = .ok (.iload_n 2, 1) := by decide +kernel
theorem d_T_planTrouble_11 : decode Y_T_planTrouble.2.1 11 = .ok (.iconst 1, 1) := by decide +kernel
theorem d_T_planTrouble_12 : decode Y_T_planTrouble.2.1 12 = .ok (.if_icmp .lt 8, 3) := by decide +kernel
theorem d_T_planTrouble_15 : decode Y_T_planTrouble.2.1 15 = .ok (.iload_n 2, 1) := by decide +kernel
theorem d_T_planTrouble_16 : decode Y_T_planTrouble.2.1 16 = .ok (.iconst 4, 1) := by decide +kernel
theorem d_T_planTrouble_17 : decode Y_T_planTrouble.2.1 17 = .ok (.if_icmp .le 7, 3) := by decide +kernel
theorem d_T_planTrouble_20 : decode Y_T_planTrouble.2.1 20 = .ok (.iconst 2, 1) := by decide +kernel
theorem d_T_planTrouble_21 : decode Y_T_planTrouble.2.1 21 = .ok (.goto 4, 3) := by decide +kernel
theorem d_T_planTrouble_24 : decode Y_T_planTrouble.2.1 24 = .ok (.iconst 0, 1) := by decide +kernel
theorem d_T_planTrouble_25 : decode Y_T_planTrouble.2.1 25 = .ok (.ireturn, 1) := by decide +kernel
def f_T_planTrouble (h : PH) (a0 : Option Nat) (a1 : Int32) (a2 : Int32) : Option Int32 := (cl h 10 a0 (f_T_isPerson h a0 a1)).bind fun v1 => if ¬ v1 = 0 then (if a2 < (1 : Int32) then (some (2 : Int32)) else (if a2 ≤ (4 : Int32) then (some (0 : Int32)) else (some (2 : Int32)))) else (some (1 : Int32))
set_option maxRecDepth 20000 in
theorem PM_T_planTrouble {l : Launch} {G : Cx} {h : PH} {a0 : Option Nat} {a1 : Int32} {a2 : Int32} {z : Int32} (hz : f_T_planTrouble h a0 a1 a2 = some z) : PM l G 2 0 0 Y_T_planTrouble [.inr (.inr a0), .inl a1, .inl a2] h (some (.inl z), h) := by
  refine PM.of (Y := Y_T_planTrouble) (cv := (fun z : Int32 => (((some (.inl z), h) : Option PV × PH)))) (by decide) (L0 := [some (.inr (.inr a0)), some (.inl a1), some (.inl a2)]) 0 rfl (Nat.le_of_ble_eq_true rfl) ?_ hz
  unfold f_T_planTrouble
  refine PJ.aload_n (pc := 0) d_T_planTrouble_0 rfl ?_
  refine PJ.iload_n (pc := 1) d_T_planTrouble_1 rfl ?_
  refine PJ.cVpI (pc := 2) cs_T_117 (fun z hz => PM_T_isPerson hz) (pj_fitb rfl) rfl rfl (Nat.le_of_ble_eq_true rfl) d_T_planTrouble_2 (fun v1 => ?_)
  refine PJ.if_ne (pc := 5) (tgt := 10) d_T_planTrouble_5 (by decide) (fun _ => ?_) (fun _ => ?_)
  · refine PJ.iload_n (pc := 10) d_T_planTrouble_10 rfl ?_
    refine PJ.iconst (pc := 11) (v := 1) d_T_planTrouble_11 (by decide) ?_
    refine PJ.icmp_lt (pc := 12) (tgt := 20) d_T_planTrouble_12 (by decide) (fun _ => ?_) (fun _ => ?_)
    · refine PJ.iconst (pc := 20) (v := 2) d_T_planTrouble_20 (by decide) ?_
      refine PJ.goto (pc := 21) (tgt := 25) d_T_planTrouble_21 (by decide) ?_
      exact PJ.iretp (pc := 25) d_T_planTrouble_25 rfl (Nat.le_of_ble_eq_true rfl) (Nat.le_of_ble_eq_true rfl)
    · refine PJ.iload_n (pc := 15) d_T_planTrouble_15 rfl ?_
      refine PJ.iconst (pc := 16) (v := 4) d_T_planTrouble_16 (by decide) ?_
      refine PJ.icmp_le (pc := 17) (tgt := 24) d_T_planTrouble_17 (by decide) (fun _ => ?_) (fun _ => ?_)
      · refine PJ.iconst (pc := 24) (v := 0) d_T_planTrouble_24 (by decide) ?_
        exact PJ.iretp (pc := 25) d_T_planTrouble_25 rfl (Nat.le_of_ble_eq_true rfl) (Nat.le_of_ble_eq_true rfl)
      · refine PJ.iconst (pc := 20) (v := 2) d_T_planTrouble_20 (by decide) ?_
        refine PJ.goto (pc := 21) (tgt := 25) d_T_planTrouble_21 (by decide) ?_
        exact PJ.iretp (pc := 25) d_T_planTrouble_25 rfl (Nat.le_of_ble_eq_true rfl) (Nat.le_of_ble_eq_true rfl)
  · refine PJ.iconst (pc := 8) (v := 1) d_T_planTrouble_8 (by decide) ?_
    exact PJ.iretp (pc := 9) d_T_planTrouble_9 rfl (Nat.le_of_ble_eq_true rfl) (Nat.le_of_ble_eq_true rfl)
theorem d_T_refuseLong_0 : decode Y_T_refuseLong.2.1 0 = .ok (.aload_n 0, 1) := by decide +kernel
theorem d_T_refuseLong_1 : decode Y_T_refuseLong.2.1 1 = .ok (.iload_n 1, 1) := by decide +kernel
theorem d_T_refuseLong_2 : decode Y_T_refuseLong.2.1 2 = .ok (.putfield 82, 3) := by decide +kernel
theorem d_T_refuseLong_5 : decode Y_T_refuseLong.2.1 5 = .ok (.ldc2_w 400, 3) := by decide +kernel
theorem d_T_refuseLong_8 : decode Y_T_refuseLong.2.1 8 = .ok (.lreturn, 1) := by decide +kernel
def f_T_refuseLong (h : PH) (a0 : Option Nat) (a1 : Int32) : Option (Int64 × PH) := (sF h 10 a0 12 (.inl a1)).bind fun h1 => some ((-9223372036854775808 : Int64), h1)
set_option maxRecDepth 20000 in
theorem PM_T_refuseLong {l : Launch} {G : Cx} {h : PH} {a0 : Option Nat} {a1 : Int32} {z : (Int64 × PH)} (hz : f_T_refuseLong h a0 a1 = some z) : PM l G 1 0 0 Y_T_refuseLong [.inr (.inr a0), .inl a1] h (some (.inr (.inl z.1)), z.2) := by
  refine PM.of (Y := Y_T_refuseLong) (cv := (fun z : (Int64 × PH) => (((some (.inr (.inl z.1)), z.2) : Option PV × PH)))) (by decide) (L0 := [some (.inr (.inr a0)), some (.inl a1)]) 0 rfl (Nat.le_of_ble_eq_true rfl) ?_ hz
  unfold f_T_refuseLong
  refine PJ.aload_n (pc := 0) d_T_refuseLong_0 rfl ?_
  refine PJ.iload_n (pc := 1) d_T_refuseLong_1 rfl ?_
  refine PJ.putI (pc := 2) ps_T_82 d_T_refuseLong_2 (fun h1 => ?_)
  refine PJ.ldc2 (pc := 5) (v := -9223372036854775808) d_T_refuseLong_5 wd_950 ?_
  exact PJ.lret (pc := 8) d_T_refuseLong_8 rfl (Nat.le_of_ble_eq_true rfl) (Nat.le_of_ble_eq_true rfl)
theorem d_Now_become_0 : decode Y_Now_become.2.1 0 = .ok (.aload_n 0, 1) := by decide +kernel
theorem d_Now_become_1 : decode Y_Now_become.2.1 1 = .ok (.aload_n 1, 1) := by decide +kernel
theorem d_Now_become_2 : decode Y_Now_become.2.1 2 = .ok (.getfield 9, 3) := by decide +kernel
theorem d_Now_become_5 : decode Y_Now_become.2.1 5 = .ok (.putfield 9, 3) := by decide +kernel
theorem d_Now_become_8 : decode Y_Now_become.2.1 8 = .ok (.aload_n 0, 1) := by decide +kernel
theorem d_Now_become_9 : decode Y_Now_become.2.1 9 = .ok (.aload_n 1, 1) := by decide +kernel
theorem d_Now_become_10 : decode Y_Now_become.2.1 10 = .ok (.getfield 15, 3) := by decide +kernel
theorem d_Now_become_13 : decode Y_Now_become.2.1 13 = .ok (.putfield 15, 3) := by decide +kernel
theorem d_Now_become_16 : decode Y_Now_become.2.1 16 = .ok (.aload_n 0, 1) := by decide +kernel
theorem d_Now_become_17 : decode Y_Now_become.2.1 17 = .ok (.aload_n 1, 1) := by decide +kernel
theorem d_Now_become_18 : decode Y_Now_become.2.1 18 = .ok (.getfield 18, 3) := by decide +kernel
theorem d_Now_become_21 : decode Y_Now_become.2.1 21 = .ok (.putfield 18, 3) := by decide +kernel
theorem d_Now_become_24 : decode Y_Now_become.2.1 24 = .ok (.aload_n 1, 1) := by decide +kernel
theorem d_Now_become_25 : decode Y_Now_become.2.1 25 = .ok (.getfield 21, 3) := by decide +kernel
theorem d_Now_become_28 : decode Y_Now_become.2.1 28 = .ok (.iconst 0, 1) := by decide +kernel
theorem d_Now_become_29 : decode Y_Now_become.2.1 29 = .ok (.aload_n 0, 1) := by decide +kernel
theorem d_Now_become_30 : decode Y_Now_become.2.1 30 = .ok (.getfield 21, 3) := by decide +kernel
theorem d_Now_become_33 : decode Y_Now_become.2.1 33 = .ok (.iconst 0, 1) := by decide +kernel
theorem d_Now_become_34 : decode Y_Now_become.2.1 34 = .ok (.iconst 5, 1) := by decide +kernel
theorem d_Now_become_35 : decode Y_Now_become.2.1 35 = .ok (.invokestatic 39, 3) := by decide +kernel
theorem d_Now_become_38 : decode Y_Now_become.2.1 38 = .ok (.aload_n 1, 1) := by decide +kernel
theorem d_Now_become_39 : decode Y_Now_become.2.1 39 = .ok (.getfield 25, 3) := by decide +kernel
theorem d_Now_become_42 : decode Y_Now_become.2.1 42 = .ok (.iconst 0, 1) := by decide +kernel
theorem d_Now_become_43 : decode Y_Now_become.2.1 43 = .ok (.aload_n 0, 1) := by decide +kernel
theorem d_Now_become_44 : decode Y_Now_become.2.1 44 = .ok (.getfield 25, 3) := by decide +kernel
theorem d_Now_become_47 : decode Y_Now_become.2.1 47 = .ok (.iconst 0, 1) := by decide +kernel
theorem d_Now_become_48 : decode Y_Now_become.2.1 48 = .ok (.iconst 5, 1) := by decide +kernel
theorem d_Now_become_49 : decode Y_Now_become.2.1 49 = .ok (.invokestatic 39, 3) := by decide +kernel
theorem d_Now_become_52 : decode Y_Now_become.2.1 52 = .ok (.aload_n 1, 1) := by decide +kernel
theorem d_Now_become_53 : decode Y_Now_become.2.1 53 = .ok (.getfield 28, 3) := by decide +kernel
theorem d_Now_become_56 : decode Y_Now_become.2.1 56 = .ok (.iconst 0, 1) := by decide +kernel
theorem d_Now_become_57 : decode Y_Now_become.2.1 57 = .ok (.aload_n 0, 1) := by decide +kernel
theorem d_Now_become_58 : decode Y_Now_become.2.1 58 = .ok (.getfield 28, 3) := by decide +kernel
theorem d_Now_become_61 : decode Y_Now_become.2.1 61 = .ok (.iconst 0, 1) := by decide +kernel
theorem d_Now_become_62 : decode Y_Now_become.2.1 62 = .ok (.iconst 5, 1) := by decide +kernel
theorem d_Now_become_63 : decode Y_Now_become.2.1 63 = .ok (.invokestatic 39, 3) := by decide +kernel
theorem d_Now_become_66 : decode Y_Now_become.2.1 66 = .ok (.aload_n 1, 1) := by decide +kernel
theorem d_Now_become_67 : decode Y_Now_become.2.1 67 = .ok (.getfield 31, 3) := by decide +kernel
theorem d_Now_become_70 : decode Y_Now_become.2.1 70 = .ok (.iconst 0, 1) := by decide +kernel
theorem d_Now_become_71 : decode Y_Now_become.2.1 71 = .ok (.aload_n 0, 1) := by decide +kernel
theorem d_Now_become_72 : decode Y_Now_become.2.1 72 = .ok (.getfield 31, 3) := by decide +kernel
theorem d_Now_become_75 : decode Y_Now_become.2.1 75 = .ok (.iconst 0, 1) := by decide +kernel
theorem d_Now_become_76 : decode Y_Now_become.2.1 76 = .ok (.iconst 5, 1) := by decide +kernel
theorem d_Now_become_77 : decode Y_Now_become.2.1 77 = .ok (.invokestatic 39, 3) := by decide +kernel
theorem d_Now_become_80 : decode Y_Now_become.2.1 80 = .ok (.return_, 1) := by decide +kernel
def f_Now_become (h : PH) (a0 : Option Nat) (a1 : Option Nat) : Option PH := (gI h 2 a1 0).bind fun v1 => (sF h 2 a0 0 (.inl v1)).bind fun h2 => (gI h2 2 a1 1).bind fun v3 => (sF h2 2 a0 1 (.inl v3)).bind fun h4 => (gI h4 2 a1 2).bind fun v5 => (sF h4 2 a0 2 (.inl v5)).bind fun h6 => (gR h6 2 a1 3).bind fun v7 => (gR h6 2 a0 3).bind fun v8 => (aC h6 v7 (0 : Int32) v8 (0 : Int32) (5 : Int32)).bind fun h9 => (gR h9 2 a1 4).bind fun v10 => (gR h9 2 a0 4).bind fun v11 => (aC h9 v10 (0 : Int32) v11 (0 : Int32) (5 : Int32)).bind fun h12 => (gR h12 2 a1 5).bind fun v13 => (gR h12 2 a0 5).bind fun v14 => (aC h12 v13 (0 : Int32) v14 (0 : Int32) (5 : Int32)).bind fun h15 => (gR h15 2 a1 6).bind fun v16 => (gR h15 2 a0 6).bind fun v17 => (aC h15 v16 (0 : Int32) v17 (0 : Int32) (5 : Int32)).bind fun h18 => some h18
set_option maxRecDepth 20000 in
theorem PM_Now_become {l : Launch} {G : Cx} {h : PH} {a0 : Option Nat} {a1 : Option Nat} {z : PH} (hz : f_Now_become h a0 a1 = some z) : PM l G 1 0 0 Y_Now_become [.inr (.inr a0), .inr (.inr a1)] h (none, z) := by
  refine PM.of (Y := Y_Now_become) (cv := (fun z : PH => (((none, z) : Option PV × PH)))) (by decide) (L0 := [some (.inr (.inr a0)), some (.inr (.inr a1))]) 0 rfl (Nat.le_of_ble_eq_true rfl) ?_ hz
  unfold f_Now_become
  refine PJ.aload_n (pc := 0) d_Now_become_0 rfl ?_
  refine PJ.aload_n (pc := 1) d_Now_become_1 rfl ?_
  refine PJ.getI (pc := 2) fs_Now_9 d_Now_become_2 (fun v1 => ?_)
  refine PJ.putI (pc := 5) ps_Now_9 d_Now_become_5 (fun h2 => ?_)
  refine PJ.aload_n (pc := 8) d_Now_become_8 rfl ?_
  refine PJ.aload_n (pc := 9) d_Now_become_9 rfl ?_
  refine PJ.getI (pc := 10) fs_Now_15 d_Now_become_10 (fun v3 => ?_)
  refine PJ.putI (pc := 13) ps_Now_15 d_Now_become_13 (fun h4 => ?_)
  refine PJ.aload_n (pc := 16) d_Now_become_16 rfl ?_
  refine PJ.aload_n (pc := 17) d_Now_become_17 rfl ?_
  refine PJ.getI (pc := 18) fs_Now_18 d_Now_become_18 (fun v5 => ?_)
  refine PJ.putI (pc := 21) ps_Now_18 d_Now_become_21 (fun h6 => ?_)
  refine PJ.aload_n (pc := 24) d_Now_become_24 rfl ?_
  refine PJ.getR (pc := 25) fs_Now_21 d_Now_become_25 (fun v7 => ?_)
  refine PJ.iconst (pc := 28) (v := 0) d_Now_become_28 (by decide) ?_
  refine PJ.aload_n (pc := 29) d_Now_become_29 rfl ?_
  refine PJ.getR (pc := 30) fs_Now_21 d_Now_become_30 (fun v8 => ?_)
  refine PJ.iconst (pc := 33) (v := 0) d_Now_become_33 (by decide) ?_
  refine PJ.iconst (pc := 34) (v := 5) d_Now_become_34 (by decide) ?_
  refine PJ.acopy (pc := 35) (idx := 39) wd_806 wd_808 wd_807 wd_148 (Nat.le_of_ble_eq_true rfl) (by decide +kernel) d_Now_become_35 (fun h9 => ?_)
  refine PJ.aload_n (pc := 38) d_Now_become_38 rfl ?_
  refine PJ.getR (pc := 39) fs_Now_25 d_Now_become_39 (fun v10 => ?_)
  refine PJ.iconst (pc := 42) (v := 0) d_Now_become_42 (by decide) ?_
  refine PJ.aload_n (pc := 43) d_Now_become_43 rfl ?_
  refine PJ.getR (pc := 44) fs_Now_25 d_Now_become_44 (fun v11 => ?_)
  refine PJ.iconst (pc := 47) (v := 0) d_Now_become_47 (by decide) ?_
  refine PJ.iconst (pc := 48) (v := 5) d_Now_become_48 (by decide) ?_
  refine PJ.acopy (pc := 49) (idx := 39) wd_806 wd_808 wd_807 wd_148 (Nat.le_of_ble_eq_true rfl) (by decide +kernel) d_Now_become_49 (fun h12 => ?_)
  refine PJ.aload_n (pc := 52) d_Now_become_52 rfl ?_
  refine PJ.getR (pc := 53) fs_Now_28 d_Now_become_53 (fun v13 => ?_)
  refine PJ.iconst (pc := 56) (v := 0) d_Now_become_56 (by decide) ?_
  refine PJ.aload_n (pc := 57) d_Now_become_57 rfl ?_
  refine PJ.getR (pc := 58) fs_Now_28 d_Now_become_58 (fun v14 => ?_)
  refine PJ.iconst (pc := 61) (v := 0) d_Now_become_61 (by decide) ?_
  refine PJ.iconst (pc := 62) (v := 5) d_Now_become_62 (by decide) ?_
  refine PJ.acopy (pc := 63) (idx := 39) wd_806 wd_808 wd_807 wd_148 (Nat.le_of_ble_eq_true rfl) (by decide +kernel) d_Now_become_63 (fun h15 => ?_)
  refine PJ.aload_n (pc := 66) d_Now_become_66 rfl ?_
  refine PJ.getR (pc := 67) fs_Now_31 d_Now_become_67 (fun v16 => ?_)
  refine PJ.iconst (pc := 70) (v := 0) d_Now_become_70 (by decide) ?_
  refine PJ.aload_n (pc := 71) d_Now_become_71 rfl ?_
  refine PJ.getR (pc := 72) fs_Now_31 d_Now_become_72 (fun v17 => ?_)
  refine PJ.iconst (pc := 75) (v := 0) d_Now_become_75 (by decide) ?_
  refine PJ.iconst (pc := 76) (v := 5) d_Now_become_76 (by decide) ?_
  refine PJ.acopy (pc := 77) (idx := 39) wd_806 wd_808 wd_807 wd_148 (Nat.le_of_ble_eq_true rfl) (by decide +kernel) d_Now_become_77 (fun h18 => ?_)
  exact PJ.vret (pc := 80) d_Now_become_80 rfl (Nat.le_of_ble_eq_true rfl) (Nat.le_of_ble_eq_true rfl)
theorem d_Planner_begin_0 : decode Y_Planner_begin.2.1 0 = .ok (.aload_n 0, 1) := by decide +kernel
theorem d_Planner_begin_1 : decode Y_Planner_begin.2.1 1 = .ok (.aload_n 1, 1) := by decide +kernel
theorem d_Planner_begin_2 : decode Y_Planner_begin.2.1 2 = .ok (.putfield 13, 3) := by decide +kernel
theorem d_Planner_begin_5 : decode Y_Planner_begin.2.1 5 = .ok (.aload_n 0, 1) := by decide +kernel
theorem d_Planner_begin_6 : decode Y_Planner_begin.2.1 6 = .ok (.iload_n 3, 1) := by decide +kernel
theorem d_Planner_begin_7 : decode Y_Planner_begin.2.1 7 = .ok (.putfield 7, 3) := by decide +kernel
theorem d_Planner_begin_10 : decode Y_Planner_begin.2.1 10 = .ok (.aload_n 0, 1) := by decide +kernel
theorem d_Planner_begin_11 : decode Y_Planner_begin.2.1 11 = .ok (.getfield 21, 3) := by decide +kernel
theorem d_Planner_begin_14 : decode Y_Planner_begin.2.1 14 = .ok (.aload_n 2, 1) := by decide +kernel
theorem d_Planner_begin_15 : decode Y_Planner_begin.2.1 15 = .ok (.invokevirtual 25, 3) := by decide +kernel
theorem d_Planner_begin_18 : decode Y_Planner_begin.2.1 18 = .ok (.aload_n 0, 1) := by decide +kernel
theorem d_Planner_begin_19 : decode Y_Planner_begin.2.1 19 = .ok (.getfield 17, 3) := by decide +kernel
theorem d_Planner_begin_22 : decode Y_Planner_begin.2.1 22 = .ok (.aload_n 1, 1) := by decide +kernel
theorem d_Planner_begin_23 : decode Y_Planner_begin.2.1 23 = .ok (.aload_n 0, 1) := by decide +kernel
theorem d_Planner_begin_24 : decode Y_Planner_begin.2.1 24 = .ok (.getfield 21, 3) := by decide +kernel
theorem d_Planner_begin_27 : decode Y_Planner_begin.2.1 27 = .ok (.invokevirtual 31, 3) := by decide +kernel
theorem d_Planner_begin_30 : decode Y_Planner_begin.2.1 30 = .ok (.return_, 1) := by decide +kernel
def f_Planner_begin (h : PH) (a0 : Option Nat) (a1 : Option Nat) (a2 : Option Nat) (a3 : Int32) : Option PH := (sF h 4 a0 0 (.inr (.inr a1))).bind fun h1 => (sF h1 4 a0 3 (.inl a3)).bind fun h2 => (gR h2 4 a0 2).bind fun v3 => (cl h2 2 v3 (f_Now_become h2 v3 a2)).bind fun h4 => (gR h4 4 a0 1).bind fun v5 => (gR h4 4 a0 2).bind fun v6 => (cl h4 0 v5 (f_Desk_look h4 v5 a1 v6)).bind fun h7 => some h7
set_option maxRecDepth 20000 in
theorem PM_Planner_begin {l : Launch} {G : Cx} {h : PH} {a0 : Option Nat} {a1 : Option Nat} {a2 : Option Nat} {a3 : Int32} {z : PH} (hz : f_Planner_begin h a0 a1 a2 a3 = some z) : PM l G 2 0 0 Y_Planner_begin [.inr (.inr a0), .inr (.inr a1), .inr (.inr a2), .inl a3] h (none, z) := by
  refine PM.of (Y := Y_Planner_begin) (cv := (fun z : PH => (((none, z) : Option PV × PH)))) (by decide) (L0 := [some (.inr (.inr a0)), some (.inr (.inr a1)), some (.inr (.inr a2)), some (.inl a3)]) 0 rfl (Nat.le_of_ble_eq_true rfl) ?_ hz
  unfold f_Planner_begin
  refine PJ.aload_n (pc := 0) d_Planner_begin_0 rfl ?_
  refine PJ.aload_n (pc := 1) d_Planner_begin_1 rfl ?_
  refine PJ.putR (pc := 2) ps_Planner_13 rfl d_Planner_begin_2 (fun h1 => ?_)
  refine PJ.aload_n (pc := 5) d_Planner_begin_5 rfl ?_
  refine PJ.iload_n (pc := 6) d_Planner_begin_6 rfl ?_
  refine PJ.putI (pc := 7) ps_Planner_7 d_Planner_begin_7 (fun h2 => ?_)
  refine PJ.aload_n (pc := 10) d_Planner_begin_10 rfl ?_
  refine PJ.getR (pc := 11) fs_Planner_21 d_Planner_begin_11 (fun v3 => ?_)
  refine PJ.aload_n (pc := 14) d_Planner_begin_14 rfl ?_
  refine PJ.cVV (pc := 15) cs_Planner_25 (fun z hz => PM_Now_become hz) (pj_fitb rfl) rfl rfl (Nat.le_of_ble_eq_true rfl) d_Planner_begin_15 (fun h4 => ?_)
  refine PJ.aload_n (pc := 18) d_Planner_begin_18 rfl ?_
  refine PJ.getR (pc := 19) fs_Planner_17 d_Planner_begin_19 (fun v5 => ?_)
  refine PJ.aload_n (pc := 22) d_Planner_begin_22 rfl ?_
  refine PJ.aload_n (pc := 23) d_Planner_begin_23 rfl ?_
  refine PJ.getR (pc := 24) fs_Planner_21 d_Planner_begin_24 (fun v6 => ?_)
  refine PJ.cVV (pc := 27) cs_Planner_31 (fun z hz => PM_Desk_look hz) (pj_fitb rfl) rfl rfl (Nat.le_of_ble_eq_true rfl) d_Planner_begin_27 (fun h7 => ?_)
  exact PJ.vret (pc := 30) d_Planner_begin_30 rfl (Nat.le_of_ble_eq_true rfl) (Nat.le_of_ble_eq_true rfl)
theorem d_Reasons_between_0 : decode Y_Reasons_between.2.1 0 = .ok (.iconst 0, 1) := by decide +kernel
theorem d_Reasons_between_1 : decode Y_Reasons_between.2.1 1 = .ok (.istore 4, 2) := by decide +kernel
theorem d_Reasons_between_3 : decode Y_Reasons_between.2.1 3 = .ok (.iconst 0, 1) := by decide +kernel
theorem d_Reasons_between_4 : decode Y_Reasons_between.2.1 4 = .ok (.istore 5, 2) := by decide +kernel
theorem d_Reasons_between_6 : decode Y_Reasons_between.2.1 6 = .ok (.iload 5, 2) := by decide +kernel
theorem d_Reasons_between_8 : decode Y_Reasons_between.2.1 8 = .ok (.aload_n 0, 1) := by decide +kernel
theorem d_Reasons_between_9 : decode Y_Reasons_between.2.1 9 = .ok (.getfield 9, 3) := by decide +kernel
theorem d_Reasons_between_12 : decode Y_Reasons_between.2.1 12 = .ok (.if_icmp .ge 45, 3) := by decide +kernel
theorem d_Reasons_between_15 : decode Y_Reasons_between.2.1 15 = .ok (.aload_n 0, 1) := by decide +kernel
theorem d_Reasons_between_16 : decode Y_Reasons_between.2.1 16 = .ok (.getfield 15, 3) := by decide +kernel
theorem d_Reasons_between_19 : decode Y_Reasons_between.2.1 19 = .ok (.iload 5, 2) := by decide +kernel
theorem d_Reasons_between_21 : decode Y_Reasons_between.2.1 21 = .ok (.iaload, 1) := by decide +kernel
theorem d_Reasons_between_22 : decode Y_Reasons_between.2.1 22 = .ok (.iload_n 1, 1) := by decide +kernel
theorem d_Reasons_between_23 : decode Y_Reasons_between.2.1 23 = .ok (.if_icmp .ne 28, 3) := by decide +kernel
theorem d_Reasons_between_26 : decode Y_Reasons_between.2.1 26 = .ok (.aload_n 0, 1) := by decide +kernel
theorem d_Reasons_between_27 : decode Y_Reasons_between.2.1 27 = .ok (.getfield 22, 3) := by decide +kernel
theorem d_Reasons_between_30 : decode Y_Reasons_between.2.1 30 = .ok (.iload 5, 2) := by decide +kernel
theorem d_Reasons_between_32 : decode Y_Reasons_between.2.1 32 = .ok (.iaload, 1) := by decide +kernel
theorem d_Reasons_between_33 : decode Y_Reasons_between.2.1 33 = .ok (.iload_n 2, 1) := by decide +kernel
theorem d_Reasons_between_34 : decode Y_Reasons_between.2.1 34 = .ok (.if_icmp .le 17, 3) := by decide +kernel
theorem d_Reasons_between_37 : decode Y_Reasons_between.2.1 37 = .ok (.aload_n 0, 1) := by decide +kernel
theorem d_Reasons_between_38 : decode Y_Reasons_between.2.1 38 = .ok (.getfield 22, 3) := by decide +kernel
theorem d_Reasons_between_41 : decode Y_Reasons_between.2.1 41 = .ok (.iload 5, 2) := by decide +kernel
theorem d_Reasons_between_43 : decode Y_Reasons_between.2.1 43 = .ok (.iaload, 1) := by decide +kernel
theorem d_Reasons_between_44 : decode Y_Reasons_between.2.1 44 = .ok (.iload_n 3, 1) := by decide +kernel
theorem d_Reasons_between_45 : decode Y_Reasons_between.2.1 45 = .ok (.if_icmp .ge 6, 3) := by decide +kernel
theorem d_Reasons_between_48 : decode Y_Reasons_between.2.1 48 = .ok (.iinc 4 1, 3) := by decide +kernel
theorem d_Reasons_between_51 : decode Y_Reasons_between.2.1 51 = .ok (.iinc 5 1, 3) := by decide +kernel
theorem d_Reasons_between_54 : decode Y_Reasons_between.2.1 54 = .ok (.goto (-48), 3) := by decide +kernel
theorem d_Reasons_between_57 : decode Y_Reasons_between.2.1 57 = .ok (.iload 4, 2) := by decide +kernel
theorem d_Reasons_between_59 : decode Y_Reasons_between.2.1 59 = .ok (.ireturn, 1) := by decide +kernel
def f_Reasons_between (h : PH) (a0 : Option Nat) (a1 : Int32) (a2 : Int32) (a3 : Int32) : Option Int32 := (pj_it (X := Int32) (fun s1 : Int32 × Int32 => (gI h 6 a0 0).bind fun v3 => if v3 ≤ s1.2 then (some (.inr s1.1)) else ((gR h 6 a0 1).bind fun v4 => (aI h v4 s1.2).bind fun v5 => if ¬ v5 = a1 then (some (.inl (s1.1, (s1.2 + (1 : Int32))))) else ((gR h 6 a0 3).bind fun v6 => (aI h v6 s1.2).bind fun v7 => if v7 ≤ a2 then (some (.inl (s1.1, (s1.2 + (1 : Int32))))) else ((gR h 6 a0 3).bind fun v8 => (aI h v8 s1.2).bind fun v9 => if a3 ≤ v9 then (some (.inl (s1.1, (s1.2 + (1 : Int32))))) else (some (.inl ((s1.1 + (1 : Int32)), (s1.2 + (1 : Int32))))))))) FU ((0 : Int32), (0 : Int32))).bind fun x2 => some x2
set_option maxRecDepth 20000 in
theorem PM_Reasons_between {l : Launch} {G : Cx} {h : PH} {a0 : Option Nat} {a1 : Int32} {a2 : Int32} {a3 : Int32} {z : Int32} (hz : f_Reasons_between h a0 a1 a2 a3 = some z) : PM l G 1 0 0 Y_Reasons_between [.inr (.inr a0), .inl a1, .inl a2, .inl a3] h (some (.inl z), h) := by
  refine PM.of (Y := Y_Reasons_between) (cv := (fun z : Int32 => (((some (.inl z), h) : Option PV × PH)))) (by decide) (L0 := [some (.inr (.inr a0)), some (.inl a1), some (.inl a2), some (.inl a3), none, none]) 2 rfl (Nat.le_of_ble_eq_true rfl) ?_ hz
  unfold f_Reasons_between
  refine PJ.iconst (pc := 0) (v := 0) d_Reasons_between_0 (by decide) ?_
  refine PJ.istore (pc := 1) (L1 := [some (.inr (.inr a0)), some (.inl a1), some (.inl a2), some (.inl a3), some (.inl (0 : Int32)), none]) d_Reasons_between_1 (Nat.le_of_ble_eq_true rfl) rfl rfl ?_
  refine PJ.iconst (pc := 3) (v := 0) d_Reasons_between_3 (by decide) ?_
  refine PJ.istore (pc := 4) (L1 := [some (.inr (.inr a0)), some (.inl a1), some (.inl a2), some (.inl a3), some (.inl (0 : Int32)), some (.inl (0 : Int32))]) d_Reasons_between_4 (Nat.le_of_ble_eq_true rfl) rfl rfl ?_
  refine PJ.bind (fun x2 : Int32 => ((57 : Nat), ([none, none, none, none, some (.inl x2), none] : List (Option PV)), ([] : List PV), (h : PH), (0 : Nat), (0 : Nat))) (PJ.it (E := (fun s1 : Int32 × Int32 => ((6 : Nat), ([some (.inr (.inr a0)), some (.inl a1), some (.inl a2), some (.inl a3), some (.inl s1.1), some (.inl s1.2)] : List (Option PV)), ([] : List PV), (h : PH), (0 : Nat), (0 : Nat)))) (F := (fun x2 : Int32 => ((57 : Nat), ([none, none, none, none, some (.inl x2), none] : List (Option PV)), ([] : List PV), (h : PH), (0 : Nat), (0 : Nat)))) (fun s1 => ?_) FU ((0 : Int32), (0 : Int32))) (fun x2 => ?_)
  · show PJ l G (pj_rm 1 0 0) Y_Reasons_between 6 [some (.inr (.inr a0)), some (.inl a1), some (.inl a2), some (.inl a3), some (.inl s1.1), some (.inl s1.2)] [] h 0 0 _ _
    refine PJ.iload (pc := 6) d_Reasons_between_6 rfl ?_
    refine PJ.aload_n (pc := 8) d_Reasons_between_8 rfl ?_
    refine PJ.getI (pc := 9) fs_Reasons_9 d_Reasons_between_9 (fun v3 => ?_)
    refine PJ.icmp_ge (pc := 12) (tgt := 57) d_Reasons_between_12 (by decide) (fun _ => ?_) (fun _ => ?_)
    · refine PJ.mk (L1 := [none, none, none, none, some (.inl s1.1), none]) [false, false, false, false, true, false] rfl ?_
      exact PJ.done rfl
    · refine PJ.aload_n (pc := 15) d_Reasons_between_15 rfl ?_
      refine PJ.getR (pc := 16) fs_Reasons_15 d_Reasons_between_16 (fun v4 => ?_)
      refine PJ.iload (pc := 19) d_Reasons_between_19 rfl ?_
      refine PJ.iald (pc := 21) d_Reasons_between_21 (fun v5 => ?_)
      refine PJ.iload_n (pc := 22) d_Reasons_between_22 rfl ?_
      refine PJ.icmp_ne (pc := 23) (tgt := 51) d_Reasons_between_23 (by decide) (fun _ => ?_) (fun _ => ?_)
      · refine PJ.iinc (pc := 51) (v := 1) (L1 := [some (.inr (.inr a0)), some (.inl a1), some (.inl a2), some (.inl a3), some (.inl s1.1), some (.inl (s1.2 + (1 : Int32)))]) d_Reasons_between_51 rfl (by decide) (Nat.le_of_ble_eq_true rfl) rfl rfl ?_
        refine PJ.goto (pc := 54) (tgt := 6) d_Reasons_between_54 (by decide) ?_
        exact PJ.done rfl
      · refine PJ.aload_n (pc := 26) d_Reasons_between_26 rfl ?_
        refine PJ.getR (pc := 27) fs_Reasons_22 d_Reasons_between_27 (fun v6 => ?_)
        refine PJ.iload (pc := 30) d_Reasons_between_30 rfl ?_
        refine PJ.iald (pc := 32) d_Reasons_between_32 (fun v7 => ?_)
        refine PJ.iload_n (pc := 33) d_Reasons_between_33 rfl ?_
        refine PJ.icmp_le (pc := 34) (tgt := 51) d_Reasons_between_34 (by decide) (fun _ => ?_) (fun _ => ?_)
        · refine PJ.iinc (pc := 51) (v := 1) (L1 := [some (.inr (.inr a0)), some (.inl a1), some (.inl a2), some (.inl a3), some (.inl s1.1), some (.inl (s1.2 + (1 : Int32)))]) d_Reasons_between_51 rfl (by decide) (Nat.le_of_ble_eq_true rfl) rfl rfl ?_
          refine PJ.goto (pc := 54) (tgt := 6) d_Reasons_between_54 (by decide) ?_
          exact PJ.done rfl
        · refine PJ.aload_n (pc := 37) d_Reasons_between_37 rfl ?_
          refine PJ.getR (pc := 38) fs_Reasons_22 d_Reasons_between_38 (fun v8 => ?_)
          refine PJ.iload (pc := 41) d_Reasons_between_41 rfl ?_
          refine PJ.iald (pc := 43) d_Reasons_between_43 (fun v9 => ?_)
          refine PJ.iload_n (pc := 44) d_Reasons_between_44 rfl ?_
          refine PJ.icmp_ge (pc := 45) (tgt := 51) d_Reasons_between_45 (by decide) (fun _ => ?_) (fun _ => ?_)
          · refine PJ.iinc (pc := 51) (v := 1) (L1 := [some (.inr (.inr a0)), some (.inl a1), some (.inl a2), some (.inl a3), some (.inl s1.1), some (.inl (s1.2 + (1 : Int32)))]) d_Reasons_between_51 rfl (by decide) (Nat.le_of_ble_eq_true rfl) rfl rfl ?_
            refine PJ.goto (pc := 54) (tgt := 6) d_Reasons_between_54 (by decide) ?_
            exact PJ.done rfl
          · refine PJ.iinc (pc := 48) (v := 1) (L1 := [some (.inr (.inr a0)), some (.inl a1), some (.inl a2), some (.inl a3), some (.inl (s1.1 + (1 : Int32))), some (.inl s1.2)]) d_Reasons_between_48 rfl (by decide) (Nat.le_of_ble_eq_true rfl) rfl rfl ?_
            refine PJ.iinc (pc := 51) (v := 1) (L1 := [some (.inr (.inr a0)), some (.inl a1), some (.inl a2), some (.inl a3), some (.inl (s1.1 + (1 : Int32))), some (.inl (s1.2 + (1 : Int32)))]) d_Reasons_between_51 rfl (by decide) (Nat.le_of_ble_eq_true rfl) rfl rfl ?_
            refine PJ.goto (pc := 54) (tgt := 6) d_Reasons_between_54 (by decide) ?_
            exact PJ.done rfl
  · show PJ l G (pj_rm 1 0 0) Y_Reasons_between 57 [none, none, none, none, some (.inl x2), none] [] h 0 0 _ _
    refine PJ.iload (pc := 57) d_Reasons_between_57 rfl ?_
    exact PJ.iretp (pc := 59) d_Reasons_between_59 rfl (Nat.le_of_ble_eq_true rfl) (Nat.le_of_ble_eq_true rfl)
theorem d_Planner_scale_0 : decode Y_Planner_scale.2.1 0 = .ok (.lconst 1, 1) := by decide +kernel
theorem d_Planner_scale_1 : decode Y_Planner_scale.2.1 1 = .ok (.lstore_n 2, 1) := by decide +kernel
theorem d_Planner_scale_2 : decode Y_Planner_scale.2.1 2 = .ok (.aload_n 0, 1) := by decide +kernel
theorem d_Planner_scale_3 : decode Y_Planner_scale.2.1 3 = .ok (.getfield 13, 3) := by decide +kernel
theorem d_Planner_scale_6 : decode Y_Planner_scale.2.1 6 = .ok (.getfield 37, 3) := by decide +kernel
theorem d_Planner_scale_9 : decode Y_Planner_scale.2.1 9 = .ok (.aload_n 0, 1) := by decide +kernel
theorem d_Planner_scale_10 : decode Y_Planner_scale.2.1 10 = .ok (.getfield 7, 3) := by decide +kernel
theorem d_Planner_scale_13 : decode Y_Planner_scale.2.1 13 = .ok (.aload_n 0, 1) := by decide +kernel
theorem d_Planner_scale_14 : decode Y_Planner_scale.2.1 14 = .ok (.getfield 21, 3) := by decide +kernel
theorem d_Planner_scale_17 : decode Y_Planner_scale.2.1 17 = .ok (.getfield 43, 3) := by decide +kernel
theorem d_Planner_scale_20 : decode Y_Planner_scale.2.1 20 = .ok (.aload_n 0, 1) := by decide +kernel
theorem d_Planner_scale_21 : decode Y_Planner_scale.2.1 21 = .ok (.getfield 21, 3) := by decide +kernel
theorem d_Planner_scale_24 : decode Y_Planner_scale.2.1 24 = .ok (.getfield 43, 3) := by decide +kernel
theorem d_Planner_scale_27 : decode Y_Planner_scale.2.1 27 = .ok (.iload_n 1, 1) := by decide +kernel
theorem d_Planner_scale_28 : decode Y_Planner_scale.2.1 28 = .ok (.iadd, 1) := by decide +kernel
theorem d_Planner_scale_29 : decode Y_Planner_scale.2.1 29 = .ok (.invokevirtual 46, 3) := by decide +kernel
theorem d_Planner_scale_32 : decode Y_Planner_scale.2.1 32 = .ok (.istore 4, 2) := by decide +kernel
theorem d_Planner_scale_34 : decode Y_Planner_scale.2.1 34 = .ok (.iconst 0, 1) := by decide +kernel
theorem d_Planner_scale_35 : decode Y_Planner_scale.2.1 35 = .ok (.istore 5, 2) := by decide +kernel
theorem d_Planner_scale_37 : decode Y_Planner_scale.2.1 37 = .ok (.iload 5, 2) := by decide +kernel
theorem d_Planner_scale_39 : decode Y_Planner_scale.2.1 39 = .ok (.iload 4, 2) := by decide +kernel
theorem d_Planner_scale_41 : decode Y_Planner_scale.2.1 41 = .ok (.if_icmp .ge 15, 3) := by decide +kernel
theorem d_Planner_scale_44 : decode Y_Planner_scale.2.1 44 = .ok (.lload_n 2, 1) := by decide +kernel
theorem d_Planner_scale_45 : decode Y_Planner_scale.2.1 45 = .ok (.ldc2_w 52, 3) := by decide +kernel
theorem d_Planner_scale_48 : decode Y_Planner_scale.2.1 48 = .ok (.lmul, 1) := by decide +kernel
theorem d_Planner_scale_49 : decode Y_Planner_scale.2.1 49 = .ok (.lstore_n 2, 1) := by decide +kernel
theorem d_Planner_scale_50 : decode Y_Planner_scale.2.1 50 = .ok (.iinc 5 1, 3) := by decide +kernel
theorem d_Planner_scale_53 : decode Y_Planner_scale.2.1 53 = .ok (.goto (-16), 3) := by decide +kernel
theorem d_Planner_scale_56 : decode Y_Planner_scale.2.1 56 = .ok (.lload_n 2, 1) := by decide +kernel
theorem d_Planner_scale_57 : decode Y_Planner_scale.2.1 57 = .ok (.lreturn, 1) := by decide +kernel
def f_Planner_scale (h : PH) (a0 : Option Nat) (a1 : Int32) : Option Int64 := (gR h 4 a0 0).bind fun v1 => (gR h 1 v1 10).bind fun v2 => (gI h 4 a0 3).bind fun v3 => (gR h 4 a0 2).bind fun v4 => (gI h 2 v4 0).bind fun v5 => (gR h 4 a0 2).bind fun v6 => (gI h 2 v6 0).bind fun v7 => (cl h 6 v2 (f_Reasons_between h v2 v3 v5 (v7 + a1))).bind fun v8 => (pj_it (X := Int64) (fun s9 : Int64 × Int32 => if v8 ≤ s9.2 then (some (.inr s9.1)) else (some (.inl ((s9.1 * (100 : Int64)), (s9.2 + (1 : Int32)))))) FU ((1 : Int64), (0 : Int32))).bind fun x10 => some x10
set_option maxRecDepth 20000 in
theorem PM_Planner_scale {l : Launch} {G : Cx} {h : PH} {a0 : Option Nat} {a1 : Int32} {z : Int64} (hz : f_Planner_scale h a0 a1 = some z) : PM l G 2 0 0 Y_Planner_scale [.inr (.inr a0), .inl a1] h (some (.inr (.inl z)), h) := by
  refine PM.of (Y := Y_Planner_scale) (cv := (fun z : Int64 => (((some (.inr (.inl z)), h) : Option PV × PH)))) (by decide) (L0 := [some (.inr (.inr a0)), some (.inl a1), none, none, none, none]) 4 rfl (Nat.le_of_ble_eq_true rfl) ?_ hz
  unfold f_Planner_scale
  refine PJ.lconst (pc := 0) (v := 1) d_Planner_scale_0 (by decide) ?_
  refine PJ.lstore_n (pc := 1) (L1 := [some (.inr (.inr a0)), some (.inl a1), some (.inr (.inl (1 : Int64))), none, none, none]) d_Planner_scale_1 (Nat.le_of_ble_eq_true rfl) rfl rfl ?_
  refine PJ.aload_n (pc := 2) d_Planner_scale_2 rfl ?_
  refine PJ.getR (pc := 3) fs_Planner_13 d_Planner_scale_3 (fun v1 => ?_)
  refine PJ.getR (pc := 6) fs_Planner_37 d_Planner_scale_6 (fun v2 => ?_)
  refine PJ.aload_n (pc := 9) d_Planner_scale_9 rfl ?_
  refine PJ.getI (pc := 10) fs_Planner_7 d_Planner_scale_10 (fun v3 => ?_)
  refine PJ.aload_n (pc := 13) d_Planner_scale_13 rfl ?_
  refine PJ.getR (pc := 14) fs_Planner_21 d_Planner_scale_14 (fun v4 => ?_)
  refine PJ.getI (pc := 17) fs_Planner_43 d_Planner_scale_17 (fun v5 => ?_)
  refine PJ.aload_n (pc := 20) d_Planner_scale_20 rfl ?_
  refine PJ.getR (pc := 21) fs_Planner_21 d_Planner_scale_21 (fun v6 => ?_)
  refine PJ.getI (pc := 24) fs_Planner_43 d_Planner_scale_24 (fun v7 => ?_)
  refine PJ.iload_n (pc := 27) d_Planner_scale_27 rfl ?_
  refine PJ.iadd (pc := 28) d_Planner_scale_28 ?_
  refine PJ.cVpI (pc := 29) cs_Planner_46 (fun z hz => PM_Reasons_between hz) (pj_fitb rfl) rfl rfl (Nat.le_of_ble_eq_true rfl) d_Planner_scale_29 (fun v8 => ?_)
  refine PJ.istore (pc := 32) (L1 := [some (.inr (.inr a0)), some (.inl a1), some (.inr (.inl (1 : Int64))), none, some (.inl v8), none]) d_Planner_scale_32 (Nat.le_of_ble_eq_true rfl) rfl rfl ?_
  refine PJ.iconst (pc := 34) (v := 0) d_Planner_scale_34 (by decide) ?_
  refine PJ.istore (pc := 35) (L1 := [some (.inr (.inr a0)), some (.inl a1), some (.inr (.inl (1 : Int64))), none, some (.inl v8), some (.inl (0 : Int32))]) d_Planner_scale_35 (Nat.le_of_ble_eq_true rfl) rfl rfl ?_
  refine PJ.mk (L1 := [none, none, some (.inr (.inl (1 : Int64))), none, some (.inl v8), some (.inl (0 : Int32))]) [false, false, true, false, true, true] rfl ?_
  refine PJ.bind (fun x10 : Int64 => ((56 : Nat), ([none, none, some (.inr (.inl x10)), none, none, none] : List (Option PV)), ([] : List PV), (h : PH), (0 : Nat), (0 : Nat))) (PJ.it (E := (fun s9 : Int64 × Int32 => ((37 : Nat), ([none, none, some (.inr (.inl s9.1)), none, some (.inl v8), some (.inl s9.2)] : List (Option PV)), ([] : List PV), (h : PH), (0 : Nat), (0 : Nat)))) (F := (fun x10 : Int64 => ((56 : Nat), ([none, none, some (.inr (.inl x10)), none, none, none] : List (Option PV)), ([] : List PV), (h : PH), (0 : Nat), (0 : Nat)))) (fun s9 => ?_) FU ((1 : Int64), (0 : Int32))) (fun x10 => ?_)
  · show PJ l G (pj_rm 2 0 0) Y_Planner_scale 37 [none, none, some (.inr (.inl s9.1)), none, some (.inl v8), some (.inl s9.2)] [] h 0 0 _ _
    refine PJ.iload (pc := 37) d_Planner_scale_37 rfl ?_
    refine PJ.iload (pc := 39) d_Planner_scale_39 rfl ?_
    refine PJ.icmp_ge (pc := 41) (tgt := 56) d_Planner_scale_41 (by decide) (fun _ => ?_) (fun _ => ?_)
    · refine PJ.mk (L1 := [none, none, some (.inr (.inl s9.1)), none, none, none]) [false, false, true, false, false, false] rfl ?_
      exact PJ.done rfl
    · refine PJ.lload_n (pc := 44) d_Planner_scale_44 rfl ?_
      refine PJ.ldc2 (pc := 45) (v := 100) d_Planner_scale_45 wd_977 ?_
      refine PJ.lmul (pc := 48) d_Planner_scale_48 ?_
      refine PJ.lstore_n (pc := 49) (L1 := [none, none, some (.inr (.inl (s9.1 * (100 : Int64)))), none, some (.inl v8), some (.inl s9.2)]) d_Planner_scale_49 (Nat.le_of_ble_eq_true rfl) rfl rfl ?_
      refine PJ.iinc (pc := 50) (v := 1) (L1 := [none, none, some (.inr (.inl (s9.1 * (100 : Int64)))), none, some (.inl v8), some (.inl (s9.2 + (1 : Int32)))]) d_Planner_scale_50 rfl (by decide) (Nat.le_of_ble_eq_true rfl) rfl rfl ?_
      refine PJ.goto (pc := 53) (tgt := 37) d_Planner_scale_53 (by decide) ?_
      exact PJ.done rfl
  · show PJ l G (pj_rm 2 0 0) Y_Planner_scale 56 [none, none, some (.inr (.inl x10)), none, none, none] [] h 0 0 _ _
    refine PJ.lload_n (pc := 56) d_Planner_scale_56 rfl ?_
    exact PJ.lretp (pc := 57) d_Planner_scale_57 rfl (Nat.le_of_ble_eq_true rfl) (Nat.le_of_ble_eq_true rfl)
theorem d_T_sharedDivisor_0 : decode Y_T_sharedDivisor.2.1 0 = .ok (.lload_n 0, 1) := by decide +kernel
theorem d_T_sharedDivisor_1 : decode Y_T_sharedDivisor.2.1 1 = .ok (.lstore 4, 2) := by decide +kernel
theorem d_T_sharedDivisor_3 : decode Y_T_sharedDivisor.2.1 3 = .ok (.lload_n 2, 1) := by decide +kernel
theorem d_T_sharedDivisor_4 : decode Y_T_sharedDivisor.2.1 4 = .ok (.lstore 6, 2) := by decide +kernel
theorem d_T_sharedDivisor_6 : decode Y_T_sharedDivisor.2.1 6 = .ok (.iconst 0, 1) := by decide +kernel
theorem d_T_sharedDivisor_7 : decode Y_T_sharedDivisor.2.1 7 = .ok (.istore 8, 2) := by decide +kernel
theorem d_T_sharedDivisor_9 : decode Y_T_sharedDivisor.2.1 9 = .ok (.iload 8, 2) := by decide +kernel
theorem d_T_sharedDivisor_11 : decode Y_T_sharedDivisor.2.1 11 = .ok (.sipush 200, 3) := by decide +kernel
theorem d_T_sharedDivisor_14 : decode Y_T_sharedDivisor.2.1 14 = .ok (.if_icmp .ge 31, 3) := by decide +kernel
theorem d_T_sharedDivisor_17 : decode Y_T_sharedDivisor.2.1 17 = .ok (.lload 6, 2) := by decide +kernel
theorem d_T_sharedDivisor_19 : decode Y_T_sharedDivisor.2.1 19 = .ok (.lconst 0, 1) := by decide +kernel
theorem d_T_sharedDivisor_20 : decode Y_T_sharedDivisor.2.1 20 = .ok (.lcmp, 1) := by decide +kernel
theorem d_T_sharedDivisor_21 : decode Y_T_sharedDivisor.2.1 21 = .ok (.ifCond .eq 24, 3) := by decide +kernel
theorem d_T_sharedDivisor_24 : decode Y_T_sharedDivisor.2.1 24 = .ok (.lload 4, 2) := by decide +kernel
theorem d_T_sharedDivisor_26 : decode Y_T_sharedDivisor.2.1 26 = .ok (.lload 6, 2) := by decide +kernel
theorem d_T_sharedDivisor_28 : decode Y_T_sharedDivisor.2.1 28 = .ok (.lrem, 1) := by decide +kernel
theorem d_T_sharedDivisor_29 : decode Y_T_sharedDivisor.2.1 29 = .ok (.lstore 9, 2) := by decide +kernel
theorem d_T_sharedDivisor_31 : decode Y_T_sharedDivisor.2.1 31 = .ok (.lload 6, 2) := by decide +kernel
theorem d_T_sharedDivisor_33 : decode Y_T_sharedDivisor.2.1 33 = .ok (.lstore 4, 2) := by decide +kernel
theorem d_T_sharedDivisor_35 : decode Y_T_sharedDivisor.2.1 35 = .ok (.lload 9, 2) := by decide +kernel
theorem d_T_sharedDivisor_37 : decode Y_T_sharedDivisor.2.1 37 = .ok (.lstore 6, 2) := by decide +kernel
theorem d_T_sharedDivisor_39 : decode Y_T_sharedDivisor.2.1 39 = .ok (.iinc 8 1, 3) := by decide +kernel
theorem d_T_sharedDivisor_42 : decode Y_T_sharedDivisor.2.1 42 = .ok (.goto (-33), 3) := by decide +kernel
theorem d_T_sharedDivisor_45 : decode Y_T_sharedDivisor.2.1 45 = .ok (.lload 4, 2) := by decide +kernel
theorem d_T_sharedDivisor_47 : decode Y_T_sharedDivisor.2.1 47 = .ok (.lreturn, 1) := by decide +kernel
def f_T_sharedDivisor (h : PH) (a0 : Int64) (a1 : Int64) : Option Int64 := (pj_it (X := Int64) (fun s1 : Int64 × Int64 × Int32 => if (200 : Int32) ≤ s1.2.2 then (some (.inr s1.1)) else (if (lg_cmp s1.2.1 (0 : Int64)) = 0 then (some (.inr s1.1)) else (if s1.2.1 = 0 then none else (some (.inl (s1.2.1, (s1.1 - s1.1 / s1.2.1 * s1.2.1), (s1.2.2 + (1 : Int32)))))))) FU (a0, a1, (0 : Int32))).bind fun x2 => some x2
set_option maxRecDepth 20000 in
theorem PM_T_sharedDivisor {l : Launch} {G : Cx} {h : PH} {a0 : Int64} {a1 : Int64} {z : Int64} (hz : f_T_sharedDivisor h a0 a1 = some z) : PM l G 1 0 0 Y_T_sharedDivisor [.inr (.inl a0), .inr (.inl a1)] h (some (.inr (.inl z)), h) := by
  refine PM.of (Y := Y_T_sharedDivisor) (cv := (fun z : Int64 => (((some (.inr (.inl z)), h) : Option PV × PH)))) (by decide) (L0 := [some (.inr (.inl a0)), none, some (.inr (.inl a1)), none, none, none, none, none, none, none, none]) 7 rfl (Nat.le_of_ble_eq_true rfl) ?_ hz
  unfold f_T_sharedDivisor
  refine PJ.lload_n (pc := 0) d_T_sharedDivisor_0 rfl ?_
  refine PJ.lstore (pc := 1) (L1 := [some (.inr (.inl a0)), none, some (.inr (.inl a1)), none, some (.inr (.inl a0)), none, none, none, none, none, none]) d_T_sharedDivisor_1 (Nat.le_of_ble_eq_true rfl) rfl rfl ?_
  refine PJ.lload_n (pc := 3) d_T_sharedDivisor_3 rfl ?_
  refine PJ.lstore (pc := 4) (L1 := [some (.inr (.inl a0)), none, some (.inr (.inl a1)), none, some (.inr (.inl a0)), none, some (.inr (.inl a1)), none, none, none, none]) d_T_sharedDivisor_4 (Nat.le_of_ble_eq_true rfl) rfl rfl ?_
  refine PJ.iconst (pc := 6) (v := 0) d_T_sharedDivisor_6 (by decide) ?_
  refine PJ.istore (pc := 7) (L1 := [some (.inr (.inl a0)), none, some (.inr (.inl a1)), none, some (.inr (.inl a0)), none, some (.inr (.inl a1)), none, some (.inl (0 : Int32)), none, none]) d_T_sharedDivisor_7 (Nat.le_of_ble_eq_true rfl) rfl rfl ?_
  refine PJ.mk (L1 := [none, none, none, none, some (.inr (.inl a0)), none, some (.inr (.inl a1)), none, some (.inl (0 : Int32)), none, none]) [false, false, false, false, true, false, true, false, true, false, false] rfl ?_
  refine PJ.bind (fun x2 : Int64 => ((45 : Nat), ([none, none, none, none, some (.inr (.inl x2)), none, none, none, none, none, none] : List (Option PV)), ([] : List PV), (h : PH), (0 : Nat), (0 : Nat))) (PJ.it (E := (fun s1 : Int64 × Int64 × Int32 => ((9 : Nat), ([none, none, none, none, some (.inr (.inl s1.1)), none, some (.inr (.inl s1.2.1)), none, some (.inl s1.2.2), none, none] : List (Option PV)), ([] : List PV), (h : PH), (0 : Nat), (0 : Nat)))) (F := (fun x2 : Int64 => ((45 : Nat), ([none, none, none, none, some (.inr (.inl x2)), none, none, none, none, none, none] : List (Option PV)), ([] : List PV), (h : PH), (0 : Nat), (0 : Nat)))) (fun s1 => ?_) FU (a0, a1, (0 : Int32))) (fun x2 => ?_)
  · show PJ l G (pj_rm 1 0 0) Y_T_sharedDivisor 9 [none, none, none, none, some (.inr (.inl s1.1)), none, some (.inr (.inl s1.2.1)), none, some (.inl s1.2.2), none, none] [] h 0 0 _ _
    refine PJ.iload (pc := 9) d_T_sharedDivisor_9 rfl ?_
    refine PJ.sipush (pc := 11) (v := 200) d_T_sharedDivisor_11 (by decide) ?_
    refine PJ.icmp_ge (pc := 14) (tgt := 45) d_T_sharedDivisor_14 (by decide) (fun _ => ?_) (fun _ => ?_)
    · refine PJ.mk (L1 := [none, none, none, none, some (.inr (.inl s1.1)), none, none, none, none, none, none]) [false, false, false, false, true, false, false, false, false, false, false] rfl ?_
      exact PJ.done rfl
    · refine PJ.lload (pc := 17) d_T_sharedDivisor_17 rfl ?_
      refine PJ.lconst (pc := 19) (v := 0) d_T_sharedDivisor_19 (by decide) ?_
      refine PJ.lcmp (pc := 20) d_T_sharedDivisor_20 ?_
      refine PJ.if_eq (pc := 21) (tgt := 45) d_T_sharedDivisor_21 (by decide) (fun _ => ?_) (fun _ => ?_)
      · refine PJ.mk (L1 := [none, none, none, none, some (.inr (.inl s1.1)), none, none, none, none, none, none]) [false, false, false, false, true, false, false, false, false, false, false] rfl ?_
        exact PJ.done rfl
      · refine PJ.lload (pc := 24) d_T_sharedDivisor_24 rfl ?_
        refine PJ.lload (pc := 26) d_T_sharedDivisor_26 rfl ?_
        refine PJ.lrem (pc := 28) d_T_sharedDivisor_28 (fun _ => ?_)
        refine PJ.lstore (pc := 29) (L1 := [none, none, none, none, some (.inr (.inl s1.1)), none, some (.inr (.inl s1.2.1)), none, some (.inl s1.2.2), some (.inr (.inl (s1.1 - s1.1 / s1.2.1 * s1.2.1))), none]) d_T_sharedDivisor_29 (Nat.le_of_ble_eq_true rfl) rfl rfl ?_
        refine PJ.lload (pc := 31) d_T_sharedDivisor_31 rfl ?_
        refine PJ.lstore (pc := 33) (L1 := [none, none, none, none, some (.inr (.inl s1.2.1)), none, some (.inr (.inl s1.2.1)), none, some (.inl s1.2.2), some (.inr (.inl (s1.1 - s1.1 / s1.2.1 * s1.2.1))), none]) d_T_sharedDivisor_33 (Nat.le_of_ble_eq_true rfl) rfl rfl ?_
        refine PJ.lload (pc := 35) d_T_sharedDivisor_35 rfl ?_
        refine PJ.lstore (pc := 37) (L1 := [none, none, none, none, some (.inr (.inl s1.2.1)), none, some (.inr (.inl (s1.1 - s1.1 / s1.2.1 * s1.2.1))), none, some (.inl s1.2.2), some (.inr (.inl (s1.1 - s1.1 / s1.2.1 * s1.2.1))), none]) d_T_sharedDivisor_37 (Nat.le_of_ble_eq_true rfl) rfl rfl ?_
        refine PJ.iinc (pc := 39) (v := 1) (L1 := [none, none, none, none, some (.inr (.inl s1.2.1)), none, some (.inr (.inl (s1.1 - s1.1 / s1.2.1 * s1.2.1))), none, some (.inl (s1.2.2 + (1 : Int32))), some (.inr (.inl (s1.1 - s1.1 / s1.2.1 * s1.2.1))), none]) d_T_sharedDivisor_39 rfl (by decide) (Nat.le_of_ble_eq_true rfl) rfl rfl ?_
        refine PJ.goto (pc := 42) (tgt := 9) d_T_sharedDivisor_42 (by decide) ?_
        refine PJ.mk (L1 := [none, none, none, none, some (.inr (.inl s1.2.1)), none, some (.inr (.inl (s1.1 - s1.1 / s1.2.1 * s1.2.1))), none, some (.inl (s1.2.2 + (1 : Int32))), none, none]) [false, false, false, false, true, false, true, false, true, false, false] rfl ?_
        exact PJ.done rfl
  · show PJ l G (pj_rm 1 0 0) Y_T_sharedDivisor 45 [none, none, none, none, some (.inr (.inl x2)), none, none, none, none, none, none] [] h 0 0 _ _
    refine PJ.lload (pc := 45) d_T_sharedDivisor_45 rfl ?_
    exact PJ.lretp (pc := 47) d_T_sharedDivisor_47 rfl (Nat.le_of_ble_eq_true rfl) (Nat.le_of_ble_eq_true rfl)
theorem d_T_fineMean_0 : decode Y_T_fineMean.2.1 0 = .ok (.aload_n 0, 1) := by decide +kernel
theorem d_T_fineMean_1 : decode Y_T_fineMean.2.1 1 = .ok (.iconst 0, 1) := by decide +kernel
theorem d_T_fineMean_2 : decode Y_T_fineMean.2.1 2 = .ok (.putfield 82, 3) := by decide +kernel
theorem d_T_fineMean_5 : decode Y_T_fineMean.2.1 5 = .ok (.lload_n 1, 1) := by decide +kernel
theorem d_T_fineMean_6 : decode Y_T_fineMean.2.1 6 = .ok (.invokestatic 225, 3) := by decide +kernel
theorem d_T_fineMean_9 : decode Y_T_fineMean.2.1 9 = .ok (.lload_n 3, 1) := by decide +kernel
theorem d_T_fineMean_10 : decode Y_T_fineMean.2.1 10 = .ok (.invokestatic 231, 3) := by decide +kernel
theorem d_T_fineMean_13 : decode Y_T_fineMean.2.1 13 = .ok (.lstore 6, 2) := by decide +kernel
theorem d_T_fineMean_15 : decode Y_T_fineMean.2.1 15 = .ok (.lload 6, 2) := by decide +kernel
theorem d_T_fineMean_17 : decode Y_T_fineMean.2.1 17 = .ok (.lconst 0, 1) := by decide +kernel
theorem d_T_fineMean_18 : decode Y_T_fineMean.2.1 18 = .ok (.lcmp, 1) := by decide +kernel
theorem d_T_fineMean_19 : decode Y_T_fineMean.2.1 19 = .ok (.ifCond .ne 14, 3) := by decide +kernel
theorem d_T_fineMean_22 : decode Y_T_fineMean.2.1 22 = .ok (.iload 5, 2) := by decide +kernel
theorem d_T_fineMean_24 : decode Y_T_fineMean.2.1 24 = .ok (.ifCond .eq 7, 3) := by decide +kernel
theorem d_T_fineMean_27 : decode Y_T_fineMean.2.1 27 = .ok (.lload_n 3, 1) := by decide +kernel
theorem d_T_fineMean_28 : decode Y_T_fineMean.2.1 28 = .ok (.goto 4, 3) := by decide +kernel
theorem d_T_fineMean_31 : decode Y_T_fineMean.2.1 31 = .ok (.lload_n 1, 1) := by decide +kernel
theorem d_T_fineMean_32 : decode Y_T_fineMean.2.1 32 = .ok (.lreturn, 1) := by decide +kernel
theorem d_T_fineMean_33 : decode Y_T_fineMean.2.1 33 = .ok (.iload 5, 2) := by decide +kernel
theorem d_T_fineMean_35 : decode Y_T_fineMean.2.1 35 = .ok (.ifCond .eq 10, 3) := by decide +kernel
theorem d_T_fineMean_38 : decode Y_T_fineMean.2.1 38 = .ok (.lload_n 3, 1) := by decide +kernel
theorem d_T_fineMean_39 : decode Y_T_fineMean.2.1 39 = .ok (.lload 6, 2) := by decide +kernel
theorem d_T_fineMean_41 : decode Y_T_fineMean.2.1 41 = .ok (.ldiv, 1) := by decide +kernel
theorem d_T_fineMean_42 : decode Y_T_fineMean.2.1 42 = .ok (.goto 7, 3) := by decide +kernel
theorem d_T_fineMean_45 : decode Y_T_fineMean.2.1 45 = .ok (.lload_n 1, 1) := by decide +kernel
theorem d_T_fineMean_46 : decode Y_T_fineMean.2.1 46 = .ok (.lload 6, 2) := by decide +kernel
theorem d_T_fineMean_48 : decode Y_T_fineMean.2.1 48 = .ok (.ldiv, 1) := by decide +kernel
theorem d_T_fineMean_49 : decode Y_T_fineMean.2.1 49 = .ok (.lreturn, 1) := by decide +kernel
def f_T_fineMean (h : PH) (a0 : Option Nat) (a1 : Int64) (a2 : Int64) (a3 : Int32) : Option (Int64 × PH) := (sF h 10 a0 12 (.inl (0 : Int32))).bind fun h1 => (f_T_sharedDivisor h1 (if 0 < a1 then a1 else -a1) a2).bind fun v2 => if ¬ (lg_cmp v2 (0 : Int64)) = 0 then (if a3 = 0 then (if v2 = 0 then none else (some ((a1 / v2), h1))) else (if v2 = 0 then none else (some ((a2 / v2), h1)))) else (if a3 = 0 then (some (a1, h1)) else (some (a2, h1)))
set_option maxRecDepth 20000 in
theorem PM_T_fineMean {l : Launch} {G : Cx} {h : PH} {a0 : Option Nat} {a1 : Int64} {a2 : Int64} {a3 : Int32} {z : (Int64 × PH)} (hz : f_T_fineMean h a0 a1 a2 a3 = some z) : PM l G 2 0 0 Y_T_fineMean [.inr (.inr a0), .inr (.inl a1), .inr (.inl a2), .inl a3] h (some (.inr (.inl z.1)), z.2) := by
  refine PM.of (Y := Y_T_fineMean) (cv := (fun z : (Int64 × PH) => (((some (.inr (.inl z.1)), z.2) : Option PV × PH)))) (by decide) (L0 := [some (.inr (.inr a0)), some (.inr (.inl a1)), none, some (.inr (.inl a2)), none, some (.inl a3), none, none]) 2 rfl (Nat.le_of_ble_eq_true rfl) ?_ hz
  unfold f_T_fineMean
  refine PJ.aload_n (pc := 0) d_T_fineMean_0 rfl ?_
  refine PJ.iconst (pc := 1) (v := 0) d_T_fineMean_1 (by decide) ?_
  refine PJ.putI (pc := 2) ps_T_82 d_T_fineMean_2 (fun h1 => ?_)
  refine PJ.lload_n (pc := 5) d_T_fineMean_5 rfl ?_
  refine PJ.mabsJ (pc := 6) (idx := 225) wd_999 (Nat.le_of_ble_eq_true rfl) (Nat.le_of_ble_eq_true rfl) (Nat.le_of_ble_eq_true rfl) (Nat.le_of_ble_eq_true rfl) (Nat.le_of_ble_eq_true rfl) d_T_fineMean_6 ?_
  refine PJ.lload_n (pc := 9) d_T_fineMean_9 rfl ?_
  refine PJ.cSpL (pc := 10) cs_T_231 (fun z hz => PM_T_sharedDivisor hz) (pj_fitb rfl) rfl rfl (Nat.le_of_ble_eq_true rfl) d_T_fineMean_10 (fun v2 => ?_)
  refine PJ.lstore (pc := 13) (L1 := [some (.inr (.inr a0)), some (.inr (.inl a1)), none, some (.inr (.inl a2)), none, some (.inl a3), some (.inr (.inl v2)), none]) d_T_fineMean_13 (Nat.le_of_ble_eq_true rfl) rfl rfl ?_
  refine PJ.lload (pc := 15) d_T_fineMean_15 rfl ?_
  refine PJ.lconst (pc := 17) (v := 0) d_T_fineMean_17 (by decide) ?_
  refine PJ.lcmp (pc := 18) d_T_fineMean_18 ?_
  refine PJ.if_ne (pc := 19) (tgt := 33) d_T_fineMean_19 (by decide) (fun _ => ?_) (fun _ => ?_)
  · refine PJ.iload (pc := 33) d_T_fineMean_33 rfl ?_
    refine PJ.if_eq (pc := 35) (tgt := 45) d_T_fineMean_35 (by decide) (fun _ => ?_) (fun _ => ?_)
    · refine PJ.lload_n (pc := 45) d_T_fineMean_45 rfl ?_
      refine PJ.lload (pc := 46) d_T_fineMean_46 rfl ?_
      refine PJ.ldiv (pc := 48) d_T_fineMean_48 (fun _ => ?_)
      exact PJ.lret (pc := 49) d_T_fineMean_49 rfl (Nat.le_of_ble_eq_true rfl) (Nat.le_of_ble_eq_true rfl)
    · refine PJ.lload_n (pc := 38) d_T_fineMean_38 rfl ?_
      refine PJ.lload (pc := 39) d_T_fineMean_39 rfl ?_
      refine PJ.ldiv (pc := 41) d_T_fineMean_41 (fun _ => ?_)
      refine PJ.goto (pc := 42) (tgt := 49) d_T_fineMean_42 (by decide) ?_
      exact PJ.lret (pc := 49) d_T_fineMean_49 rfl (Nat.le_of_ble_eq_true rfl) (Nat.le_of_ble_eq_true rfl)
  · refine PJ.iload (pc := 22) d_T_fineMean_22 rfl ?_
    refine PJ.if_eq (pc := 24) (tgt := 31) d_T_fineMean_24 (by decide) (fun _ => ?_) (fun _ => ?_)
    · refine PJ.lload_n (pc := 31) d_T_fineMean_31 rfl ?_
      exact PJ.lret (pc := 32) d_T_fineMean_32 rfl (Nat.le_of_ble_eq_true rfl) (Nat.le_of_ble_eq_true rfl)
    · refine PJ.lload_n (pc := 27) d_T_fineMean_27 rfl ?_
      refine PJ.goto (pc := 28) (tgt := 32) d_T_fineMean_28 (by decide) ?_
      exact PJ.lret (pc := 32) d_T_fineMean_32 rfl (Nat.le_of_ble_eq_true rfl) (Nat.le_of_ble_eq_true rfl)
theorem d_Now_move_0 : decode Y_Now_move.2.1 0 = .ok (.aload_n 0, 1) := by decide +kernel
theorem d_Now_move_1 : decode Y_Now_move.2.1 1 = .ok (.getfield 21, 3) := by decide +kernel
theorem d_Now_move_4 : decode Y_Now_move.2.1 4 = .ok (.iload_n 1, 1) := by decide +kernel
theorem d_Now_move_5 : decode Y_Now_move.2.1 5 = .ok (.iload_n 2, 1) := by decide +kernel
theorem d_Now_move_6 : decode Y_Now_move.2.1 6 = .ok (.iastore, 1) := by decide +kernel
theorem d_Now_move_7 : decode Y_Now_move.2.1 7 = .ok (.aload_n 0, 1) := by decide +kernel
theorem d_Now_move_8 : decode Y_Now_move.2.1 8 = .ok (.getfield 25, 3) := by decide +kernel
theorem d_Now_move_11 : decode Y_Now_move.2.1 11 = .ok (.iload_n 1, 1) := by decide +kernel
theorem d_Now_move_12 : decode Y_Now_move.2.1 12 = .ok (.dup2, 1) := by decide +kernel
theorem d_Now_move_13 : decode Y_Now_move.2.1 13 = .ok (.iaload, 1) := by decide +kernel
theorem d_Now_move_14 : decode Y_Now_move.2.1 14 = .ok (.iconst 1, 1) := by decide +kernel
theorem d_Now_move_15 : decode Y_Now_move.2.1 15 = .ok (.iadd, 1) := by decide +kernel
theorem d_Now_move_16 : decode Y_Now_move.2.1 16 = .ok (.iastore, 1) := by decide +kernel
theorem d_Now_move_17 : decode Y_Now_move.2.1 17 = .ok (.aload_n 0, 1) := by decide +kernel
theorem d_Now_move_18 : decode Y_Now_move.2.1 18 = .ok (.getfield 28, 3) := by decide +kernel
theorem d_Now_move_21 : decode Y_Now_move.2.1 21 = .ok (.iload_n 1, 1) := by decide +kernel
theorem d_Now_move_22 : decode Y_Now_move.2.1 22 = .ok (.dup2, 1) := by decide +kernel
theorem d_Now_move_23 : decode Y_Now_move.2.1 23 = .ok (.iaload, 1) := by decide +kernel
theorem d_Now_move_24 : decode Y_Now_move.2.1 24 = .ok (.iload_n 3, 1) := by decide +kernel
theorem d_Now_move_25 : decode Y_Now_move.2.1 25 = .ok (.iadd, 1) := by decide +kernel
theorem d_Now_move_26 : decode Y_Now_move.2.1 26 = .ok (.iastore, 1) := by decide +kernel
theorem d_Now_move_27 : decode Y_Now_move.2.1 27 = .ok (.aload_n 0, 1) := by decide +kernel
theorem d_Now_move_28 : decode Y_Now_move.2.1 28 = .ok (.getfield 31, 3) := by decide +kernel
theorem d_Now_move_31 : decode Y_Now_move.2.1 31 = .ok (.iload_n 1, 1) := by decide +kernel
theorem d_Now_move_32 : decode Y_Now_move.2.1 32 = .ok (.aload_n 0, 1) := by decide +kernel
theorem d_Now_move_33 : decode Y_Now_move.2.1 33 = .ok (.getfield 9, 3) := by decide +kernel
theorem d_Now_move_36 : decode Y_Now_move.2.1 36 = .ok (.iastore, 1) := by decide +kernel
theorem d_Now_move_37 : decode Y_Now_move.2.1 37 = .ok (.return_, 1) := by decide +kernel
def f_Now_move (h : PH) (a0 : Option Nat) (a1 : Int32) (a2 : Int32) (a3 : Int32) : Option PH := (gR h 2 a0 3).bind fun v1 => (sA h 50 v1 a1 (.inl a2)).bind fun h2 => (gR h2 2 a0 4).bind fun v3 => (aI h2 v3 a1).bind fun v4 => (sA h2 50 v3 a1 (.inl (v4 + (1 : Int32)))).bind fun h5 => (gR h5 2 a0 5).bind fun v6 => (aI h5 v6 a1).bind fun v7 => (sA h5 50 v6 a1 (.inl (v7 + a3))).bind fun h8 => (gR h8 2 a0 6).bind fun v9 => (gI h8 2 a0 0).bind fun v10 => (sA h8 50 v9 a1 (.inl v10)).bind fun h11 => some h11
set_option maxRecDepth 20000 in
theorem PM_Now_move {l : Launch} {G : Cx} {h : PH} {a0 : Option Nat} {a1 : Int32} {a2 : Int32} {a3 : Int32} {z : PH} (hz : f_Now_move h a0 a1 a2 a3 = some z) : PM l G 1 0 0 Y_Now_move [.inr (.inr a0), .inl a1, .inl a2, .inl a3] h (none, z) := by
  refine PM.of (Y := Y_Now_move) (cv := (fun z : PH => (((none, z) : Option PV × PH)))) (by decide) (L0 := [some (.inr (.inr a0)), some (.inl a1), some (.inl a2), some (.inl a3)]) 0 rfl (Nat.le_of_ble_eq_true rfl) ?_ hz
  unfold f_Now_move
  refine PJ.aload_n (pc := 0) d_Now_move_0 rfl ?_
  refine PJ.getR (pc := 1) fs_Now_21 d_Now_move_1 (fun v1 => ?_)
  refine PJ.iload_n (pc := 4) d_Now_move_4 rfl ?_
  refine PJ.iload_n (pc := 5) d_Now_move_5 rfl ?_
  refine PJ.iast (pc := 6) d_Now_move_6 (fun h2 => ?_)
  refine PJ.aload_n (pc := 7) d_Now_move_7 rfl ?_
  refine PJ.getR (pc := 8) fs_Now_25 d_Now_move_8 (fun v3 => ?_)
  refine PJ.iload_n (pc := 11) d_Now_move_11 rfl ?_
  refine PJ.dup2 (pc := 12) d_Now_move_12 rfl rfl ?_
  refine PJ.iald (pc := 13) d_Now_move_13 (fun v4 => ?_)
  refine PJ.iconst (pc := 14) (v := 1) d_Now_move_14 (by decide) ?_
  refine PJ.iadd (pc := 15) d_Now_move_15 ?_
  refine PJ.iast (pc := 16) d_Now_move_16 (fun h5 => ?_)
  refine PJ.aload_n (pc := 17) d_Now_move_17 rfl ?_
  refine PJ.getR (pc := 18) fs_Now_28 d_Now_move_18 (fun v6 => ?_)
  refine PJ.iload_n (pc := 21) d_Now_move_21 rfl ?_
  refine PJ.dup2 (pc := 22) d_Now_move_22 rfl rfl ?_
  refine PJ.iald (pc := 23) d_Now_move_23 (fun v7 => ?_)
  refine PJ.iload_n (pc := 24) d_Now_move_24 rfl ?_
  refine PJ.iadd (pc := 25) d_Now_move_25 ?_
  refine PJ.iast (pc := 26) d_Now_move_26 (fun h8 => ?_)
  refine PJ.aload_n (pc := 27) d_Now_move_27 rfl ?_
  refine PJ.getR (pc := 28) fs_Now_31 d_Now_move_28 (fun v9 => ?_)
  refine PJ.iload_n (pc := 31) d_Now_move_31 rfl ?_
  refine PJ.aload_n (pc := 32) d_Now_move_32 rfl ?_
  refine PJ.getI (pc := 33) fs_Now_9 d_Now_move_33 (fun v10 => ?_)
  refine PJ.iast (pc := 36) d_Now_move_36 (fun h11 => ?_)
  exact PJ.vret (pc := 37) d_Now_move_37 rfl (Nat.le_of_ble_eq_true rfl) (Nat.le_of_ble_eq_true rfl)
theorem d_Reasons_nextOf_0 : decode Y_Reasons_nextOf.2.1 0 = .ok (.iload_n 3, 1) := by decide +kernel
theorem d_Reasons_nextOf_1 : decode Y_Reasons_nextOf.2.1 1 = .ok (.istore 4, 2) := by decide +kernel
theorem d_Reasons_nextOf_3 : decode Y_Reasons_nextOf.2.1 3 = .ok (.iload 4, 2) := by decide +kernel
theorem d_Reasons_nextOf_5 : decode Y_Reasons_nextOf.2.1 5 = .ok (.aload_n 0, 1) := by decide +kernel
theorem d_Reasons_nextOf_6 : decode Y_Reasons_nextOf.2.1 6 = .ok (.getfield 9, 3) := by decide +kernel
theorem d_Reasons_nextOf_9 : decode Y_Reasons_nextOf.2.1 9 = .ok (.if_icmp .ge 34, 3) := by decide +kernel
theorem d_Reasons_nextOf_12 : decode Y_Reasons_nextOf.2.1 12 = .ok (.aload_n 0, 1) := by decide +kernel
theorem d_Reasons_nextOf_13 : decode Y_Reasons_nextOf.2.1 13 = .ok (.getfield 15, 3) := by decide +kernel
theorem d_Reasons_nextOf_16 : decode Y_Reasons_nextOf.2.1 16 = .ok (.iload 4, 2) := by decide +kernel
theorem d_Reasons_nextOf_18 : decode Y_Reasons_nextOf.2.1 18 = .ok (.iaload, 1) := by decide +kernel
theorem d_Reasons_nextOf_19 : decode Y_Reasons_nextOf.2.1 19 = .ok (.iload_n 1, 1) := by decide +kernel
theorem d_Reasons_nextOf_20 : decode Y_Reasons_nextOf.2.1 20 = .ok (.if_icmp .ne 17, 3) := by decide +kernel
theorem d_Reasons_nextOf_23 : decode Y_Reasons_nextOf.2.1 23 = .ok (.aload_n 0, 1) := by decide +kernel
theorem d_Reasons_nextOf_24 : decode Y_Reasons_nextOf.2.1 24 = .ok (.getfield 22, 3) := by decide +kernel
theorem d_Reasons_nextOf_27 : decode Y_Reasons_nextOf.2.1 27 = .ok (.iload 4, 2) := by decide +kernel
theorem d_Reasons_nextOf_29 : decode Y_Reasons_nextOf.2.1 29 = .ok (.iaload, 1) := by decide +kernel
theorem d_Reasons_nextOf_30 : decode Y_Reasons_nextOf.2.1 30 = .ok (.iload_n 2, 1) := by decide +kernel
theorem d_Reasons_nextOf_31 : decode Y_Reasons_nextOf.2.1 31 = .ok (.if_icmp .ne 6, 3) := by decide +kernel
theorem d_Reasons_nextOf_34 : decode Y_Reasons_nextOf.2.1 34 = .ok (.iload 4, 2) := by decide +kernel
theorem d_Reasons_nextOf_36 : decode Y_Reasons_nextOf.2.1 36 = .ok (.ireturn, 1) := by decide +kernel
theorem d_Reasons_nextOf_37 : decode Y_Reasons_nextOf.2.1 37 = .ok (.iinc 4 1, 3) := by decide +kernel
theorem d_Reasons_nextOf_40 : decode Y_Reasons_nextOf.2.1 40 = .ok (.goto (-37), 3) := by decide +kernel
theorem d_Reasons_nextOf_43 : decode Y_Reasons_nextOf.2.1 43 = .ok (.aload_n 0, 1) := by decide +kernel
theorem d_Reasons_nextOf_44 : decode Y_Reasons_nextOf.2.1 44 = .ok (.getfield 9, 3) := by decide +kernel
theorem d_Reasons_nextOf_47 : decode Y_Reasons_nextOf.2.1 47 = .ok (.ireturn, 1) := by decide +kernel
def f_Reasons_nextOf (h : PH) (a0 : Option Nat) (a1 : Int32) (a2 : Int32) (a3 : Int32) : Option Int32 := (pj_it (X := (Unit) ⊕ (Int32)) (fun s1 : Int32 => (gI h 6 a0 0).bind fun v3 => if v3 ≤ s1 then (some (.inr (.inl ()))) else ((gR h 6 a0 1).bind fun v4 => (aI h v4 s1).bind fun v5 => if ¬ v5 = a1 then (some (.inl (s1 + (1 : Int32)))) else ((gR h 6 a0 3).bind fun v6 => (aI h v6 s1).bind fun v7 => if ¬ v7 = a2 then (some (.inl (s1 + (1 : Int32)))) else (some (.inr (.inr s1)))))) FU a3).bind fun x2 => match x2 with | (.inl yx2_0) => (gI h 6 a0 0).bind fun v8 => some v8 | (.inr yx2_1) => some yx2_1
set_option maxRecDepth 20000 in
theorem PM_Reasons_nextOf {l : Launch} {G : Cx} {h : PH} {a0 : Option Nat} {a1 : Int32} {a2 : Int32} {a3 : Int32} {z : Int32} (hz : f_Reasons_nextOf h a0 a1 a2 a3 = some z) : PM l G 1 0 0 Y_Reasons_nextOf [.inr (.inr a0), .inl a1, .inl a2, .inl a3] h (some (.inl z), h) := by
  refine PM.of (Y := Y_Reasons_nextOf) (cv := (fun z : Int32 => (((some (.inl z), h) : Option PV × PH)))) (by decide) (L0 := [some (.inr (.inr a0)), some (.inl a1), some (.inl a2), some (.inl a3), none]) 1 rfl (Nat.le_of_ble_eq_true rfl) ?_ hz
  unfold f_Reasons_nextOf
  refine PJ.iload_n (pc := 0) d_Reasons_nextOf_0 rfl ?_
  refine PJ.istore (pc := 1) (L1 := [some (.inr (.inr a0)), some (.inl a1), some (.inl a2), some (.inl a3), some (.inl a3)]) d_Reasons_nextOf_1 (Nat.le_of_ble_eq_true rfl) rfl rfl ?_
  refine PJ.mk (L1 := [some (.inr (.inr a0)), some (.inl a1), some (.inl a2), none, some (.inl a3)]) [true, true, true, false, true] rfl ?_
  refine PJ.bind (fun x2 : (Unit) ⊕ (Int32) => match x2 with | (.inl y0) => ((43 : Nat), ([some (.inr (.inr a0)), none, none, none, none] : List (Option PV)), ([] : List PV), (h : PH), (0 : Nat), (0 : Nat)) | (.inr y1) => ((34 : Nat), ([none, none, none, none, some (.inl y1)] : List (Option PV)), ([] : List PV), (h : PH), (0 : Nat), (0 : Nat))) (PJ.it (E := (fun s1 : Int32 => ((3 : Nat), ([some (.inr (.inr a0)), some (.inl a1), some (.inl a2), none, some (.inl s1)] : List (Option PV)), ([] : List PV), (h : PH), (0 : Nat), (0 : Nat)))) (F := (fun x2 : (Unit) ⊕ (Int32) => match x2 with | (.inl y0) => ((43 : Nat), ([some (.inr (.inr a0)), none, none, none, none] : List (Option PV)), ([] : List PV), (h : PH), (0 : Nat), (0 : Nat)) | (.inr y1) => ((34 : Nat), ([none, none, none, none, some (.inl y1)] : List (Option PV)), ([] : List PV), (h : PH), (0 : Nat), (0 : Nat)))) (fun s1 => ?_) FU a3) (fun x2 => ?_)
  · show PJ l G (pj_rm 1 0 0) Y_Reasons_nextOf 3 [some (.inr (.inr a0)), some (.inl a1), some (.inl a2), none, some (.inl s1)] [] h 0 0 _ _
    refine PJ.iload (pc := 3) d_Reasons_nextOf_3 rfl ?_
    refine PJ.aload_n (pc := 5) d_Reasons_nextOf_5 rfl ?_
    refine PJ.getI (pc := 6) fs_Reasons_9 d_Reasons_nextOf_6 (fun v3 => ?_)
    refine PJ.icmp_ge (pc := 9) (tgt := 43) d_Reasons_nextOf_9 (by decide) (fun _ => ?_) (fun _ => ?_)
    · refine PJ.mk (L1 := [some (.inr (.inr a0)), none, none, none, none]) [true, false, false, false, false] rfl ?_
      exact PJ.done rfl
    · refine PJ.aload_n (pc := 12) d_Reasons_nextOf_12 rfl ?_
      refine PJ.getR (pc := 13) fs_Reasons_15 d_Reasons_nextOf_13 (fun v4 => ?_)
      refine PJ.iload (pc := 16) d_Reasons_nextOf_16 rfl ?_
      refine PJ.iald (pc := 18) d_Reasons_nextOf_18 (fun v5 => ?_)
      refine PJ.iload_n (pc := 19) d_Reasons_nextOf_19 rfl ?_
      refine PJ.icmp_ne (pc := 20) (tgt := 37) d_Reasons_nextOf_20 (by decide) (fun _ => ?_) (fun _ => ?_)
      · refine PJ.iinc (pc := 37) (v := 1) (L1 := [some (.inr (.inr a0)), some (.inl a1), some (.inl a2), none, some (.inl (s1 + (1 : Int32)))]) d_Reasons_nextOf_37 rfl (by decide) (Nat.le_of_ble_eq_true rfl) rfl rfl ?_
        refine PJ.goto (pc := 40) (tgt := 3) d_Reasons_nextOf_40 (by decide) ?_
        exact PJ.done rfl
      · refine PJ.aload_n (pc := 23) d_Reasons_nextOf_23 rfl ?_
        refine PJ.getR (pc := 24) fs_Reasons_22 d_Reasons_nextOf_24 (fun v6 => ?_)
        refine PJ.iload (pc := 27) d_Reasons_nextOf_27 rfl ?_
        refine PJ.iald (pc := 29) d_Reasons_nextOf_29 (fun v7 => ?_)
        refine PJ.iload_n (pc := 30) d_Reasons_nextOf_30 rfl ?_
        refine PJ.icmp_ne (pc := 31) (tgt := 37) d_Reasons_nextOf_31 (by decide) (fun _ => ?_) (fun _ => ?_)
        · refine PJ.iinc (pc := 37) (v := 1) (L1 := [some (.inr (.inr a0)), some (.inl a1), some (.inl a2), none, some (.inl (s1 + (1 : Int32)))]) d_Reasons_nextOf_37 rfl (by decide) (Nat.le_of_ble_eq_true rfl) rfl rfl ?_
          refine PJ.goto (pc := 40) (tgt := 3) d_Reasons_nextOf_40 (by decide) ?_
          exact PJ.done rfl
        · refine PJ.mk (L1 := [none, none, none, none, some (.inl s1)]) [false, false, false, false, true] rfl ?_
          exact PJ.done rfl
  · rcases x2 with yx2_0 | yx2_1
    · show PJ l G (pj_rm 1 0 0) Y_Reasons_nextOf 43 [some (.inr (.inr a0)), none, none, none, none] [] h 0 0 _ _
      refine PJ.aload_n (pc := 43) d_Reasons_nextOf_43 rfl ?_
      refine PJ.getI (pc := 44) fs_Reasons_9 d_Reasons_nextOf_44 (fun v8 => ?_)
      exact PJ.iretp (pc := 47) d_Reasons_nextOf_47 rfl (Nat.le_of_ble_eq_true rfl) (Nat.le_of_ble_eq_true rfl)
    · show PJ l G (pj_rm 1 0 0) Y_Reasons_nextOf 34 [none, none, none, none, some (.inl yx2_1)] [] h 0 0 _ _
      refine PJ.iload (pc := 34) d_Reasons_nextOf_34 rfl ?_
      exact PJ.iretp (pc := 36) d_Reasons_nextOf_36 rfl (Nat.le_of_ble_eq_true rfl) (Nat.le_of_ble_eq_true rfl)
