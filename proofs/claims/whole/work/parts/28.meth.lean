-- sites and methods: meth
abbrev Y_T_rest : MI := (⟨"WaverTax", "rest", "(II)I"⟩, prog_1_method_51_code, 4, (some .int))
abbrev Y_T_yearTrouble : MI := (⟨"WaverTax", "yearTrouble", "(II)I"⟩, prog_1_method_57_code, 4, (some .int))
abbrev Y_Now_nextHour : MI := (⟨"WaverTax$Now", "nextHour", "(LWaverTax$Reasons;)I"⟩, prog_4_method_6_code, 4, (some .int))
abbrev Y_T_live : MI := (⟨"WaverTax", "live", "(II)V"⟩, prog_1_method_58_code, 6, (none : Option FieldType))
abbrev Y_T_year : MI := (⟨"WaverTax", "year", "(II)I"⟩, prog_1_method_54_code, 4, (some .int))
abbrev Y_T_yearHeld : MI := (⟨"WaverTax", "yearHeld", "(III)I"⟩, prog_1_method_55_code, 5, (some .int))
abbrev Y_Now_allChanges : MI := (⟨"WaverTax$Now", "allChanges", "()I"⟩, prog_4_method_8_code, 3, (some .int))
abbrev Y_T_yearChanges : MI := (⟨"WaverTax", "yearChanges", "(II)I"⟩, prog_1_method_56_code, 4, (some .int))
abbrev Y_Past_keep : MI := (⟨"WaverTax$Past", "keep", "(LWaverTax$Now;)V"⟩, prog_5_method_3_code, 4, (none : Option FieldType))
abbrev Y_T_change : MI := (⟨"WaverTax", "change", "(II)I"⟩, prog_1_method_59_code, 4, (some .int))
abbrev Y_T_hours : MI := (⟨"WaverTax", "hours", "(I)I"⟩, prog_1_method_60_code, 5, (some .int))
abbrev Y_T_answered : MI := (⟨"WaverTax", "answered", "(I)Z"⟩, prog_1_method_75_code, 2, (some .boolean))
abbrev Y_T_seed : MI := (⟨"WaverTax", "seed", "(I)Z"⟩, prog_1_method_61_code, 3, (some .boolean))
abbrev Y_Past_takeBack : MI := (⟨"WaverTax$Past", "takeBack", "(LWaverTax$Now;)Z"⟩, prog_5_method_4_code, 2, (some .boolean))
theorem cm_T_yearTrouble : (Cond.code Y_T_yearTrouble.1 Y_T_yearTrouble.2.1 Y_T_yearTrouble.2.2.1 Y_T_yearTrouble.2.2.2 ∈ pj_ws) ∧ (Cond.initialized Y_T_yearTrouble.1.cls ∈ pj_ws) ∧ (Y_T_yearTrouble.1.cls ≠ "java/lang/invoke/MethodHandle" ∧ Y_T_yearTrouble.1.cls ≠ "java/lang/invoke/VarHandle" ∧ (parseMethodDescriptor Y_T_yearTrouble.1.desc).map (fun d => d.parameters.length) = some 2) ∧ (Cond.instanceMethod Y_T_yearTrouble.1 ∈ pj_ws) ∧ (Cond.selects Y_T_yearTrouble.1.cls Y_T_yearTrouble.1 Y_T_yearTrouble.1 ∈ pj_ws) := ⟨pj_mem 1230 (by decide +kernel) rfl, pj_mem 130 (by decide +kernel) rfl, ⟨by decide +kernel, by decide +kernel, by decide +kernel⟩, pj_mem 1229 (by decide +kernel) rfl, pj_mem 48 (by decide +kernel) rfl⟩
theorem cm_T_live : (Cond.code Y_T_live.1 Y_T_live.2.1 Y_T_live.2.2.1 Y_T_live.2.2.2 ∈ pj_ws) ∧ (Cond.initialized Y_T_live.1.cls ∈ pj_ws) ∧ (Y_T_live.1.cls ≠ "java/lang/invoke/MethodHandle" ∧ Y_T_live.1.cls ≠ "java/lang/invoke/VarHandle" ∧ (parseMethodDescriptor Y_T_live.1.desc).map (fun d => d.parameters.length) = some 2) ∧ (Cond.instanceMethod Y_T_live.1 ∈ pj_ws) ∧ (Cond.selects Y_T_live.1.cls Y_T_live.1 Y_T_live.1 ∈ pj_ws) := ⟨pj_mem 1235 (by decide +kernel) rfl, pj_mem 130 (by decide +kernel) rfl, ⟨by decide +kernel, by decide +kernel, by decide +kernel⟩, pj_mem 1234 (by decide +kernel) rfl, pj_mem 49 (by decide +kernel) rfl⟩
theorem cm_Now_allChanges : (Cond.code Y_Now_allChanges.1 Y_Now_allChanges.2.1 Y_Now_allChanges.2.2.1 Y_Now_allChanges.2.2.2 ∈ pj_ws) ∧ (Cond.initialized Y_Now_allChanges.1.cls ∈ pj_ws) ∧ (Y_Now_allChanges.1.cls ≠ "java/lang/invoke/MethodHandle" ∧ Y_Now_allChanges.1.cls ≠ "java/lang/invoke/VarHandle" ∧ (parseMethodDescriptor Y_Now_allChanges.1.desc).map (fun d => d.parameters.length) = some 0) ∧ (Cond.instanceMethod Y_Now_allChanges.1 ∈ pj_ws) ∧ (Cond.selects Y_Now_allChanges.1.cls Y_Now_allChanges.1 Y_Now_allChanges.1 ∈ pj_ws) := ⟨pj_mem 1254 (by decide +kernel) rfl, pj_mem 136 (by decide +kernel) rfl, ⟨by decide +kernel, by decide +kernel, by decide +kernel⟩, pj_mem 1252 (by decide +kernel) rfl, pj_mem 1253 (by decide +kernel) rfl⟩
theorem cm_Now_move : (Cond.code Y_Now_move.1 Y_Now_move.2.1 Y_Now_move.2.2.1 Y_Now_move.2.2.2 ∈ pj_ws) ∧ (Cond.initialized Y_Now_move.1.cls ∈ pj_ws) ∧ (Y_Now_move.1.cls ≠ "java/lang/invoke/MethodHandle" ∧ Y_Now_move.1.cls ≠ "java/lang/invoke/VarHandle" ∧ (parseMethodDescriptor Y_Now_move.1.desc).map (fun d => d.parameters.length) = some 3) ∧ (Cond.instanceMethod Y_Now_move.1 ∈ pj_ws) ∧ (Cond.selects Y_Now_move.1.cls Y_Now_move.1 Y_Now_move.1 ∈ pj_ws) := ⟨pj_mem 981 (by decide +kernel) rfl, pj_mem 136 (by decide +kernel) rfl, ⟨by decide +kernel, by decide +kernel, by decide +kernel⟩, pj_mem 979 (by decide +kernel) rfl, pj_mem 980 (by decide +kernel) rfl⟩
theorem cm_Now_nextHour : (Cond.code Y_Now_nextHour.1 Y_Now_nextHour.2.1 Y_Now_nextHour.2.2.1 Y_Now_nextHour.2.2.2 ∈ pj_ws) ∧ (Cond.initialized Y_Now_nextHour.1.cls ∈ pj_ws) ∧ (Y_Now_nextHour.1.cls ≠ "java/lang/invoke/MethodHandle" ∧ Y_Now_nextHour.1.cls ≠ "java/lang/invoke/VarHandle" ∧ (parseMethodDescriptor Y_Now_nextHour.1.desc).map (fun d => d.parameters.length) = some 1) ∧ (Cond.instanceMethod Y_Now_nextHour.1 ∈ pj_ws) ∧ (Cond.selects Y_Now_nextHour.1.cls Y_Now_nextHour.1 Y_Now_nextHour.1 ∈ pj_ws) := ⟨pj_mem 1241 (by decide +kernel) rfl, pj_mem 136 (by decide +kernel) rfl, ⟨by decide +kernel, by decide +kernel, by decide +kernel⟩, pj_mem 1239 (by decide +kernel) rfl, pj_mem 1240 (by decide +kernel) rfl⟩
theorem cm_Past_keep : (Cond.code Y_Past_keep.1 Y_Past_keep.2.1 Y_Past_keep.2.2.1 Y_Past_keep.2.2.2 ∈ pj_ws) ∧ (Cond.initialized Y_Past_keep.1.cls ∈ pj_ws) ∧ (Y_Past_keep.1.cls ≠ "java/lang/invoke/MethodHandle" ∧ Y_Past_keep.1.cls ≠ "java/lang/invoke/VarHandle" ∧ (parseMethodDescriptor Y_Past_keep.1.desc).map (fun d => d.parameters.length) = some 1) ∧ (Cond.instanceMethod Y_Past_keep.1 ∈ pj_ws) ∧ (Cond.selects Y_Past_keep.1.cls Y_Past_keep.1 Y_Past_keep.1 ∈ pj_ws) := ⟨pj_mem 1262 (by decide +kernel) rfl, pj_mem 140 (by decide +kernel) rfl, ⟨by decide +kernel, by decide +kernel, by decide +kernel⟩, pj_mem 1260 (by decide +kernel) rfl, pj_mem 1261 (by decide +kernel) rfl⟩
theorem cm_T_answered : (Cond.code Y_T_answered.1 Y_T_answered.2.1 Y_T_answered.2.2.1 Y_T_answered.2.2.2 ∈ pj_ws) ∧ (Cond.initialized Y_T_answered.1.cls ∈ pj_ws) ∧ (Y_T_answered.1.cls ≠ "java/lang/invoke/MethodHandle" ∧ Y_T_answered.1.cls ≠ "java/lang/invoke/VarHandle" ∧ (parseMethodDescriptor Y_T_answered.1.desc).map (fun d => d.parameters.length) = some 1) ∧ (Cond.instanceMethod Y_T_answered.1 ∈ pj_ws) ∧ (Cond.selects Y_T_answered.1.cls Y_T_answered.1 Y_T_answered.1 ∈ pj_ws) := ⟨pj_mem 1275 (by decide +kernel) rfl, pj_mem 130 (by decide +kernel) rfl, ⟨by decide +kernel, by decide +kernel, by decide +kernel⟩, pj_mem 1274 (by decide +kernel) rfl, pj_mem 50 (by decide +kernel) rfl⟩
theorem cs_Past_28 : pj_cV "WaverTax$Past" 28 Y_Now_become 1 2 := ⟨⟨cm_Now_become.1, cm_Now_become.2.1, cm_Now_become.2.2.1, Or.inl (pj_mem 1263 (by decide +kernel) rfl)⟩, by decide, cm_Now_become.2.2.2.1, cm_Now_become.2.2.2.2, ⟨_, rfl, rfl⟩⟩
theorem cs_T_328 : pj_cV "WaverTax" 328 Y_T_yearTrouble 2 10 := ⟨⟨cm_T_yearTrouble.1, cm_T_yearTrouble.2.1, cm_T_yearTrouble.2.2.1, Or.inl (pj_mem 1227 (by decide +kernel) rfl)⟩, by decide, cm_T_yearTrouble.2.2.2.1, cm_T_yearTrouble.2.2.2.2, ⟨_, rfl, rfl⟩⟩
theorem cs_T_331 : pj_cV "WaverTax" 331 Y_T_live 2 10 := ⟨⟨cm_T_live.1, cm_T_live.2.1, cm_T_live.2.2.1, Or.inl (pj_mem 1232 (by decide +kernel) rfl)⟩, by decide, cm_T_live.2.2.2.1, cm_T_live.2.2.2.2, ⟨_, rfl, rfl⟩⟩
theorem cs_T_335 : pj_cV "WaverTax" 335 Y_Now_allChanges 0 2 := ⟨⟨cm_Now_allChanges.1, cm_Now_allChanges.2.1, cm_Now_allChanges.2.2.1, Or.inl (pj_mem 1251 (by decide +kernel) rfl)⟩, by decide, cm_Now_allChanges.2.2.2.1, cm_Now_allChanges.2.2.2.2, ⟨_, rfl, rfl⟩⟩
theorem cs_T_339 : pj_cV "WaverTax" 339 Y_Now_become 1 2 := ⟨⟨cm_Now_become.1, cm_Now_become.2.1, cm_Now_become.2.2.1, Or.inl (pj_mem 1236 (by decide +kernel) rfl)⟩, by decide, cm_Now_become.2.2.2.1, cm_Now_become.2.2.2.2, ⟨_, rfl, rfl⟩⟩
theorem cs_T_346 : pj_cV "WaverTax" 346 Y_Now_move 3 2 := ⟨⟨cm_Now_move.1, cm_Now_move.2.1, cm_Now_move.2.2.1, Or.inl (pj_mem 1237 (by decide +kernel) rfl)⟩, by decide, cm_Now_move.2.2.2.1, cm_Now_move.2.2.2.2, ⟨_, rfl, rfl⟩⟩
theorem cs_T_350 : pj_cV "WaverTax" 350 Y_Now_nextHour 1 2 := ⟨⟨cm_Now_nextHour.1, cm_Now_nextHour.2.1, cm_Now_nextHour.2.2.1, Or.inl (pj_mem 1238 (by decide +kernel) rfl)⟩, by decide, cm_Now_nextHour.2.2.2.1, cm_Now_nextHour.2.2.2.2, ⟨_, rfl, rfl⟩⟩
theorem cs_T_354 : pj_cV "WaverTax" 354 Y_Past_keep 1 3 := ⟨⟨cm_Past_keep.1, cm_Past_keep.2.1, cm_Past_keep.2.2.1, Or.inl (pj_mem 1259 (by decide +kernel) rfl)⟩, by decide, cm_Past_keep.2.2.2.1, cm_Past_keep.2.2.2.2, ⟨_, rfl, rfl⟩⟩
theorem cs_T_360 : pj_cV "WaverTax" 360 Y_T_answered 1 10 := ⟨⟨cm_T_answered.1, cm_T_answered.2.1, cm_T_answered.2.2.1, Or.inl (pj_mem 1272 (by decide +kernel) rfl)⟩, by decide, cm_T_answered.2.2.2.1, cm_T_answered.2.2.2.2, ⟨_, rfl, rfl⟩⟩
theorem fs_Now_51 : pj_fs "WaverTax$Now" 6 0 51 (.int) := ⟨_, _, _, _, cd_6, by decide, rfl, Or.inl (pj_mem 180 (by decide +kernel) rfl)⟩
theorem fs_Now_56 : pj_fs "WaverTax$Now" 6 3 56 (.array (.int)) := ⟨_, _, _, _, cd_6, by decide, rfl, Or.inl (pj_mem 193 (by decide +kernel) rfl)⟩
theorem fs_Now_59 : pj_fs "WaverTax$Now" 6 4 59 (.array (.int)) := ⟨_, _, _, _, cd_6, by decide, rfl, Or.inl (pj_mem 197 (by decide +kernel) rfl)⟩
theorem fs_Past_20 : pj_fs "WaverTax$Past" 3 2 20 (.int) := ⟨_, _, _, _, cd_3, by decide, rfl, Or.inl (pj_mem 537 (by decide +kernel) rfl)⟩
theorem fs_T_357 : pj_fs "WaverTax" 2 0 357 (.int) := ⟨_, _, _, _, cd_2, by decide, rfl, Or.inl (pj_mem 411 (by decide +kernel) rfl)⟩
theorem ps_T_343 {mn : String} : pj_ps "WaverTax" mn 2 1 343 (.int) := ⟨_, _, _, _, cd_2, by decide, rfl, Or.inl ⟨rfl, Or.inl (pj_mem 413 (by decide +kernel) rfl)⟩⟩
theorem wd_1231 : (Jvm.Cond.constant "WaverTax" (338 : Nat) (65536 : Int32)) ∈ pj_ws := pj_mem 1231 (by decide +kernel) rfl
theorem wd_1242 : (Jvm.Cond.constant "WaverTax$Now" (58 : Nat) (65537 : Int32)) ∈ pj_ws := pj_mem 1242 (by decide +kernel) rfl
theorem d_T_rest_0 : decode Y_T_rest.2.1 0 = .ok (.aload_n 0, 1) := by decide +kernel
theorem d_T_rest_1 : decode Y_T_rest.2.1 1 = .ok (.iload_n 1, 1) := by decide +kernel
theorem d_T_rest_2 : decode Y_T_rest.2.1 2 = .ok (.iload_n 2, 1) := by decide +kernel
theorem d_T_rest_3 : decode Y_T_rest.2.1 3 = .ok (.invokevirtual 316, 3) := by decide +kernel
theorem d_T_rest_6 : decode Y_T_rest.2.1 6 = .ok (.ifCond .ne 9, 3) := by decide +kernel
theorem d_T_rest_9 : decode Y_T_rest.2.1 9 = .ok (.aload_n 0, 1) := by decide +kernel
theorem d_T_rest_10 : decode Y_T_rest.2.1 10 = .ok (.iconst 1, 1) := by decide +kernel
theorem d_T_rest_11 : decode Y_T_rest.2.1 11 = .ok (.invokevirtual 95, 3) := by decide +kernel
theorem d_T_rest_14 : decode Y_T_rest.2.1 14 = .ok (.ireturn, 1) := by decide +kernel
theorem d_T_rest_15 : decode Y_T_rest.2.1 15 = .ok (.iconst 0, 1) := by decide +kernel
theorem d_T_rest_16 : decode Y_T_rest.2.1 16 = .ok (.istore_n 3, 1) := by decide +kernel
theorem d_T_rest_17 : decode Y_T_rest.2.1 17 = .ok (.iload_n 3, 1) := by decide +kernel
theorem d_T_rest_18 : decode Y_T_rest.2.1 18 = .ok (.iconst 4, 1) := by decide +kernel
theorem d_T_rest_19 : decode Y_T_rest.2.1 19 = .ok (.if_icmp .ge 34, 3) := by decide +kernel
theorem d_T_rest_22 : decode Y_T_rest.2.1 22 = .ok (.aload_n 0, 1) := by decide +kernel
theorem d_T_rest_23 : decode Y_T_rest.2.1 23 = .ok (.iload_n 1, 1) := by decide +kernel
theorem d_T_rest_24 : decode Y_T_rest.2.1 24 = .ok (.iload_n 2, 1) := by decide +kernel
theorem d_T_rest_25 : decode Y_T_rest.2.1 25 = .ok (.iload_n 3, 1) := by decide +kernel
theorem d_T_rest_26 : decode Y_T_rest.2.1 26 = .ok (.invokevirtual 324, 3) := by decide +kernel
theorem d_T_rest_29 : decode Y_T_rest.2.1 29 = .ok (.ifCond .eq 18, 3) := by decide +kernel
theorem d_T_rest_32 : decode Y_T_rest.2.1 32 = .ok (.aload_n 0, 1) := by decide +kernel
theorem d_T_rest_33 : decode Y_T_rest.2.1 33 = .ok (.iload_n 3, 1) := by decide +kernel
theorem d_T_rest_34 : decode Y_T_rest.2.1 34 = .ok (.iconst 2, 1) := by decide +kernel
theorem d_T_rest_35 : decode Y_T_rest.2.1 35 = .ok (.idiv, 1) := by decide +kernel
theorem d_T_rest_36 : decode Y_T_rest.2.1 36 = .ok (.bipush 10, 2) := by decide +kernel
theorem d_T_rest_38 : decode Y_T_rest.2.1 38 = .ok (.imul, 1) := by decide +kernel
theorem d_T_rest_39 : decode Y_T_rest.2.1 39 = .ok (.iload_n 3, 1) := by decide +kernel
theorem d_T_rest_40 : decode Y_T_rest.2.1 40 = .ok (.iconst 2, 1) := by decide +kernel
theorem d_T_rest_41 : decode Y_T_rest.2.1 41 = .ok (.irem, 1) := by decide +kernel
theorem d_T_rest_42 : decode Y_T_rest.2.1 42 = .ok (.iadd, 1) := by decide +kernel
theorem d_T_rest_43 : decode Y_T_rest.2.1 43 = .ok (.invokevirtual 114, 3) := by decide +kernel
theorem d_T_rest_46 : decode Y_T_rest.2.1 46 = .ok (.ireturn, 1) := by decide +kernel
theorem d_T_rest_47 : decode Y_T_rest.2.1 47 = .ok (.iinc 3 1, 3) := by decide +kernel
theorem d_T_rest_50 : decode Y_T_rest.2.1 50 = .ok (.goto (-33), 3) := by decide +kernel
theorem d_T_rest_53 : decode Y_T_rest.2.1 53 = .ok (.aload_n 0, 1) := by decide +kernel
theorem d_T_rest_54 : decode Y_T_rest.2.1 54 = .ok (.bipush (-2), 2) := by decide +kernel
theorem d_T_rest_56 : decode Y_T_rest.2.1 56 = .ok (.invokevirtual 114, 3) := by decide +kernel
theorem d_T_rest_59 : decode Y_T_rest.2.1 59 = .ok (.ireturn, 1) := by decide +kernel
def f_T_rest (h : PH) (a0 : Option Nat) (a1 : Int32) (a2 : Int32) : Option (Int32 × PH) := (cl h 10 a0 (f_T_areTwo h a0 a1 a2)).bind fun v1 => if ¬ v1 = 0 then ((pj_it (X := (PH) ⊕ (Int32 × PH)) (fun s2 : Int32 × PH => if (4 : Int32) ≤ s2.1 then (some (.inr (.inl s2.2))) else ((cl s2.2 10 a0 (f_T_isRest s2.2 a0 a1 a2 s2.1)).bind fun v4 => if v4.1 = 0 then (some (.inl ((s2.1 + (1 : Int32)), v4.2))) else (some (.inr (.inr (s2.1, v4.2)))))) FU ((0 : Int32), h)).bind fun x3 => match x3 with | (.inl yx3_0) => (cl yx3_0 10 a0 (f_T_fine yx3_0 a0 (-2 : Int32))).bind fun v5 => some (v5.1, v5.2) | (.inr yx3_1) => if (2 : Int32) = 0 then none else (if (2 : Int32) = 0 then none else ((cl yx3_1.2 10 a0 (f_T_fine yx3_1.2 a0 (((yx3_1.1 / (2 : Int32)) * (10 : Int32)) + (yx3_1.1 - yx3_1.1 / (2 : Int32) * (2 : Int32))))).bind fun v6 => some (v6.1, v6.2)))) else ((cl h 10 a0 (f_T_refuse h a0 (1 : Int32))).bind fun v7 => some (v7.1, v7.2))
set_option maxRecDepth 20000 in
theorem PM_T_rest {l : Launch} {G : Cx} {h : PH} {a0 : Option Nat} {a1 : Int32} {a2 : Int32} {z : (Int32 × PH)} (hz : f_T_rest h a0 a1 a2 = some z) : PM l G 6 0 0 Y_T_rest [.inr (.inr a0), .inl a1, .inl a2] h (some (.inl z.1), z.2) := by
  refine PM.of (Y := Y_T_rest) (cv := (fun z : (Int32 × PH) => (((some (.inl z.1), z.2) : Option PV × PH)))) (by decide) (L0 := [some (.inr (.inr a0)), some (.inl a1), some (.inl a2), none]) 1 rfl (Nat.le_of_ble_eq_true rfl) ?_ hz
  unfold f_T_rest
  refine PJ.aload_n (pc := 0) d_T_rest_0 rfl ?_
  refine PJ.iload_n (pc := 1) d_T_rest_1 rfl ?_
  refine PJ.iload_n (pc := 2) d_T_rest_2 rfl ?_
  refine PJ.cVpI (pc := 3) cs_T_316 (fun z hz => PM_T_areTwo hz) (pj_fitb rfl) rfl rfl (Nat.le_of_ble_eq_true rfl) d_T_rest_3 (fun v1 => ?_)
  refine PJ.if_ne (pc := 6) (tgt := 15) d_T_rest_6 (by decide) (fun _ => ?_) (fun _ => ?_)
  · refine PJ.iconst (pc := 15) (v := 0) d_T_rest_15 (by decide) ?_
    refine PJ.istore_n (pc := 16) (L1 := [some (.inr (.inr a0)), some (.inl a1), some (.inl a2), some (.inl (0 : Int32))]) d_T_rest_16 (Nat.le_of_ble_eq_true rfl) rfl rfl ?_
    refine PJ.bind (fun x3 : (PH) ⊕ (Int32 × PH) => match x3 with | (.inl y0) => ((53 : Nat), ([some (.inr (.inr a0)), none, none, none] : List (Option PV)), ([] : List PV), (y0 : PH), (0 : Nat), (0 : Nat)) | (.inr y1) => ((32 : Nat), ([some (.inr (.inr a0)), none, none, some (.inl y1.1)] : List (Option PV)), ([] : List PV), (y1.2 : PH), (0 : Nat), (0 : Nat))) (PJ.it (E := (fun s2 : Int32 × PH => ((17 : Nat), ([some (.inr (.inr a0)), some (.inl a1), some (.inl a2), some (.inl s2.1)] : List (Option PV)), ([] : List PV), (s2.2 : PH), (0 : Nat), (0 : Nat)))) (F := (fun x3 : (PH) ⊕ (Int32 × PH) => match x3 with | (.inl y0) => ((53 : Nat), ([some (.inr (.inr a0)), none, none, none] : List (Option PV)), ([] : List PV), (y0 : PH), (0 : Nat), (0 : Nat)) | (.inr y1) => ((32 : Nat), ([some (.inr (.inr a0)), none, none, some (.inl y1.1)] : List (Option PV)), ([] : List PV), (y1.2 : PH), (0 : Nat), (0 : Nat)))) (fun s2 => ?_) FU ((0 : Int32), h)) (fun x3 => ?_)
    · show PJ l G (pj_rm 6 0 0) Y_T_rest 17 [some (.inr (.inr a0)), some (.inl a1), some (.inl a2), some (.inl s2.1)] [] s2.2 0 0 _ _
      refine PJ.iload_n (pc := 17) d_T_rest_17 rfl ?_
      refine PJ.iconst (pc := 18) (v := 4) d_T_rest_18 (by decide) ?_
      refine PJ.icmp_ge (pc := 19) (tgt := 53) d_T_rest_19 (by decide) (fun _ => ?_) (fun _ => ?_)
      · refine PJ.mk (L1 := [some (.inr (.inr a0)), none, none, none]) [true, false, false, false] rfl ?_
        exact PJ.done rfl
      · refine PJ.aload_n (pc := 22) d_T_rest_22 rfl ?_
        refine PJ.iload_n (pc := 23) d_T_rest_23 rfl ?_
        refine PJ.iload_n (pc := 24) d_T_rest_24 rfl ?_
        refine PJ.iload_n (pc := 25) d_T_rest_25 rfl ?_
        refine PJ.cVI (pc := 26) cs_T_324 (fun z hz => PM_T_isRest hz) (pj_fitb rfl) rfl rfl (Nat.le_of_ble_eq_true rfl) d_T_rest_26 (fun v4 => ?_)
        refine PJ.if_eq (pc := 29) (tgt := 47) d_T_rest_29 (by decide) (fun _ => ?_) (fun _ => ?_)
        · refine PJ.iinc (pc := 47) (v := 1) (L1 := [some (.inr (.inr a0)), some (.inl a1), some (.inl a2), some (.inl (s2.1 + (1 : Int32)))]) d_T_rest_47 rfl (by decide) (Nat.le_of_ble_eq_true rfl) rfl rfl ?_
          refine PJ.goto (pc := 50) (tgt := 17) d_T_rest_50 (by decide) ?_
          exact PJ.done rfl
        · refine PJ.mk (L1 := [some (.inr (.inr a0)), none, none, some (.inl s2.1)]) [true, false, false, true] rfl ?_
          exact PJ.done rfl
    · rcases x3 with yx3_0 | yx3_1
      · show PJ l G (pj_rm 6 0 0) Y_T_rest 53 [some (.inr (.inr a0)), none, none, none] [] yx3_0 0 0 _ _
        refine PJ.aload_n (pc := 53) d_T_rest_53 rfl ?_
        refine PJ.bipush (pc := 54) (v := -2) d_T_rest_54 (by decide) ?_
        refine PJ.cVI (pc := 56) cs_T_114 (fun z hz => PM_T_fine hz) (pj_fitb rfl) rfl rfl (Nat.le_of_ble_eq_true rfl) d_T_rest_56 (fun v5 => ?_)
        exact PJ.iret (pc := 59) d_T_rest_59 rfl (Nat.le_of_ble_eq_true rfl) (Nat.le_of_ble_eq_true rfl)
      · show PJ l G (pj_rm 6 0 0) Y_T_rest 32 [some (.inr (.inr a0)), none, none, some (.inl yx3_1.1)] [] yx3_1.2 0 0 _ _
        refine PJ.aload_n (pc := 32) d_T_rest_32 rfl ?_
        refine PJ.iload_n (pc := 33) d_T_rest_33 rfl ?_
        refine PJ.iconst (pc := 34) (v := 2) d_T_rest_34 (by decide) ?_
        refine PJ.idiv (pc := 35) d_T_rest_35 (fun _ => ?_)
        refine PJ.bipush (pc := 36) (v := 10) d_T_rest_36 (by decide) ?_
        refine PJ.imul (pc := 38) d_T_rest_38 ?_
        refine PJ.iload_n (pc := 39) d_T_rest_39 rfl ?_
        refine PJ.iconst (pc := 40) (v := 2) d_T_rest_40 (by decide) ?_
        refine PJ.irem (pc := 41) d_T_rest_41 (fun _ => ?_)
        refine PJ.iadd (pc := 42) d_T_rest_42 ?_
        refine PJ.cVI (pc := 43) cs_T_114 (fun z hz => PM_T_fine hz) (pj_fitb rfl) rfl rfl (Nat.le_of_ble_eq_true rfl) d_T_rest_43 (fun v6 => ?_)
        exact PJ.iret (pc := 46) d_T_rest_46 rfl (Nat.le_of_ble_eq_true rfl) (Nat.le_of_ble_eq_true rfl)
  · refine PJ.aload_n (pc := 9) d_T_rest_9 rfl ?_
    refine PJ.iconst (pc := 10) (v := 1) d_T_rest_10 (by decide) ?_
    refine PJ.cVI (pc := 11) cs_T_95 (fun z hz => PM_T_refuse hz) (pj_fitb rfl) rfl rfl (Nat.le_of_ble_eq_true rfl) d_T_rest_11 (fun v7 => ?_)
    exact PJ.iret (pc := 14) d_T_rest_14 rfl (Nat.le_of_ble_eq_true rfl) (Nat.le_of_ble_eq_true rfl)
theorem d_T_yearTrouble_0 : decode Y_T_yearTrouble.2.1 0 = .ok (.aload_n 0, 1) := by decide +kernel
theorem d_T_yearTrouble_1 : decode Y_T_yearTrouble.2.1 1 = .ok (.iload_n 1, 1) := by decide +kernel
theorem d_T_yearTrouble_2 : decode Y_T_yearTrouble.2.1 2 = .ok (.iconst 0, 1) := by decide +kernel
theorem d_T_yearTrouble_3 : decode Y_T_yearTrouble.2.1 3 = .ok (.ldc_w 338, 3) := by decide +kernel
theorem d_T_yearTrouble_6 : decode Y_T_yearTrouble.2.1 6 = .ok (.invokevirtual 241, 3) := by decide +kernel
theorem d_T_yearTrouble_9 : decode Y_T_yearTrouble.2.1 9 = .ok (.istore_n 3, 1) := by decide +kernel
theorem d_T_yearTrouble_10 : decode Y_T_yearTrouble.2.1 10 = .ok (.iload_n 3, 1) := by decide +kernel
theorem d_T_yearTrouble_11 : decode Y_T_yearTrouble.2.1 11 = .ok (.ifCond .ne 14, 3) := by decide +kernel
theorem d_T_yearTrouble_14 : decode Y_T_yearTrouble.2.1 14 = .ok (.aload_n 0, 1) := by decide +kernel
theorem d_T_yearTrouble_15 : decode Y_T_yearTrouble.2.1 15 = .ok (.iload_n 2, 1) := by decide +kernel
theorem d_T_yearTrouble_16 : decode Y_T_yearTrouble.2.1 16 = .ok (.iconst 0, 1) := by decide +kernel
theorem d_T_yearTrouble_17 : decode Y_T_yearTrouble.2.1 17 = .ok (.bipush 60, 2) := by decide +kernel
theorem d_T_yearTrouble_19 : decode Y_T_yearTrouble.2.1 19 = .ok (.invokevirtual 241, 3) := by decide +kernel
theorem d_T_yearTrouble_22 : decode Y_T_yearTrouble.2.1 22 = .ok (.goto 4, 3) := by decide +kernel
theorem d_T_yearTrouble_25 : decode Y_T_yearTrouble.2.1 25 = .ok (.iload_n 3, 1) := by decide +kernel
theorem d_T_yearTrouble_26 : decode Y_T_yearTrouble.2.1 26 = .ok (.ireturn, 1) := by decide +kernel
def f_T_yearTrouble (h : PH) (a0 : Option Nat) (a1 : Int32) (a2 : Int32) : Option Int32 := (cl h 10 a0 (f_T_boundsTrouble h a0 a1 (0 : Int32) (65536 : Int32))).bind fun v1 => if ¬ v1 = 0 then (some v1) else ((cl h 10 a0 (f_T_boundsTrouble h a0 a2 (0 : Int32) (60 : Int32))).bind fun v2 => some v2)
set_option maxRecDepth 20000 in
theorem PM_T_yearTrouble {l : Launch} {G : Cx} {h : PH} {a0 : Option Nat} {a1 : Int32} {a2 : Int32} {z : Int32} (hz : f_T_yearTrouble h a0 a1 a2 = some z) : PM l G 2 0 0 Y_T_yearTrouble [.inr (.inr a0), .inl a1, .inl a2] h (some (.inl z), h) := by
  refine PM.of (Y := Y_T_yearTrouble) (cv := (fun z : Int32 => (((some (.inl z), h) : Option PV × PH)))) (by decide) (L0 := [some (.inr (.inr a0)), some (.inl a1), some (.inl a2), none]) 1 rfl (Nat.le_of_ble_eq_true rfl) ?_ hz
  unfold f_T_yearTrouble
  refine PJ.aload_n (pc := 0) d_T_yearTrouble_0 rfl ?_
  refine PJ.iload_n (pc := 1) d_T_yearTrouble_1 rfl ?_
  refine PJ.iconst (pc := 2) (v := 0) d_T_yearTrouble_2 (by decide) ?_
  refine PJ.ldcw (pc := 3) (v := 65536) d_T_yearTrouble_3 wd_1231 ?_
  refine PJ.cVpI (pc := 6) cs_T_241 (fun z hz => PM_T_boundsTrouble hz) (pj_fitb rfl) rfl rfl (Nat.le_of_ble_eq_true rfl) d_T_yearTrouble_6 (fun v1 => ?_)
  refine PJ.istore_n (pc := 9) (L1 := [some (.inr (.inr a0)), some (.inl a1), some (.inl a2), some (.inl v1)]) d_T_yearTrouble_9 (Nat.le_of_ble_eq_true rfl) rfl rfl ?_
  refine PJ.iload_n (pc := 10) d_T_yearTrouble_10 rfl ?_
  refine PJ.if_ne (pc := 11) (tgt := 25) d_T_yearTrouble_11 (by decide) (fun _ => ?_) (fun _ => ?_)
  · refine PJ.iload_n (pc := 25) d_T_yearTrouble_25 rfl ?_
    exact PJ.iretp (pc := 26) d_T_yearTrouble_26 rfl (Nat.le_of_ble_eq_true rfl) (Nat.le_of_ble_eq_true rfl)
  · refine PJ.aload_n (pc := 14) d_T_yearTrouble_14 rfl ?_
    refine PJ.iload_n (pc := 15) d_T_yearTrouble_15 rfl ?_
    refine PJ.iconst (pc := 16) (v := 0) d_T_yearTrouble_16 (by decide) ?_
    refine PJ.bipush (pc := 17) (v := 60) d_T_yearTrouble_17 (by decide) ?_
    refine PJ.cVpI (pc := 19) cs_T_241 (fun z hz => PM_T_boundsTrouble hz) (pj_fitb rfl) rfl rfl (Nat.le_of_ble_eq_true rfl) d_T_yearTrouble_19 (fun v2 => ?_)
    refine PJ.goto (pc := 22) (tgt := 26) d_T_yearTrouble_22 (by decide) ?_
    exact PJ.iretp (pc := 26) d_T_yearTrouble_26 rfl (Nat.le_of_ble_eq_true rfl) (Nat.le_of_ble_eq_true rfl)
theorem d_Now_nextHour_0 : decode Y_Now_nextHour.2.1 0 = .ok (.aload_n 0, 1) := by decide +kernel
theorem d_Now_nextHour_1 : decode Y_Now_nextHour.2.1 1 = .ok (.dup, 1) := by decide +kernel
theorem d_Now_nextHour_2 : decode Y_Now_nextHour.2.1 2 = .ok (.getfield 9, 3) := by decide +kernel
theorem d_Now_nextHour_5 : decode Y_Now_nextHour.2.1 5 = .ok (.iconst 1, 1) := by decide +kernel
theorem d_Now_nextHour_6 : decode Y_Now_nextHour.2.1 6 = .ok (.iadd, 1) := by decide +kernel
theorem d_Now_nextHour_7 : decode Y_Now_nextHour.2.1 7 = .ok (.putfield 9, 3) := by decide +kernel
theorem d_Now_nextHour_10 : decode Y_Now_nextHour.2.1 10 = .ok (.iconst 0, 1) := by decide +kernel
theorem d_Now_nextHour_11 : decode Y_Now_nextHour.2.1 11 = .ok (.istore_n 2, 1) := by decide +kernel
theorem d_Now_nextHour_12 : decode Y_Now_nextHour.2.1 12 = .ok (.iconst 0, 1) := by decide +kernel
theorem d_Now_nextHour_13 : decode Y_Now_nextHour.2.1 13 = .ok (.istore_n 3, 1) := by decide +kernel
theorem d_Now_nextHour_14 : decode Y_Now_nextHour.2.1 14 = .ok (.iload_n 3, 1) := by decide +kernel
theorem d_Now_nextHour_15 : decode Y_Now_nextHour.2.1 15 = .ok (.aload_n 1, 1) := by decide +kernel
theorem d_Now_nextHour_16 : decode Y_Now_nextHour.2.1 16 = .ok (.getfield 51, 3) := by decide +kernel
theorem d_Now_nextHour_19 : decode Y_Now_nextHour.2.1 19 = .ok (.if_icmp .ge 70, 3) := by decide +kernel
theorem d_Now_nextHour_22 : decode Y_Now_nextHour.2.1 22 = .ok (.aload_n 1, 1) := by decide +kernel
theorem d_Now_nextHour_23 : decode Y_Now_nextHour.2.1 23 = .ok (.getfield 56, 3) := by decide +kernel
theorem d_Now_nextHour_26 : decode Y_Now_nextHour.2.1 26 = .ok (.iload_n 3, 1) := by decide +kernel
theorem d_Now_nextHour_27 : decode Y_Now_nextHour.2.1 27 = .ok (.iaload, 1) := by decide +kernel
theorem d_Now_nextHour_28 : decode Y_Now_nextHour.2.1 28 = .ok (.aload_n 0, 1) := by decide +kernel
theorem d_Now_nextHour_29 : decode Y_Now_nextHour.2.1 29 = .ok (.getfield 9, 3) := by decide +kernel
theorem d_Now_nextHour_32 : decode Y_Now_nextHour.2.1 32 = .ok (.if_icmp .ne 51, 3) := by decide +kernel
theorem d_Now_nextHour_35 : decode Y_Now_nextHour.2.1 35 = .ok (.aload_n 0, 1) := by decide +kernel
theorem d_Now_nextHour_36 : decode Y_Now_nextHour.2.1 36 = .ok (.bipush 75, 2) := by decide +kernel
theorem d_Now_nextHour_38 : decode Y_Now_nextHour.2.1 38 = .ok (.aload_n 0, 1) := by decide +kernel
theorem d_Now_nextHour_39 : decode Y_Now_nextHour.2.1 39 = .ok (.getfield 15, 3) := by decide +kernel
theorem d_Now_nextHour_42 : decode Y_Now_nextHour.2.1 42 = .ok (.imul, 1) := by decide +kernel
theorem d_Now_nextHour_43 : decode Y_Now_nextHour.2.1 43 = .ok (.bipush 74, 2) := by decide +kernel
theorem d_Now_nextHour_45 : decode Y_Now_nextHour.2.1 45 = .ok (.iadd, 1) := by decide +kernel
theorem d_Now_nextHour_46 : decode Y_Now_nextHour.2.1 46 = .ok (.ldc 58, 2) := by decide +kernel
theorem d_Now_nextHour_48 : decode Y_Now_nextHour.2.1 48 = .ok (.irem, 1) := by decide +kernel
theorem d_Now_nextHour_49 : decode Y_Now_nextHour.2.1 49 = .ok (.putfield 15, 3) := by decide +kernel
theorem d_Now_nextHour_52 : decode Y_Now_nextHour.2.1 52 = .ok (.aload_n 0, 1) := by decide +kernel
theorem d_Now_nextHour_53 : decode Y_Now_nextHour.2.1 53 = .ok (.getfield 15, 3) := by decide +kernel
theorem d_Now_nextHour_56 : decode Y_Now_nextHour.2.1 56 = .ok (.bipush 100, 2) := by decide +kernel
theorem d_Now_nextHour_58 : decode Y_Now_nextHour.2.1 58 = .ok (.irem, 1) := by decide +kernel
theorem d_Now_nextHour_59 : decode Y_Now_nextHour.2.1 59 = .ok (.aload_n 1, 1) := by decide +kernel
theorem d_Now_nextHour_60 : decode Y_Now_nextHour.2.1 60 = .ok (.getfield 59, 3) := by decide +kernel
theorem d_Now_nextHour_63 : decode Y_Now_nextHour.2.1 63 = .ok (.iload_n 3, 1) := by decide +kernel
theorem d_Now_nextHour_64 : decode Y_Now_nextHour.2.1 64 = .ok (.iaload, 1) := by decide +kernel
theorem d_Now_nextHour_65 : decode Y_Now_nextHour.2.1 65 = .ok (.if_icmp .ge 18, 3) := by decide +kernel
theorem d_Now_nextHour_68 : decode Y_Now_nextHour.2.1 68 = .ok (.aload_n 0, 1) := by decide +kernel
theorem d_Now_nextHour_69 : decode Y_Now_nextHour.2.1 69 = .ok (.dup, 1) := by decide +kernel
theorem d_Now_nextHour_70 : decode Y_Now_nextHour.2.1 70 = .ok (.getfield 18, 3) := by decide +kernel
theorem d_Now_nextHour_73 : decode Y_Now_nextHour.2.1 73 = .ok (.iconst 1, 1) := by decide +kernel
theorem d_Now_nextHour_74 : decode Y_Now_nextHour.2.1 74 = .ok (.iload_n 3, 1) := by decide +kernel
theorem d_Now_nextHour_75 : decode Y_Now_nextHour.2.1 75 = .ok (.ishl, 1) := by decide +kernel
theorem d_Now_nextHour_76 : decode Y_Now_nextHour.2.1 76 = .ok (.ior, 1) := by decide +kernel
theorem d_Now_nextHour_77 : decode Y_Now_nextHour.2.1 77 = .ok (.putfield 18, 3) := by decide +kernel
theorem d_Now_nextHour_80 : decode Y_Now_nextHour.2.1 80 = .ok (.iinc 2 1, 3) := by decide +kernel
theorem d_Now_nextHour_83 : decode Y_Now_nextHour.2.1 83 = .ok (.iinc 3 1, 3) := by decide +kernel
theorem d_Now_nextHour_86 : decode Y_Now_nextHour.2.1 86 = .ok (.goto (-72), 3) := by decide +kernel
theorem d_Now_nextHour_89 : decode Y_Now_nextHour.2.1 89 = .ok (.iload_n 2, 1) := by decide +kernel
theorem d_Now_nextHour_90 : decode Y_Now_nextHour.2.1 90 = .ok (.ireturn, 1) := by decide +kernel
def f_Now_nextHour (h : PH) (a0 : Option Nat) (a1 : Option Nat) : Option (Int32 × PH) := (gI h 2 a0 0).bind fun v1 => (sF h 2 a0 0 (.inl (v1 + (1 : Int32)))).bind fun h2 => (pj_it (X := Int32 × PH) (fun s3 : Int32 × Int32 × PH => (gI s3.2.2 6 a1 0).bind fun v5 => if v5 ≤ s3.2.1 then (some (.inr (s3.1, s3.2.2))) else ((gR s3.2.2 6 a1 3).bind fun v6 => (aI s3.2.2 v6 s3.2.1).bind fun v7 => (gI s3.2.2 2 a0 0).bind fun v8 => if ¬ v7 = v8 then (some (.inl (s3.1, (s3.2.1 + (1 : Int32)), s3.2.2))) else ((gI s3.2.2 2 a0 1).bind fun v9 => if (65537 : Int32) = 0 then none else ((sF s3.2.2 2 a0 1 (.inl ((((75 : Int32) * v9) + (74 : Int32)) - (((75 : Int32) * v9) + (74 : Int32)) / (65537 : Int32) * (65537 : Int32)))).bind fun h10 => (gI h10 2 a0 1).bind fun v11 => if (100 : Int32) = 0 then none else ((gR h10 6 a1 4).bind fun v12 => (aI h10 v12 s3.2.1).bind fun v13 => if v13 ≤ (v11 - v11 / (100 : Int32) * (100 : Int32)) then (some (.inl (s3.1, (s3.2.1 + (1 : Int32)), h10))) else ((gI h10 2 a0 2).bind fun v14 => (sF h10 2 a0 2 (.inl (v14 ||| ((1 : Int32) <<< (s3.2.1 &&& 31))))).bind fun h15 => some (.inl ((s3.1 + (1 : Int32)), (s3.2.1 + (1 : Int32)), h15)))))))) FU ((0 : Int32), (0 : Int32), h2)).bind fun x4 => some (x4.1, x4.2)
set_option maxRecDepth 20000 in
theorem PM_Now_nextHour {l : Launch} {G : Cx} {h : PH} {a0 : Option Nat} {a1 : Option Nat} {z : (Int32 × PH)} (hz : f_Now_nextHour h a0 a1 = some z) : PM l G 1 0 0 Y_Now_nextHour [.inr (.inr a0), .inr (.inr a1)] h (some (.inl z.1), z.2) := by
  refine PM.of (Y := Y_Now_nextHour) (cv := (fun z : (Int32 × PH) => (((some (.inl z.1), z.2) : Option PV × PH)))) (by decide) (L0 := [some (.inr (.inr a0)), some (.inr (.inr a1)), none, none]) 2 rfl (Nat.le_of_ble_eq_true rfl) ?_ hz
  unfold f_Now_nextHour
  refine PJ.aload_n (pc := 0) d_Now_nextHour_0 rfl ?_
  refine PJ.dup (pc := 1) d_Now_nextHour_1 rfl ?_
  refine PJ.getI (pc := 2) fs_Now_9 d_Now_nextHour_2 (fun v1 => ?_)
  refine PJ.iconst (pc := 5) (v := 1) d_Now_nextHour_5 (by decide) ?_
  refine PJ.iadd (pc := 6) d_Now_nextHour_6 ?_
  refine PJ.putI (pc := 7) ps_Now_9 d_Now_nextHour_7 (fun h2 => ?_)
  refine PJ.iconst (pc := 10) (v := 0) d_Now_nextHour_10 (by decide) ?_
  refine PJ.istore_n (pc := 11) (L1 := [some (.inr (.inr a0)), some (.inr (.inr a1)), some (.inl (0 : Int32)), none]) d_Now_nextHour_11 (Nat.le_of_ble_eq_true rfl) rfl rfl ?_
  refine PJ.iconst (pc := 12) (v := 0) d_Now_nextHour_12 (by decide) ?_
  refine PJ.istore_n (pc := 13) (L1 := [some (.inr (.inr a0)), some (.inr (.inr a1)), some (.inl (0 : Int32)), some (.inl (0 : Int32))]) d_Now_nextHour_13 (Nat.le_of_ble_eq_true rfl) rfl rfl ?_
  refine PJ.bind (fun x4 : Int32 × PH => ((89 : Nat), ([none, none, some (.inl x4.1), none] : List (Option PV)), ([] : List PV), (x4.2 : PH), (0 : Nat), (0 : Nat))) (PJ.it (E := (fun s3 : Int32 × Int32 × PH => ((14 : Nat), ([some (.inr (.inr a0)), some (.inr (.inr a1)), some (.inl s3.1), some (.inl s3.2.1)] : List (Option PV)), ([] : List PV), (s3.2.2 : PH), (0 : Nat), (0 : Nat)))) (F := (fun x4 : Int32 × PH => ((89 : Nat), ([none, none, some (.inl x4.1), none] : List (Option PV)), ([] : List PV), (x4.2 : PH), (0 : Nat), (0 : Nat)))) (fun s3 => ?_) FU ((0 : Int32), (0 : Int32), h2)) (fun x4 => ?_)
  · show PJ l G (pj_rm 1 0 0) Y_Now_nextHour 14 [some (.inr (.inr a0)), some (.inr (.inr a1)), some (.inl s3.1), some (.inl s3.2.1)] [] s3.2.2 0 0 _ _
    refine PJ.iload_n (pc := 14) d_Now_nextHour_14 rfl ?_
    refine PJ.aload_n (pc := 15) d_Now_nextHour_15 rfl ?_
    refine PJ.getI (pc := 16) fs_Now_51 d_Now_nextHour_16 (fun v5 => ?_)
    refine PJ.icmp_ge (pc := 19) (tgt := 89) d_Now_nextHour_19 (by decide) (fun _ => ?_) (fun _ => ?_)
    · refine PJ.mk (L1 := [none, none, some (.inl s3.1), none]) [false, false, true, false] rfl ?_
      exact PJ.done rfl
    · refine PJ.aload_n (pc := 22) d_Now_nextHour_22 rfl ?_
      refine PJ.getR (pc := 23) fs_Now_56 d_Now_nextHour_23 (fun v6 => ?_)
      refine PJ.iload_n (pc := 26) d_Now_nextHour_26 rfl ?_
      refine PJ.iald (pc := 27) d_Now_nextHour_27 (fun v7 => ?_)
      refine PJ.aload_n (pc := 28) d_Now_nextHour_28 rfl ?_
      refine PJ.getI (pc := 29) fs_Now_9 d_Now_nextHour_29 (fun v8 => ?_)
      refine PJ.icmp_ne (pc := 32) (tgt := 83) d_Now_nextHour_32 (by decide) (fun _ => ?_) (fun _ => ?_)
      · refine PJ.iinc (pc := 83) (v := 1) (L1 := [some (.inr (.inr a0)), some (.inr (.inr a1)), some (.inl s3.1), some (.inl (s3.2.1 + (1 : Int32)))]) d_Now_nextHour_83 rfl (by decide) (Nat.le_of_ble_eq_true rfl) rfl rfl ?_
        refine PJ.goto (pc := 86) (tgt := 14) d_Now_nextHour_86 (by decide) ?_
        exact PJ.done rfl
      · refine PJ.aload_n (pc := 35) d_Now_nextHour_35 rfl ?_
        refine PJ.bipush (pc := 36) (v := 75) d_Now_nextHour_36 (by decide) ?_
        refine PJ.aload_n (pc := 38) d_Now_nextHour_38 rfl ?_
        refine PJ.getI (pc := 39) fs_Now_15 d_Now_nextHour_39 (fun v9 => ?_)
        refine PJ.imul (pc := 42) d_Now_nextHour_42 ?_
        refine PJ.bipush (pc := 43) (v := 74) d_Now_nextHour_43 (by decide) ?_
        refine PJ.iadd (pc := 45) d_Now_nextHour_45 ?_
        refine PJ.ldc (pc := 46) (v := 65537) d_Now_nextHour_46 wd_1242 ?_
        refine PJ.irem (pc := 48) d_Now_nextHour_48 (fun _ => ?_)
        refine PJ.putI (pc := 49) ps_Now_15 d_Now_nextHour_49 (fun h10 => ?_)
        refine PJ.aload_n (pc := 52) d_Now_nextHour_52 rfl ?_
        refine PJ.getI (pc := 53) fs_Now_15 d_Now_nextHour_53 (fun v11 => ?_)
        refine PJ.bipush (pc := 56) (v := 100) d_Now_nextHour_56 (by decide) ?_
        refine PJ.irem (pc := 58) d_Now_nextHour_58 (fun _ => ?_)
        refine PJ.aload_n (pc := 59) d_Now_nextHour_59 rfl ?_
        refine PJ.getR (pc := 60) fs_Now_59 d_Now_nextHour_60 (fun v12 => ?_)
        refine PJ.iload_n (pc := 63) d_Now_nextHour_63 rfl ?_
        refine PJ.iald (pc := 64) d_Now_nextHour_64 (fun v13 => ?_)
        refine PJ.icmp_ge (pc := 65) (tgt := 83) d_Now_nextHour_65 (by decide) (fun _ => ?_) (fun _ => ?_)
        · refine PJ.iinc (pc := 83) (v := 1) (L1 := [some (.inr (.inr a0)), some (.inr (.inr a1)), some (.inl s3.1), some (.inl (s3.2.1 + (1 : Int32)))]) d_Now_nextHour_83 rfl (by decide) (Nat.le_of_ble_eq_true rfl) rfl rfl ?_
          refine PJ.goto (pc := 86) (tgt := 14) d_Now_nextHour_86 (by decide) ?_
          exact PJ.done rfl
        · refine PJ.aload_n (pc := 68) d_Now_nextHour_68 rfl ?_
          refine PJ.dup (pc := 69) d_Now_nextHour_69 rfl ?_
          refine PJ.getI (pc := 70) fs_Now_18 d_Now_nextHour_70 (fun v14 => ?_)
          refine PJ.iconst (pc := 73) (v := 1) d_Now_nextHour_73 (by decide) ?_
          refine PJ.iload_n (pc := 74) d_Now_nextHour_74 rfl ?_
          refine PJ.ishl (pc := 75) d_Now_nextHour_75 ?_
          refine PJ.ior (pc := 76) d_Now_nextHour_76 ?_
          refine PJ.putI (pc := 77) ps_Now_18 d_Now_nextHour_77 (fun h15 => ?_)
          refine PJ.iinc (pc := 80) (v := 1) (L1 := [some (.inr (.inr a0)), some (.inr (.inr a1)), some (.inl (s3.1 + (1 : Int32))), some (.inl s3.2.1)]) d_Now_nextHour_80 rfl (by decide) (Nat.le_of_ble_eq_true rfl) rfl rfl ?_
          refine PJ.iinc (pc := 83) (v := 1) (L1 := [some (.inr (.inr a0)), some (.inr (.inr a1)), some (.inl (s3.1 + (1 : Int32))), some (.inl (s3.2.1 + (1 : Int32)))]) d_Now_nextHour_83 rfl (by decide) (Nat.le_of_ble_eq_true rfl) rfl rfl ?_
          refine PJ.goto (pc := 86) (tgt := 14) d_Now_nextHour_86 (by decide) ?_
          exact PJ.done rfl
  · show PJ l G (pj_rm 1 0 0) Y_Now_nextHour 89 [none, none, some (.inl x4.1), none] [] x4.2 0 0 _ _
    refine PJ.iload_n (pc := 89) d_Now_nextHour_89 rfl ?_
    exact PJ.iret (pc := 90) d_Now_nextHour_90 rfl (Nat.le_of_ble_eq_true rfl) (Nat.le_of_ble_eq_true rfl)
theorem d_T_live_0 : decode Y_T_live.2.1 0 = .ok (.aload_n 0, 1) := by decide +kernel
theorem d_T_live_1 : decode Y_T_live.2.1 1 = .ok (.getfield 47, 3) := by decide +kernel
theorem d_T_live_4 : decode Y_T_live.2.1 4 = .ok (.aload_n 0, 1) := by decide +kernel
theorem d_T_live_5 : decode Y_T_live.2.1 5 = .ok (.getfield 43, 3) := by decide +kernel
theorem d_T_live_8 : decode Y_T_live.2.1 8 = .ok (.invokevirtual 339, 3) := by decide +kernel
theorem d_T_live_11 : decode Y_T_live.2.1 11 = .ok (.aload_n 0, 1) := by decide +kernel
theorem d_T_live_12 : decode Y_T_live.2.1 12 = .ok (.getfield 47, 3) := by decide +kernel
theorem d_T_live_15 : decode Y_T_live.2.1 15 = .ok (.iload_n 1, 1) := by decide +kernel
theorem d_T_live_16 : decode Y_T_live.2.1 16 = .ok (.putfield 343, 3) := by decide +kernel
theorem d_T_live_19 : decode Y_T_live.2.1 19 = .ok (.aload_n 0, 1) := by decide +kernel
theorem d_T_live_20 : decode Y_T_live.2.1 20 = .ok (.getfield 55, 3) := by decide +kernel
theorem d_T_live_23 : decode Y_T_live.2.1 23 = .ok (.aload_n 0, 1) := by decide +kernel
theorem d_T_live_24 : decode Y_T_live.2.1 24 = .ok (.getfield 20, 3) := by decide +kernel
theorem d_T_live_27 : decode Y_T_live.2.1 27 = .ok (.aload_n 0, 1) := by decide +kernel
theorem d_T_live_28 : decode Y_T_live.2.1 28 = .ok (.getfield 47, 3) := by decide +kernel
theorem d_T_live_31 : decode Y_T_live.2.1 31 = .ok (.invokevirtual 252, 3) := by decide +kernel
theorem d_T_live_34 : decode Y_T_live.2.1 34 = .ok (.iconst 0, 1) := by decide +kernel
theorem d_T_live_35 : decode Y_T_live.2.1 35 = .ok (.istore_n 3, 1) := by decide +kernel
theorem d_T_live_36 : decode Y_T_live.2.1 36 = .ok (.iload_n 3, 1) := by decide +kernel
theorem d_T_live_37 : decode Y_T_live.2.1 37 = .ok (.iload_n 2, 1) := by decide +kernel
theorem d_T_live_38 : decode Y_T_live.2.1 38 = .ok (.if_icmp .ge 93, 3) := by decide +kernel
theorem d_T_live_41 : decode Y_T_live.2.1 41 = .ok (.iconst 0, 1) := by decide +kernel
theorem d_T_live_42 : decode Y_T_live.2.1 42 = .ok (.istore 4, 2) := by decide +kernel
theorem d_T_live_44 : decode Y_T_live.2.1 44 = .ok (.iload 4, 2) := by decide +kernel
theorem d_T_live_46 : decode Y_T_live.2.1 46 = .ok (.aload_n 0, 1) := by decide +kernel
theorem d_T_live_47 : decode Y_T_live.2.1 47 = .ok (.getfield 20, 3) := by decide +kernel
theorem d_T_live_50 : decode Y_T_live.2.1 50 = .ok (.getfield 111, 3) := by decide +kernel
theorem d_T_live_53 : decode Y_T_live.2.1 53 = .ok (.if_icmp .ge 57, 3) := by decide +kernel
theorem d_T_live_56 : decode Y_T_live.2.1 56 = .ok (.aload_n 0, 1) := by decide +kernel
theorem d_T_live_57 : decode Y_T_live.2.1 57 = .ok (.getfield 55, 3) := by decide +kernel
theorem d_T_live_60 : decode Y_T_live.2.1 60 = .ok (.iload 4, 2) := by decide +kernel
theorem d_T_live_62 : decode Y_T_live.2.1 62 = .ok (.invokevirtual 157, 3) := by decide +kernel
theorem d_T_live_65 : decode Y_T_live.2.1 65 = .ok (.istore 5, 2) := by decide +kernel
theorem d_T_live_67 : decode Y_T_live.2.1 67 = .ok (.iload 5, 2) := by decide +kernel
theorem d_T_live_69 : decode Y_T_live.2.1 69 = .ok (.aload_n 0, 1) := by decide +kernel
theorem d_T_live_70 : decode Y_T_live.2.1 70 = .ok (.getfield 47, 3) := by decide +kernel
theorem d_T_live_73 : decode Y_T_live.2.1 73 = .ok (.getfield 128, 3) := by decide +kernel
theorem d_T_live_76 : decode Y_T_live.2.1 76 = .ok (.iload 4, 2) := by decide +kernel
theorem d_T_live_78 : decode Y_T_live.2.1 78 = .ok (.iaload, 1) := by decide +kernel
theorem d_T_live_79 : decode Y_T_live.2.1 79 = .ok (.if_icmp .eq 25, 3) := by decide +kernel
theorem d_T_live_82 : decode Y_T_live.2.1 82 = .ok (.aload_n 0, 1) := by decide +kernel
theorem d_T_live_83 : decode Y_T_live.2.1 83 = .ok (.getfield 47, 3) := by decide +kernel
theorem d_T_live_86 : decode Y_T_live.2.1 86 = .ok (.iload 4, 2) := by decide +kernel
theorem d_T_live_88 : decode Y_T_live.2.1 88 = .ok (.iload 5, 2) := by decide +kernel
theorem d_T_live_90 : decode Y_T_live.2.1 90 = .ok (.aload_n 0, 1) := by decide +kernel
theorem d_T_live_91 : decode Y_T_live.2.1 91 = .ok (.getfield 55, 3) := by decide +kernel
theorem d_T_live_94 : decode Y_T_live.2.1 94 = .ok (.iload 4, 2) := by decide +kernel
theorem d_T_live_96 : decode Y_T_live.2.1 96 = .ok (.iload 5, 2) := by decide +kernel
theorem d_T_live_98 : decode Y_T_live.2.1 98 = .ok (.invokevirtual 154, 3) := by decide +kernel
theorem d_T_live_101 : decode Y_T_live.2.1 101 = .ok (.invokevirtual 346, 3) := by decide +kernel
theorem d_T_live_104 : decode Y_T_live.2.1 104 = .ok (.iinc 4 1, 3) := by decide +kernel
theorem d_T_live_107 : decode Y_T_live.2.1 107 = .ok (.goto (-63), 3) := by decide +kernel
theorem d_T_live_110 : decode Y_T_live.2.1 110 = .ok (.aload_n 0, 1) := by decide +kernel
theorem d_T_live_111 : decode Y_T_live.2.1 111 = .ok (.getfield 47, 3) := by decide +kernel
theorem d_T_live_114 : decode Y_T_live.2.1 114 = .ok (.aload_n 0, 1) := by decide +kernel
theorem d_T_live_115 : decode Y_T_live.2.1 115 = .ok (.getfield 20, 3) := by decide +kernel
theorem d_T_live_118 : decode Y_T_live.2.1 118 = .ok (.getfield 175, 3) := by decide +kernel
theorem d_T_live_121 : decode Y_T_live.2.1 121 = .ok (.invokevirtual 350, 3) := by decide +kernel
theorem d_T_live_124 : decode Y_T_live.2.1 124 = .ok (.pop, 1) := by decide +kernel
theorem d_T_live_125 : decode Y_T_live.2.1 125 = .ok (.iinc 3 1, 3) := by decide +kernel
theorem d_T_live_128 : decode Y_T_live.2.1 128 = .ok (.goto (-92), 3) := by decide +kernel
theorem d_T_live_131 : decode Y_T_live.2.1 131 = .ok (.return_, 1) := by decide +kernel
def f_T_live (h : PH) (a0 : Option Nat) (a1 : Int32) (a2 : Int32) : Option PH := (gR h 10 a0 7).bind fun v1 => (gR h 10 a0 6).bind fun v2 => (cl h 2 v1 (f_Now_become h v1 v2)).bind fun h3 => (gR h3 10 a0 7).bind fun v4 => (sF h3 2 v4 1 (.inl a1)).bind fun h5 => (gR h5 10 a0 8).bind fun v6 => (gR h5 10 a0 2).bind fun v7 => (gR h5 10 a0 7).bind fun v8 => (cl h5 0 v6 (f_Desk_look h5 v6 v7 v8)).bind fun h9 => (pj_it (X := PH) (fun s10 : Int32 × PH => if a2 ≤ s10.1 then (some (.inr s10.2)) else ((pj_it (X := PH) (fun s12 : Int32 × PH => (gR s12.2 10 a0 2).bind fun v14 => (gI s12.2 1 v14 3).bind fun v15 => if v15 ≤ s12.1 then (some (.inr s12.2)) else ((gR s12.2 10 a0 8).bind fun v16 => (cl s12.2 0 v16 (f_Desk_choiceOf s12.2 v16 s12.1)).bind fun v17 => (gR s12.2 10 a0 7).bind fun v18 => (gR s12.2 2 v18 3).bind fun v19 => (aI s12.2 v19 s12.1).bind fun v20 => if v17 = v20 then (some (.inl ((s12.1 + (1 : Int32)), s12.2))) else ((gR s12.2 10 a0 7).bind fun v21 => (gR s12.2 10 a0 8).bind fun v22 => (cl s12.2 0 v22 (f_Desk_taxOf s12.2 v22 s12.1 v17)).bind fun v23 => (cl s12.2 2 v21 (f_Now_move s12.2 v21 s12.1 v17 v23)).bind fun h24 => some (.inl ((s12.1 + (1 : Int32)), h24))))) FU ((0 : Int32), s10.2)).bind fun x13 => (gR x13 10 a0 7).bind fun v25 => (gR x13 10 a0 2).bind fun v26 => (gR x13 1 v26 10).bind fun v27 => (cl x13 2 v25 (f_Now_nextHour x13 v25 v27)).bind fun v28 => some (.inl ((s10.1 + (1 : Int32)), v28.2)))) FU ((0 : Int32), h9)).bind fun x11 => some x11
set_option maxRecDepth 20000 in
theorem PM_T_live {l : Launch} {G : Cx} {h : PH} {a0 : Option Nat} {a1 : Int32} {a2 : Int32} {z : PH} (hz : f_T_live h a0 a1 a2 = some z) : PM l G 5 0 0 Y_T_live [.inr (.inr a0), .inl a1, .inl a2] h (none, z) := by
  refine PM.of (Y := Y_T_live) (cv := (fun z : PH => (((none, z) : Option PV × PH)))) (by decide) (L0 := [some (.inr (.inr a0)), some (.inl a1), some (.inl a2), none, none, none]) 3 rfl (Nat.le_of_ble_eq_true rfl) ?_ hz
  unfold f_T_live
  refine PJ.aload_n (pc := 0) d_T_live_0 rfl ?_
  refine PJ.getR (pc := 1) fs_T_47 d_T_live_1 (fun v1 => ?_)
  refine PJ.aload_n (pc := 4) d_T_live_4 rfl ?_
  refine PJ.getR (pc := 5) fs_T_43 d_T_live_5 (fun v2 => ?_)
  refine PJ.cVV (pc := 8) cs_T_339 (fun z hz => PM_Now_become hz) (pj_fitb rfl) rfl rfl (Nat.le_of_ble_eq_true rfl) d_T_live_8 (fun h3 => ?_)
  refine PJ.aload_n (pc := 11) d_T_live_11 rfl ?_
  refine PJ.getR (pc := 12) fs_T_47 d_T_live_12 (fun v4 => ?_)
  refine PJ.iload_n (pc := 15) d_T_live_15 rfl ?_
  refine PJ.putI (pc := 16) ps_T_343 d_T_live_16 (fun h5 => ?_)
  refine PJ.aload_n (pc := 19) d_T_live_19 rfl ?_
  refine PJ.getR (pc := 20) fs_T_55 d_T_live_20 (fun v6 => ?_)
  refine PJ.aload_n (pc := 23) d_T_live_23 rfl ?_
  refine PJ.getR (pc := 24) fs_T_20 d_T_live_24 (fun v7 => ?_)
  refine PJ.aload_n (pc := 27) d_T_live_27 rfl ?_
  refine PJ.getR (pc := 28) fs_T_47 d_T_live_28 (fun v8 => ?_)
  refine PJ.cVV (pc := 31) cs_T_252 (fun z hz => PM_Desk_look hz) (pj_fitb rfl) rfl rfl (Nat.le_of_ble_eq_true rfl) d_T_live_31 (fun h9 => ?_)
  refine PJ.iconst (pc := 34) (v := 0) d_T_live_34 (by decide) ?_
  refine PJ.istore_n (pc := 35) (L1 := [some (.inr (.inr a0)), some (.inl a1), some (.inl a2), some (.inl (0 : Int32)), none, none]) d_T_live_35 (Nat.le_of_ble_eq_true rfl) rfl rfl ?_
  refine PJ.mk (L1 := [some (.inr (.inr a0)), none, some (.inl a2), some (.inl (0 : Int32)), none, none]) [true, false, true, true, false, false] rfl ?_
  refine PJ.bind (fun x11 : PH => ((131 : Nat), ([none, none, none, none, none, none] : List (Option PV)), ([] : List PV), (x11 : PH), (0 : Nat), (0 : Nat))) (PJ.it (E := (fun s10 : Int32 × PH => ((36 : Nat), ([some (.inr (.inr a0)), none, some (.inl a2), some (.inl s10.1), none, none] : List (Option PV)), ([] : List PV), (s10.2 : PH), (0 : Nat), (0 : Nat)))) (F := (fun x11 : PH => ((131 : Nat), ([none, none, none, none, none, none] : List (Option PV)), ([] : List PV), (x11 : PH), (0 : Nat), (0 : Nat)))) (fun s10 => ?_) FU ((0 : Int32), h9)) (fun x11 => ?_)
  · show PJ l G (pj_rm 5 0 0) Y_T_live 36 [some (.inr (.inr a0)), none, some (.inl a2), some (.inl s10.1), none, none] [] s10.2 0 0 _ _
    refine PJ.iload_n (pc := 36) d_T_live_36 rfl ?_
    refine PJ.iload_n (pc := 37) d_T_live_37 rfl ?_
    refine PJ.icmp_ge (pc := 38) (tgt := 131) d_T_live_38 (by decide) (fun _ => ?_) (fun _ => ?_)
    · refine PJ.mk (L1 := [none, none, none, none, none, none]) [false, false, false, false, false, false] rfl ?_
      exact PJ.done rfl
    · refine PJ.iconst (pc := 41) (v := 0) d_T_live_41 (by decide) ?_
      refine PJ.istore (pc := 42) (L1 := [some (.inr (.inr a0)), none, some (.inl a2), some (.inl s10.1), some (.inl (0 : Int32)), none]) d_T_live_42 (Nat.le_of_ble_eq_true rfl) rfl rfl ?_
      refine PJ.bind (fun x13 : PH => ((110 : Nat), ([some (.inr (.inr a0)), none, some (.inl a2), some (.inl s10.1), none, none] : List (Option PV)), ([] : List PV), (x13 : PH), (0 : Nat), (0 : Nat))) (PJ.it (E := (fun s12 : Int32 × PH => ((44 : Nat), ([some (.inr (.inr a0)), none, some (.inl a2), some (.inl s10.1), some (.inl s12.1), none] : List (Option PV)), ([] : List PV), (s12.2 : PH), (0 : Nat), (0 : Nat)))) (F := (fun x13 : PH => ((110 : Nat), ([some (.inr (.inr a0)), none, some (.inl a2), some (.inl s10.1), none, none] : List (Option PV)), ([] : List PV), (x13 : PH), (0 : Nat), (0 : Nat)))) (fun s12 => ?_) FU ((0 : Int32), s10.2)) (fun x13 => ?_)
      · show PJ l G (pj_rm 5 0 0) Y_T_live 44 [some (.inr (.inr a0)), none, some (.inl a2), some (.inl s10.1), some (.inl s12.1), none] [] s12.2 0 0 _ _
        refine PJ.iload (pc := 44) d_T_live_44 rfl ?_
        refine PJ.aload_n (pc := 46) d_T_live_46 rfl ?_
        refine PJ.getR (pc := 47) fs_T_20 d_T_live_47 (fun v14 => ?_)
        refine PJ.getI (pc := 50) fs_T_111 d_T_live_50 (fun v15 => ?_)
        refine PJ.icmp_ge (pc := 53) (tgt := 110) d_T_live_53 (by decide) (fun _ => ?_) (fun _ => ?_)
        · refine PJ.mk (L1 := [some (.inr (.inr a0)), none, some (.inl a2), some (.inl s10.1), none, none]) [true, false, true, true, false, false] rfl ?_
          exact PJ.done rfl
        · refine PJ.aload_n (pc := 56) d_T_live_56 rfl ?_
          refine PJ.getR (pc := 57) fs_T_55 d_T_live_57 (fun v16 => ?_)
          refine PJ.iload (pc := 60) d_T_live_60 rfl ?_
          refine PJ.cVpI (pc := 62) cs_T_157 (fun z hz => PM_Desk_choiceOf hz) (pj_fitb rfl) rfl rfl (Nat.le_of_ble_eq_true rfl) d_T_live_62 (fun v17 => ?_)
          refine PJ.istore (pc := 65) (L1 := [some (.inr (.inr a0)), none, some (.inl a2), some (.inl s10.1), some (.inl s12.1), some (.inl v17)]) d_T_live_65 (Nat.le_of_ble_eq_true rfl) rfl rfl ?_
          refine PJ.iload (pc := 67) d_T_live_67 rfl ?_
          refine PJ.aload_n (pc := 69) d_T_live_69 rfl ?_
          refine PJ.getR (pc := 70) fs_T_47 d_T_live_70 (fun v18 => ?_)
          refine PJ.getR (pc := 73) fs_T_128 d_T_live_73 (fun v19 => ?_)
          refine PJ.iload (pc := 76) d_T_live_76 rfl ?_
          refine PJ.iald (pc := 78) d_T_live_78 (fun v20 => ?_)
          refine PJ.icmp_eq (pc := 79) (tgt := 104) d_T_live_79 (by decide) (fun _ => ?_) (fun _ => ?_)
          · refine PJ.iinc (pc := 104) (v := 1) (L1 := [some (.inr (.inr a0)), none, some (.inl a2), some (.inl s10.1), some (.inl (s12.1 + (1 : Int32))), some (.inl v17)]) d_T_live_104 rfl (by decide) (Nat.le_of_ble_eq_true rfl) rfl rfl ?_
            refine PJ.goto (pc := 107) (tgt := 44) d_T_live_107 (by decide) ?_
            refine PJ.mk (L1 := [some (.inr (.inr a0)), none, some (.inl a2), some (.inl s10.1), some (.inl (s12.1 + (1 : Int32))), none]) [true, false, true, true, true, false] rfl ?_
            exact PJ.done rfl
          · refine PJ.aload_n (pc := 82) d_T_live_82 rfl ?_
            refine PJ.getR (pc := 83) fs_T_47 d_T_live_83 (fun v21 => ?_)
            refine PJ.iload (pc := 86) d_T_live_86 rfl ?_
            refine PJ.iload (pc := 88) d_T_live_88 rfl ?_
            refine PJ.aload_n (pc := 90) d_T_live_90 rfl ?_
            refine PJ.getR (pc := 91) fs_T_55 d_T_live_91 (fun v22 => ?_)
            refine PJ.iload (pc := 94) d_T_live_94 rfl ?_
            refine PJ.iload (pc := 96) d_T_live_96 rfl ?_
            refine PJ.cVpI (pc := 98) cs_T_154 (fun z hz => PM_Desk_taxOf hz) (pj_fitb rfl) rfl rfl (Nat.le_of_ble_eq_true rfl) d_T_live_98 (fun v23 => ?_)
            refine PJ.cVV (pc := 101) cs_T_346 (fun z hz => PM_Now_move hz) (pj_fitb rfl) rfl rfl (Nat.le_of_ble_eq_true rfl) d_T_live_101 (fun h24 => ?_)
            refine PJ.iinc (pc := 104) (v := 1) (L1 := [some (.inr (.inr a0)), none, some (.inl a2), some (.inl s10.1), some (.inl (s12.1 + (1 : Int32))), some (.inl v17)]) d_T_live_104 rfl (by decide) (Nat.le_of_ble_eq_true rfl) rfl rfl ?_
            refine PJ.goto (pc := 107) (tgt := 44) d_T_live_107 (by decide) ?_
            refine PJ.mk (L1 := [some (.inr (.inr a0)), none, some (.inl a2), some (.inl s10.1), some (.inl (s12.1 + (1 : Int32))), none]) [true, false, true, true, true, false] rfl ?_
            exact PJ.done rfl
      · show PJ l G (pj_rm 5 0 0) Y_T_live 110 [some (.inr (.inr a0)), none, some (.inl a2), some (.inl s10.1), none, none] [] x13 0 0 _ _
        refine PJ.aload_n (pc := 110) d_T_live_110 rfl ?_
        refine PJ.getR (pc := 111) fs_T_47 d_T_live_111 (fun v25 => ?_)
        refine PJ.aload_n (pc := 114) d_T_live_114 rfl ?_
        refine PJ.getR (pc := 115) fs_T_20 d_T_live_115 (fun v26 => ?_)
        refine PJ.getR (pc := 118) fs_T_175 d_T_live_118 (fun v27 => ?_)
        refine PJ.cVI (pc := 121) cs_T_350 (fun z hz => PM_Now_nextHour hz) (pj_fitb rfl) rfl rfl (Nat.le_of_ble_eq_true rfl) d_T_live_121 (fun v28 => ?_)
        refine PJ.pop (pc := 124) d_T_live_124 rfl ?_
        refine PJ.iinc (pc := 125) (v := 1) (L1 := [some (.inr (.inr a0)), none, some (.inl a2), some (.inl (s10.1 + (1 : Int32))), none, none]) d_T_live_125 rfl (by decide) (Nat.le_of_ble_eq_true rfl) rfl rfl ?_
        refine PJ.goto (pc := 128) (tgt := 36) d_T_live_128 (by decide) ?_
        exact PJ.done rfl
  · show PJ l G (pj_rm 5 0 0) Y_T_live 131 [none, none, none, none, none, none] [] x11 0 0 _ _
    exact PJ.vret (pc := 131) d_T_live_131 rfl (Nat.le_of_ble_eq_true rfl) (Nat.le_of_ble_eq_true rfl)
theorem d_T_year_0 : decode Y_T_year.2.1 0 = .ok (.aload_n 0, 1) := by decide +kernel
theorem d_T_year_1 : decode Y_T_year.2.1 1 = .ok (.iload_n 1, 1) := by decide +kernel
theorem d_T_year_2 : decode Y_T_year.2.1 2 = .ok (.iload_n 2, 1) := by decide +kernel
theorem d_T_year_3 : decode Y_T_year.2.1 3 = .ok (.invokevirtual 328, 3) := by decide +kernel
theorem d_T_year_6 : decode Y_T_year.2.1 6 = .ok (.istore_n 3, 1) := by decide +kernel
theorem d_T_year_7 : decode Y_T_year.2.1 7 = .ok (.iload_n 3, 1) := by decide +kernel
theorem d_T_year_8 : decode Y_T_year.2.1 8 = .ok (.ifCond .eq 9, 3) := by decide +kernel
theorem d_T_year_11 : decode Y_T_year.2.1 11 = .ok (.aload_n 0, 1) := by decide +kernel
theorem d_T_year_12 : decode Y_T_year.2.1 12 = .ok (.iload_n 3, 1) := by decide +kernel
theorem d_T_year_13 : decode Y_T_year.2.1 13 = .ok (.invokevirtual 95, 3) := by decide +kernel
theorem d_T_year_16 : decode Y_T_year.2.1 16 = .ok (.ireturn, 1) := by decide +kernel
theorem d_T_year_17 : decode Y_T_year.2.1 17 = .ok (.aload_n 0, 1) := by decide +kernel
theorem d_T_year_18 : decode Y_T_year.2.1 18 = .ok (.iload_n 1, 1) := by decide +kernel
theorem d_T_year_19 : decode Y_T_year.2.1 19 = .ok (.iload_n 2, 1) := by decide +kernel
theorem d_T_year_20 : decode Y_T_year.2.1 20 = .ok (.invokevirtual 331, 3) := by decide +kernel
theorem d_T_year_23 : decode Y_T_year.2.1 23 = .ok (.aload_n 0, 1) := by decide +kernel
theorem d_T_year_24 : decode Y_T_year.2.1 24 = .ok (.aload_n 0, 1) := by decide +kernel
theorem d_T_year_25 : decode Y_T_year.2.1 25 = .ok (.getfield 47, 3) := by decide +kernel
theorem d_T_year_28 : decode Y_T_year.2.1 28 = .ok (.invokevirtual 187, 3) := by decide +kernel
theorem d_T_year_31 : decode Y_T_year.2.1 31 = .ok (.aload_n 0, 1) := by decide +kernel
theorem d_T_year_32 : decode Y_T_year.2.1 32 = .ok (.getfield 43, 3) := by decide +kernel
theorem d_T_year_35 : decode Y_T_year.2.1 35 = .ok (.invokevirtual 187, 3) := by decide +kernel
theorem d_T_year_38 : decode Y_T_year.2.1 38 = .ok (.isub, 1) := by decide +kernel
theorem d_T_year_39 : decode Y_T_year.2.1 39 = .ok (.invokevirtual 114, 3) := by decide +kernel
theorem d_T_year_42 : decode Y_T_year.2.1 42 = .ok (.ireturn, 1) := by decide +kernel
def f_T_year (h : PH) (a0 : Option Nat) (a1 : Int32) (a2 : Int32) : Option (Int32 × PH) := (cl h 10 a0 (f_T_yearTrouble h a0 a1 a2)).bind fun v1 => if v1 = 0 then ((cl h 10 a0 (f_T_live h a0 a1 a2)).bind fun h2 => (gR h2 10 a0 7).bind fun v3 => (cl h2 2 v3 (f_Now_allSpent h2 v3)).bind fun v4 => (gR h2 10 a0 6).bind fun v5 => (cl h2 2 v5 (f_Now_allSpent h2 v5)).bind fun v6 => (cl h2 10 a0 (f_T_fine h2 a0 (v4 - v6))).bind fun v7 => some (v7.1, v7.2)) else ((cl h 10 a0 (f_T_refuse h a0 v1)).bind fun v8 => some (v8.1, v8.2))
set_option maxRecDepth 20000 in
theorem PM_T_year {l : Launch} {G : Cx} {h : PH} {a0 : Option Nat} {a1 : Int32} {a2 : Int32} {z : (Int32 × PH)} (hz : f_T_year h a0 a1 a2 = some z) : PM l G 6 0 0 Y_T_year [.inr (.inr a0), .inl a1, .inl a2] h (some (.inl z.1), z.2) := by
  refine PM.of (Y := Y_T_year) (cv := (fun z : (Int32 × PH) => (((some (.inl z.1), z.2) : Option PV × PH)))) (by decide) (L0 := [some (.inr (.inr a0)), some (.inl a1), some (.inl a2), none]) 1 rfl (Nat.le_of_ble_eq_true rfl) ?_ hz
  unfold f_T_year
  refine PJ.aload_n (pc := 0) d_T_year_0 rfl ?_
  refine PJ.iload_n (pc := 1) d_T_year_1 rfl ?_
  refine PJ.iload_n (pc := 2) d_T_year_2 rfl ?_
  refine PJ.cVpI (pc := 3) cs_T_328 (fun z hz => PM_T_yearTrouble hz) (pj_fitb rfl) rfl rfl (Nat.le_of_ble_eq_true rfl) d_T_year_3 (fun v1 => ?_)
  refine PJ.istore_n (pc := 6) (L1 := [some (.inr (.inr a0)), some (.inl a1), some (.inl a2), some (.inl v1)]) d_T_year_6 (Nat.le_of_ble_eq_true rfl) rfl rfl ?_
  refine PJ.iload_n (pc := 7) d_T_year_7 rfl ?_
  refine PJ.if_eq (pc := 8) (tgt := 17) d_T_year_8 (by decide) (fun _ => ?_) (fun _ => ?_)
  · refine PJ.aload_n (pc := 17) d_T_year_17 rfl ?_
    refine PJ.iload_n (pc := 18) d_T_year_18 rfl ?_
    refine PJ.iload_n (pc := 19) d_T_year_19 rfl ?_
    refine PJ.cVV (pc := 20) cs_T_331 (fun z hz => PM_T_live hz) (pj_fitb rfl) rfl rfl (Nat.le_of_ble_eq_true rfl) d_T_year_20 (fun h2 => ?_)
    refine PJ.aload_n (pc := 23) d_T_year_23 rfl ?_
    refine PJ.aload_n (pc := 24) d_T_year_24 rfl ?_
    refine PJ.getR (pc := 25) fs_T_47 d_T_year_25 (fun v3 => ?_)
    refine PJ.cVpI (pc := 28) cs_T_187 (fun z hz => PM_Now_allSpent hz) (pj_fitb rfl) rfl rfl (Nat.le_of_ble_eq_true rfl) d_T_year_28 (fun v4 => ?_)
    refine PJ.aload_n (pc := 31) d_T_year_31 rfl ?_
    refine PJ.getR (pc := 32) fs_T_43 d_T_year_32 (fun v5 => ?_)
    refine PJ.cVpI (pc := 35) cs_T_187 (fun z hz => PM_Now_allSpent hz) (pj_fitb rfl) rfl rfl (Nat.le_of_ble_eq_true rfl) d_T_year_35 (fun v6 => ?_)
    refine PJ.isub (pc := 38) d_T_year_38 ?_
    refine PJ.cVI (pc := 39) cs_T_114 (fun z hz => PM_T_fine hz) (pj_fitb rfl) rfl rfl (Nat.le_of_ble_eq_true rfl) d_T_year_39 (fun v7 => ?_)
    exact PJ.iret (pc := 42) d_T_year_42 rfl (Nat.le_of_ble_eq_true rfl) (Nat.le_of_ble_eq_true rfl)
  · refine PJ.aload_n (pc := 11) d_T_year_11 rfl ?_
    refine PJ.iload_n (pc := 12) d_T_year_12 rfl ?_
    refine PJ.cVI (pc := 13) cs_T_95 (fun z hz => PM_T_refuse hz) (pj_fitb rfl) rfl rfl (Nat.le_of_ble_eq_true rfl) d_T_year_13 (fun v8 => ?_)
    exact PJ.iret (pc := 16) d_T_year_16 rfl (Nat.le_of_ble_eq_true rfl) (Nat.le_of_ble_eq_true rfl)
theorem d_T_yearHeld_0 : decode Y_T_yearHeld.2.1 0 = .ok (.aload_n 0, 1) := by decide +kernel
theorem d_T_yearHeld_1 : decode Y_T_yearHeld.2.1 1 = .ok (.iload_n 1, 1) := by decide +kernel
theorem d_T_yearHeld_2 : decode Y_T_yearHeld.2.1 2 = .ok (.invokevirtual 117, 3) := by decide +kernel
theorem d_T_yearHeld_5 : decode Y_T_yearHeld.2.1 5 = .ok (.ifCond .eq 12, 3) := by decide +kernel
theorem d_T_yearHeld_8 : decode Y_T_yearHeld.2.1 8 = .ok (.aload_n 0, 1) := by decide +kernel
theorem d_T_yearHeld_9 : decode Y_T_yearHeld.2.1 9 = .ok (.iload_n 2, 1) := by decide +kernel
theorem d_T_yearHeld_10 : decode Y_T_yearHeld.2.1 10 = .ok (.iload_n 3, 1) := by decide +kernel
theorem d_T_yearHeld_11 : decode Y_T_yearHeld.2.1 11 = .ok (.invokevirtual 328, 3) := by decide +kernel
theorem d_T_yearHeld_14 : decode Y_T_yearHeld.2.1 14 = .ok (.goto 4, 3) := by decide +kernel
theorem d_T_yearHeld_17 : decode Y_T_yearHeld.2.1 17 = .ok (.iconst 1, 1) := by decide +kernel
theorem d_T_yearHeld_18 : decode Y_T_yearHeld.2.1 18 = .ok (.istore 4, 2) := by decide +kernel
theorem d_T_yearHeld_20 : decode Y_T_yearHeld.2.1 20 = .ok (.iload 4, 2) := by decide +kernel
theorem d_T_yearHeld_22 : decode Y_T_yearHeld.2.1 22 = .ok (.ifCond .eq 10, 3) := by decide +kernel
theorem d_T_yearHeld_25 : decode Y_T_yearHeld.2.1 25 = .ok (.aload_n 0, 1) := by decide +kernel
theorem d_T_yearHeld_26 : decode Y_T_yearHeld.2.1 26 = .ok (.iload 4, 2) := by decide +kernel
theorem d_T_yearHeld_28 : decode Y_T_yearHeld.2.1 28 = .ok (.invokevirtual 95, 3) := by decide +kernel
theorem d_T_yearHeld_31 : decode Y_T_yearHeld.2.1 31 = .ok (.ireturn, 1) := by decide +kernel
theorem d_T_yearHeld_32 : decode Y_T_yearHeld.2.1 32 = .ok (.aload_n 0, 1) := by decide +kernel
theorem d_T_yearHeld_33 : decode Y_T_yearHeld.2.1 33 = .ok (.iload_n 2, 1) := by decide +kernel
theorem d_T_yearHeld_34 : decode Y_T_yearHeld.2.1 34 = .ok (.iload_n 3, 1) := by decide +kernel
theorem d_T_yearHeld_35 : decode Y_T_yearHeld.2.1 35 = .ok (.invokevirtual 331, 3) := by decide +kernel
theorem d_T_yearHeld_38 : decode Y_T_yearHeld.2.1 38 = .ok (.aload_n 0, 1) := by decide +kernel
theorem d_T_yearHeld_39 : decode Y_T_yearHeld.2.1 39 = .ok (.aload_n 0, 1) := by decide +kernel
theorem d_T_yearHeld_40 : decode Y_T_yearHeld.2.1 40 = .ok (.getfield 47, 3) := by decide +kernel
theorem d_T_yearHeld_43 : decode Y_T_yearHeld.2.1 43 = .ok (.getfield 128, 3) := by decide +kernel
theorem d_T_yearHeld_46 : decode Y_T_yearHeld.2.1 46 = .ok (.iload_n 1, 1) := by decide +kernel
theorem d_T_yearHeld_47 : decode Y_T_yearHeld.2.1 47 = .ok (.iaload, 1) := by decide +kernel
theorem d_T_yearHeld_48 : decode Y_T_yearHeld.2.1 48 = .ok (.invokevirtual 114, 3) := by decide +kernel
theorem d_T_yearHeld_51 : decode Y_T_yearHeld.2.1 51 = .ok (.ireturn, 1) := by decide +kernel
def f_T_yearHeld (h : PH) (a0 : Option Nat) (a1 : Int32) (a2 : Int32) (a3 : Int32) : Option (Int32 × PH) := (cl h 10 a0 (f_T_isPerson h a0 a1)).bind fun v1 => (if v1 = 0 then (some (1 : Int32)) else ((cl h 10 a0 (f_T_yearTrouble h a0 a2 a3)).bind fun v3 => some v3) : Option (Int32)).bind fun j2 => if j2 = 0 then ((cl h 10 a0 (f_T_live h a0 a2 a3)).bind fun h4 => (gR h4 10 a0 7).bind fun v5 => (gR h4 2 v5 3).bind fun v6 => (aI h4 v6 a1).bind fun v7 => (cl h4 10 a0 (f_T_fine h4 a0 v7)).bind fun v8 => some (v8.1, v8.2)) else ((cl h 10 a0 (f_T_refuse h a0 j2)).bind fun v9 => some (v9.1, v9.2))
set_option maxRecDepth 20000 in
theorem PM_T_yearHeld {l : Launch} {G : Cx} {h : PH} {a0 : Option Nat} {a1 : Int32} {a2 : Int32} {a3 : Int32} {z : (Int32 × PH)} (hz : f_T_yearHeld h a0 a1 a2 a3 = some z) : PM l G 6 0 0 Y_T_yearHeld [.inr (.inr a0), .inl a1, .inl a2, .inl a3] h (some (.inl z.1), z.2) := by
  refine PM.of (Y := Y_T_yearHeld) (cv := (fun z : (Int32 × PH) => (((some (.inl z.1), z.2) : Option PV × PH)))) (by decide) (L0 := [some (.inr (.inr a0)), some (.inl a1), some (.inl a2), some (.inl a3), none]) 1 rfl (Nat.le_of_ble_eq_true rfl) ?_ hz
  unfold f_T_yearHeld
  refine PJ.aload_n (pc := 0) d_T_yearHeld_0 rfl ?_
  refine PJ.iload_n (pc := 1) d_T_yearHeld_1 rfl ?_
  refine PJ.cVpI (pc := 2) cs_T_117 (fun z hz => PM_T_isPerson hz) (pj_fitb rfl) rfl rfl (Nat.le_of_ble_eq_true rfl) d_T_yearHeld_2 (fun v1 => ?_)
  refine PJ.bind (fun j2 : Int32 => ((18 : Nat), ([some (.inr (.inr a0)), some (.inl a1), some (.inl a2), some (.inl a3), none] : List (Option PV)), ([.inl j2] : List PV), (h : PH), (0 : Nat), (0 : Nat))) ?_ (fun j2 => ?_)
  · refine PJ.if_eq (pc := 5) (tgt := 17) d_T_yearHeld_5 (by decide) (fun _ => ?_) (fun _ => ?_)
    · refine PJ.iconst (pc := 17) (v := 1) d_T_yearHeld_17 (by decide) ?_
      exact PJ.done rfl
    · refine PJ.aload_n (pc := 8) d_T_yearHeld_8 rfl ?_
      refine PJ.iload_n (pc := 9) d_T_yearHeld_9 rfl ?_
      refine PJ.iload_n (pc := 10) d_T_yearHeld_10 rfl ?_
      refine PJ.cVpI (pc := 11) cs_T_328 (fun z hz => PM_T_yearTrouble hz) (pj_fitb rfl) rfl rfl (Nat.le_of_ble_eq_true rfl) d_T_yearHeld_11 (fun v3 => ?_)
      refine PJ.goto (pc := 14) (tgt := 18) d_T_yearHeld_14 (by decide) ?_
      exact PJ.done rfl
  · show PJ l G (pj_rm 6 0 0) Y_T_yearHeld 18 [some (.inr (.inr a0)), some (.inl a1), some (.inl a2), some (.inl a3), none] [.inl j2] h 0 0 _ _
    refine PJ.istore (pc := 18) (L1 := [some (.inr (.inr a0)), some (.inl a1), some (.inl a2), some (.inl a3), some (.inl j2)]) d_T_yearHeld_18 (Nat.le_of_ble_eq_true rfl) rfl rfl ?_
    refine PJ.iload (pc := 20) d_T_yearHeld_20 rfl ?_
    refine PJ.if_eq (pc := 22) (tgt := 32) d_T_yearHeld_22 (by decide) (fun _ => ?_) (fun _ => ?_)
    · refine PJ.aload_n (pc := 32) d_T_yearHeld_32 rfl ?_
      refine PJ.iload_n (pc := 33) d_T_yearHeld_33 rfl ?_
      refine PJ.iload_n (pc := 34) d_T_yearHeld_34 rfl ?_
      refine PJ.cVV (pc := 35) cs_T_331 (fun z hz => PM_T_live hz) (pj_fitb rfl) rfl rfl (Nat.le_of_ble_eq_true rfl) d_T_yearHeld_35 (fun h4 => ?_)
      refine PJ.aload_n (pc := 38) d_T_yearHeld_38 rfl ?_
      refine PJ.aload_n (pc := 39) d_T_yearHeld_39 rfl ?_
      refine PJ.getR (pc := 40) fs_T_47 d_T_yearHeld_40 (fun v5 => ?_)
      refine PJ.getR (pc := 43) fs_T_128 d_T_yearHeld_43 (fun v6 => ?_)
      refine PJ.iload_n (pc := 46) d_T_yearHeld_46 rfl ?_
      refine PJ.iald (pc := 47) d_T_yearHeld_47 (fun v7 => ?_)
      refine PJ.cVI (pc := 48) cs_T_114 (fun z hz => PM_T_fine hz) (pj_fitb rfl) rfl rfl (Nat.le_of_ble_eq_true rfl) d_T_yearHeld_48 (fun v8 => ?_)
      exact PJ.iret (pc := 51) d_T_yearHeld_51 rfl (Nat.le_of_ble_eq_true rfl) (Nat.le_of_ble_eq_true rfl)
    · refine PJ.aload_n (pc := 25) d_T_yearHeld_25 rfl ?_
      refine PJ.iload (pc := 26) d_T_yearHeld_26 rfl ?_
      refine PJ.cVI (pc := 28) cs_T_95 (fun z hz => PM_T_refuse hz) (pj_fitb rfl) rfl rfl (Nat.le_of_ble_eq_true rfl) d_T_yearHeld_28 (fun v9 => ?_)
      exact PJ.iret (pc := 31) d_T_yearHeld_31 rfl (Nat.le_of_ble_eq_true rfl) (Nat.le_of_ble_eq_true rfl)
theorem d_Now_allChanges_0 : decode Y_Now_allChanges.2.1 0 = .ok (.iconst 0, 1) := by decide +kernel
theorem d_Now_allChanges_1 : decode Y_Now_allChanges.2.1 1 = .ok (.istore_n 1, 1) := by decide +kernel
theorem d_Now_allChanges_2 : decode Y_Now_allChanges.2.1 2 = .ok (.iconst 0, 1) := by decide +kernel
theorem d_Now_allChanges_3 : decode Y_Now_allChanges.2.1 3 = .ok (.istore_n 2, 1) := by decide +kernel
theorem d_Now_allChanges_4 : decode Y_Now_allChanges.2.1 4 = .ok (.iload_n 2, 1) := by decide +kernel
theorem d_Now_allChanges_5 : decode Y_Now_allChanges.2.1 5 = .ok (.iconst 5, 1) := by decide +kernel
theorem d_Now_allChanges_6 : decode Y_Now_allChanges.2.1 6 = .ok (.if_icmp .ge 18, 3) := by decide +kernel
theorem d_Now_allChanges_9 : decode Y_Now_allChanges.2.1 9 = .ok (.iload_n 1, 1) := by decide +kernel
theorem d_Now_allChanges_10 : decode Y_Now_allChanges.2.1 10 = .ok (.aload_n 0, 1) := by decide +kernel
theorem d_Now_allChanges_11 : decode Y_Now_allChanges.2.1 11 = .ok (.getfield 25, 3) := by decide +kernel
theorem d_Now_allChanges_14 : decode Y_Now_allChanges.2.1 14 = .ok (.iload_n 2, 1) := by decide +kernel
theorem d_Now_allChanges_15 : decode Y_Now_allChanges.2.1 15 = .ok (.iaload, 1) := by decide +kernel
theorem d_Now_allChanges_16 : decode Y_Now_allChanges.2.1 16 = .ok (.iadd, 1) := by decide +kernel
theorem d_Now_allChanges_17 : decode Y_Now_allChanges.2.1 17 = .ok (.istore_n 1, 1) := by decide +kernel
theorem d_Now_allChanges_18 : decode Y_Now_allChanges.2.1 18 = .ok (.iinc 2 1, 3) := by decide +kernel
theorem d_Now_allChanges_21 : decode Y_Now_allChanges.2.1 21 = .ok (.goto (-17), 3) := by decide +kernel
theorem d_Now_allChanges_24 : decode Y_Now_allChanges.2.1 24 = .ok (.iload_n 1, 1) := by decide +kernel
theorem d_Now_allChanges_25 : decode Y_Now_allChanges.2.1 25 = .ok (.ireturn, 1) := by decide +kernel
def f_Now_allChanges (h : PH) (a0 : Option Nat) : Option Int32 := (pj_it (X := Int32) (fun s1 : Int32 × Int32 => if (5 : Int32) ≤ s1.2 then (some (.inr s1.1)) else ((gR h 2 a0 4).bind fun v3 => (aI h v3 s1.2).bind fun v4 => some (.inl ((s1.1 + v4), (s1.2 + (1 : Int32)))))) FU ((0 : Int32), (0 : Int32))).bind fun x2 => some x2
set_option maxRecDepth 20000 in
theorem PM_Now_allChanges {l : Launch} {G : Cx} {h : PH} {a0 : Option Nat} {z : Int32} (hz : f_Now_allChanges h a0 = some z) : PM l G 1 0 0 Y_Now_allChanges [.inr (.inr a0)] h (some (.inl z), h) := by
  refine PM.of (Y := Y_Now_allChanges) (cv := (fun z : Int32 => (((some (.inl z), h) : Option PV × PH)))) (by decide) (L0 := [some (.inr (.inr a0)), none, none]) 2 rfl (Nat.le_of_ble_eq_true rfl) ?_ hz
  unfold f_Now_allChanges
  refine PJ.iconst (pc := 0) (v := 0) d_Now_allChanges_0 (by decide) ?_
  refine PJ.istore_n (pc := 1) (L1 := [some (.inr (.inr a0)), some (.inl (0 : Int32)), none]) d_Now_allChanges_1 (Nat.le_of_ble_eq_true rfl) rfl rfl ?_
  refine PJ.iconst (pc := 2) (v := 0) d_Now_allChanges_2 (by decide) ?_
  refine PJ.istore_n (pc := 3) (L1 := [some (.inr (.inr a0)), some (.inl (0 : Int32)), some (.inl (0 : Int32))]) d_Now_allChanges_3 (Nat.le_of_ble_eq_true rfl) rfl rfl ?_
  refine PJ.bind (fun x2 : Int32 => ((24 : Nat), ([none, some (.inl x2), none] : List (Option PV)), ([] : List PV), (h : PH), (0 : Nat), (0 : Nat))) (PJ.it (E := (fun s1 : Int32 × Int32 => ((4 : Nat), ([some (.inr (.inr a0)), some (.inl s1.1), some (.inl s1.2)] : List (Option PV)), ([] : List PV), (h : PH), (0 : Nat), (0 : Nat)))) (F := (fun x2 : Int32 => ((24 : Nat), ([none, some (.inl x2), none] : List (Option PV)), ([] : List PV), (h : PH), (0 : Nat), (0 : Nat)))) (fun s1 => ?_) FU ((0 : Int32), (0 : Int32))) (fun x2 => ?_)
  · show PJ l G (pj_rm 1 0 0) Y_Now_allChanges 4 [some (.inr (.inr a0)), some (.inl s1.1), some (.inl s1.2)] [] h 0 0 _ _
    refine PJ.iload_n (pc := 4) d_Now_allChanges_4 rfl ?_
    refine PJ.iconst (pc := 5) (v := 5) d_Now_allChanges_5 (by decide) ?_
    refine PJ.icmp_ge (pc := 6) (tgt := 24) d_Now_allChanges_6 (by decide) (fun _ => ?_) (fun _ => ?_)
    · refine PJ.mk (L1 := [none, some (.inl s1.1), none]) [false, true, false] rfl ?_
      exact PJ.done rfl
    · refine PJ.iload_n (pc := 9) d_Now_allChanges_9 rfl ?_
      refine PJ.aload_n (pc := 10) d_Now_allChanges_10 rfl ?_
      refine PJ.getR (pc := 11) fs_Now_25 d_Now_allChanges_11 (fun v3 => ?_)
      refine PJ.iload_n (pc := 14) d_Now_allChanges_14 rfl ?_
      refine PJ.iald (pc := 15) d_Now_allChanges_15 (fun v4 => ?_)
      refine PJ.iadd (pc := 16) d_Now_allChanges_16 ?_
      refine PJ.istore_n (pc := 17) (L1 := [some (.inr (.inr a0)), some (.inl (s1.1 + v4)), some (.inl s1.2)]) d_Now_allChanges_17 (Nat.le_of_ble_eq_true rfl) rfl rfl ?_
      refine PJ.iinc (pc := 18) (v := 1) (L1 := [some (.inr (.inr a0)), some (.inl (s1.1 + v4)), some (.inl (s1.2 + (1 : Int32)))]) d_Now_allChanges_18 rfl (by decide) (Nat.le_of_ble_eq_true rfl) rfl rfl ?_
      refine PJ.goto (pc := 21) (tgt := 4) d_Now_allChanges_21 (by decide) ?_
      exact PJ.done rfl
  · show PJ l G (pj_rm 1 0 0) Y_Now_allChanges 24 [none, some (.inl x2), none] [] h 0 0 _ _
    refine PJ.iload_n (pc := 24) d_Now_allChanges_24 rfl ?_
    exact PJ.iretp (pc := 25) d_Now_allChanges_25 rfl (Nat.le_of_ble_eq_true rfl) (Nat.le_of_ble_eq_true rfl)
theorem d_T_yearChanges_0 : decode Y_T_yearChanges.2.1 0 = .ok (.aload_n 0, 1) := by decide +kernel
theorem d_T_yearChanges_1 : decode Y_T_yearChanges.2.1 1 = .ok (.iload_n 1, 1) := by decide +kernel
theorem d_T_yearChanges_2 : decode Y_T_yearChanges.2.1 2 = .ok (.iload_n 2, 1) := by decide +kernel
theorem d_T_yearChanges_3 : decode Y_T_yearChanges.2.1 3 = .ok (.invokevirtual 328, 3) := by decide +kernel
theorem d_T_yearChanges_6 : decode Y_T_yearChanges.2.1 6 = .ok (.istore_n 3, 1) := by decide +kernel
theorem d_T_yearChanges_7 : decode Y_T_yearChanges.2.1 7 = .ok (.iload_n 3, 1) := by decide +kernel
theorem d_T_yearChanges_8 : decode Y_T_yearChanges.2.1 8 = .ok (.ifCond .eq 9, 3) := by decide +kernel
theorem d_T_yearChanges_11 : decode Y_T_yearChanges.2.1 11 = .ok (.aload_n 0, 1) := by decide +kernel
theorem d_T_yearChanges_12 : decode Y_T_yearChanges.2.1 12 = .ok (.iload_n 3, 1) := by decide +kernel
theorem d_T_yearChanges_13 : decode Y_T_yearChanges.2.1 13 = .ok (.invokevirtual 95, 3) := by decide +kernel
theorem d_T_yearChanges_16 : decode Y_T_yearChanges.2.1 16 = .ok (.ireturn, 1) := by decide +kernel
theorem d_T_yearChanges_17 : decode Y_T_yearChanges.2.1 17 = .ok (.aload_n 0, 1) := by decide +kernel
theorem d_T_yearChanges_18 : decode Y_T_yearChanges.2.1 18 = .ok (.iload_n 1, 1) := by decide +kernel
theorem d_T_yearChanges_19 : decode Y_T_yearChanges.2.1 19 = .ok (.iload_n 2, 1) := by decide +kernel
theorem d_T_yearChanges_20 : decode Y_T_yearChanges.2.1 20 = .ok (.invokevirtual 331, 3) := by decide +kernel
theorem d_T_yearChanges_23 : decode Y_T_yearChanges.2.1 23 = .ok (.aload_n 0, 1) := by decide +kernel
theorem d_T_yearChanges_24 : decode Y_T_yearChanges.2.1 24 = .ok (.aload_n 0, 1) := by decide +kernel
theorem d_T_yearChanges_25 : decode Y_T_yearChanges.2.1 25 = .ok (.getfield 47, 3) := by decide +kernel
theorem d_T_yearChanges_28 : decode Y_T_yearChanges.2.1 28 = .ok (.invokevirtual 335, 3) := by decide +kernel
theorem d_T_yearChanges_31 : decode Y_T_yearChanges.2.1 31 = .ok (.aload_n 0, 1) := by decide +kernel
theorem d_T_yearChanges_32 : decode Y_T_yearChanges.2.1 32 = .ok (.getfield 43, 3) := by decide +kernel
theorem d_T_yearChanges_35 : decode Y_T_yearChanges.2.1 35 = .ok (.invokevirtual 335, 3) := by decide +kernel
theorem d_T_yearChanges_38 : decode Y_T_yearChanges.2.1 38 = .ok (.isub, 1) := by decide +kernel
theorem d_T_yearChanges_39 : decode Y_T_yearChanges.2.1 39 = .ok (.invokevirtual 114, 3) := by decide +kernel
theorem d_T_yearChanges_42 : decode Y_T_yearChanges.2.1 42 = .ok (.ireturn, 1) := by decide +kernel
def f_T_yearChanges (h : PH) (a0 : Option Nat) (a1 : Int32) (a2 : Int32) : Option (Int32 × PH) := (cl h 10 a0 (f_T_yearTrouble h a0 a1 a2)).bind fun v1 => if v1 = 0 then ((cl h 10 a0 (f_T_live h a0 a1 a2)).bind fun h2 => (gR h2 10 a0 7).bind fun v3 => (cl h2 2 v3 (f_Now_allChanges h2 v3)).bind fun v4 => (gR h2 10 a0 6).bind fun v5 => (cl h2 2 v5 (f_Now_allChanges h2 v5)).bind fun v6 => (cl h2 10 a0 (f_T_fine h2 a0 (v4 - v6))).bind fun v7 => some (v7.1, v7.2)) else ((cl h 10 a0 (f_T_refuse h a0 v1)).bind fun v8 => some (v8.1, v8.2))
set_option maxRecDepth 20000 in
theorem PM_T_yearChanges {l : Launch} {G : Cx} {h : PH} {a0 : Option Nat} {a1 : Int32} {a2 : Int32} {z : (Int32 × PH)} (hz : f_T_yearChanges h a0 a1 a2 = some z) : PM l G 6 0 0 Y_T_yearChanges [.inr (.inr a0), .inl a1, .inl a2] h (some (.inl z.1), z.2) := by
  refine PM.of (Y := Y_T_yearChanges) (cv := (fun z : (Int32 × PH) => (((some (.inl z.1), z.2) : Option PV × PH)))) (by decide) (L0 := [some (.inr (.inr a0)), some (.inl a1), some (.inl a2), none]) 1 rfl (Nat.le_of_ble_eq_true rfl) ?_ hz
  unfold f_T_yearChanges
  refine PJ.aload_n (pc := 0) d_T_yearChanges_0 rfl ?_
  refine PJ.iload_n (pc := 1) d_T_yearChanges_1 rfl ?_
  refine PJ.iload_n (pc := 2) d_T_yearChanges_2 rfl ?_
  refine PJ.cVpI (pc := 3) cs_T_328 (fun z hz => PM_T_yearTrouble hz) (pj_fitb rfl) rfl rfl (Nat.le_of_ble_eq_true rfl) d_T_yearChanges_3 (fun v1 => ?_)
  refine PJ.istore_n (pc := 6) (L1 := [some (.inr (.inr a0)), some (.inl a1), some (.inl a2), some (.inl v1)]) d_T_yearChanges_6 (Nat.le_of_ble_eq_true rfl) rfl rfl ?_
  refine PJ.iload_n (pc := 7) d_T_yearChanges_7 rfl ?_
  refine PJ.if_eq (pc := 8) (tgt := 17) d_T_yearChanges_8 (by decide) (fun _ => ?_) (fun _ => ?_)
  · refine PJ.aload_n (pc := 17) d_T_yearChanges_17 rfl ?_
    refine PJ.iload_n (pc := 18) d_T_yearChanges_18 rfl ?_
    refine PJ.iload_n (pc := 19) d_T_yearChanges_19 rfl ?_
    refine PJ.cVV (pc := 20) cs_T_331 (fun z hz => PM_T_live hz) (pj_fitb rfl) rfl rfl (Nat.le_of_ble_eq_true rfl) d_T_yearChanges_20 (fun h2 => ?_)
    refine PJ.aload_n (pc := 23) d_T_yearChanges_23 rfl ?_
    refine PJ.aload_n (pc := 24) d_T_yearChanges_24 rfl ?_
    refine PJ.getR (pc := 25) fs_T_47 d_T_yearChanges_25 (fun v3 => ?_)
    refine PJ.cVpI (pc := 28) cs_T_335 (fun z hz => PM_Now_allChanges hz) (pj_fitb rfl) rfl rfl (Nat.le_of_ble_eq_true rfl) d_T_yearChanges_28 (fun v4 => ?_)
    refine PJ.aload_n (pc := 31) d_T_yearChanges_31 rfl ?_
    refine PJ.getR (pc := 32) fs_T_43 d_T_yearChanges_32 (fun v5 => ?_)
    refine PJ.cVpI (pc := 35) cs_T_335 (fun z hz => PM_Now_allChanges hz) (pj_fitb rfl) rfl rfl (Nat.le_of_ble_eq_true rfl) d_T_yearChanges_35 (fun v6 => ?_)
    refine PJ.isub (pc := 38) d_T_yearChanges_38 ?_
    refine PJ.cVI (pc := 39) cs_T_114 (fun z hz => PM_T_fine hz) (pj_fitb rfl) rfl rfl (Nat.le_of_ble_eq_true rfl) d_T_yearChanges_39 (fun v7 => ?_)
    exact PJ.iret (pc := 42) d_T_yearChanges_42 rfl (Nat.le_of_ble_eq_true rfl) (Nat.le_of_ble_eq_true rfl)
  · refine PJ.aload_n (pc := 11) d_T_yearChanges_11 rfl ?_
    refine PJ.iload_n (pc := 12) d_T_yearChanges_12 rfl ?_
    refine PJ.cVI (pc := 13) cs_T_95 (fun z hz => PM_T_refuse hz) (pj_fitb rfl) rfl rfl (Nat.le_of_ble_eq_true rfl) d_T_yearChanges_13 (fun v8 => ?_)
    exact PJ.iret (pc := 16) d_T_yearChanges_16 rfl (Nat.le_of_ble_eq_true rfl) (Nat.le_of_ble_eq_true rfl)
theorem d_Past_keep_0 : decode Y_Past_keep.2.1 0 = .ok (.aload_n 0, 1) := by decide +kernel
theorem d_Past_keep_1 : decode Y_Past_keep.2.1 1 = .ok (.getfield 20, 3) := by decide +kernel
theorem d_Past_keep_4 : decode Y_Past_keep.2.1 4 = .ok (.bipush 16, 2) := by decide +kernel
theorem d_Past_keep_6 : decode Y_Past_keep.2.1 6 = .ok (.if_icmp .ne 56, 3) := by decide +kernel
theorem d_Past_keep_9 : decode Y_Past_keep.2.1 9 = .ok (.aload_n 0, 1) := by decide +kernel
theorem d_Past_keep_10 : decode Y_Past_keep.2.1 10 = .ok (.getfield 11, 3) := by decide +kernel
theorem d_Past_keep_13 : decode Y_Past_keep.2.1 13 = .ok (.iconst 0, 1) := by decide +kernel
theorem d_Past_keep_14 : decode Y_Past_keep.2.1 14 = .ok (.aaload, 1) := by decide +kernel
theorem d_Past_keep_15 : decode Y_Past_keep.2.1 15 = .ok (.astore_n 2, 1) := by decide +kernel
theorem d_Past_keep_16 : decode Y_Past_keep.2.1 16 = .ok (.iconst 1, 1) := by decide +kernel
theorem d_Past_keep_17 : decode Y_Past_keep.2.1 17 = .ok (.istore_n 3, 1) := by decide +kernel
theorem d_Past_keep_18 : decode Y_Past_keep.2.1 18 = .ok (.iload_n 3, 1) := by decide +kernel
theorem d_Past_keep_19 : decode Y_Past_keep.2.1 19 = .ok (.bipush 16, 2) := by decide +kernel
theorem d_Past_keep_21 : decode Y_Past_keep.2.1 21 = .ok (.if_icmp .ge 23, 3) := by decide +kernel
theorem d_Past_keep_24 : decode Y_Past_keep.2.1 24 = .ok (.aload_n 0, 1) := by decide +kernel
theorem d_Past_keep_25 : decode Y_Past_keep.2.1 25 = .ok (.getfield 11, 3) := by decide +kernel
theorem d_Past_keep_28 : decode Y_Past_keep.2.1 28 = .ok (.iload_n 3, 1) := by decide +kernel
theorem d_Past_keep_29 : decode Y_Past_keep.2.1 29 = .ok (.iconst 1, 1) := by decide +kernel
theorem d_Past_keep_30 : decode Y_Past_keep.2.1 30 = .ok (.isub, 1) := by decide +kernel
theorem d_Past_keep_31 : decode Y_Past_keep.2.1 31 = .ok (.aload_n 0, 1) := by decide +kernel
theorem d_Past_keep_32 : decode Y_Past_keep.2.1 32 = .ok (.getfield 11, 3) := by decide +kernel
theorem d_Past_keep_35 : decode Y_Past_keep.2.1 35 = .ok (.iload_n 3, 1) := by decide +kernel
theorem d_Past_keep_36 : decode Y_Past_keep.2.1 36 = .ok (.aaload, 1) := by decide +kernel
theorem d_Past_keep_37 : decode Y_Past_keep.2.1 37 = .ok (.aastore, 1) := by decide +kernel
theorem d_Past_keep_38 : decode Y_Past_keep.2.1 38 = .ok (.iinc 3 1, 3) := by decide +kernel
theorem d_Past_keep_41 : decode Y_Past_keep.2.1 41 = .ok (.goto (-23), 3) := by decide +kernel
theorem d_Past_keep_44 : decode Y_Past_keep.2.1 44 = .ok (.aload_n 0, 1) := by decide +kernel
theorem d_Past_keep_45 : decode Y_Past_keep.2.1 45 = .ok (.getfield 11, 3) := by decide +kernel
theorem d_Past_keep_48 : decode Y_Past_keep.2.1 48 = .ok (.bipush 15, 2) := by decide +kernel
theorem d_Past_keep_50 : decode Y_Past_keep.2.1 50 = .ok (.aload_n 2, 1) := by decide +kernel
theorem d_Past_keep_51 : decode Y_Past_keep.2.1 51 = .ok (.aastore, 1) := by decide +kernel
theorem d_Past_keep_52 : decode Y_Past_keep.2.1 52 = .ok (.aload_n 0, 1) := by decide +kernel
theorem d_Past_keep_53 : decode Y_Past_keep.2.1 53 = .ok (.dup, 1) := by decide +kernel
theorem d_Past_keep_54 : decode Y_Past_keep.2.1 54 = .ok (.getfield 20, 3) := by decide +kernel
theorem d_Past_keep_57 : decode Y_Past_keep.2.1 57 = .ok (.iconst 1, 1) := by decide +kernel
theorem d_Past_keep_58 : decode Y_Past_keep.2.1 58 = .ok (.isub, 1) := by decide +kernel
theorem d_Past_keep_59 : decode Y_Past_keep.2.1 59 = .ok (.putfield 20, 3) := by decide +kernel
theorem d_Past_keep_62 : decode Y_Past_keep.2.1 62 = .ok (.aload_n 0, 1) := by decide +kernel
theorem d_Past_keep_63 : decode Y_Past_keep.2.1 63 = .ok (.getfield 11, 3) := by decide +kernel
theorem d_Past_keep_66 : decode Y_Past_keep.2.1 66 = .ok (.aload_n 0, 1) := by decide +kernel
theorem d_Past_keep_67 : decode Y_Past_keep.2.1 67 = .ok (.getfield 20, 3) := by decide +kernel
theorem d_Past_keep_70 : decode Y_Past_keep.2.1 70 = .ok (.aaload, 1) := by decide +kernel
theorem d_Past_keep_71 : decode Y_Past_keep.2.1 71 = .ok (.aload_n 1, 1) := by decide +kernel
theorem d_Past_keep_72 : decode Y_Past_keep.2.1 72 = .ok (.invokevirtual 28, 3) := by decide +kernel
theorem d_Past_keep_75 : decode Y_Past_keep.2.1 75 = .ok (.aload_n 0, 1) := by decide +kernel
theorem d_Past_keep_76 : decode Y_Past_keep.2.1 76 = .ok (.dup, 1) := by decide +kernel
theorem d_Past_keep_77 : decode Y_Past_keep.2.1 77 = .ok (.getfield 20, 3) := by decide +kernel
theorem d_Past_keep_80 : decode Y_Past_keep.2.1 80 = .ok (.iconst 1, 1) := by decide +kernel
theorem d_Past_keep_81 : decode Y_Past_keep.2.1 81 = .ok (.iadd, 1) := by decide +kernel
theorem d_Past_keep_82 : decode Y_Past_keep.2.1 82 = .ok (.putfield 20, 3) := by decide +kernel
theorem d_Past_keep_85 : decode Y_Past_keep.2.1 85 = .ok (.return_, 1) := by decide +kernel
def f_Past_keep (h : PH) (a0 : Option Nat) (a1 : Option Nat) : Option PH := (gI h 3 a0 2).bind fun v1 => (if ¬ v1 = (16 : Int32) then (some h) else ((gR h 3 a0 0).bind fun v3 => (aR h 54 v3 (0 : Int32)).bind fun v4 => (pj_it (X := PH) (fun s5 : Int32 × PH => if (16 : Int32) ≤ s5.1 then (some (.inr s5.2)) else ((gR s5.2 3 a0 0).bind fun v7 => (gR s5.2 3 a0 0).bind fun v8 => (aR s5.2 54 v8 s5.1).bind fun v9 => (sN s5.2 v7 (s5.1 - (1 : Int32)) v9).bind fun h10 => some (.inl ((s5.1 + (1 : Int32)), h10)))) FU ((1 : Int32), h)).bind fun x6 => (gR x6 3 a0 0).bind fun v11 => (sN x6 v11 (15 : Int32) v4).bind fun h12 => (gI h12 3 a0 2).bind fun v13 => (sF h12 3 a0 2 (.inl (v13 - (1 : Int32)))).bind fun h14 => some h14) : Option (PH)).bind fun j2 => (gR j2 3 a0 0).bind fun v15 => (gI j2 3 a0 2).bind fun v16 => (aR j2 54 v15 v16).bind fun v17 => (cl j2 2 v17 (f_Now_become j2 v17 a1)).bind fun h18 => (gI h18 3 a0 2).bind fun v19 => (sF h18 3 a0 2 (.inl (v19 + (1 : Int32)))).bind fun h20 => some h20
set_option maxRecDepth 20000 in
theorem PM_Past_keep {l : Launch} {G : Cx} {h : PH} {a0 : Option Nat} {a1 : Option Nat} {z : PH} (hz : f_Past_keep h a0 a1 = some z) : PM l G 2 0 0 Y_Past_keep [.inr (.inr a0), .inr (.inr a1)] h (none, z) := by
  refine PM.of (Y := Y_Past_keep) (cv := (fun z : PH => (((none, z) : Option PV × PH)))) (by decide) (L0 := [some (.inr (.inr a0)), some (.inr (.inr a1)), none, none]) 2 rfl (Nat.le_of_ble_eq_true rfl) ?_ hz
  unfold f_Past_keep
  refine PJ.aload_n (pc := 0) d_Past_keep_0 rfl ?_
  refine PJ.getI (pc := 1) fs_Past_20 d_Past_keep_1 (fun v1 => ?_)
  refine PJ.bipush (pc := 4) (v := 16) d_Past_keep_4 (by decide) ?_
  refine PJ.bind (fun j2 : PH => ((62 : Nat), ([some (.inr (.inr a0)), some (.inr (.inr a1)), none, none] : List (Option PV)), ([] : List PV), (j2 : PH), (0 : Nat), (0 : Nat))) ?_ (fun j2 => ?_)
  · refine PJ.icmp_ne (pc := 6) (tgt := 62) d_Past_keep_6 (by decide) (fun _ => ?_) (fun _ => ?_)
    · exact PJ.done rfl
    · refine PJ.aload_n (pc := 9) d_Past_keep_9 rfl ?_
      refine PJ.getR (pc := 10) fs_Past_11 d_Past_keep_10 (fun v3 => ?_)
      refine PJ.iconst (pc := 13) (v := 0) d_Past_keep_13 (by decide) ?_
      refine PJ.aald (pc := 14) 54 (by decide) d_Past_keep_14 (fun v4 => ?_)
      refine PJ.astore_n (pc := 15) (L1 := [some (.inr (.inr a0)), some (.inr (.inr a1)), some (.inr (.inr v4)), none]) d_Past_keep_15 (Nat.le_of_ble_eq_true rfl) rfl rfl ?_
      refine PJ.iconst (pc := 16) (v := 1) d_Past_keep_16 (by decide) ?_
      refine PJ.istore_n (pc := 17) (L1 := [some (.inr (.inr a0)), some (.inr (.inr a1)), some (.inr (.inr v4)), some (.inl (1 : Int32))]) d_Past_keep_17 (Nat.le_of_ble_eq_true rfl) rfl rfl ?_
      refine PJ.bind (fun x6 : PH => ((44 : Nat), ([some (.inr (.inr a0)), some (.inr (.inr a1)), some (.inr (.inr v4)), none] : List (Option PV)), ([] : List PV), (x6 : PH), (0 : Nat), (0 : Nat))) (PJ.it (E := (fun s5 : Int32 × PH => ((18 : Nat), ([some (.inr (.inr a0)), some (.inr (.inr a1)), some (.inr (.inr v4)), some (.inl s5.1)] : List (Option PV)), ([] : List PV), (s5.2 : PH), (0 : Nat), (0 : Nat)))) (F := (fun x6 : PH => ((44 : Nat), ([some (.inr (.inr a0)), some (.inr (.inr a1)), some (.inr (.inr v4)), none] : List (Option PV)), ([] : List PV), (x6 : PH), (0 : Nat), (0 : Nat)))) (fun s5 => ?_) FU ((1 : Int32), h)) (fun x6 => ?_)
      · show PJ l G (pj_rm 2 0 0) Y_Past_keep 18 [some (.inr (.inr a0)), some (.inr (.inr a1)), some (.inr (.inr v4)), some (.inl s5.1)] [] s5.2 0 0 _ _
        refine PJ.iload_n (pc := 18) d_Past_keep_18 rfl ?_
        refine PJ.bipush (pc := 19) (v := 16) d_Past_keep_19 (by decide) ?_
        refine PJ.icmp_ge (pc := 21) (tgt := 44) d_Past_keep_21 (by decide) (fun _ => ?_) (fun _ => ?_)
        · refine PJ.mk (L1 := [some (.inr (.inr a0)), some (.inr (.inr a1)), some (.inr (.inr v4)), none]) [true, true, true, false] rfl ?_
          exact PJ.done rfl
        · refine PJ.aload_n (pc := 24) d_Past_keep_24 rfl ?_
          refine PJ.getR (pc := 25) fs_Past_11 d_Past_keep_25 (fun v7 => ?_)
          refine PJ.iload_n (pc := 28) d_Past_keep_28 rfl ?_
          refine PJ.iconst (pc := 29) (v := 1) d_Past_keep_29 (by decide) ?_
          refine PJ.isub (pc := 30) d_Past_keep_30 ?_
          refine PJ.aload_n (pc := 31) d_Past_keep_31 rfl ?_
          refine PJ.getR (pc := 32) fs_Past_11 d_Past_keep_32 (fun v8 => ?_)
          refine PJ.iload_n (pc := 35) d_Past_keep_35 rfl ?_
          refine PJ.aald (pc := 36) 54 (by decide) d_Past_keep_36 (fun v9 => ?_)
          refine PJ.aast (pc := 37) d_Past_keep_37 (fun h10 => ?_)
          refine PJ.iinc (pc := 38) (v := 1) (L1 := [some (.inr (.inr a0)), some (.inr (.inr a1)), some (.inr (.inr v4)), some (.inl (s5.1 + (1 : Int32)))]) d_Past_keep_38 rfl (by decide) (Nat.le_of_ble_eq_true rfl) rfl rfl ?_
          refine PJ.goto (pc := 41) (tgt := 18) d_Past_keep_41 (by decide) ?_
          exact PJ.done rfl
      · show PJ l G (pj_rm 2 0 0) Y_Past_keep 44 [some (.inr (.inr a0)), some (.inr (.inr a1)), some (.inr (.inr v4)), none] [] x6 0 0 _ _
        refine PJ.aload_n (pc := 44) d_Past_keep_44 rfl ?_
        refine PJ.getR (pc := 45) fs_Past_11 d_Past_keep_45 (fun v11 => ?_)
        refine PJ.bipush (pc := 48) (v := 15) d_Past_keep_48 (by decide) ?_
        refine PJ.aload_n (pc := 50) d_Past_keep_50 rfl ?_
        refine PJ.aast (pc := 51) d_Past_keep_51 (fun h12 => ?_)
        refine PJ.aload_n (pc := 52) d_Past_keep_52 rfl ?_
        refine PJ.dup (pc := 53) d_Past_keep_53 rfl ?_
        refine PJ.getI (pc := 54) fs_Past_20 d_Past_keep_54 (fun v13 => ?_)
        refine PJ.iconst (pc := 57) (v := 1) d_Past_keep_57 (by decide) ?_
        refine PJ.isub (pc := 58) d_Past_keep_58 ?_
        refine PJ.putI (pc := 59) ps_Past_20 d_Past_keep_59 (fun h14 => ?_)
        refine PJ.mk (L1 := [some (.inr (.inr a0)), some (.inr (.inr a1)), none, none]) [true, true, false, false] rfl ?_
        exact PJ.done rfl
  · show PJ l G (pj_rm 2 0 0) Y_Past_keep 62 [some (.inr (.inr a0)), some (.inr (.inr a1)), none, none] [] j2 0 0 _ _
    refine PJ.aload_n (pc := 62) d_Past_keep_62 rfl ?_
    refine PJ.getR (pc := 63) fs_Past_11 d_Past_keep_63 (fun v15 => ?_)
    refine PJ.aload_n (pc := 66) d_Past_keep_66 rfl ?_
    refine PJ.getI (pc := 67) fs_Past_20 d_Past_keep_67 (fun v16 => ?_)
    refine PJ.aald (pc := 70) 54 (by decide) d_Past_keep_70 (fun v17 => ?_)
    refine PJ.aload_n (pc := 71) d_Past_keep_71 rfl ?_
    refine PJ.cVV (pc := 72) cs_Past_28 (fun z hz => PM_Now_become hz) (pj_fitb rfl) rfl rfl (Nat.le_of_ble_eq_true rfl) d_Past_keep_72 (fun h18 => ?_)
    refine PJ.aload_n (pc := 75) d_Past_keep_75 rfl ?_
    refine PJ.dup (pc := 76) d_Past_keep_76 rfl ?_
    refine PJ.getI (pc := 77) fs_Past_20 d_Past_keep_77 (fun v19 => ?_)
    refine PJ.iconst (pc := 80) (v := 1) d_Past_keep_80 (by decide) ?_
    refine PJ.iadd (pc := 81) d_Past_keep_81 ?_
    refine PJ.putI (pc := 82) ps_Past_20 d_Past_keep_82 (fun h20 => ?_)
    exact PJ.vret (pc := 85) d_Past_keep_85 rfl (Nat.le_of_ble_eq_true rfl) (Nat.le_of_ble_eq_true rfl)
theorem d_T_change_0 : decode Y_T_change.2.1 0 = .ok (.aload_n 0, 1) := by decide +kernel
theorem d_T_change_1 : decode Y_T_change.2.1 1 = .ok (.iload_n 1, 1) := by decide +kernel
theorem d_T_change_2 : decode Y_T_change.2.1 2 = .ok (.invokevirtual 117, 3) := by decide +kernel
theorem d_T_change_5 : decode Y_T_change.2.1 5 = .ok (.ifCond .eq 11, 3) := by decide +kernel
theorem d_T_change_8 : decode Y_T_change.2.1 8 = .ok (.aload_n 0, 1) := by decide +kernel
theorem d_T_change_9 : decode Y_T_change.2.1 9 = .ok (.iload_n 2, 1) := by decide +kernel
theorem d_T_change_10 : decode Y_T_change.2.1 10 = .ok (.invokevirtual 140, 3) := by decide +kernel
theorem d_T_change_13 : decode Y_T_change.2.1 13 = .ok (.ifCond .ne 9, 3) := by decide +kernel
theorem d_T_change_16 : decode Y_T_change.2.1 16 = .ok (.aload_n 0, 1) := by decide +kernel
theorem d_T_change_17 : decode Y_T_change.2.1 17 = .ok (.iconst 1, 1) := by decide +kernel
theorem d_T_change_18 : decode Y_T_change.2.1 18 = .ok (.invokevirtual 95, 3) := by decide +kernel
theorem d_T_change_21 : decode Y_T_change.2.1 21 = .ok (.ireturn, 1) := by decide +kernel
theorem d_T_change_22 : decode Y_T_change.2.1 22 = .ok (.aload_n 0, 1) := by decide +kernel
theorem d_T_change_23 : decode Y_T_change.2.1 23 = .ok (.getfield 43, 3) := by decide +kernel
theorem d_T_change_26 : decode Y_T_change.2.1 26 = .ok (.getfield 128, 3) := by decide +kernel
theorem d_T_change_29 : decode Y_T_change.2.1 29 = .ok (.iload_n 1, 1) := by decide +kernel
theorem d_T_change_30 : decode Y_T_change.2.1 30 = .ok (.iaload, 1) := by decide +kernel
theorem d_T_change_31 : decode Y_T_change.2.1 31 = .ok (.iload_n 2, 1) := by decide +kernel
theorem d_T_change_32 : decode Y_T_change.2.1 32 = .ok (.if_icmp .ne 9, 3) := by decide +kernel
theorem d_T_change_35 : decode Y_T_change.2.1 35 = .ok (.aload_n 0, 1) := by decide +kernel
theorem d_T_change_36 : decode Y_T_change.2.1 36 = .ok (.iconst 5, 1) := by decide +kernel
theorem d_T_change_37 : decode Y_T_change.2.1 37 = .ok (.invokevirtual 95, 3) := by decide +kernel
theorem d_T_change_40 : decode Y_T_change.2.1 40 = .ok (.ireturn, 1) := by decide +kernel
theorem d_T_change_41 : decode Y_T_change.2.1 41 = .ok (.aload_n 0, 1) := by decide +kernel
theorem d_T_change_42 : decode Y_T_change.2.1 42 = .ok (.getfield 78, 3) := by decide +kernel
theorem d_T_change_45 : decode Y_T_change.2.1 45 = .ok (.aload_n 0, 1) := by decide +kernel
theorem d_T_change_46 : decode Y_T_change.2.1 46 = .ok (.getfield 43, 3) := by decide +kernel
theorem d_T_change_49 : decode Y_T_change.2.1 49 = .ok (.invokevirtual 354, 3) := by decide +kernel
theorem d_T_change_52 : decode Y_T_change.2.1 52 = .ok (.aload_n 0, 1) := by decide +kernel
theorem d_T_change_53 : decode Y_T_change.2.1 53 = .ok (.invokevirtual 147, 3) := by decide +kernel
theorem d_T_change_56 : decode Y_T_change.2.1 56 = .ok (.iload_n 1, 1) := by decide +kernel
theorem d_T_change_57 : decode Y_T_change.2.1 57 = .ok (.iload_n 2, 1) := by decide +kernel
theorem d_T_change_58 : decode Y_T_change.2.1 58 = .ok (.invokevirtual 154, 3) := by decide +kernel
theorem d_T_change_61 : decode Y_T_change.2.1 61 = .ok (.istore_n 3, 1) := by decide +kernel
theorem d_T_change_62 : decode Y_T_change.2.1 62 = .ok (.aload_n 0, 1) := by decide +kernel
theorem d_T_change_63 : decode Y_T_change.2.1 63 = .ok (.getfield 43, 3) := by decide +kernel
theorem d_T_change_66 : decode Y_T_change.2.1 66 = .ok (.iload_n 1, 1) := by decide +kernel
theorem d_T_change_67 : decode Y_T_change.2.1 67 = .ok (.iload_n 2, 1) := by decide +kernel
theorem d_T_change_68 : decode Y_T_change.2.1 68 = .ok (.iload_n 3, 1) := by decide +kernel
theorem d_T_change_69 : decode Y_T_change.2.1 69 = .ok (.invokevirtual 346, 3) := by decide +kernel
theorem d_T_change_72 : decode Y_T_change.2.1 72 = .ok (.aload_n 0, 1) := by decide +kernel
theorem d_T_change_73 : decode Y_T_change.2.1 73 = .ok (.iload_n 3, 1) := by decide +kernel
theorem d_T_change_74 : decode Y_T_change.2.1 74 = .ok (.invokevirtual 114, 3) := by decide +kernel
theorem d_T_change_77 : decode Y_T_change.2.1 77 = .ok (.ireturn, 1) := by decide +kernel
def f_T_change (h : PH) (a0 : Option Nat) (a1 : Int32) (a2 : Int32) : Option (Int32 × PH) := (cl h 10 a0 (f_T_isPerson h a0 a1)).bind fun v1 => if v1 = 0 then ((cl h 10 a0 (f_T_refuse h a0 (1 : Int32))).bind fun v2 => some (v2.1, v2.2)) else ((cl h 10 a0 (f_T_isChoice h a0 a2)).bind fun v3 => if ¬ v3 = 0 then ((gR h 10 a0 6).bind fun v4 => (gR h 2 v4 3).bind fun v5 => (aI h v5 a1).bind fun v6 => if ¬ v6 = a2 then ((gR h 10 a0 11).bind fun v7 => (gR h 10 a0 6).bind fun v8 => (cl h 3 v7 (f_Past_keep h v7 v8)).bind fun h9 => (cl h9 10 a0 (f_T_present h9 a0)).bind fun v10 => (cl v10.2 0 v10.1 (f_Desk_taxOf v10.2 v10.1 a1 a2)).bind fun v11 => (gR v10.2 10 a0 6).bind fun v12 => (cl v10.2 2 v12 (f_Now_move v10.2 v12 a1 a2 v11)).bind fun h13 => (cl h13 10 a0 (f_T_fine h13 a0 v11)).bind fun v14 => some (v14.1, v14.2)) else ((cl h 10 a0 (f_T_refuse h a0 (5 : Int32))).bind fun v15 => some (v15.1, v15.2))) else ((cl h 10 a0 (f_T_refuse h a0 (1 : Int32))).bind fun v16 => some (v16.1, v16.2)))
set_option maxRecDepth 20000 in
theorem PM_T_change {l : Launch} {G : Cx} {h : PH} {a0 : Option Nat} {a1 : Int32} {a2 : Int32} {z : (Int32 × PH)} (hz : f_T_change h a0 a1 a2 = some z) : PM l G 3 0 0 Y_T_change [.inr (.inr a0), .inl a1, .inl a2] h (some (.inl z.1), z.2) := by
  refine PM.of (Y := Y_T_change) (cv := (fun z : (Int32 × PH) => (((some (.inl z.1), z.2) : Option PV × PH)))) (by decide) (L0 := [some (.inr (.inr a0)), some (.inl a1), some (.inl a2), none]) 1 rfl (Nat.le_of_ble_eq_true rfl) ?_ hz
  unfold f_T_change
  refine PJ.aload_n (pc := 0) d_T_change_0 rfl ?_
  refine PJ.iload_n (pc := 1) d_T_change_1 rfl ?_
  refine PJ.cVpI (pc := 2) cs_T_117 (fun z hz => PM_T_isPerson hz) (pj_fitb rfl) rfl rfl (Nat.le_of_ble_eq_true rfl) d_T_change_2 (fun v1 => ?_)
  refine PJ.if_eq (pc := 5) (tgt := 16) d_T_change_5 (by decide) (fun _ => ?_) (fun _ => ?_)
  · refine PJ.aload_n (pc := 16) d_T_change_16 rfl ?_
    refine PJ.iconst (pc := 17) (v := 1) d_T_change_17 (by decide) ?_
    refine PJ.cVI (pc := 18) cs_T_95 (fun z hz => PM_T_refuse hz) (pj_fitb rfl) rfl rfl (Nat.le_of_ble_eq_true rfl) d_T_change_18 (fun v2 => ?_)
    exact PJ.iret (pc := 21) d_T_change_21 rfl (Nat.le_of_ble_eq_true rfl) (Nat.le_of_ble_eq_true rfl)
  · refine PJ.aload_n (pc := 8) d_T_change_8 rfl ?_
    refine PJ.iload_n (pc := 9) d_T_change_9 rfl ?_
    refine PJ.cVpI (pc := 10) cs_T_140 (fun z hz => PM_T_isChoice hz) (pj_fitb rfl) rfl rfl (Nat.le_of_ble_eq_true rfl) d_T_change_10 (fun v3 => ?_)
    refine PJ.if_ne (pc := 13) (tgt := 22) d_T_change_13 (by decide) (fun _ => ?_) (fun _ => ?_)
    · refine PJ.aload_n (pc := 22) d_T_change_22 rfl ?_
      refine PJ.getR (pc := 23) fs_T_43 d_T_change_23 (fun v4 => ?_)
      refine PJ.getR (pc := 26) fs_T_128 d_T_change_26 (fun v5 => ?_)
      refine PJ.iload_n (pc := 29) d_T_change_29 rfl ?_
      refine PJ.iald (pc := 30) d_T_change_30 (fun v6 => ?_)
      refine PJ.iload_n (pc := 31) d_T_change_31 rfl ?_
      refine PJ.icmp_ne (pc := 32) (tgt := 41) d_T_change_32 (by decide) (fun _ => ?_) (fun _ => ?_)
      · refine PJ.aload_n (pc := 41) d_T_change_41 rfl ?_
        refine PJ.getR (pc := 42) fs_T_78 d_T_change_42 (fun v7 => ?_)
        refine PJ.aload_n (pc := 45) d_T_change_45 rfl ?_
        refine PJ.getR (pc := 46) fs_T_43 d_T_change_46 (fun v8 => ?_)
        refine PJ.cVV (pc := 49) cs_T_354 (fun z hz => PM_Past_keep hz) (pj_fitb rfl) rfl rfl (Nat.le_of_ble_eq_true rfl) d_T_change_49 (fun h9 => ?_)
        refine PJ.aload_n (pc := 52) d_T_change_52 rfl ?_
        refine PJ.cVR (pc := 53) cs_T_147 (fun z hz => PM_T_present hz) (pj_fitb rfl) rfl rfl (Nat.le_of_ble_eq_true rfl) d_T_change_53 (fun v10 => ?_)
        refine PJ.iload_n (pc := 56) d_T_change_56 rfl ?_
        refine PJ.iload_n (pc := 57) d_T_change_57 rfl ?_
        refine PJ.cVpI (pc := 58) cs_T_154 (fun z hz => PM_Desk_taxOf hz) (pj_fitb rfl) rfl rfl (Nat.le_of_ble_eq_true rfl) d_T_change_58 (fun v11 => ?_)
        refine PJ.istore_n (pc := 61) (L1 := [some (.inr (.inr a0)), some (.inl a1), some (.inl a2), some (.inl v11)]) d_T_change_61 (Nat.le_of_ble_eq_true rfl) rfl rfl ?_
        refine PJ.aload_n (pc := 62) d_T_change_62 rfl ?_
        refine PJ.getR (pc := 63) fs_T_43 d_T_change_63 (fun v12 => ?_)
        refine PJ.iload_n (pc := 66) d_T_change_66 rfl ?_
        refine PJ.iload_n (pc := 67) d_T_change_67 rfl ?_
        refine PJ.iload_n (pc := 68) d_T_change_68 rfl ?_
        refine PJ.cVV (pc := 69) cs_T_346 (fun z hz => PM_Now_move hz) (pj_fitb rfl) rfl rfl (Nat.le_of_ble_eq_true rfl) d_T_change_69 (fun h13 => ?_)
        refine PJ.aload_n (pc := 72) d_T_change_72 rfl ?_
        refine PJ.iload_n (pc := 73) d_T_change_73 rfl ?_
        refine PJ.cVI (pc := 74) cs_T_114 (fun z hz => PM_T_fine hz) (pj_fitb rfl) rfl rfl (Nat.le_of_ble_eq_true rfl) d_T_change_74 (fun v14 => ?_)
        exact PJ.iret (pc := 77) d_T_change_77 rfl (Nat.le_of_ble_eq_true rfl) (Nat.le_of_ble_eq_true rfl)
      · refine PJ.aload_n (pc := 35) d_T_change_35 rfl ?_
        refine PJ.iconst (pc := 36) (v := 5) d_T_change_36 (by decide) ?_
        refine PJ.cVI (pc := 37) cs_T_95 (fun z hz => PM_T_refuse hz) (pj_fitb rfl) rfl rfl (Nat.le_of_ble_eq_true rfl) d_T_change_37 (fun v15 => ?_)
        exact PJ.iret (pc := 40) d_T_change_40 rfl (Nat.le_of_ble_eq_true rfl) (Nat.le_of_ble_eq_true rfl)
    · refine PJ.aload_n (pc := 16) d_T_change_16 rfl ?_
      refine PJ.iconst (pc := 17) (v := 1) d_T_change_17 (by decide) ?_
      refine PJ.cVI (pc := 18) cs_T_95 (fun z hz => PM_T_refuse hz) (pj_fitb rfl) rfl rfl (Nat.le_of_ble_eq_true rfl) d_T_change_18 (fun v16 => ?_)
      exact PJ.iret (pc := 21) d_T_change_21 rfl (Nat.le_of_ble_eq_true rfl) (Nat.le_of_ble_eq_true rfl)
theorem d_T_hours_0 : decode Y_T_hours.2.1 0 = .ok (.aload_n 0, 1) := by decide +kernel
theorem d_T_hours_1 : decode Y_T_hours.2.1 1 = .ok (.iload_n 1, 1) := by decide +kernel
theorem d_T_hours_2 : decode Y_T_hours.2.1 2 = .ok (.iconst 1, 1) := by decide +kernel
theorem d_T_hours_3 : decode Y_T_hours.2.1 3 = .ok (.bipush 24, 2) := by decide +kernel
theorem d_T_hours_5 : decode Y_T_hours.2.1 5 = .ok (.invokevirtual 241, 3) := by decide +kernel
theorem d_T_hours_8 : decode Y_T_hours.2.1 8 = .ok (.istore_n 2, 1) := by decide +kernel
theorem d_T_hours_9 : decode Y_T_hours.2.1 9 = .ok (.iload_n 2, 1) := by decide +kernel
theorem d_T_hours_10 : decode Y_T_hours.2.1 10 = .ok (.ifCond .eq 9, 3) := by decide +kernel
theorem d_T_hours_13 : decode Y_T_hours.2.1 13 = .ok (.aload_n 0, 1) := by decide +kernel
theorem d_T_hours_14 : decode Y_T_hours.2.1 14 = .ok (.iload_n 2, 1) := by decide +kernel
theorem d_T_hours_15 : decode Y_T_hours.2.1 15 = .ok (.invokevirtual 95, 3) := by decide +kernel
theorem d_T_hours_18 : decode Y_T_hours.2.1 18 = .ok (.ireturn, 1) := by decide +kernel
theorem d_T_hours_19 : decode Y_T_hours.2.1 19 = .ok (.aload_n 0, 1) := by decide +kernel
theorem d_T_hours_20 : decode Y_T_hours.2.1 20 = .ok (.getfield 43, 3) := by decide +kernel
theorem d_T_hours_23 : decode Y_T_hours.2.1 23 = .ok (.getfield 357, 3) := by decide +kernel
theorem d_T_hours_26 : decode Y_T_hours.2.1 26 = .ok (.iload_n 1, 1) := by decide +kernel
theorem d_T_hours_27 : decode Y_T_hours.2.1 27 = .ok (.iadd, 1) := by decide +kernel
theorem d_T_hours_28 : decode Y_T_hours.2.1 28 = .ok (.sipush 999, 3) := by decide +kernel
theorem d_T_hours_31 : decode Y_T_hours.2.1 31 = .ok (.if_icmp .le 9, 3) := by decide +kernel
theorem d_T_hours_34 : decode Y_T_hours.2.1 34 = .ok (.aload_n 0, 1) := by decide +kernel
theorem d_T_hours_35 : decode Y_T_hours.2.1 35 = .ok (.iconst 3, 1) := by decide +kernel
theorem d_T_hours_36 : decode Y_T_hours.2.1 36 = .ok (.invokevirtual 95, 3) := by decide +kernel
theorem d_T_hours_39 : decode Y_T_hours.2.1 39 = .ok (.ireturn, 1) := by decide +kernel
theorem d_T_hours_40 : decode Y_T_hours.2.1 40 = .ok (.aload_n 0, 1) := by decide +kernel
theorem d_T_hours_41 : decode Y_T_hours.2.1 41 = .ok (.getfield 78, 3) := by decide +kernel
theorem d_T_hours_44 : decode Y_T_hours.2.1 44 = .ok (.aload_n 0, 1) := by decide +kernel
theorem d_T_hours_45 : decode Y_T_hours.2.1 45 = .ok (.getfield 43, 3) := by decide +kernel
theorem d_T_hours_48 : decode Y_T_hours.2.1 48 = .ok (.invokevirtual 354, 3) := by decide +kernel
theorem d_T_hours_51 : decode Y_T_hours.2.1 51 = .ok (.iconst 0, 1) := by decide +kernel
theorem d_T_hours_52 : decode Y_T_hours.2.1 52 = .ok (.istore_n 3, 1) := by decide +kernel
theorem d_T_hours_53 : decode Y_T_hours.2.1 53 = .ok (.iconst 0, 1) := by decide +kernel
theorem d_T_hours_54 : decode Y_T_hours.2.1 54 = .ok (.istore 4, 2) := by decide +kernel
theorem d_T_hours_56 : decode Y_T_hours.2.1 56 = .ok (.iload 4, 2) := by decide +kernel
theorem d_T_hours_58 : decode Y_T_hours.2.1 58 = .ok (.iload_n 1, 1) := by decide +kernel
theorem d_T_hours_59 : decode Y_T_hours.2.1 59 = .ok (.if_icmp .ge 26, 3) := by decide +kernel
theorem d_T_hours_62 : decode Y_T_hours.2.1 62 = .ok (.iload_n 3, 1) := by decide +kernel
theorem d_T_hours_63 : decode Y_T_hours.2.1 63 = .ok (.aload_n 0, 1) := by decide +kernel
theorem d_T_hours_64 : decode Y_T_hours.2.1 64 = .ok (.getfield 43, 3) := by decide +kernel
theorem d_T_hours_67 : decode Y_T_hours.2.1 67 = .ok (.aload_n 0, 1) := by decide +kernel
theorem d_T_hours_68 : decode Y_T_hours.2.1 68 = .ok (.getfield 20, 3) := by decide +kernel
theorem d_T_hours_71 : decode Y_T_hours.2.1 71 = .ok (.getfield 175, 3) := by decide +kernel
theorem d_T_hours_74 : decode Y_T_hours.2.1 74 = .ok (.invokevirtual 350, 3) := by decide +kernel
theorem d_T_hours_77 : decode Y_T_hours.2.1 77 = .ok (.iadd, 1) := by decide +kernel
theorem d_T_hours_78 : decode Y_T_hours.2.1 78 = .ok (.istore_n 3, 1) := by decide +kernel
theorem d_T_hours_79 : decode Y_T_hours.2.1 79 = .ok (.iinc 4 1, 3) := by decide +kernel
theorem d_T_hours_82 : decode Y_T_hours.2.1 82 = .ok (.goto (-26), 3) := by decide +kernel
theorem d_T_hours_85 : decode Y_T_hours.2.1 85 = .ok (.aload_n 0, 1) := by decide +kernel
theorem d_T_hours_86 : decode Y_T_hours.2.1 86 = .ok (.iload_n 3, 1) := by decide +kernel
theorem d_T_hours_87 : decode Y_T_hours.2.1 87 = .ok (.invokevirtual 114, 3) := by decide +kernel
theorem d_T_hours_90 : decode Y_T_hours.2.1 90 = .ok (.ireturn, 1) := by decide +kernel
def f_T_hours (h : PH) (a0 : Option Nat) (a1 : Int32) : Option (Int32 × PH) := (cl h 10 a0 (f_T_boundsTrouble h a0 a1 (1 : Int32) (24 : Int32))).bind fun v1 => if v1 = 0 then ((gR h 10 a0 6).bind fun v2 => (gI h 2 v2 0).bind fun v3 => if (v3 + a1) ≤ (999 : Int32) then ((gR h 10 a0 11).bind fun v4 => (gR h 10 a0 6).bind fun v5 => (cl h 3 v4 (f_Past_keep h v4 v5)).bind fun h6 => (pj_it (X := Int32 × PH) (fun s7 : Int32 × Int32 × PH => if a1 ≤ s7.2.1 then (some (.inr (s7.1, s7.2.2))) else ((gR s7.2.2 10 a0 6).bind fun v9 => (gR s7.2.2 10 a0 2).bind fun v10 => (gR s7.2.2 1 v10 10).bind fun v11 => (cl s7.2.2 2 v9 (f_Now_nextHour s7.2.2 v9 v11)).bind fun v12 => some (.inl ((s7.1 + v12.1), (s7.2.1 + (1 : Int32)), v12.2)))) FU ((0 : Int32), (0 : Int32), h6)).bind fun x8 => (cl x8.2 10 a0 (f_T_fine x8.2 a0 x8.1)).bind fun v13 => some (v13.1, v13.2)) else ((cl h 10 a0 (f_T_refuse h a0 (3 : Int32))).bind fun v14 => some (v14.1, v14.2))) else ((cl h 10 a0 (f_T_refuse h a0 v1)).bind fun v15 => some (v15.1, v15.2))
set_option maxRecDepth 20000 in
theorem PM_T_hours {l : Launch} {G : Cx} {h : PH} {a0 : Option Nat} {a1 : Int32} {z : (Int32 × PH)} (hz : f_T_hours h a0 a1 = some z) : PM l G 3 0 0 Y_T_hours [.inr (.inr a0), .inl a1] h (some (.inl z.1), z.2) := by
  refine PM.of (Y := Y_T_hours) (cv := (fun z : (Int32 × PH) => (((some (.inl z.1), z.2) : Option PV × PH)))) (by decide) (L0 := [some (.inr (.inr a0)), some (.inl a1), none, none, none]) 3 rfl (Nat.le_of_ble_eq_true rfl) ?_ hz
  unfold f_T_hours
  refine PJ.aload_n (pc := 0) d_T_hours_0 rfl ?_
  refine PJ.iload_n (pc := 1) d_T_hours_1 rfl ?_
  refine PJ.iconst (pc := 2) (v := 1) d_T_hours_2 (by decide) ?_
  refine PJ.bipush (pc := 3) (v := 24) d_T_hours_3 (by decide) ?_
  refine PJ.cVpI (pc := 5) cs_T_241 (fun z hz => PM_T_boundsTrouble hz) (pj_fitb rfl) rfl rfl (Nat.le_of_ble_eq_true rfl) d_T_hours_5 (fun v1 => ?_)
  refine PJ.istore_n (pc := 8) (L1 := [some (.inr (.inr a0)), some (.inl a1), some (.inl v1), none, none]) d_T_hours_8 (Nat.le_of_ble_eq_true rfl) rfl rfl ?_
  refine PJ.iload_n (pc := 9) d_T_hours_9 rfl ?_
  refine PJ.if_eq (pc := 10) (tgt := 19) d_T_hours_10 (by decide) (fun _ => ?_) (fun _ => ?_)
  · refine PJ.aload_n (pc := 19) d_T_hours_19 rfl ?_
    refine PJ.getR (pc := 20) fs_T_43 d_T_hours_20 (fun v2 => ?_)
    refine PJ.getI (pc := 23) fs_T_357 d_T_hours_23 (fun v3 => ?_)
    refine PJ.iload_n (pc := 26) d_T_hours_26 rfl ?_
    refine PJ.iadd (pc := 27) d_T_hours_27 ?_
    refine PJ.sipush (pc := 28) (v := 999) d_T_hours_28 (by decide) ?_
    refine PJ.icmp_le (pc := 31) (tgt := 40) d_T_hours_31 (by decide) (fun _ => ?_) (fun _ => ?_)
    · refine PJ.aload_n (pc := 40) d_T_hours_40 rfl ?_
      refine PJ.getR (pc := 41) fs_T_78 d_T_hours_41 (fun v4 => ?_)
      refine PJ.aload_n (pc := 44) d_T_hours_44 rfl ?_
      refine PJ.getR (pc := 45) fs_T_43 d_T_hours_45 (fun v5 => ?_)
      refine PJ.cVV (pc := 48) cs_T_354 (fun z hz => PM_Past_keep hz) (pj_fitb rfl) rfl rfl (Nat.le_of_ble_eq_true rfl) d_T_hours_48 (fun h6 => ?_)
      refine PJ.iconst (pc := 51) (v := 0) d_T_hours_51 (by decide) ?_
      refine PJ.istore_n (pc := 52) (L1 := [some (.inr (.inr a0)), some (.inl a1), some (.inl v1), some (.inl (0 : Int32)), none]) d_T_hours_52 (Nat.le_of_ble_eq_true rfl) rfl rfl ?_
      refine PJ.iconst (pc := 53) (v := 0) d_T_hours_53 (by decide) ?_
      refine PJ.istore (pc := 54) (L1 := [some (.inr (.inr a0)), some (.inl a1), some (.inl v1), some (.inl (0 : Int32)), some (.inl (0 : Int32))]) d_T_hours_54 (Nat.le_of_ble_eq_true rfl) rfl rfl ?_
      refine PJ.mk (L1 := [some (.inr (.inr a0)), some (.inl a1), none, some (.inl (0 : Int32)), some (.inl (0 : Int32))]) [true, true, false, true, true] rfl ?_
      refine PJ.bind (fun x8 : Int32 × PH => ((85 : Nat), ([some (.inr (.inr a0)), none, none, some (.inl x8.1), none] : List (Option PV)), ([] : List PV), (x8.2 : PH), (0 : Nat), (0 : Nat))) (PJ.it (E := (fun s7 : Int32 × Int32 × PH => ((56 : Nat), ([some (.inr (.inr a0)), some (.inl a1), none, some (.inl s7.1), some (.inl s7.2.1)] : List (Option PV)), ([] : List PV), (s7.2.2 : PH), (0 : Nat), (0 : Nat)))) (F := (fun x8 : Int32 × PH => ((85 : Nat), ([some (.inr (.inr a0)), none, none, some (.inl x8.1), none] : List (Option PV)), ([] : List PV), (x8.2 : PH), (0 : Nat), (0 : Nat)))) (fun s7 => ?_) FU ((0 : Int32), (0 : Int32), h6)) (fun x8 => ?_)
      · show PJ l G (pj_rm 3 0 0) Y_T_hours 56 [some (.inr (.inr a0)), some (.inl a1), none, some (.inl s7.1), some (.inl s7.2.1)] [] s7.2.2 0 0 _ _
        refine PJ.iload (pc := 56) d_T_hours_56 rfl ?_
        refine PJ.iload_n (pc := 58) d_T_hours_58 rfl ?_
        refine PJ.icmp_ge (pc := 59) (tgt := 85) d_T_hours_59 (by decide) (fun _ => ?_) (fun _ => ?_)
        · refine PJ.mk (L1 := [some (.inr (.inr a0)), none, none, some (.inl s7.1), none]) [true, false, false, true, false] rfl ?_
          exact PJ.done rfl
        · refine PJ.iload_n (pc := 62) d_T_hours_62 rfl ?_
          refine PJ.aload_n (pc := 63) d_T_hours_63 rfl ?_
          refine PJ.getR (pc := 64) fs_T_43 d_T_hours_64 (fun v9 => ?_)
          refine PJ.aload_n (pc := 67) d_T_hours_67 rfl ?_
          refine PJ.getR (pc := 68) fs_T_20 d_T_hours_68 (fun v10 => ?_)
          refine PJ.getR (pc := 71) fs_T_175 d_T_hours_71 (fun v11 => ?_)
          refine PJ.cVI (pc := 74) cs_T_350 (fun z hz => PM_Now_nextHour hz) (pj_fitb rfl) rfl rfl (Nat.le_of_ble_eq_true rfl) d_T_hours_74 (fun v12 => ?_)
          refine PJ.iadd (pc := 77) d_T_hours_77 ?_
          refine PJ.istore_n (pc := 78) (L1 := [some (.inr (.inr a0)), some (.inl a1), none, some (.inl (s7.1 + v12.1)), some (.inl s7.2.1)]) d_T_hours_78 (Nat.le_of_ble_eq_true rfl) rfl rfl ?_
          refine PJ.iinc (pc := 79) (v := 1) (L1 := [some (.inr (.inr a0)), some (.inl a1), none, some (.inl (s7.1 + v12.1)), some (.inl (s7.2.1 + (1 : Int32)))]) d_T_hours_79 rfl (by decide) (Nat.le_of_ble_eq_true rfl) rfl rfl ?_
          refine PJ.goto (pc := 82) (tgt := 56) d_T_hours_82 (by decide) ?_
          exact PJ.done rfl
      · show PJ l G (pj_rm 3 0 0) Y_T_hours 85 [some (.inr (.inr a0)), none, none, some (.inl x8.1), none] [] x8.2 0 0 _ _
        refine PJ.aload_n (pc := 85) d_T_hours_85 rfl ?_
        refine PJ.iload_n (pc := 86) d_T_hours_86 rfl ?_
        refine PJ.cVI (pc := 87) cs_T_114 (fun z hz => PM_T_fine hz) (pj_fitb rfl) rfl rfl (Nat.le_of_ble_eq_true rfl) d_T_hours_87 (fun v13 => ?_)
        exact PJ.iret (pc := 90) d_T_hours_90 rfl (Nat.le_of_ble_eq_true rfl) (Nat.le_of_ble_eq_true rfl)
    · refine PJ.aload_n (pc := 34) d_T_hours_34 rfl ?_
      refine PJ.iconst (pc := 35) (v := 3) d_T_hours_35 (by decide) ?_
      refine PJ.cVI (pc := 36) cs_T_95 (fun z hz => PM_T_refuse hz) (pj_fitb rfl) rfl rfl (Nat.le_of_ble_eq_true rfl) d_T_hours_36 (fun v14 => ?_)
      exact PJ.iret (pc := 39) d_T_hours_39 rfl (Nat.le_of_ble_eq_true rfl) (Nat.le_of_ble_eq_true rfl)
  · refine PJ.aload_n (pc := 13) d_T_hours_13 rfl ?_
    refine PJ.iload_n (pc := 14) d_T_hours_14 rfl ?_
    refine PJ.cVI (pc := 15) cs_T_95 (fun z hz => PM_T_refuse hz) (pj_fitb rfl) rfl rfl (Nat.le_of_ble_eq_true rfl) d_T_hours_15 (fun v15 => ?_)
    exact PJ.iret (pc := 18) d_T_hours_18 rfl (Nat.le_of_ble_eq_true rfl) (Nat.le_of_ble_eq_true rfl)
theorem d_T_answered_0 : decode Y_T_answered.2.1 0 = .ok (.aload_n 0, 1) := by decide +kernel
theorem d_T_answered_1 : decode Y_T_answered.2.1 1 = .ok (.iload_n 1, 1) := by decide +kernel
theorem d_T_answered_2 : decode Y_T_answered.2.1 2 = .ok (.putfield 82, 3) := by decide +kernel
theorem d_T_answered_5 : decode Y_T_answered.2.1 5 = .ok (.iload_n 1, 1) := by decide +kernel
theorem d_T_answered_6 : decode Y_T_answered.2.1 6 = .ok (.ifCond .ne 7, 3) := by decide +kernel
theorem d_T_answered_9 : decode Y_T_answered.2.1 9 = .ok (.iconst 1, 1) := by decide +kernel
theorem d_T_answered_10 : decode Y_T_answered.2.1 10 = .ok (.goto 4, 3) := by decide +kernel
theorem d_T_answered_13 : decode Y_T_answered.2.1 13 = .ok (.iconst 0, 1) := by decide +kernel
theorem d_T_answered_14 : decode Y_T_answered.2.1 14 = .ok (.ireturn, 1) := by decide +kernel
def f_T_answered (h : PH) (a0 : Option Nat) (a1 : Int32) : Option (Int32 × PH) := (sF h 10 a0 12 (.inl a1)).bind fun h1 => if ¬ a1 = 0 then (some ((0 : Int32), h1)) else (some ((1 : Int32), h1))
set_option maxRecDepth 20000 in
theorem PM_T_answered {l : Launch} {G : Cx} {h : PH} {a0 : Option Nat} {a1 : Int32} {z : (Int32 × PH)} (hz : f_T_answered h a0 a1 = some z) : PM l G 1 0 0 Y_T_answered [.inr (.inr a0), .inl a1] h (some (.inl z.1), z.2) := by
  refine PM.of (Y := Y_T_answered) (cv := (fun z : (Int32 × PH) => (((some (.inl z.1), z.2) : Option PV × PH)))) (by decide) (L0 := [some (.inr (.inr a0)), some (.inl a1)]) 0 rfl (Nat.le_of_ble_eq_true rfl) ?_ hz
  unfold f_T_answered
  refine PJ.aload_n (pc := 0) d_T_answered_0 rfl ?_
  refine PJ.iload_n (pc := 1) d_T_answered_1 rfl ?_
  refine PJ.putI (pc := 2) ps_T_82 d_T_answered_2 (fun h1 => ?_)
  refine PJ.iload_n (pc := 5) d_T_answered_5 rfl ?_
  refine PJ.if_ne (pc := 6) (tgt := 13) d_T_answered_6 (by decide) (fun _ => ?_) (fun _ => ?_)
  · refine PJ.iconst (pc := 13) (v := 0) d_T_answered_13 (by decide) ?_
    exact PJ.zret (pc := 14) d_T_answered_14 rfl rfl (Nat.le_of_ble_eq_true rfl) (Nat.le_of_ble_eq_true rfl)
  · refine PJ.iconst (pc := 9) (v := 1) d_T_answered_9 (by decide) ?_
    refine PJ.goto (pc := 10) (tgt := 14) d_T_answered_10 (by decide) ?_
    exact PJ.zret (pc := 14) d_T_answered_14 rfl rfl (Nat.le_of_ble_eq_true rfl) (Nat.le_of_ble_eq_true rfl)
theorem d_T_seed_0 : decode Y_T_seed.2.1 0 = .ok (.aload_n 0, 1) := by decide +kernel
theorem d_T_seed_1 : decode Y_T_seed.2.1 1 = .ok (.iload_n 1, 1) := by decide +kernel
theorem d_T_seed_2 : decode Y_T_seed.2.1 2 = .ok (.iconst 0, 1) := by decide +kernel
theorem d_T_seed_3 : decode Y_T_seed.2.1 3 = .ok (.ldc_w 338, 3) := by decide +kernel
theorem d_T_seed_6 : decode Y_T_seed.2.1 6 = .ok (.invokevirtual 241, 3) := by decide +kernel
theorem d_T_seed_9 : decode Y_T_seed.2.1 9 = .ok (.istore_n 2, 1) := by decide +kernel
theorem d_T_seed_10 : decode Y_T_seed.2.1 10 = .ok (.iload_n 2, 1) := by decide +kernel
theorem d_T_seed_11 : decode Y_T_seed.2.1 11 = .ok (.ifCond .ne 11, 3) := by decide +kernel
theorem d_T_seed_14 : decode Y_T_seed.2.1 14 = .ok (.aload_n 0, 1) := by decide +kernel
theorem d_T_seed_15 : decode Y_T_seed.2.1 15 = .ok (.getfield 43, 3) := by decide +kernel
theorem d_T_seed_18 : decode Y_T_seed.2.1 18 = .ok (.iload_n 1, 1) := by decide +kernel
theorem d_T_seed_19 : decode Y_T_seed.2.1 19 = .ok (.putfield 343, 3) := by decide +kernel
theorem d_T_seed_22 : decode Y_T_seed.2.1 22 = .ok (.aload_n 0, 1) := by decide +kernel
theorem d_T_seed_23 : decode Y_T_seed.2.1 23 = .ok (.iload_n 2, 1) := by decide +kernel
theorem d_T_seed_24 : decode Y_T_seed.2.1 24 = .ok (.invokevirtual 360, 3) := by decide +kernel
theorem d_T_seed_27 : decode Y_T_seed.2.1 27 = .ok (.ireturn, 1) := by decide +kernel
def f_T_seed (h : PH) (a0 : Option Nat) (a1 : Int32) : Option (Int32 × PH) := (cl h 10 a0 (f_T_boundsTrouble h a0 a1 (0 : Int32) (65536 : Int32))).bind fun v1 => (if ¬ v1 = 0 then (some h) else ((gR h 10 a0 6).bind fun v3 => (sF h 2 v3 1 (.inl a1)).bind fun h4 => some h4) : Option (PH)).bind fun j2 => (cl j2 10 a0 (f_T_answered j2 a0 v1)).bind fun v5 => rZ v5.1 v5.2
set_option maxRecDepth 20000 in
theorem PM_T_seed {l : Launch} {G : Cx} {h : PH} {a0 : Option Nat} {a1 : Int32} {z : (Int32 × PH)} (hz : f_T_seed h a0 a1 = some z) : PM l G 2 0 0 Y_T_seed [.inr (.inr a0), .inl a1] h (some (.inl z.1), z.2) := by
  refine PM.of (Y := Y_T_seed) (cv := (fun z : (Int32 × PH) => (((some (.inl z.1), z.2) : Option PV × PH)))) (by decide) (L0 := [some (.inr (.inr a0)), some (.inl a1), none]) 1 rfl (Nat.le_of_ble_eq_true rfl) ?_ hz
  unfold f_T_seed
  refine PJ.aload_n (pc := 0) d_T_seed_0 rfl ?_
  refine PJ.iload_n (pc := 1) d_T_seed_1 rfl ?_
  refine PJ.iconst (pc := 2) (v := 0) d_T_seed_2 (by decide) ?_
  refine PJ.ldcw (pc := 3) (v := 65536) d_T_seed_3 wd_1231 ?_
  refine PJ.cVpI (pc := 6) cs_T_241 (fun z hz => PM_T_boundsTrouble hz) (pj_fitb rfl) rfl rfl (Nat.le_of_ble_eq_true rfl) d_T_seed_6 (fun v1 => ?_)
  refine PJ.istore_n (pc := 9) (L1 := [some (.inr (.inr a0)), some (.inl a1), some (.inl v1)]) d_T_seed_9 (Nat.le_of_ble_eq_true rfl) rfl rfl ?_
  refine PJ.iload_n (pc := 10) d_T_seed_10 rfl ?_
  refine PJ.bind (fun j2 : PH => ((22 : Nat), ([some (.inr (.inr a0)), none, some (.inl v1)] : List (Option PV)), ([] : List PV), (j2 : PH), (0 : Nat), (0 : Nat))) ?_ (fun j2 => ?_)
  · refine PJ.if_ne (pc := 11) (tgt := 22) d_T_seed_11 (by decide) (fun _ => ?_) (fun _ => ?_)
    · refine PJ.mk (L1 := [some (.inr (.inr a0)), none, some (.inl v1)]) [true, false, true] rfl ?_
      exact PJ.done rfl
    · refine PJ.aload_n (pc := 14) d_T_seed_14 rfl ?_
      refine PJ.getR (pc := 15) fs_T_43 d_T_seed_15 (fun v3 => ?_)
      refine PJ.iload_n (pc := 18) d_T_seed_18 rfl ?_
      refine PJ.putI (pc := 19) ps_T_343 d_T_seed_19 (fun h4 => ?_)
      refine PJ.mk (L1 := [some (.inr (.inr a0)), none, some (.inl v1)]) [true, false, true] rfl ?_
      exact PJ.done rfl
  · show PJ l G (pj_rm 2 0 0) Y_T_seed 22 [some (.inr (.inr a0)), none, some (.inl v1)] [] j2 0 0 _ _
    refine PJ.aload_n (pc := 22) d_T_seed_22 rfl ?_
    refine PJ.iload_n (pc := 23) d_T_seed_23 rfl ?_
    refine PJ.cVI (pc := 24) cs_T_360 (fun z hz => PM_T_answered hz) (pj_fitb rfl) rfl rfl (Nat.le_of_ble_eq_true rfl) d_T_seed_24 (fun v5 => ?_)
    exact PJ.zretC (pc := 27) d_T_seed_27 rfl (Nat.le_of_ble_eq_true rfl) (Nat.le_of_ble_eq_true rfl)
theorem d_Past_takeBack_0 : decode Y_Past_takeBack.2.1 0 = .ok (.aload_n 0, 1) := by decide +kernel
theorem d_Past_takeBack_1 : decode Y_Past_takeBack.2.1 1 = .ok (.getfield 20, 3) := by decide +kernel
theorem d_Past_takeBack_4 : decode Y_Past_takeBack.2.1 4 = .ok (.ifCond .ne 5, 3) := by decide +kernel
theorem d_Past_takeBack_7 : decode Y_Past_takeBack.2.1 7 = .ok (.iconst 0, 1) := by decide +kernel
theorem d_Past_takeBack_8 : decode Y_Past_takeBack.2.1 8 = .ok (.ireturn, 1) := by decide +kernel
theorem d_Past_takeBack_9 : decode Y_Past_takeBack.2.1 9 = .ok (.aload_n 0, 1) := by decide +kernel
theorem d_Past_takeBack_10 : decode Y_Past_takeBack.2.1 10 = .ok (.dup, 1) := by decide +kernel
theorem d_Past_takeBack_11 : decode Y_Past_takeBack.2.1 11 = .ok (.getfield 20, 3) := by decide +kernel
theorem d_Past_takeBack_14 : decode Y_Past_takeBack.2.1 14 = .ok (.iconst 1, 1) := by decide +kernel
theorem d_Past_takeBack_15 : decode Y_Past_takeBack.2.1 15 = .ok (.isub, 1) := by decide +kernel
theorem d_Past_takeBack_16 : decode Y_Past_takeBack.2.1 16 = .ok (.putfield 20, 3) := by decide +kernel
theorem d_Past_takeBack_19 : decode Y_Past_takeBack.2.1 19 = .ok (.aload_n 1, 1) := by decide +kernel
theorem d_Past_takeBack_20 : decode Y_Past_takeBack.2.1 20 = .ok (.aload_n 0, 1) := by decide +kernel
theorem d_Past_takeBack_21 : decode Y_Past_takeBack.2.1 21 = .ok (.getfield 11, 3) := by decide +kernel
theorem d_Past_takeBack_24 : decode Y_Past_takeBack.2.1 24 = .ok (.aload_n 0, 1) := by decide +kernel
theorem d_Past_takeBack_25 : decode Y_Past_takeBack.2.1 25 = .ok (.getfield 20, 3) := by decide +kernel
theorem d_Past_takeBack_28 : decode Y_Past_takeBack.2.1 28 = .ok (.aaload, 1) := by decide +kernel
theorem d_Past_takeBack_29 : decode Y_Past_takeBack.2.1 29 = .ok (.invokevirtual 28, 3) := by decide +kernel
theorem d_Past_takeBack_32 : decode Y_Past_takeBack.2.1 32 = .ok (.iconst 1, 1) := by decide +kernel
theorem d_Past_takeBack_33 : decode Y_Past_takeBack.2.1 33 = .ok (.ireturn, 1) := by decide +kernel
def f_Past_takeBack (h : PH) (a0 : Option Nat) (a1 : Option Nat) : Option (Int32 × PH) := (gI h 3 a0 2).bind fun v1 => if ¬ v1 = 0 then ((gI h 3 a0 2).bind fun v2 => (sF h 3 a0 2 (.inl (v2 - (1 : Int32)))).bind fun h3 => (gR h3 3 a0 0).bind fun v4 => (gI h3 3 a0 2).bind fun v5 => (aR h3 54 v4 v5).bind fun v6 => (cl h3 2 a1 (f_Now_become h3 a1 v6)).bind fun h7 => some ((1 : Int32), h7)) else (some ((0 : Int32), h))
set_option maxRecDepth 20000 in
theorem PM_Past_takeBack {l : Launch} {G : Cx} {h : PH} {a0 : Option Nat} {a1 : Option Nat} {z : (Int32 × PH)} (hz : f_Past_takeBack h a0 a1 = some z) : PM l G 2 0 0 Y_Past_takeBack [.inr (.inr a0), .inr (.inr a1)] h (some (.inl z.1), z.2) := by
  refine PM.of (Y := Y_Past_takeBack) (cv := (fun z : (Int32 × PH) => (((some (.inl z.1), z.2) : Option PV × PH)))) (by decide) (L0 := [some (.inr (.inr a0)), some (.inr (.inr a1))]) 0 rfl (Nat.le_of_ble_eq_true rfl) ?_ hz
  unfold f_Past_takeBack
  refine PJ.aload_n (pc := 0) d_Past_takeBack_0 rfl ?_
  refine PJ.getI (pc := 1) fs_Past_20 d_Past_takeBack_1 (fun v1 => ?_)
  refine PJ.if_ne (pc := 4) (tgt := 9) d_Past_takeBack_4 (by decide) (fun _ => ?_) (fun _ => ?_)
  · refine PJ.aload_n (pc := 9) d_Past_takeBack_9 rfl ?_
    refine PJ.dup (pc := 10) d_Past_takeBack_10 rfl ?_
    refine PJ.getI (pc := 11) fs_Past_20 d_Past_takeBack_11 (fun v2 => ?_)
    refine PJ.iconst (pc := 14) (v := 1) d_Past_takeBack_14 (by decide) ?_
    refine PJ.isub (pc := 15) d_Past_takeBack_15 ?_
    refine PJ.putI (pc := 16) ps_Past_20 d_Past_takeBack_16 (fun h3 => ?_)
    refine PJ.aload_n (pc := 19) d_Past_takeBack_19 rfl ?_
    refine PJ.aload_n (pc := 20) d_Past_takeBack_20 rfl ?_
    refine PJ.getR (pc := 21) fs_Past_11 d_Past_takeBack_21 (fun v4 => ?_)
    refine PJ.aload_n (pc := 24) d_Past_takeBack_24 rfl ?_
    refine PJ.getI (pc := 25) fs_Past_20 d_Past_takeBack_25 (fun v5 => ?_)
    refine PJ.aald (pc := 28) 54 (by decide) d_Past_takeBack_28 (fun v6 => ?_)
    refine PJ.cVV (pc := 29) cs_Past_28 (fun z hz => PM_Now_become hz) (pj_fitb rfl) rfl rfl (Nat.le_of_ble_eq_true rfl) d_Past_takeBack_29 (fun h7 => ?_)
    refine PJ.iconst (pc := 32) (v := 1) d_Past_takeBack_32 (by decide) ?_
    exact PJ.zret (pc := 33) d_Past_takeBack_33 rfl rfl (Nat.le_of_ble_eq_true rfl) (Nat.le_of_ble_eq_true rfl)
  · refine PJ.iconst (pc := 7) (v := 0) d_Past_takeBack_7 (by decide) ?_
    exact PJ.zret (pc := 8) d_Past_takeBack_8 rfl rfl (Nat.le_of_ble_eq_true rfl) (Nat.le_of_ble_eq_true rfl)
