-- sites and methods: meth
abbrev Y_M_rests : MI := (⟨"WaverTaxModel", "rests", "(II)I"⟩, prog_13_method_123_code, 5, (some .int))
abbrev Y_M_rest : MI := (⟨"WaverTaxModel", "rest", "(II)I"⟩, prog_13_method_124_code, 4, (some .int))
abbrev Y_M_refusesYear : MI := (⟨"WaverTaxModel", "refusesYear", "(ZII)I"⟩, prog_13_method_128_code, 4, (some .int))
abbrev Y_M_tries : MI := (⟨"WaverTaxModel", "tries", "()V"⟩, prog_13_method_48_code, 2, (none : Option FieldType))
abbrev Y_M_changesTo : MI := (⟨"WaverTaxModel", "changesTo", "([III)I"⟩, prog_13_method_126_code, 5, (some .int))
abbrev Y_M_nextHour : MI := (⟨"WaverTaxModel", "nextHour", "([I)I"⟩, prog_13_method_125_code, 4, (some .int))
abbrev Y_M_goesBy : MI := (⟨"WaverTaxModel", "goesBy", "(II)V"⟩, prog_13_method_127_code, 6, (none : Option FieldType))
abbrev Y_M_year : MI := (⟨"WaverTaxModel", "year", "(II)I"⟩, prog_13_method_129_code, 4, (some .int))
abbrev Y_M_yearHeld : MI := (⟨"WaverTaxModel", "yearHeld", "(III)I"⟩, prog_13_method_130_code, 5, (some .int))
abbrev Y_M_yearChanges : MI := (⟨"WaverTaxModel", "yearChanges", "(II)I"⟩, prog_13_method_131_code, 4, (some .int))
abbrev Y_M_remembers : MI := (⟨"WaverTaxModel", "remembers", "()V"⟩, prog_13_method_132_code, 2, (none : Option FieldType))
abbrev Y_M_change : MI := (⟨"WaverTaxModel", "change", "(II)I"⟩, prog_13_method_133_code, 3, (some .int))
theorem cm_M_isRest : (Cond.code Y_M_isRest.1 Y_M_isRest.2.1 Y_M_isRest.2.2.1 Y_M_isRest.2.2.2 ∈ pj_ws) ∧ (Cond.initialized Y_M_isRest.1.cls ∈ pj_ws) ∧ (Y_M_isRest.1.cls ≠ "java/lang/invoke/MethodHandle" ∧ Y_M_isRest.1.cls ≠ "java/lang/invoke/VarHandle" ∧ (parseMethodDescriptor Y_M_isRest.1.desc).map (fun d => d.parameters.length) = some 3) ∧ (Cond.instanceMethod Y_M_isRest.1 ∈ pj_ws) ∧ (Cond.selects Y_M_isRest.1.cls Y_M_isRest.1 Y_M_isRest.1 ∈ pj_ws) := ⟨pj_mem 2103 (by decide +kernel) rfl, pj_mem 141 (by decide +kernel) rfl, ⟨by decide +kernel, by decide +kernel, by decide +kernel⟩, pj_mem 2102 (by decide +kernel) rfl, pj_mem 120 (by decide +kernel) rfl⟩
theorem cm_M_tries : (Cond.code Y_M_tries.1 Y_M_tries.2.1 Y_M_tries.2.2.1 Y_M_tries.2.2.2 ∈ pj_ws) ∧ (Cond.initialized Y_M_tries.1.cls ∈ pj_ws) ∧ (Y_M_tries.1.cls ≠ "java/lang/invoke/MethodHandle" ∧ Y_M_tries.1.cls ≠ "java/lang/invoke/VarHandle" ∧ (parseMethodDescriptor Y_M_tries.1.desc).map (fun d => d.parameters.length) = some 0) ∧ (Cond.instanceMethod Y_M_tries.1 ∈ pj_ws) ∧ (Cond.selects Y_M_tries.1.cls Y_M_tries.1 Y_M_tries.1 ∈ pj_ws) := ⟨pj_mem 2124 (by decide +kernel) rfl, pj_mem 141 (by decide +kernel) rfl, ⟨by decide +kernel, by decide +kernel, by decide +kernel⟩, pj_mem 2123 (by decide +kernel) rfl, pj_mem 123 (by decide +kernel) rfl⟩
theorem cm_M_changesTo : (Cond.code Y_M_changesTo.1 Y_M_changesTo.2.1 Y_M_changesTo.2.2.1 Y_M_changesTo.2.2.2 ∈ pj_ws) ∧ (Cond.initialized Y_M_changesTo.1.cls ∈ pj_ws) ∧ (Y_M_changesTo.1.cls ≠ "java/lang/invoke/MethodHandle" ∧ Y_M_changesTo.1.cls ≠ "java/lang/invoke/VarHandle" ∧ (parseMethodDescriptor Y_M_changesTo.1.desc).map (fun d => d.parameters.length) = some 3) ∧ (Cond.instanceMethod Y_M_changesTo.1 ∈ pj_ws) ∧ (Cond.selects Y_M_changesTo.1.cls Y_M_changesTo.1 Y_M_changesTo.1 ∈ pj_ws) := ⟨pj_mem 2128 (by decide +kernel) rfl, pj_mem 141 (by decide +kernel) rfl, ⟨by decide +kernel, by decide +kernel, by decide +kernel⟩, pj_mem 2127 (by decide +kernel) rfl, pj_mem 124 (by decide +kernel) rfl⟩
theorem cm_M_nextHour : (Cond.code Y_M_nextHour.1 Y_M_nextHour.2.1 Y_M_nextHour.2.2.1 Y_M_nextHour.2.2.2 ∈ pj_ws) ∧ (Cond.initialized Y_M_nextHour.1.cls ∈ pj_ws) ∧ (Y_M_nextHour.1.cls ≠ "java/lang/invoke/MethodHandle" ∧ Y_M_nextHour.1.cls ≠ "java/lang/invoke/VarHandle" ∧ (parseMethodDescriptor Y_M_nextHour.1.desc).map (fun d => d.parameters.length) = some 1) ∧ (Cond.instanceMethod Y_M_nextHour.1 ∈ pj_ws) ∧ (Cond.selects Y_M_nextHour.1.cls Y_M_nextHour.1 Y_M_nextHour.1 ∈ pj_ws) := ⟨pj_mem 2132 (by decide +kernel) rfl, pj_mem 141 (by decide +kernel) rfl, ⟨by decide +kernel, by decide +kernel, by decide +kernel⟩, pj_mem 2131 (by decide +kernel) rfl, pj_mem 125 (by decide +kernel) rfl⟩
theorem cm_M_refusesYear : (Cond.code Y_M_refusesYear.1 Y_M_refusesYear.2.1 Y_M_refusesYear.2.2.1 Y_M_refusesYear.2.2.2 ∈ pj_ws) ∧ (Cond.initialized Y_M_refusesYear.1.cls ∈ pj_ws) ∧ (Y_M_refusesYear.1.cls ≠ "java/lang/invoke/MethodHandle" ∧ Y_M_refusesYear.1.cls ≠ "java/lang/invoke/VarHandle" ∧ (parseMethodDescriptor Y_M_refusesYear.1.desc).map (fun d => d.parameters.length) = some 3) ∧ (Cond.instanceMethod Y_M_refusesYear.1 ∈ pj_ws) ∧ (Cond.selects Y_M_refusesYear.1.cls Y_M_refusesYear.1 Y_M_refusesYear.1 ∈ pj_ws) := ⟨pj_mem 2115 (by decide +kernel) rfl, pj_mem 141 (by decide +kernel) rfl, ⟨by decide +kernel, by decide +kernel, by decide +kernel⟩, pj_mem 2114 (by decide +kernel) rfl, pj_mem 121 (by decide +kernel) rfl⟩
theorem cm_M_goesBy : (Cond.code Y_M_goesBy.1 Y_M_goesBy.2.1 Y_M_goesBy.2.2.1 Y_M_goesBy.2.2.2 ∈ pj_ws) ∧ (Cond.initialized Y_M_goesBy.1.cls ∈ pj_ws) ∧ (Y_M_goesBy.1.cls ≠ "java/lang/invoke/MethodHandle" ∧ Y_M_goesBy.1.cls ≠ "java/lang/invoke/VarHandle" ∧ (parseMethodDescriptor Y_M_goesBy.1.desc).map (fun d => d.parameters.length) = some 2) ∧ (Cond.instanceMethod Y_M_goesBy.1 ∈ pj_ws) ∧ (Cond.selects Y_M_goesBy.1.cls Y_M_goesBy.1 Y_M_goesBy.1 ∈ pj_ws) := ⟨pj_mem 2120 (by decide +kernel) rfl, pj_mem 141 (by decide +kernel) rfl, ⟨by decide +kernel, by decide +kernel, by decide +kernel⟩, pj_mem 2119 (by decide +kernel) rfl, pj_mem 122 (by decide +kernel) rfl⟩
theorem cm_M_remembers : (Cond.code Y_M_remembers.1 Y_M_remembers.2.1 Y_M_remembers.2.2.1 Y_M_remembers.2.2.2 ∈ pj_ws) ∧ (Cond.initialized Y_M_remembers.1.cls ∈ pj_ws) ∧ (Y_M_remembers.1.cls ≠ "java/lang/invoke/MethodHandle" ∧ Y_M_remembers.1.cls ≠ "java/lang/invoke/VarHandle" ∧ (parseMethodDescriptor Y_M_remembers.1.desc).map (fun d => d.parameters.length) = some 0) ∧ (Cond.instanceMethod Y_M_remembers.1 ∈ pj_ws) ∧ (Cond.selects Y_M_remembers.1.cls Y_M_remembers.1 Y_M_remembers.1 ∈ pj_ws) := ⟨pj_mem 2151 (by decide +kernel) rfl, pj_mem 141 (by decide +kernel) rfl, ⟨by decide +kernel, by decide +kernel, by decide +kernel⟩, pj_mem 2150 (by decide +kernel) rfl, pj_mem 126 (by decide +kernel) rfl⟩
theorem cs_M_508 : pj_cV "WaverTaxModel" 508 Y_M_isRest 3 12 := ⟨⟨cm_M_isRest.1, cm_M_isRest.2.1, cm_M_isRest.2.2.1, Or.inl (pj_mem 2100 (by decide +kernel) rfl)⟩, by decide, cm_M_isRest.2.2.2.1, cm_M_isRest.2.2.2.2, ⟨_, rfl, rfl⟩⟩
theorem cs_M_517 : pj_cV "WaverTaxModel" 517 Y_M_tries 0 12 := ⟨⟨cm_M_tries.1, cm_M_tries.2.1, cm_M_tries.2.2.1, Or.inl (pj_mem 2121 (by decide +kernel) rfl)⟩, by decide, cm_M_tries.2.2.2.1, cm_M_tries.2.2.2.2, ⟨_, rfl, rfl⟩⟩
theorem cs_M_526 : pj_cV "WaverTaxModel" 526 Y_M_changesTo 3 12 := ⟨⟨cm_M_changesTo.1, cm_M_changesTo.2.1, cm_M_changesTo.2.2.1, Or.inl (pj_mem 2125 (by decide +kernel) rfl)⟩, by decide, cm_M_changesTo.2.2.2.1, cm_M_changesTo.2.2.2.2, ⟨_, rfl, rfl⟩⟩
theorem cs_M_529 : pj_cV "WaverTaxModel" 529 Y_M_nextHour 1 12 := ⟨⟨cm_M_nextHour.1, cm_M_nextHour.2.1, cm_M_nextHour.2.2.1, Or.inl (pj_mem 2129 (by decide +kernel) rfl)⟩, by decide, cm_M_nextHour.2.2.2.1, cm_M_nextHour.2.2.2.2, ⟨_, rfl, rfl⟩⟩
theorem cs_M_534 : pj_cV "WaverTaxModel" 534 Y_M_refusesYear 3 12 := ⟨⟨cm_M_refusesYear.1, cm_M_refusesYear.2.1, cm_M_refusesYear.2.2.1, Or.inl (pj_mem 2112 (by decide +kernel) rfl)⟩, by decide, cm_M_refusesYear.2.2.2.1, cm_M_refusesYear.2.2.2.2, ⟨_, rfl, rfl⟩⟩
theorem cs_M_538 : pj_cV "WaverTaxModel" 538 Y_M_goesBy 2 12 := ⟨⟨cm_M_goesBy.1, cm_M_goesBy.2.1, cm_M_goesBy.2.2.1, Or.inl (pj_mem 2117 (by decide +kernel) rfl)⟩, by decide, cm_M_goesBy.2.2.2.1, cm_M_goesBy.2.2.2.2, ⟨_, rfl, rfl⟩⟩
theorem cs_M_541 : pj_cV "WaverTaxModel" 541 Y_M_remembers 0 12 := ⟨⟨cm_M_remembers.1, cm_M_remembers.2.1, cm_M_remembers.2.2.1, Or.inl (pj_mem 2148 (by decide +kernel) rfl)⟩, by decide, cm_M_remembers.2.2.2.1, cm_M_remembers.2.2.2.2, ⟨_, rfl, rfl⟩⟩
theorem fs_M_21 : pj_fs "WaverTaxModel" 12 16 21 (.array (.int)) := ⟨_, _, _, _, cd_12, by decide, rfl, Or.inl (pj_mem 1403 (by decide +kernel) rfl)⟩
theorem fs_M_24 : pj_fs "WaverTaxModel" 12 17 24 (.array (.int)) := ⟨_, _, _, _, cd_12, by decide, rfl, Or.inl (pj_mem 1404 (by decide +kernel) rfl)⟩
theorem fs_M_344 : pj_fs "WaverTaxModel" 12 19 344 (.int) := ⟨_, _, _, _, cd_12, by decide, rfl, Or.inl (pj_mem 1406 (by decide +kernel) rfl)⟩
theorem fs_M_520 : pj_fs "WaverTaxModel" 12 30 520 (.int) := ⟨_, _, _, _, cd_12, by decide, rfl, Or.inl (pj_mem 1417 (by decide +kernel) rfl)⟩
theorem fs_M_523 : pj_fs "WaverTaxModel" 12 31 523 (.int) := ⟨_, _, _, _, cd_12, by decide, rfl, Or.inl (pj_mem 1418 (by decide +kernel) rfl)⟩
theorem ps_M_520 {mn : String} : pj_ps "WaverTaxModel" mn 12 30 520 (.int) := ⟨_, _, _, _, cd_12, by decide, rfl, Or.inl ⟨rfl, Or.inl (pj_mem 1417 (by decide +kernel) rfl)⟩⟩
theorem ps_M_523 {mn : String} : pj_ps "WaverTaxModel" mn 12 31 523 (.int) := ⟨_, _, _, _, cd_12, by decide, rfl, Or.inl ⟨rfl, Or.inl (pj_mem 1418 (by decide +kernel) rfl)⟩⟩
theorem wd_2116 : (Jvm.Cond.constant "WaverTaxModel" (533 : Nat) (65536 : Int32)) ∈ pj_ws := pj_mem 2116 (by decide +kernel) rfl
theorem wd_2133 : (Jvm.Cond.constantLong "WaverTaxModel" (511 : Nat) (75 : Int64)) ∈ pj_ws := pj_mem 2133 (by decide +kernel) rfl
theorem wd_2134 : (Jvm.Cond.constantLong "WaverTaxModel" (513 : Nat) (74 : Int64)) ∈ pj_ws := pj_mem 2134 (by decide +kernel) rfl
theorem wd_2135 : (Jvm.Cond.constantLong "WaverTaxModel" (515 : Nat) (65537 : Int64)) ∈ pj_ws := pj_mem 2135 (by decide +kernel) rfl
theorem d_M_rests_0 : decode Y_M_rests.2.1 0 = .ok (.aload_n 0, 1) := by decide +kernel
theorem d_M_rests_1 : decode Y_M_rests.2.1 1 = .ok (.iconst 0, 1) := by decide +kernel
theorem d_M_rests_2 : decode Y_M_rests.2.1 2 = .ok (.putfield 46, 3) := by decide +kernel
theorem d_M_rests_5 : decode Y_M_rests.2.1 5 = .ok (.aload_n 0, 1) := by decide +kernel
theorem d_M_rests_6 : decode Y_M_rests.2.1 6 = .ok (.iload_n 1, 1) := by decide +kernel
theorem d_M_rests_7 : decode Y_M_rests.2.1 7 = .ok (.iload_n 2, 1) := by decide +kernel
theorem d_M_rests_8 : decode Y_M_rests.2.1 8 = .ok (.invokevirtual 498, 3) := by decide +kernel
theorem d_M_rests_11 : decode Y_M_rests.2.1 11 = .ok (.ifCond .ne 9, 3) := by decide +kernel
theorem d_M_rests_14 : decode Y_M_rests.2.1 14 = .ok (.aload_n 0, 1) := by decide +kernel
theorem d_M_rests_15 : decode Y_M_rests.2.1 15 = .ok (.iconst 1, 1) := by decide +kernel
theorem d_M_rests_16 : decode Y_M_rests.2.1 16 = .ok (.invokevirtual 52, 3) := by decide +kernel
theorem d_M_rests_19 : decode Y_M_rests.2.1 19 = .ok (.ireturn, 1) := by decide +kernel
theorem d_M_rests_20 : decode Y_M_rests.2.1 20 = .ok (.aload_n 0, 1) := by decide +kernel
theorem d_M_rests_21 : decode Y_M_rests.2.1 21 = .ok (.invokevirtual 375, 3) := by decide +kernel
theorem d_M_rests_24 : decode Y_M_rests.2.1 24 = .ok (.iconst 0, 1) := by decide +kernel
theorem d_M_rests_25 : decode Y_M_rests.2.1 25 = .ok (.istore_n 3, 1) := by decide +kernel
theorem d_M_rests_26 : decode Y_M_rests.2.1 26 = .ok (.iconst 0, 1) := by decide +kernel
theorem d_M_rests_27 : decode Y_M_rests.2.1 27 = .ok (.istore 4, 2) := by decide +kernel
theorem d_M_rests_29 : decode Y_M_rests.2.1 29 = .ok (.iload 4, 2) := by decide +kernel
theorem d_M_rests_31 : decode Y_M_rests.2.1 31 = .ok (.iconst 4, 1) := by decide +kernel
theorem d_M_rests_32 : decode Y_M_rests.2.1 32 = .ok (.if_icmp .ge 28, 3) := by decide +kernel
theorem d_M_rests_35 : decode Y_M_rests.2.1 35 = .ok (.iload_n 3, 1) := by decide +kernel
theorem d_M_rests_36 : decode Y_M_rests.2.1 36 = .ok (.aload_n 0, 1) := by decide +kernel
theorem d_M_rests_37 : decode Y_M_rests.2.1 37 = .ok (.iload_n 1, 1) := by decide +kernel
theorem d_M_rests_38 : decode Y_M_rests.2.1 38 = .ok (.iload_n 2, 1) := by decide +kernel
theorem d_M_rests_39 : decode Y_M_rests.2.1 39 = .ok (.iload 4, 2) := by decide +kernel
theorem d_M_rests_41 : decode Y_M_rests.2.1 41 = .ok (.invokevirtual 508, 3) := by decide +kernel
theorem d_M_rests_44 : decode Y_M_rests.2.1 44 = .ok (.ifCond .eq 7, 3) := by decide +kernel
theorem d_M_rests_47 : decode Y_M_rests.2.1 47 = .ok (.iconst 1, 1) := by decide +kernel
theorem d_M_rests_48 : decode Y_M_rests.2.1 48 = .ok (.goto 4, 3) := by decide +kernel
theorem d_M_rests_51 : decode Y_M_rests.2.1 51 = .ok (.iconst 0, 1) := by decide +kernel
theorem d_M_rests_52 : decode Y_M_rests.2.1 52 = .ok (.iadd, 1) := by decide +kernel
theorem d_M_rests_53 : decode Y_M_rests.2.1 53 = .ok (.istore_n 3, 1) := by decide +kernel
theorem d_M_rests_54 : decode Y_M_rests.2.1 54 = .ok (.iinc 4 1, 3) := by decide +kernel
theorem d_M_rests_57 : decode Y_M_rests.2.1 57 = .ok (.goto (-28), 3) := by decide +kernel
theorem d_M_rests_60 : decode Y_M_rests.2.1 60 = .ok (.aload_n 0, 1) := by decide +kernel
theorem d_M_rests_61 : decode Y_M_rests.2.1 61 = .ok (.iload_n 3, 1) := by decide +kernel
theorem d_M_rests_62 : decode Y_M_rests.2.1 62 = .ok (.invokevirtual 58, 3) := by decide +kernel
theorem d_M_rests_65 : decode Y_M_rests.2.1 65 = .ok (.ireturn, 1) := by decide +kernel
def f_M_rests (h : PH) (a0 : Option Nat) (a1 : Int32) (a2 : Int32) : Option (Int32 × PH) := (sF h 12 a0 0 (.inl (0 : Int32))).bind fun h1 => (cl h1 12 a0 (f_M_areTwo h1 a0 a1 a2)).bind fun v2 => if ¬ v2 = 0 then ((cl h1 12 a0 (f_M_asTold h1 a0)).bind fun h3 => (pj_it (X := Int32) (fun s4 : Int32 × Int32 => if (4 : Int32) ≤ s4.2 then (some (.inr s4.1)) else ((cl h3 12 a0 (f_M_isRest h3 a0 a1 a2 s4.2)).bind fun v6 => (if v6 = 0 then (some (0 : Int32)) else (some (1 : Int32)) : Option (Int32)).bind fun j7 => some (.inl ((s4.1 + j7), (s4.2 + (1 : Int32)))))) FU ((0 : Int32), (0 : Int32))).bind fun x5 => (cl h3 12 a0 (f_M_good h3 a0 x5)).bind fun v8 => some (v8.1, v8.2)) else ((cl h1 12 a0 (f_M_refused h1 a0 (1 : Int32))).bind fun v9 => some (v9.1, v9.2))
set_option maxRecDepth 20000 in
theorem PM_M_rests {l : Launch} {G : Cx} {h : PH} {a0 : Option Nat} {a1 : Int32} {a2 : Int32} {z : (Int32 × PH)} (hz : f_M_rests h a0 a1 a2 = some z) : PM l G 6 0 0 Y_M_rests [.inr (.inr a0), .inl a1, .inl a2] h (some (.inl z.1), z.2) := by
  refine PM.of (Y := Y_M_rests) (cv := (fun z : (Int32 × PH) => (((some (.inl z.1), z.2) : Option PV × PH)))) (by decide) (L0 := [some (.inr (.inr a0)), some (.inl a1), some (.inl a2), none, none]) 2 rfl (Nat.le_of_ble_eq_true rfl) ?_ hz
  unfold f_M_rests
  refine PJ.aload_n (pc := 0) d_M_rests_0 rfl ?_
  refine PJ.iconst (pc := 1) (v := 0) d_M_rests_1 (by decide) ?_
  refine PJ.putI (pc := 2) ps_M_46 d_M_rests_2 (fun h1 => ?_)
  refine PJ.aload_n (pc := 5) d_M_rests_5 rfl ?_
  refine PJ.iload_n (pc := 6) d_M_rests_6 rfl ?_
  refine PJ.iload_n (pc := 7) d_M_rests_7 rfl ?_
  refine PJ.cVpI (pc := 8) cs_M_498 (fun z hz => PM_M_areTwo hz) (pj_fitb rfl) rfl rfl (Nat.le_of_ble_eq_true rfl) d_M_rests_8 (fun v2 => ?_)
  refine PJ.if_ne (pc := 11) (tgt := 20) d_M_rests_11 (by decide) (fun _ => ?_) (fun _ => ?_)
  · refine PJ.aload_n (pc := 20) d_M_rests_20 rfl ?_
    refine PJ.cVV (pc := 21) cs_M_375 (fun z hz => PM_M_asTold hz) (pj_fitb rfl) rfl rfl (Nat.le_of_ble_eq_true rfl) d_M_rests_21 (fun h3 => ?_)
    refine PJ.iconst (pc := 24) (v := 0) d_M_rests_24 (by decide) ?_
    refine PJ.istore_n (pc := 25) (L1 := [some (.inr (.inr a0)), some (.inl a1), some (.inl a2), some (.inl (0 : Int32)), none]) d_M_rests_25 (Nat.le_of_ble_eq_true rfl) rfl rfl ?_
    refine PJ.iconst (pc := 26) (v := 0) d_M_rests_26 (by decide) ?_
    refine PJ.istore (pc := 27) (L1 := [some (.inr (.inr a0)), some (.inl a1), some (.inl a2), some (.inl (0 : Int32)), some (.inl (0 : Int32))]) d_M_rests_27 (Nat.le_of_ble_eq_true rfl) rfl rfl ?_
    refine PJ.bind (fun x5 : Int32 => ((60 : Nat), ([some (.inr (.inr a0)), none, none, some (.inl x5), none] : List (Option PV)), ([] : List PV), (h3 : PH), (0 : Nat), (0 : Nat))) (PJ.it (E := (fun s4 : Int32 × Int32 => ((29 : Nat), ([some (.inr (.inr a0)), some (.inl a1), some (.inl a2), some (.inl s4.1), some (.inl s4.2)] : List (Option PV)), ([] : List PV), (h3 : PH), (0 : Nat), (0 : Nat)))) (F := (fun x5 : Int32 => ((60 : Nat), ([some (.inr (.inr a0)), none, none, some (.inl x5), none] : List (Option PV)), ([] : List PV), (h3 : PH), (0 : Nat), (0 : Nat)))) (fun s4 => ?_) FU ((0 : Int32), (0 : Int32))) (fun x5 => ?_)
    · show PJ l G (pj_rm 6 0 0) Y_M_rests 29 [some (.inr (.inr a0)), some (.inl a1), some (.inl a2), some (.inl s4.1), some (.inl s4.2)] [] h3 0 0 _ _
      refine PJ.iload (pc := 29) d_M_rests_29 rfl ?_
      refine PJ.iconst (pc := 31) (v := 4) d_M_rests_31 (by decide) ?_
      refine PJ.icmp_ge (pc := 32) (tgt := 60) d_M_rests_32 (by decide) (fun _ => ?_) (fun _ => ?_)
      · refine PJ.mk (L1 := [some (.inr (.inr a0)), none, none, some (.inl s4.1), none]) [true, false, false, true, false] rfl ?_
        exact PJ.done rfl
      · refine PJ.iload_n (pc := 35) d_M_rests_35 rfl ?_
        refine PJ.aload_n (pc := 36) d_M_rests_36 rfl ?_
        refine PJ.iload_n (pc := 37) d_M_rests_37 rfl ?_
        refine PJ.iload_n (pc := 38) d_M_rests_38 rfl ?_
        refine PJ.iload (pc := 39) d_M_rests_39 rfl ?_
        refine PJ.cVpI (pc := 41) cs_M_508 (fun z hz => PM_M_isRest hz) (pj_fitb rfl) rfl rfl (Nat.le_of_ble_eq_true rfl) d_M_rests_41 (fun v6 => ?_)
        refine PJ.bind (fun j7 : Int32 => ((52 : Nat), ([some (.inr (.inr a0)), some (.inl a1), some (.inl a2), none, some (.inl s4.2)] : List (Option PV)), ([.inl j7, .inl s4.1] : List PV), (h3 : PH), (0 : Nat), (0 : Nat))) ?_ (fun j7 => ?_)
        · refine PJ.if_eq (pc := 44) (tgt := 51) d_M_rests_44 (by decide) (fun _ => ?_) (fun _ => ?_)
          · refine PJ.iconst (pc := 51) (v := 0) d_M_rests_51 (by decide) ?_
            refine PJ.mk (L1 := [some (.inr (.inr a0)), some (.inl a1), some (.inl a2), none, some (.inl s4.2)]) [true, true, true, false, true] rfl ?_
            exact PJ.done rfl
          · refine PJ.iconst (pc := 47) (v := 1) d_M_rests_47 (by decide) ?_
            refine PJ.goto (pc := 48) (tgt := 52) d_M_rests_48 (by decide) ?_
            refine PJ.mk (L1 := [some (.inr (.inr a0)), some (.inl a1), some (.inl a2), none, some (.inl s4.2)]) [true, true, true, false, true] rfl ?_
            exact PJ.done rfl
        · show PJ l G (pj_rm 6 0 0) Y_M_rests 52 [some (.inr (.inr a0)), some (.inl a1), some (.inl a2), none, some (.inl s4.2)] [.inl j7, .inl s4.1] h3 0 0 _ _
          refine PJ.iadd (pc := 52) d_M_rests_52 ?_
          refine PJ.istore_n (pc := 53) (L1 := [some (.inr (.inr a0)), some (.inl a1), some (.inl a2), some (.inl (s4.1 + j7)), some (.inl s4.2)]) d_M_rests_53 (Nat.le_of_ble_eq_true rfl) rfl rfl ?_
          refine PJ.iinc (pc := 54) (v := 1) (L1 := [some (.inr (.inr a0)), some (.inl a1), some (.inl a2), some (.inl (s4.1 + j7)), some (.inl (s4.2 + (1 : Int32)))]) d_M_rests_54 rfl (by decide) (Nat.le_of_ble_eq_true rfl) rfl rfl ?_
          refine PJ.goto (pc := 57) (tgt := 29) d_M_rests_57 (by decide) ?_
          exact PJ.done rfl
    · show PJ l G (pj_rm 6 0 0) Y_M_rests 60 [some (.inr (.inr a0)), none, none, some (.inl x5), none] [] h3 0 0 _ _
      refine PJ.aload_n (pc := 60) d_M_rests_60 rfl ?_
      refine PJ.iload_n (pc := 61) d_M_rests_61 rfl ?_
      refine PJ.cVI (pc := 62) cs_M_58 (fun z hz => PM_M_good hz) (pj_fitb rfl) rfl rfl (Nat.le_of_ble_eq_true rfl) d_M_rests_62 (fun v8 => ?_)
      exact PJ.iret (pc := 65) d_M_rests_65 rfl (Nat.le_of_ble_eq_true rfl) (Nat.le_of_ble_eq_true rfl)
  · refine PJ.aload_n (pc := 14) d_M_rests_14 rfl ?_
    refine PJ.iconst (pc := 15) (v := 1) d_M_rests_15 (by decide) ?_
    refine PJ.cVI (pc := 16) cs_M_52 (fun z hz => PM_M_refused hz) (pj_fitb rfl) rfl rfl (Nat.le_of_ble_eq_true rfl) d_M_rests_16 (fun v9 => ?_)
    exact PJ.iret (pc := 19) d_M_rests_19 rfl (Nat.le_of_ble_eq_true rfl) (Nat.le_of_ble_eq_true rfl)
theorem d_M_rest_0 : decode Y_M_rest.2.1 0 = .ok (.aload_n 0, 1) := by decide +kernel
theorem d_M_rest_1 : decode Y_M_rest.2.1 1 = .ok (.iconst 0, 1) := by decide +kernel
theorem d_M_rest_2 : decode Y_M_rest.2.1 2 = .ok (.putfield 46, 3) := by decide +kernel
theorem d_M_rest_5 : decode Y_M_rest.2.1 5 = .ok (.aload_n 0, 1) := by decide +kernel
theorem d_M_rest_6 : decode Y_M_rest.2.1 6 = .ok (.iload_n 1, 1) := by decide +kernel
theorem d_M_rest_7 : decode Y_M_rest.2.1 7 = .ok (.iload_n 2, 1) := by decide +kernel
theorem d_M_rest_8 : decode Y_M_rest.2.1 8 = .ok (.invokevirtual 498, 3) := by decide +kernel
theorem d_M_rest_11 : decode Y_M_rest.2.1 11 = .ok (.ifCond .ne 9, 3) := by decide +kernel
theorem d_M_rest_14 : decode Y_M_rest.2.1 14 = .ok (.aload_n 0, 1) := by decide +kernel
theorem d_M_rest_15 : decode Y_M_rest.2.1 15 = .ok (.iconst 1, 1) := by decide +kernel
theorem d_M_rest_16 : decode Y_M_rest.2.1 16 = .ok (.invokevirtual 52, 3) := by decide +kernel
theorem d_M_rest_19 : decode Y_M_rest.2.1 19 = .ok (.ireturn, 1) := by decide +kernel
theorem d_M_rest_20 : decode Y_M_rest.2.1 20 = .ok (.aload_n 0, 1) := by decide +kernel
theorem d_M_rest_21 : decode Y_M_rest.2.1 21 = .ok (.invokevirtual 375, 3) := by decide +kernel
theorem d_M_rest_24 : decode Y_M_rest.2.1 24 = .ok (.iconst 0, 1) := by decide +kernel
theorem d_M_rest_25 : decode Y_M_rest.2.1 25 = .ok (.istore_n 3, 1) := by decide +kernel
theorem d_M_rest_26 : decode Y_M_rest.2.1 26 = .ok (.iload_n 3, 1) := by decide +kernel
theorem d_M_rest_27 : decode Y_M_rest.2.1 27 = .ok (.iconst 4, 1) := by decide +kernel
theorem d_M_rest_28 : decode Y_M_rest.2.1 28 = .ok (.if_icmp .ge 34, 3) := by decide +kernel
theorem d_M_rest_31 : decode Y_M_rest.2.1 31 = .ok (.aload_n 0, 1) := by decide +kernel
theorem d_M_rest_32 : decode Y_M_rest.2.1 32 = .ok (.iload_n 1, 1) := by decide +kernel
theorem d_M_rest_33 : decode Y_M_rest.2.1 33 = .ok (.iload_n 2, 1) := by decide +kernel
theorem d_M_rest_34 : decode Y_M_rest.2.1 34 = .ok (.iload_n 3, 1) := by decide +kernel
theorem d_M_rest_35 : decode Y_M_rest.2.1 35 = .ok (.invokevirtual 508, 3) := by decide +kernel
theorem d_M_rest_38 : decode Y_M_rest.2.1 38 = .ok (.ifCond .eq 18, 3) := by decide +kernel
theorem d_M_rest_41 : decode Y_M_rest.2.1 41 = .ok (.aload_n 0, 1) := by decide +kernel
theorem d_M_rest_42 : decode Y_M_rest.2.1 42 = .ok (.bipush 10, 2) := by decide +kernel
theorem d_M_rest_44 : decode Y_M_rest.2.1 44 = .ok (.iload_n 3, 1) := by decide +kernel
theorem d_M_rest_45 : decode Y_M_rest.2.1 45 = .ok (.iconst 2, 1) := by decide +kernel
theorem d_M_rest_46 : decode Y_M_rest.2.1 46 = .ok (.idiv, 1) := by decide +kernel
theorem d_M_rest_47 : decode Y_M_rest.2.1 47 = .ok (.imul, 1) := by decide +kernel
theorem d_M_rest_48 : decode Y_M_rest.2.1 48 = .ok (.iload_n 3, 1) := by decide +kernel
theorem d_M_rest_49 : decode Y_M_rest.2.1 49 = .ok (.iconst 2, 1) := by decide +kernel
theorem d_M_rest_50 : decode Y_M_rest.2.1 50 = .ok (.irem, 1) := by decide +kernel
theorem d_M_rest_51 : decode Y_M_rest.2.1 51 = .ok (.iadd, 1) := by decide +kernel
theorem d_M_rest_52 : decode Y_M_rest.2.1 52 = .ok (.invokevirtual 58, 3) := by decide +kernel
theorem d_M_rest_55 : decode Y_M_rest.2.1 55 = .ok (.ireturn, 1) := by decide +kernel
theorem d_M_rest_56 : decode Y_M_rest.2.1 56 = .ok (.iinc 3 1, 3) := by decide +kernel
theorem d_M_rest_59 : decode Y_M_rest.2.1 59 = .ok (.goto (-33), 3) := by decide +kernel
theorem d_M_rest_62 : decode Y_M_rest.2.1 62 = .ok (.aload_n 0, 1) := by decide +kernel
theorem d_M_rest_63 : decode Y_M_rest.2.1 63 = .ok (.bipush (-2), 2) := by decide +kernel
theorem d_M_rest_65 : decode Y_M_rest.2.1 65 = .ok (.invokevirtual 58, 3) := by decide +kernel
theorem d_M_rest_68 : decode Y_M_rest.2.1 68 = .ok (.ireturn, 1) := by decide +kernel
def f_M_rest (h : PH) (a0 : Option Nat) (a1 : Int32) (a2 : Int32) : Option (Int32 × PH) := (sF h 12 a0 0 (.inl (0 : Int32))).bind fun h1 => (cl h1 12 a0 (f_M_areTwo h1 a0 a1 a2)).bind fun v2 => if ¬ v2 = 0 then ((cl h1 12 a0 (f_M_asTold h1 a0)).bind fun h3 => (pj_it (X := (Unit) ⊕ (Int32)) (fun s4 : Int32 => if (4 : Int32) ≤ s4 then (some (.inr (.inl ()))) else ((cl h3 12 a0 (f_M_isRest h3 a0 a1 a2 s4)).bind fun v6 => if v6 = 0 then (some (.inl (s4 + (1 : Int32)))) else (some (.inr (.inr s4))))) FU (0 : Int32)).bind fun x5 => match x5 with | (.inl yx5_0) => (cl h3 12 a0 (f_M_good h3 a0 (-2 : Int32))).bind fun v7 => some (v7.1, v7.2) | (.inr yx5_1) => if (2 : Int32) = 0 then none else (if (2 : Int32) = 0 then none else ((cl h3 12 a0 (f_M_good h3 a0 (((10 : Int32) * (yx5_1 / (2 : Int32))) + (yx5_1 - yx5_1 / (2 : Int32) * (2 : Int32))))).bind fun v8 => some (v8.1, v8.2)))) else ((cl h1 12 a0 (f_M_refused h1 a0 (1 : Int32))).bind fun v9 => some (v9.1, v9.2))
set_option maxRecDepth 20000 in
theorem PM_M_rest {l : Launch} {G : Cx} {h : PH} {a0 : Option Nat} {a1 : Int32} {a2 : Int32} {z : (Int32 × PH)} (hz : f_M_rest h a0 a1 a2 = some z) : PM l G 6 0 0 Y_M_rest [.inr (.inr a0), .inl a1, .inl a2] h (some (.inl z.1), z.2) := by
  refine PM.of (Y := Y_M_rest) (cv := (fun z : (Int32 × PH) => (((some (.inl z.1), z.2) : Option PV × PH)))) (by decide) (L0 := [some (.inr (.inr a0)), some (.inl a1), some (.inl a2), none]) 1 rfl (Nat.le_of_ble_eq_true rfl) ?_ hz
  unfold f_M_rest
  refine PJ.aload_n (pc := 0) d_M_rest_0 rfl ?_
  refine PJ.iconst (pc := 1) (v := 0) d_M_rest_1 (by decide) ?_
  refine PJ.putI (pc := 2) ps_M_46 d_M_rest_2 (fun h1 => ?_)
  refine PJ.aload_n (pc := 5) d_M_rest_5 rfl ?_
  refine PJ.iload_n (pc := 6) d_M_rest_6 rfl ?_
  refine PJ.iload_n (pc := 7) d_M_rest_7 rfl ?_
  refine PJ.cVpI (pc := 8) cs_M_498 (fun z hz => PM_M_areTwo hz) (pj_fitb rfl) rfl rfl (Nat.le_of_ble_eq_true rfl) d_M_rest_8 (fun v2 => ?_)
  refine PJ.if_ne (pc := 11) (tgt := 20) d_M_rest_11 (by decide) (fun _ => ?_) (fun _ => ?_)
  · refine PJ.aload_n (pc := 20) d_M_rest_20 rfl ?_
    refine PJ.cVV (pc := 21) cs_M_375 (fun z hz => PM_M_asTold hz) (pj_fitb rfl) rfl rfl (Nat.le_of_ble_eq_true rfl) d_M_rest_21 (fun h3 => ?_)
    refine PJ.iconst (pc := 24) (v := 0) d_M_rest_24 (by decide) ?_
    refine PJ.istore_n (pc := 25) (L1 := [some (.inr (.inr a0)), some (.inl a1), some (.inl a2), some (.inl (0 : Int32))]) d_M_rest_25 (Nat.le_of_ble_eq_true rfl) rfl rfl ?_
    refine PJ.bind (fun x5 : (Unit) ⊕ (Int32) => match x5 with | (.inl y0) => ((62 : Nat), ([some (.inr (.inr a0)), none, none, none] : List (Option PV)), ([] : List PV), (h3 : PH), (0 : Nat), (0 : Nat)) | (.inr y1) => ((41 : Nat), ([some (.inr (.inr a0)), none, none, some (.inl y1)] : List (Option PV)), ([] : List PV), (h3 : PH), (0 : Nat), (0 : Nat))) (PJ.it (E := (fun s4 : Int32 => ((26 : Nat), ([some (.inr (.inr a0)), some (.inl a1), some (.inl a2), some (.inl s4)] : List (Option PV)), ([] : List PV), (h3 : PH), (0 : Nat), (0 : Nat)))) (F := (fun x5 : (Unit) ⊕ (Int32) => match x5 with | (.inl y0) => ((62 : Nat), ([some (.inr (.inr a0)), none, none, none] : List (Option PV)), ([] : List PV), (h3 : PH), (0 : Nat), (0 : Nat)) | (.inr y1) => ((41 : Nat), ([some (.inr (.inr a0)), none, none, some (.inl y1)] : List (Option PV)), ([] : List PV), (h3 : PH), (0 : Nat), (0 : Nat)))) (fun s4 => ?_) FU (0 : Int32)) (fun x5 => ?_)
    · show PJ l G (pj_rm 6 0 0) Y_M_rest 26 [some (.inr (.inr a0)), some (.inl a1), some (.inl a2), some (.inl s4)] [] h3 0 0 _ _
      refine PJ.iload_n (pc := 26) d_M_rest_26 rfl ?_
      refine PJ.iconst (pc := 27) (v := 4) d_M_rest_27 (by decide) ?_
      refine PJ.icmp_ge (pc := 28) (tgt := 62) d_M_rest_28 (by decide) (fun _ => ?_) (fun _ => ?_)
      · refine PJ.mk (L1 := [some (.inr (.inr a0)), none, none, none]) [true, false, false, false] rfl ?_
        exact PJ.done rfl
      · refine PJ.aload_n (pc := 31) d_M_rest_31 rfl ?_
        refine PJ.iload_n (pc := 32) d_M_rest_32 rfl ?_
        refine PJ.iload_n (pc := 33) d_M_rest_33 rfl ?_
        refine PJ.iload_n (pc := 34) d_M_rest_34 rfl ?_
        refine PJ.cVpI (pc := 35) cs_M_508 (fun z hz => PM_M_isRest hz) (pj_fitb rfl) rfl rfl (Nat.le_of_ble_eq_true rfl) d_M_rest_35 (fun v6 => ?_)
        refine PJ.if_eq (pc := 38) (tgt := 56) d_M_rest_38 (by decide) (fun _ => ?_) (fun _ => ?_)
        · refine PJ.iinc (pc := 56) (v := 1) (L1 := [some (.inr (.inr a0)), some (.inl a1), some (.inl a2), some (.inl (s4 + (1 : Int32)))]) d_M_rest_56 rfl (by decide) (Nat.le_of_ble_eq_true rfl) rfl rfl ?_
          refine PJ.goto (pc := 59) (tgt := 26) d_M_rest_59 (by decide) ?_
          exact PJ.done rfl
        · refine PJ.mk (L1 := [some (.inr (.inr a0)), none, none, some (.inl s4)]) [true, false, false, true] rfl ?_
          exact PJ.done rfl
    · rcases x5 with yx5_0 | yx5_1
      · show PJ l G (pj_rm 6 0 0) Y_M_rest 62 [some (.inr (.inr a0)), none, none, none] [] h3 0 0 _ _
        refine PJ.aload_n (pc := 62) d_M_rest_62 rfl ?_
        refine PJ.bipush (pc := 63) (v := -2) d_M_rest_63 (by decide) ?_
        refine PJ.cVI (pc := 65) cs_M_58 (fun z hz => PM_M_good hz) (pj_fitb rfl) rfl rfl (Nat.le_of_ble_eq_true rfl) d_M_rest_65 (fun v7 => ?_)
        exact PJ.iret (pc := 68) d_M_rest_68 rfl (Nat.le_of_ble_eq_true rfl) (Nat.le_of_ble_eq_true rfl)
      · show PJ l G (pj_rm 6 0 0) Y_M_rest 41 [some (.inr (.inr a0)), none, none, some (.inl yx5_1)] [] h3 0 0 _ _
        refine PJ.aload_n (pc := 41) d_M_rest_41 rfl ?_
        refine PJ.bipush (pc := 42) (v := 10) d_M_rest_42 (by decide) ?_
        refine PJ.iload_n (pc := 44) d_M_rest_44 rfl ?_
        refine PJ.iconst (pc := 45) (v := 2) d_M_rest_45 (by decide) ?_
        refine PJ.idiv (pc := 46) d_M_rest_46 (fun _ => ?_)
        refine PJ.imul (pc := 47) d_M_rest_47 ?_
        refine PJ.iload_n (pc := 48) d_M_rest_48 rfl ?_
        refine PJ.iconst (pc := 49) (v := 2) d_M_rest_49 (by decide) ?_
        refine PJ.irem (pc := 50) d_M_rest_50 (fun _ => ?_)
        refine PJ.iadd (pc := 51) d_M_rest_51 ?_
        refine PJ.cVI (pc := 52) cs_M_58 (fun z hz => PM_M_good hz) (pj_fitb rfl) rfl rfl (Nat.le_of_ble_eq_true rfl) d_M_rest_52 (fun v8 => ?_)
        exact PJ.iret (pc := 55) d_M_rest_55 rfl (Nat.le_of_ble_eq_true rfl) (Nat.le_of_ble_eq_true rfl)
  · refine PJ.aload_n (pc := 14) d_M_rest_14 rfl ?_
    refine PJ.iconst (pc := 15) (v := 1) d_M_rest_15 (by decide) ?_
    refine PJ.cVI (pc := 16) cs_M_52 (fun z hz => PM_M_refused hz) (pj_fitb rfl) rfl rfl (Nat.le_of_ble_eq_true rfl) d_M_rest_16 (fun v9 => ?_)
    exact PJ.iret (pc := 19) d_M_rest_19 rfl (Nat.le_of_ble_eq_true rfl) (Nat.le_of_ble_eq_true rfl)
theorem d_M_refusesYear_0 : decode Y_M_refusesYear.2.1 0 = .ok (.iload_n 1, 1) := by decide +kernel
theorem d_M_refusesYear_1 : decode Y_M_refusesYear.2.1 1 = .ok (.ifCond .ne 7, 3) := by decide +kernel
theorem d_M_refusesYear_4 : decode Y_M_refusesYear.2.1 4 = .ok (.iconst 1, 1) := by decide +kernel
theorem d_M_refusesYear_5 : decode Y_M_refusesYear.2.1 5 = .ok (.goto 29, 3) := by decide +kernel
theorem d_M_refusesYear_8 : decode Y_M_refusesYear.2.1 8 = .ok (.iload_n 2, 1) := by decide +kernel
theorem d_M_refusesYear_9 : decode Y_M_refusesYear.2.1 9 = .ok (.iconst 0, 1) := by decide +kernel
theorem d_M_refusesYear_10 : decode Y_M_refusesYear.2.1 10 = .ok (.ldc_w 533, 3) := by decide +kernel
theorem d_M_refusesYear_13 : decode Y_M_refusesYear.2.1 13 = .ok (.invokestatic 127, 3) := by decide +kernel
theorem d_M_refusesYear_16 : decode Y_M_refusesYear.2.1 16 = .ok (.ifCond .eq 17, 3) := by decide +kernel
theorem d_M_refusesYear_19 : decode Y_M_refusesYear.2.1 19 = .ok (.iload_n 3, 1) := by decide +kernel
theorem d_M_refusesYear_20 : decode Y_M_refusesYear.2.1 20 = .ok (.iconst 0, 1) := by decide +kernel
theorem d_M_refusesYear_21 : decode Y_M_refusesYear.2.1 21 = .ok (.bipush 60, 2) := by decide +kernel
theorem d_M_refusesYear_23 : decode Y_M_refusesYear.2.1 23 = .ok (.invokestatic 127, 3) := by decide +kernel
theorem d_M_refusesYear_26 : decode Y_M_refusesYear.2.1 26 = .ok (.ifCond .eq 7, 3) := by decide +kernel
theorem d_M_refusesYear_29 : decode Y_M_refusesYear.2.1 29 = .ok (.iconst 0, 1) := by decide +kernel
theorem d_M_refusesYear_30 : decode Y_M_refusesYear.2.1 30 = .ok (.goto 4, 3) := by decide +kernel
theorem d_M_refusesYear_33 : decode Y_M_refusesYear.2.1 33 = .ok (.iconst 2, 1) := by decide +kernel
theorem d_M_refusesYear_34 : decode Y_M_refusesYear.2.1 34 = .ok (.ireturn, 1) := by decide +kernel
def f_M_refusesYear (h : PH) (a0 : Option Nat) (a1 : Int32) (a2 : Int32) (a3 : Int32) : Option Int32 := if ¬ a1 = 0 then ((f_M_in h a2 (0 : Int32) (65536 : Int32)).bind fun v1 => if v1 = 0 then (some (2 : Int32)) else ((f_M_in h a3 (0 : Int32) (60 : Int32)).bind fun v2 => if v2 = 0 then (some (2 : Int32)) else (some (0 : Int32)))) else (some (1 : Int32))
set_option maxRecDepth 20000 in
theorem PM_M_refusesYear {l : Launch} {G : Cx} {h : PH} {a0 : Option Nat} {a1 : Int32} {a2 : Int32} {a3 : Int32} {z : Int32} (hz : f_M_refusesYear h a0 a1 a2 a3 = some z) : PM l G 2 0 0 Y_M_refusesYear [.inr (.inr a0), .inl a1, .inl a2, .inl a3] h (some (.inl z), h) := by
  refine PM.of (Y := Y_M_refusesYear) (cv := (fun z : Int32 => (((some (.inl z), h) : Option PV × PH)))) (by decide) (L0 := [some (.inr (.inr a0)), some (.inl a1), some (.inl a2), some (.inl a3)]) 0 rfl (Nat.le_of_ble_eq_true rfl) ?_ hz
  unfold f_M_refusesYear
  refine PJ.iload_n (pc := 0) d_M_refusesYear_0 rfl ?_
  refine PJ.if_ne (pc := 1) (tgt := 8) d_M_refusesYear_1 (by decide) (fun _ => ?_) (fun _ => ?_)
  · refine PJ.iload_n (pc := 8) d_M_refusesYear_8 rfl ?_
    refine PJ.iconst (pc := 9) (v := 0) d_M_refusesYear_9 (by decide) ?_
    refine PJ.ldcw (pc := 10) (v := 65536) d_M_refusesYear_10 wd_2116 ?_
    refine PJ.cSpI (pc := 13) cs_M_127 (fun z hz => PM_M_in hz) (pj_fitb rfl) rfl rfl (Nat.le_of_ble_eq_true rfl) d_M_refusesYear_13 (fun v1 => ?_)
    refine PJ.if_eq (pc := 16) (tgt := 33) d_M_refusesYear_16 (by decide) (fun _ => ?_) (fun _ => ?_)
    · refine PJ.iconst (pc := 33) (v := 2) d_M_refusesYear_33 (by decide) ?_
      exact PJ.iretp (pc := 34) d_M_refusesYear_34 rfl (Nat.le_of_ble_eq_true rfl) (Nat.le_of_ble_eq_true rfl)
    · refine PJ.iload_n (pc := 19) d_M_refusesYear_19 rfl ?_
      refine PJ.iconst (pc := 20) (v := 0) d_M_refusesYear_20 (by decide) ?_
      refine PJ.bipush (pc := 21) (v := 60) d_M_refusesYear_21 (by decide) ?_
      refine PJ.cSpI (pc := 23) cs_M_127 (fun z hz => PM_M_in hz) (pj_fitb rfl) rfl rfl (Nat.le_of_ble_eq_true rfl) d_M_refusesYear_23 (fun v2 => ?_)
      refine PJ.if_eq (pc := 26) (tgt := 33) d_M_refusesYear_26 (by decide) (fun _ => ?_) (fun _ => ?_)
      · refine PJ.iconst (pc := 33) (v := 2) d_M_refusesYear_33 (by decide) ?_
        exact PJ.iretp (pc := 34) d_M_refusesYear_34 rfl (Nat.le_of_ble_eq_true rfl) (Nat.le_of_ble_eq_true rfl)
      · refine PJ.iconst (pc := 29) (v := 0) d_M_refusesYear_29 (by decide) ?_
        refine PJ.goto (pc := 30) (tgt := 34) d_M_refusesYear_30 (by decide) ?_
        exact PJ.iretp (pc := 34) d_M_refusesYear_34 rfl (Nat.le_of_ble_eq_true rfl) (Nat.le_of_ble_eq_true rfl)
  · refine PJ.iconst (pc := 4) (v := 1) d_M_refusesYear_4 (by decide) ?_
    refine PJ.goto (pc := 5) (tgt := 34) d_M_refusesYear_5 (by decide) ?_
    exact PJ.iretp (pc := 34) d_M_refusesYear_34 rfl (Nat.le_of_ble_eq_true rfl) (Nat.le_of_ble_eq_true rfl)
theorem d_M_tries_0 : decode Y_M_tries.2.1 0 = .ok (.iconst 0, 1) := by decide +kernel
theorem d_M_tries_1 : decode Y_M_tries.2.1 1 = .ok (.istore_n 1, 1) := by decide +kernel
theorem d_M_tries_2 : decode Y_M_tries.2.1 2 = .ok (.iload_n 1, 1) := by decide +kernel
theorem d_M_tries_3 : decode Y_M_tries.2.1 3 = .ok (.bipush 23, 2) := by decide +kernel
theorem d_M_tries_5 : decode Y_M_tries.2.1 5 = .ok (.if_icmp .ge 21, 3) := by decide +kernel
theorem d_M_tries_8 : decode Y_M_tries.2.1 8 = .ok (.aload_n 0, 1) := by decide +kernel
theorem d_M_tries_9 : decode Y_M_tries.2.1 9 = .ok (.getfield 21, 3) := by decide +kernel
theorem d_M_tries_12 : decode Y_M_tries.2.1 12 = .ok (.iload_n 1, 1) := by decide +kernel
theorem d_M_tries_13 : decode Y_M_tries.2.1 13 = .ok (.aload_n 0, 1) := by decide +kernel
theorem d_M_tries_14 : decode Y_M_tries.2.1 14 = .ok (.getfield 17, 3) := by decide +kernel
theorem d_M_tries_17 : decode Y_M_tries.2.1 17 = .ok (.iload_n 1, 1) := by decide +kernel
theorem d_M_tries_18 : decode Y_M_tries.2.1 18 = .ok (.iaload, 1) := by decide +kernel
theorem d_M_tries_19 : decode Y_M_tries.2.1 19 = .ok (.iastore, 1) := by decide +kernel
theorem d_M_tries_20 : decode Y_M_tries.2.1 20 = .ok (.iinc 1 1, 3) := by decide +kernel
theorem d_M_tries_23 : decode Y_M_tries.2.1 23 = .ok (.goto (-21), 3) := by decide +kernel
theorem d_M_tries_26 : decode Y_M_tries.2.1 26 = .ok (.return_, 1) := by decide +kernel
def f_M_tries (h : PH) (a0 : Option Nat) : Option PH := (pj_it (X := PH) (fun s1 : Int32 × PH => if (23 : Int32) ≤ s1.1 then (some (.inr s1.2)) else ((gR s1.2 12 a0 16).bind fun v3 => (gR s1.2 12 a0 15).bind fun v4 => (aI s1.2 v4 s1.1).bind fun v5 => (sA s1.2 50 v3 s1.1 (.inl v5)).bind fun h6 => some (.inl ((s1.1 + (1 : Int32)), h6)))) FU ((0 : Int32), h)).bind fun x2 => some x2
set_option maxRecDepth 20000 in
theorem PM_M_tries {l : Launch} {G : Cx} {h : PH} {a0 : Option Nat} {z : PH} (hz : f_M_tries h a0 = some z) : PM l G 1 0 0 Y_M_tries [.inr (.inr a0)] h (none, z) := by
  refine PM.of (Y := Y_M_tries) (cv := (fun z : PH => (((none, z) : Option PV × PH)))) (by decide) (L0 := [some (.inr (.inr a0)), none]) 1 rfl (Nat.le_of_ble_eq_true rfl) ?_ hz
  unfold f_M_tries
  refine PJ.iconst (pc := 0) (v := 0) d_M_tries_0 (by decide) ?_
  refine PJ.istore_n (pc := 1) (L1 := [some (.inr (.inr a0)), some (.inl (0 : Int32))]) d_M_tries_1 (Nat.le_of_ble_eq_true rfl) rfl rfl ?_
  refine PJ.bind (fun x2 : PH => ((26 : Nat), ([none, none] : List (Option PV)), ([] : List PV), (x2 : PH), (0 : Nat), (0 : Nat))) (PJ.it (E := (fun s1 : Int32 × PH => ((2 : Nat), ([some (.inr (.inr a0)), some (.inl s1.1)] : List (Option PV)), ([] : List PV), (s1.2 : PH), (0 : Nat), (0 : Nat)))) (F := (fun x2 : PH => ((26 : Nat), ([none, none] : List (Option PV)), ([] : List PV), (x2 : PH), (0 : Nat), (0 : Nat)))) (fun s1 => ?_) FU ((0 : Int32), h)) (fun x2 => ?_)
  · show PJ l G (pj_rm 1 0 0) Y_M_tries 2 [some (.inr (.inr a0)), some (.inl s1.1)] [] s1.2 0 0 _ _
    refine PJ.iload_n (pc := 2) d_M_tries_2 rfl ?_
    refine PJ.bipush (pc := 3) (v := 23) d_M_tries_3 (by decide) ?_
    refine PJ.icmp_ge (pc := 5) (tgt := 26) d_M_tries_5 (by decide) (fun _ => ?_) (fun _ => ?_)
    · refine PJ.mk (L1 := [none, none]) [false, false] rfl ?_
      exact PJ.done rfl
    · refine PJ.aload_n (pc := 8) d_M_tries_8 rfl ?_
      refine PJ.getR (pc := 9) fs_M_21 d_M_tries_9 (fun v3 => ?_)
      refine PJ.iload_n (pc := 12) d_M_tries_12 rfl ?_
      refine PJ.aload_n (pc := 13) d_M_tries_13 rfl ?_
      refine PJ.getR (pc := 14) fs_M_17 d_M_tries_14 (fun v4 => ?_)
      refine PJ.iload_n (pc := 17) d_M_tries_17 rfl ?_
      refine PJ.iald (pc := 18) d_M_tries_18 (fun v5 => ?_)
      refine PJ.iast (pc := 19) d_M_tries_19 (fun h6 => ?_)
      refine PJ.iinc (pc := 20) (v := 1) (L1 := [some (.inr (.inr a0)), some (.inl (s1.1 + (1 : Int32)))]) d_M_tries_20 rfl (by decide) (Nat.le_of_ble_eq_true rfl) rfl rfl ?_
      refine PJ.goto (pc := 23) (tgt := 2) d_M_tries_23 (by decide) ?_
      exact PJ.done rfl
  · show PJ l G (pj_rm 1 0 0) Y_M_tries 26 [none, none] [] x2 0 0 _ _
    exact PJ.vret (pc := 26) d_M_tries_26 rfl (Nat.le_of_ble_eq_true rfl) (Nat.le_of_ble_eq_true rfl)
theorem d_M_changesTo_0 : decode Y_M_changesTo.2.1 0 = .ok (.aload_n 0, 1) := by decide +kernel
theorem d_M_changesTo_1 : decode Y_M_changesTo.2.1 1 = .ok (.aload_n 1, 1) := by decide +kernel
theorem d_M_changesTo_2 : decode Y_M_changesTo.2.1 2 = .ok (.iload_n 2, 1) := by decide +kernel
theorem d_M_changesTo_3 : decode Y_M_changesTo.2.1 3 = .ok (.iload_n 3, 1) := by decide +kernel
theorem d_M_changesTo_4 : decode Y_M_changesTo.2.1 4 = .ok (.invokevirtual 365, 3) := by decide +kernel
theorem d_M_changesTo_7 : decode Y_M_changesTo.2.1 7 = .ok (.istore 4, 2) := by decide +kernel
theorem d_M_changesTo_9 : decode Y_M_changesTo.2.1 9 = .ok (.aload_n 1, 1) := by decide +kernel
theorem d_M_changesTo_10 : decode Y_M_changesTo.2.1 10 = .ok (.bipush 10, 2) := by decide +kernel
theorem d_M_changesTo_12 : decode Y_M_changesTo.2.1 12 = .ok (.iload_n 2, 1) := by decide +kernel
theorem d_M_changesTo_13 : decode Y_M_changesTo.2.1 13 = .ok (.iadd, 1) := by decide +kernel
theorem d_M_changesTo_14 : decode Y_M_changesTo.2.1 14 = .ok (.dup2, 1) := by decide +kernel
theorem d_M_changesTo_15 : decode Y_M_changesTo.2.1 15 = .ok (.iaload, 1) := by decide +kernel
theorem d_M_changesTo_16 : decode Y_M_changesTo.2.1 16 = .ok (.iload 4, 2) := by decide +kernel
theorem d_M_changesTo_18 : decode Y_M_changesTo.2.1 18 = .ok (.iadd, 1) := by decide +kernel
theorem d_M_changesTo_19 : decode Y_M_changesTo.2.1 19 = .ok (.iastore, 1) := by decide +kernel
theorem d_M_changesTo_20 : decode Y_M_changesTo.2.1 20 = .ok (.aload_n 1, 1) := by decide +kernel
theorem d_M_changesTo_21 : decode Y_M_changesTo.2.1 21 = .ok (.iconst 0, 1) := by decide +kernel
theorem d_M_changesTo_22 : decode Y_M_changesTo.2.1 22 = .ok (.iload_n 2, 1) := by decide +kernel
theorem d_M_changesTo_23 : decode Y_M_changesTo.2.1 23 = .ok (.iadd, 1) := by decide +kernel
theorem d_M_changesTo_24 : decode Y_M_changesTo.2.1 24 = .ok (.iload_n 3, 1) := by decide +kernel
theorem d_M_changesTo_25 : decode Y_M_changesTo.2.1 25 = .ok (.iastore, 1) := by decide +kernel
theorem d_M_changesTo_26 : decode Y_M_changesTo.2.1 26 = .ok (.aload_n 1, 1) := by decide +kernel
theorem d_M_changesTo_27 : decode Y_M_changesTo.2.1 27 = .ok (.iconst 5, 1) := by decide +kernel
theorem d_M_changesTo_28 : decode Y_M_changesTo.2.1 28 = .ok (.iload_n 2, 1) := by decide +kernel
theorem d_M_changesTo_29 : decode Y_M_changesTo.2.1 29 = .ok (.iadd, 1) := by decide +kernel
theorem d_M_changesTo_30 : decode Y_M_changesTo.2.1 30 = .ok (.dup2, 1) := by decide +kernel
theorem d_M_changesTo_31 : decode Y_M_changesTo.2.1 31 = .ok (.iaload, 1) := by decide +kernel
theorem d_M_changesTo_32 : decode Y_M_changesTo.2.1 32 = .ok (.iconst 1, 1) := by decide +kernel
theorem d_M_changesTo_33 : decode Y_M_changesTo.2.1 33 = .ok (.iadd, 1) := by decide +kernel
theorem d_M_changesTo_34 : decode Y_M_changesTo.2.1 34 = .ok (.iastore, 1) := by decide +kernel
theorem d_M_changesTo_35 : decode Y_M_changesTo.2.1 35 = .ok (.aload_n 1, 1) := by decide +kernel
theorem d_M_changesTo_36 : decode Y_M_changesTo.2.1 36 = .ok (.bipush 15, 2) := by decide +kernel
theorem d_M_changesTo_38 : decode Y_M_changesTo.2.1 38 = .ok (.iload_n 2, 1) := by decide +kernel
theorem d_M_changesTo_39 : decode Y_M_changesTo.2.1 39 = .ok (.iadd, 1) := by decide +kernel
theorem d_M_changesTo_40 : decode Y_M_changesTo.2.1 40 = .ok (.aload_n 1, 1) := by decide +kernel
theorem d_M_changesTo_41 : decode Y_M_changesTo.2.1 41 = .ok (.bipush 21, 2) := by decide +kernel
theorem d_M_changesTo_43 : decode Y_M_changesTo.2.1 43 = .ok (.iaload, 1) := by decide +kernel
theorem d_M_changesTo_44 : decode Y_M_changesTo.2.1 44 = .ok (.iastore, 1) := by decide +kernel
theorem d_M_changesTo_45 : decode Y_M_changesTo.2.1 45 = .ok (.iload 4, 2) := by decide +kernel
theorem d_M_changesTo_47 : decode Y_M_changesTo.2.1 47 = .ok (.ireturn, 1) := by decide +kernel
def f_M_changesTo (h : PH) (a0 : Option Nat) (a1 : Option Nat) (a2 : Int32) (a3 : Int32) : Option (Int32 × PH) := (cl h 12 a0 (f_M_taxIn h a0 a1 a2 a3)).bind fun v1 => (aI h a1 ((10 : Int32) + a2)).bind fun v2 => (sA h 50 a1 ((10 : Int32) + a2) (.inl (v2 + v1))).bind fun h3 => (sA h3 50 a1 ((0 : Int32) + a2) (.inl a3)).bind fun h4 => (aI h4 a1 ((5 : Int32) + a2)).bind fun v5 => (sA h4 50 a1 ((5 : Int32) + a2) (.inl (v5 + (1 : Int32)))).bind fun h6 => (aI h6 a1 (21 : Int32)).bind fun v7 => (sA h6 50 a1 ((15 : Int32) + a2) (.inl v7)).bind fun h8 => some (v1, h8)
set_option maxRecDepth 20000 in
theorem PM_M_changesTo {l : Launch} {G : Cx} {h : PH} {a0 : Option Nat} {a1 : Option Nat} {a2 : Int32} {a3 : Int32} {z : (Int32 × PH)} (hz : f_M_changesTo h a0 a1 a2 a3 = some z) : PM l G 4 0 0 Y_M_changesTo [.inr (.inr a0), .inr (.inr a1), .inl a2, .inl a3] h (some (.inl z.1), z.2) := by
  refine PM.of (Y := Y_M_changesTo) (cv := (fun z : (Int32 × PH) => (((some (.inl z.1), z.2) : Option PV × PH)))) (by decide) (L0 := [some (.inr (.inr a0)), some (.inr (.inr a1)), some (.inl a2), some (.inl a3), none]) 1 rfl (Nat.le_of_ble_eq_true rfl) ?_ hz
  unfold f_M_changesTo
  refine PJ.aload_n (pc := 0) d_M_changesTo_0 rfl ?_
  refine PJ.aload_n (pc := 1) d_M_changesTo_1 rfl ?_
  refine PJ.iload_n (pc := 2) d_M_changesTo_2 rfl ?_
  refine PJ.iload_n (pc := 3) d_M_changesTo_3 rfl ?_
  refine PJ.cVpI (pc := 4) cs_M_365 (fun z hz => PM_M_taxIn hz) (pj_fitb rfl) rfl rfl (Nat.le_of_ble_eq_true rfl) d_M_changesTo_4 (fun v1 => ?_)
  refine PJ.istore (pc := 7) (L1 := [some (.inr (.inr a0)), some (.inr (.inr a1)), some (.inl a2), some (.inl a3), some (.inl v1)]) d_M_changesTo_7 (Nat.le_of_ble_eq_true rfl) rfl rfl ?_
  refine PJ.aload_n (pc := 9) d_M_changesTo_9 rfl ?_
  refine PJ.bipush (pc := 10) (v := 10) d_M_changesTo_10 (by decide) ?_
  refine PJ.iload_n (pc := 12) d_M_changesTo_12 rfl ?_
  refine PJ.iadd (pc := 13) d_M_changesTo_13 ?_
  refine PJ.dup2 (pc := 14) d_M_changesTo_14 rfl rfl ?_
  refine PJ.iald (pc := 15) d_M_changesTo_15 (fun v2 => ?_)
  refine PJ.iload (pc := 16) d_M_changesTo_16 rfl ?_
  refine PJ.iadd (pc := 18) d_M_changesTo_18 ?_
  refine PJ.iast (pc := 19) d_M_changesTo_19 (fun h3 => ?_)
  refine PJ.aload_n (pc := 20) d_M_changesTo_20 rfl ?_
  refine PJ.iconst (pc := 21) (v := 0) d_M_changesTo_21 (by decide) ?_
  refine PJ.iload_n (pc := 22) d_M_changesTo_22 rfl ?_
  refine PJ.iadd (pc := 23) d_M_changesTo_23 ?_
  refine PJ.iload_n (pc := 24) d_M_changesTo_24 rfl ?_
  refine PJ.iast (pc := 25) d_M_changesTo_25 (fun h4 => ?_)
  refine PJ.aload_n (pc := 26) d_M_changesTo_26 rfl ?_
  refine PJ.iconst (pc := 27) (v := 5) d_M_changesTo_27 (by decide) ?_
  refine PJ.iload_n (pc := 28) d_M_changesTo_28 rfl ?_
  refine PJ.iadd (pc := 29) d_M_changesTo_29 ?_
  refine PJ.dup2 (pc := 30) d_M_changesTo_30 rfl rfl ?_
  refine PJ.iald (pc := 31) d_M_changesTo_31 (fun v5 => ?_)
  refine PJ.iconst (pc := 32) (v := 1) d_M_changesTo_32 (by decide) ?_
  refine PJ.iadd (pc := 33) d_M_changesTo_33 ?_
  refine PJ.iast (pc := 34) d_M_changesTo_34 (fun h6 => ?_)
  refine PJ.aload_n (pc := 35) d_M_changesTo_35 rfl ?_
  refine PJ.bipush (pc := 36) (v := 15) d_M_changesTo_36 (by decide) ?_
  refine PJ.iload_n (pc := 38) d_M_changesTo_38 rfl ?_
  refine PJ.iadd (pc := 39) d_M_changesTo_39 ?_
  refine PJ.aload_n (pc := 40) d_M_changesTo_40 rfl ?_
  refine PJ.bipush (pc := 41) (v := 21) d_M_changesTo_41 (by decide) ?_
  refine PJ.iald (pc := 43) d_M_changesTo_43 (fun v7 => ?_)
  refine PJ.iast (pc := 44) d_M_changesTo_44 (fun h8 => ?_)
  refine PJ.iload (pc := 45) d_M_changesTo_45 rfl ?_
  exact PJ.iret (pc := 47) d_M_changesTo_47 rfl (Nat.le_of_ble_eq_true rfl) (Nat.le_of_ble_eq_true rfl)
theorem d_M_nextHour_0 : decode Y_M_nextHour.2.1 0 = .ok (.iconst 0, 1) := by decide +kernel
theorem d_M_nextHour_1 : decode Y_M_nextHour.2.1 1 = .ok (.istore_n 2, 1) := by decide +kernel
theorem d_M_nextHour_2 : decode Y_M_nextHour.2.1 2 = .ok (.aload_n 1, 1) := by decide +kernel
theorem d_M_nextHour_3 : decode Y_M_nextHour.2.1 3 = .ok (.bipush 21, 2) := by decide +kernel
theorem d_M_nextHour_5 : decode Y_M_nextHour.2.1 5 = .ok (.dup2, 1) := by decide +kernel
theorem d_M_nextHour_6 : decode Y_M_nextHour.2.1 6 = .ok (.iaload, 1) := by decide +kernel
theorem d_M_nextHour_7 : decode Y_M_nextHour.2.1 7 = .ok (.iconst 1, 1) := by decide +kernel
theorem d_M_nextHour_8 : decode Y_M_nextHour.2.1 8 = .ok (.iadd, 1) := by decide +kernel
theorem d_M_nextHour_9 : decode Y_M_nextHour.2.1 9 = .ok (.iastore, 1) := by decide +kernel
theorem d_M_nextHour_10 : decode Y_M_nextHour.2.1 10 = .ok (.iconst 0, 1) := by decide +kernel
theorem d_M_nextHour_11 : decode Y_M_nextHour.2.1 11 = .ok (.istore_n 3, 1) := by decide +kernel
theorem d_M_nextHour_12 : decode Y_M_nextHour.2.1 12 = .ok (.iload_n 3, 1) := by decide +kernel
theorem d_M_nextHour_13 : decode Y_M_nextHour.2.1 13 = .ok (.aload_n 0, 1) := by decide +kernel
theorem d_M_nextHour_14 : decode Y_M_nextHour.2.1 14 = .ok (.getfield 341, 3) := by decide +kernel
theorem d_M_nextHour_17 : decode Y_M_nextHour.2.1 17 = .ok (.getfield 280, 3) := by decide +kernel
theorem d_M_nextHour_20 : decode Y_M_nextHour.2.1 20 = .ok (.if_icmp .ge 85, 3) := by decide +kernel
theorem d_M_nextHour_23 : decode Y_M_nextHour.2.1 23 = .ok (.aload_n 0, 1) := by decide +kernel
theorem d_M_nextHour_24 : decode Y_M_nextHour.2.1 24 = .ok (.getfield 341, 3) := by decide +kernel
theorem d_M_nextHour_27 : decode Y_M_nextHour.2.1 27 = .ok (.getfield 295, 3) := by decide +kernel
theorem d_M_nextHour_30 : decode Y_M_nextHour.2.1 30 = .ok (.iload_n 3, 1) := by decide +kernel
theorem d_M_nextHour_31 : decode Y_M_nextHour.2.1 31 = .ok (.iaload, 1) := by decide +kernel
theorem d_M_nextHour_32 : decode Y_M_nextHour.2.1 32 = .ok (.aload_n 1, 1) := by decide +kernel
theorem d_M_nextHour_33 : decode Y_M_nextHour.2.1 33 = .ok (.bipush 21, 2) := by decide +kernel
theorem d_M_nextHour_35 : decode Y_M_nextHour.2.1 35 = .ok (.iaload, 1) := by decide +kernel
theorem d_M_nextHour_36 : decode Y_M_nextHour.2.1 36 = .ok (.if_icmp .eq 6, 3) := by decide +kernel
theorem d_M_nextHour_39 : decode Y_M_nextHour.2.1 39 = .ok (.goto 60, 3) := by decide +kernel
theorem d_M_nextHour_42 : decode Y_M_nextHour.2.1 42 = .ok (.aload_n 1, 1) := by decide +kernel
theorem d_M_nextHour_43 : decode Y_M_nextHour.2.1 43 = .ok (.bipush 22, 2) := by decide +kernel
theorem d_M_nextHour_45 : decode Y_M_nextHour.2.1 45 = .ok (.ldc2_w 511, 3) := by decide +kernel
theorem d_M_nextHour_48 : decode Y_M_nextHour.2.1 48 = .ok (.aload_n 1, 1) := by decide +kernel
theorem d_M_nextHour_49 : decode Y_M_nextHour.2.1 49 = .ok (.bipush 22, 2) := by decide +kernel
theorem d_M_nextHour_51 : decode Y_M_nextHour.2.1 51 = .ok (.iaload, 1) := by decide +kernel
theorem d_M_nextHour_52 : decode Y_M_nextHour.2.1 52 = .ok (.i2l, 1) := by decide +kernel
theorem d_M_nextHour_53 : decode Y_M_nextHour.2.1 53 = .ok (.lmul, 1) := by decide +kernel
theorem d_M_nextHour_54 : decode Y_M_nextHour.2.1 54 = .ok (.ldc2_w 513, 3) := by decide +kernel
theorem d_M_nextHour_57 : decode Y_M_nextHour.2.1 57 = .ok (.ladd, 1) := by decide +kernel
theorem d_M_nextHour_58 : decode Y_M_nextHour.2.1 58 = .ok (.ldc2_w 515, 3) := by decide +kernel
theorem d_M_nextHour_61 : decode Y_M_nextHour.2.1 61 = .ok (.lrem, 1) := by decide +kernel
theorem d_M_nextHour_62 : decode Y_M_nextHour.2.1 62 = .ok (.l2i, 1) := by decide +kernel
theorem d_M_nextHour_63 : decode Y_M_nextHour.2.1 63 = .ok (.iastore, 1) := by decide +kernel
theorem d_M_nextHour_64 : decode Y_M_nextHour.2.1 64 = .ok (.aload_n 1, 1) := by decide +kernel
theorem d_M_nextHour_65 : decode Y_M_nextHour.2.1 65 = .ok (.bipush 22, 2) := by decide +kernel
theorem d_M_nextHour_67 : decode Y_M_nextHour.2.1 67 = .ok (.iaload, 1) := by decide +kernel
theorem d_M_nextHour_68 : decode Y_M_nextHour.2.1 68 = .ok (.bipush 100, 2) := by decide +kernel
theorem d_M_nextHour_70 : decode Y_M_nextHour.2.1 70 = .ok (.irem, 1) := by decide +kernel
theorem d_M_nextHour_71 : decode Y_M_nextHour.2.1 71 = .ok (.aload_n 0, 1) := by decide +kernel
theorem d_M_nextHour_72 : decode Y_M_nextHour.2.1 72 = .ok (.getfield 341, 3) := by decide +kernel
theorem d_M_nextHour_75 : decode Y_M_nextHour.2.1 75 = .ok (.getfield 298, 3) := by decide +kernel
theorem d_M_nextHour_78 : decode Y_M_nextHour.2.1 78 = .ok (.iload_n 3, 1) := by decide +kernel
theorem d_M_nextHour_79 : decode Y_M_nextHour.2.1 79 = .ok (.iaload, 1) := by decide +kernel
theorem d_M_nextHour_80 : decode Y_M_nextHour.2.1 80 = .ok (.if_icmp .lt 6, 3) := by decide +kernel
theorem d_M_nextHour_83 : decode Y_M_nextHour.2.1 83 = .ok (.goto 16, 3) := by decide +kernel
theorem d_M_nextHour_86 : decode Y_M_nextHour.2.1 86 = .ok (.aload_n 1, 1) := by decide +kernel
theorem d_M_nextHour_87 : decode Y_M_nextHour.2.1 87 = .ok (.bipush 20, 2) := by decide +kernel
theorem d_M_nextHour_89 : decode Y_M_nextHour.2.1 89 = .ok (.dup2, 1) := by decide +kernel
theorem d_M_nextHour_90 : decode Y_M_nextHour.2.1 90 = .ok (.iaload, 1) := by decide +kernel
theorem d_M_nextHour_91 : decode Y_M_nextHour.2.1 91 = .ok (.iconst 1, 1) := by decide +kernel
theorem d_M_nextHour_92 : decode Y_M_nextHour.2.1 92 = .ok (.iload_n 3, 1) := by decide +kernel
theorem d_M_nextHour_93 : decode Y_M_nextHour.2.1 93 = .ok (.ishl, 1) := by decide +kernel
theorem d_M_nextHour_94 : decode Y_M_nextHour.2.1 94 = .ok (.ior, 1) := by decide +kernel
theorem d_M_nextHour_95 : decode Y_M_nextHour.2.1 95 = .ok (.iastore, 1) := by decide +kernel
theorem d_M_nextHour_96 : decode Y_M_nextHour.2.1 96 = .ok (.iinc 2 1, 3) := by decide +kernel
theorem d_M_nextHour_99 : decode Y_M_nextHour.2.1 99 = .ok (.iinc 3 1, 3) := by decide +kernel
theorem d_M_nextHour_102 : decode Y_M_nextHour.2.1 102 = .ok (.goto (-90), 3) := by decide +kernel
theorem d_M_nextHour_105 : decode Y_M_nextHour.2.1 105 = .ok (.iload_n 2, 1) := by decide +kernel
theorem d_M_nextHour_106 : decode Y_M_nextHour.2.1 106 = .ok (.ireturn, 1) := by decide +kernel
def f_M_nextHour (h : PH) (a0 : Option Nat) (a1 : Option Nat) : Option (Int32 × PH) := (aI h a1 (21 : Int32)).bind fun v1 => (sA h 50 a1 (21 : Int32) (.inl (v1 + (1 : Int32)))).bind fun h2 => (pj_it (X := Int32 × PH) (fun s3 : Int32 × Int32 × PH => (gR s3.2.2 12 a0 3).bind fun v5 => (gI s3.2.2 11 v5 5).bind fun v6 => if v6 ≤ s3.2.1 then (some (.inr (s3.1, s3.2.2))) else ((gR s3.2.2 12 a0 3).bind fun v7 => (gR s3.2.2 11 v7 16).bind fun v8 => (aI s3.2.2 v8 s3.2.1).bind fun v9 => (aI s3.2.2 a1 (21 : Int32)).bind fun v10 => if v9 = v10 then ((aI s3.2.2 a1 (22 : Int32)).bind fun v11 => if (65537 : Int64) = 0 then none else ((sA s3.2.2 50 a1 (22 : Int32) (.inl (Int64.toInt32 ((((75 : Int64) * (Int32.toInt64 v11)) + (74 : Int64)) - (((75 : Int64) * (Int32.toInt64 v11)) + (74 : Int64)) / (65537 : Int64) * (65537 : Int64))))).bind fun h12 => (aI h12 a1 (22 : Int32)).bind fun v13 => if (100 : Int32) = 0 then none else ((gR h12 12 a0 3).bind fun v14 => (gR h12 11 v14 17).bind fun v15 => (aI h12 v15 s3.2.1).bind fun v16 => if (v13 - v13 / (100 : Int32) * (100 : Int32)) < v16 then ((aI h12 a1 (20 : Int32)).bind fun v17 => (sA h12 50 a1 (20 : Int32) (.inl (v17 ||| ((1 : Int32) <<< (s3.2.1 &&& 31))))).bind fun h18 => some (.inl ((s3.1 + (1 : Int32)), (s3.2.1 + (1 : Int32)), h18))) else (some (.inl (s3.1, (s3.2.1 + (1 : Int32)), h12)))))) else (some (.inl (s3.1, (s3.2.1 + (1 : Int32)), s3.2.2))))) FU ((0 : Int32), (0 : Int32), h2)).bind fun x4 => some (x4.1, x4.2)
set_option maxRecDepth 20000 in
theorem PM_M_nextHour {l : Launch} {G : Cx} {h : PH} {a0 : Option Nat} {a1 : Option Nat} {z : (Int32 × PH)} (hz : f_M_nextHour h a0 a1 = some z) : PM l G 1 0 0 Y_M_nextHour [.inr (.inr a0), .inr (.inr a1)] h (some (.inl z.1), z.2) := by
  refine PM.of (Y := Y_M_nextHour) (cv := (fun z : (Int32 × PH) => (((some (.inl z.1), z.2) : Option PV × PH)))) (by decide) (L0 := [some (.inr (.inr a0)), some (.inr (.inr a1)), none, none]) 2 rfl (Nat.le_of_ble_eq_true rfl) ?_ hz
  unfold f_M_nextHour
  refine PJ.iconst (pc := 0) (v := 0) d_M_nextHour_0 (by decide) ?_
  refine PJ.istore_n (pc := 1) (L1 := [some (.inr (.inr a0)), some (.inr (.inr a1)), some (.inl (0 : Int32)), none]) d_M_nextHour_1 (Nat.le_of_ble_eq_true rfl) rfl rfl ?_
  refine PJ.aload_n (pc := 2) d_M_nextHour_2 rfl ?_
  refine PJ.bipush (pc := 3) (v := 21) d_M_nextHour_3 (by decide) ?_
  refine PJ.dup2 (pc := 5) d_M_nextHour_5 rfl rfl ?_
  refine PJ.iald (pc := 6) d_M_nextHour_6 (fun v1 => ?_)
  refine PJ.iconst (pc := 7) (v := 1) d_M_nextHour_7 (by decide) ?_
  refine PJ.iadd (pc := 8) d_M_nextHour_8 ?_
  refine PJ.iast (pc := 9) d_M_nextHour_9 (fun h2 => ?_)
  refine PJ.iconst (pc := 10) (v := 0) d_M_nextHour_10 (by decide) ?_
  refine PJ.istore_n (pc := 11) (L1 := [some (.inr (.inr a0)), some (.inr (.inr a1)), some (.inl (0 : Int32)), some (.inl (0 : Int32))]) d_M_nextHour_11 (Nat.le_of_ble_eq_true rfl) rfl rfl ?_
  refine PJ.bind (fun x4 : Int32 × PH => ((105 : Nat), ([none, none, some (.inl x4.1), none] : List (Option PV)), ([] : List PV), (x4.2 : PH), (0 : Nat), (0 : Nat))) (PJ.it (E := (fun s3 : Int32 × Int32 × PH => ((12 : Nat), ([some (.inr (.inr a0)), some (.inr (.inr a1)), some (.inl s3.1), some (.inl s3.2.1)] : List (Option PV)), ([] : List PV), (s3.2.2 : PH), (0 : Nat), (0 : Nat)))) (F := (fun x4 : Int32 × PH => ((105 : Nat), ([none, none, some (.inl x4.1), none] : List (Option PV)), ([] : List PV), (x4.2 : PH), (0 : Nat), (0 : Nat)))) (fun s3 => ?_) FU ((0 : Int32), (0 : Int32), h2)) (fun x4 => ?_)
  · show PJ l G (pj_rm 1 0 0) Y_M_nextHour 12 [some (.inr (.inr a0)), some (.inr (.inr a1)), some (.inl s3.1), some (.inl s3.2.1)] [] s3.2.2 0 0 _ _
    refine PJ.iload_n (pc := 12) d_M_nextHour_12 rfl ?_
    refine PJ.aload_n (pc := 13) d_M_nextHour_13 rfl ?_
    refine PJ.getR (pc := 14) fs_M_341 d_M_nextHour_14 (fun v5 => ?_)
    refine PJ.getI (pc := 17) fs_M_280 d_M_nextHour_17 (fun v6 => ?_)
    refine PJ.icmp_ge (pc := 20) (tgt := 105) d_M_nextHour_20 (by decide) (fun _ => ?_) (fun _ => ?_)
    · refine PJ.mk (L1 := [none, none, some (.inl s3.1), none]) [false, false, true, false] rfl ?_
      exact PJ.done rfl
    · refine PJ.aload_n (pc := 23) d_M_nextHour_23 rfl ?_
      refine PJ.getR (pc := 24) fs_M_341 d_M_nextHour_24 (fun v7 => ?_)
      refine PJ.getR (pc := 27) fs_M_295 d_M_nextHour_27 (fun v8 => ?_)
      refine PJ.iload_n (pc := 30) d_M_nextHour_30 rfl ?_
      refine PJ.iald (pc := 31) d_M_nextHour_31 (fun v9 => ?_)
      refine PJ.aload_n (pc := 32) d_M_nextHour_32 rfl ?_
      refine PJ.bipush (pc := 33) (v := 21) d_M_nextHour_33 (by decide) ?_
      refine PJ.iald (pc := 35) d_M_nextHour_35 (fun v10 => ?_)
      refine PJ.icmp_eq (pc := 36) (tgt := 42) d_M_nextHour_36 (by decide) (fun _ => ?_) (fun _ => ?_)
      · refine PJ.aload_n (pc := 42) d_M_nextHour_42 rfl ?_
        refine PJ.bipush (pc := 43) (v := 22) d_M_nextHour_43 (by decide) ?_
        refine PJ.ldc2 (pc := 45) (v := 75) d_M_nextHour_45 wd_2133 ?_
        refine PJ.aload_n (pc := 48) d_M_nextHour_48 rfl ?_
        refine PJ.bipush (pc := 49) (v := 22) d_M_nextHour_49 (by decide) ?_
        refine PJ.iald (pc := 51) d_M_nextHour_51 (fun v11 => ?_)
        refine PJ.i2l (pc := 52) d_M_nextHour_52 ?_
        refine PJ.lmul (pc := 53) d_M_nextHour_53 ?_
        refine PJ.ldc2 (pc := 54) (v := 74) d_M_nextHour_54 wd_2134 ?_
        refine PJ.ladd (pc := 57) d_M_nextHour_57 ?_
        refine PJ.ldc2 (pc := 58) (v := 65537) d_M_nextHour_58 wd_2135 ?_
        refine PJ.lrem (pc := 61) d_M_nextHour_61 (fun _ => ?_)
        refine PJ.l2i (pc := 62) d_M_nextHour_62 ?_
        refine PJ.iast (pc := 63) d_M_nextHour_63 (fun h12 => ?_)
        refine PJ.aload_n (pc := 64) d_M_nextHour_64 rfl ?_
        refine PJ.bipush (pc := 65) (v := 22) d_M_nextHour_65 (by decide) ?_
        refine PJ.iald (pc := 67) d_M_nextHour_67 (fun v13 => ?_)
        refine PJ.bipush (pc := 68) (v := 100) d_M_nextHour_68 (by decide) ?_
        refine PJ.irem (pc := 70) d_M_nextHour_70 (fun _ => ?_)
        refine PJ.aload_n (pc := 71) d_M_nextHour_71 rfl ?_
        refine PJ.getR (pc := 72) fs_M_341 d_M_nextHour_72 (fun v14 => ?_)
        refine PJ.getR (pc := 75) fs_M_298 d_M_nextHour_75 (fun v15 => ?_)
        refine PJ.iload_n (pc := 78) d_M_nextHour_78 rfl ?_
        refine PJ.iald (pc := 79) d_M_nextHour_79 (fun v16 => ?_)
        refine PJ.icmp_lt (pc := 80) (tgt := 86) d_M_nextHour_80 (by decide) (fun _ => ?_) (fun _ => ?_)
        · refine PJ.aload_n (pc := 86) d_M_nextHour_86 rfl ?_
          refine PJ.bipush (pc := 87) (v := 20) d_M_nextHour_87 (by decide) ?_
          refine PJ.dup2 (pc := 89) d_M_nextHour_89 rfl rfl ?_
          refine PJ.iald (pc := 90) d_M_nextHour_90 (fun v17 => ?_)
          refine PJ.iconst (pc := 91) (v := 1) d_M_nextHour_91 (by decide) ?_
          refine PJ.iload_n (pc := 92) d_M_nextHour_92 rfl ?_
          refine PJ.ishl (pc := 93) d_M_nextHour_93 ?_
          refine PJ.ior (pc := 94) d_M_nextHour_94 ?_
          refine PJ.iast (pc := 95) d_M_nextHour_95 (fun h18 => ?_)
          refine PJ.iinc (pc := 96) (v := 1) (L1 := [some (.inr (.inr a0)), some (.inr (.inr a1)), some (.inl (s3.1 + (1 : Int32))), some (.inl s3.2.1)]) d_M_nextHour_96 rfl (by decide) (Nat.le_of_ble_eq_true rfl) rfl rfl ?_
          refine PJ.iinc (pc := 99) (v := 1) (L1 := [some (.inr (.inr a0)), some (.inr (.inr a1)), some (.inl (s3.1 + (1 : Int32))), some (.inl (s3.2.1 + (1 : Int32)))]) d_M_nextHour_99 rfl (by decide) (Nat.le_of_ble_eq_true rfl) rfl rfl ?_
          refine PJ.goto (pc := 102) (tgt := 12) d_M_nextHour_102 (by decide) ?_
          exact PJ.done rfl
        · refine PJ.goto (pc := 83) (tgt := 99) d_M_nextHour_83 (by decide) ?_
          refine PJ.iinc (pc := 99) (v := 1) (L1 := [some (.inr (.inr a0)), some (.inr (.inr a1)), some (.inl s3.1), some (.inl (s3.2.1 + (1 : Int32)))]) d_M_nextHour_99 rfl (by decide) (Nat.le_of_ble_eq_true rfl) rfl rfl ?_
          refine PJ.goto (pc := 102) (tgt := 12) d_M_nextHour_102 (by decide) ?_
          exact PJ.done rfl
      · refine PJ.goto (pc := 39) (tgt := 99) d_M_nextHour_39 (by decide) ?_
        refine PJ.iinc (pc := 99) (v := 1) (L1 := [some (.inr (.inr a0)), some (.inr (.inr a1)), some (.inl s3.1), some (.inl (s3.2.1 + (1 : Int32)))]) d_M_nextHour_99 rfl (by decide) (Nat.le_of_ble_eq_true rfl) rfl rfl ?_
        refine PJ.goto (pc := 102) (tgt := 12) d_M_nextHour_102 (by decide) ?_
        exact PJ.done rfl
  · show PJ l G (pj_rm 1 0 0) Y_M_nextHour 105 [none, none, some (.inl x4.1), none] [] x4.2 0 0 _ _
    refine PJ.iload_n (pc := 105) d_M_nextHour_105 rfl ?_
    exact PJ.iret (pc := 106) d_M_nextHour_106 rfl (Nat.le_of_ble_eq_true rfl) (Nat.le_of_ble_eq_true rfl)
theorem d_M_goesBy_0 : decode Y_M_goesBy.2.1 0 = .ok (.aload_n 0, 1) := by decide +kernel
theorem d_M_goesBy_1 : decode Y_M_goesBy.2.1 1 = .ok (.invokevirtual 375, 3) := by decide +kernel
theorem d_M_goesBy_4 : decode Y_M_goesBy.2.1 4 = .ok (.aload_n 0, 1) := by decide +kernel
theorem d_M_goesBy_5 : decode Y_M_goesBy.2.1 5 = .ok (.invokevirtual 517, 3) := by decide +kernel
theorem d_M_goesBy_8 : decode Y_M_goesBy.2.1 8 = .ok (.aload_n 0, 1) := by decide +kernel
theorem d_M_goesBy_9 : decode Y_M_goesBy.2.1 9 = .ok (.getfield 21, 3) := by decide +kernel
theorem d_M_goesBy_12 : decode Y_M_goesBy.2.1 12 = .ok (.bipush 22, 2) := by decide +kernel
theorem d_M_goesBy_14 : decode Y_M_goesBy.2.1 14 = .ok (.iload_n 1, 1) := by decide +kernel
theorem d_M_goesBy_15 : decode Y_M_goesBy.2.1 15 = .ok (.iastore, 1) := by decide +kernel
theorem d_M_goesBy_16 : decode Y_M_goesBy.2.1 16 = .ok (.aload_n 0, 1) := by decide +kernel
theorem d_M_goesBy_17 : decode Y_M_goesBy.2.1 17 = .ok (.iconst 0, 1) := by decide +kernel
theorem d_M_goesBy_18 : decode Y_M_goesBy.2.1 18 = .ok (.putfield 520, 3) := by decide +kernel
theorem d_M_goesBy_21 : decode Y_M_goesBy.2.1 21 = .ok (.aload_n 0, 1) := by decide +kernel
theorem d_M_goesBy_22 : decode Y_M_goesBy.2.1 22 = .ok (.iconst 0, 1) := by decide +kernel
theorem d_M_goesBy_23 : decode Y_M_goesBy.2.1 23 = .ok (.putfield 523, 3) := by decide +kernel
theorem d_M_goesBy_26 : decode Y_M_goesBy.2.1 26 = .ok (.iconst 0, 1) := by decide +kernel
theorem d_M_goesBy_27 : decode Y_M_goesBy.2.1 27 = .ok (.istore_n 3, 1) := by decide +kernel
theorem d_M_goesBy_28 : decode Y_M_goesBy.2.1 28 = .ok (.iload_n 3, 1) := by decide +kernel
theorem d_M_goesBy_29 : decode Y_M_goesBy.2.1 29 = .ok (.iload_n 2, 1) := by decide +kernel
theorem d_M_goesBy_30 : decode Y_M_goesBy.2.1 30 = .ok (.if_icmp .ge 99, 3) := by decide +kernel
theorem d_M_goesBy_33 : decode Y_M_goesBy.2.1 33 = .ok (.iconst 0, 1) := by decide +kernel
theorem d_M_goesBy_34 : decode Y_M_goesBy.2.1 34 = .ok (.istore 4, 2) := by decide +kernel
theorem d_M_goesBy_36 : decode Y_M_goesBy.2.1 36 = .ok (.iload 4, 2) := by decide +kernel
theorem d_M_goesBy_38 : decode Y_M_goesBy.2.1 38 = .ok (.aload_n 0, 1) := by decide +kernel
theorem d_M_goesBy_39 : decode Y_M_goesBy.2.1 39 = .ok (.getfield 341, 3) := by decide +kernel
theorem d_M_goesBy_42 : decode Y_M_goesBy.2.1 42 = .ok (.getfield 255, 3) := by decide +kernel
theorem d_M_goesBy_45 : decode Y_M_goesBy.2.1 45 = .ok (.if_icmp .ge 69, 3) := by decide +kernel
theorem d_M_goesBy_48 : decode Y_M_goesBy.2.1 48 = .ok (.aload_n 0, 1) := by decide +kernel
theorem d_M_goesBy_49 : decode Y_M_goesBy.2.1 49 = .ok (.aload_n 0, 1) := by decide +kernel
theorem d_M_goesBy_50 : decode Y_M_goesBy.2.1 50 = .ok (.getfield 21, 3) := by decide +kernel
theorem d_M_goesBy_53 : decode Y_M_goesBy.2.1 53 = .ok (.iload 4, 2) := by decide +kernel
theorem d_M_goesBy_55 : decode Y_M_goesBy.2.1 55 = .ok (.invokevirtual 378, 3) := by decide +kernel
theorem d_M_goesBy_58 : decode Y_M_goesBy.2.1 58 = .ok (.istore 5, 2) := by decide +kernel
theorem d_M_goesBy_60 : decode Y_M_goesBy.2.1 60 = .ok (.iload 5, 2) := by decide +kernel
theorem d_M_goesBy_62 : decode Y_M_goesBy.2.1 62 = .ok (.aload_n 0, 1) := by decide +kernel
theorem d_M_goesBy_63 : decode Y_M_goesBy.2.1 63 = .ok (.getfield 21, 3) := by decide +kernel
theorem d_M_goesBy_66 : decode Y_M_goesBy.2.1 66 = .ok (.iconst 0, 1) := by decide +kernel
theorem d_M_goesBy_67 : decode Y_M_goesBy.2.1 67 = .ok (.iload 4, 2) := by decide +kernel
theorem d_M_goesBy_69 : decode Y_M_goesBy.2.1 69 = .ok (.iadd, 1) := by decide +kernel
theorem d_M_goesBy_70 : decode Y_M_goesBy.2.1 70 = .ok (.iaload, 1) := by decide +kernel
theorem d_M_goesBy_71 : decode Y_M_goesBy.2.1 71 = .ok (.if_icmp .ne 6, 3) := by decide +kernel
theorem d_M_goesBy_74 : decode Y_M_goesBy.2.1 74 = .ok (.goto 34, 3) := by decide +kernel
theorem d_M_goesBy_77 : decode Y_M_goesBy.2.1 77 = .ok (.aload_n 0, 1) := by decide +kernel
theorem d_M_goesBy_78 : decode Y_M_goesBy.2.1 78 = .ok (.dup, 1) := by decide +kernel
theorem d_M_goesBy_79 : decode Y_M_goesBy.2.1 79 = .ok (.getfield 520, 3) := by decide +kernel
theorem d_M_goesBy_82 : decode Y_M_goesBy.2.1 82 = .ok (.aload_n 0, 1) := by decide +kernel
theorem d_M_goesBy_83 : decode Y_M_goesBy.2.1 83 = .ok (.aload_n 0, 1) := by decide +kernel
theorem d_M_goesBy_84 : decode Y_M_goesBy.2.1 84 = .ok (.getfield 21, 3) := by decide +kernel
theorem d_M_goesBy_87 : decode Y_M_goesBy.2.1 87 = .ok (.iload 4, 2) := by decide +kernel
theorem d_M_goesBy_89 : decode Y_M_goesBy.2.1 89 = .ok (.iload 5, 2) := by decide +kernel
theorem d_M_goesBy_91 : decode Y_M_goesBy.2.1 91 = .ok (.invokevirtual 526, 3) := by decide +kernel
theorem d_M_goesBy_94 : decode Y_M_goesBy.2.1 94 = .ok (.iadd, 1) := by decide +kernel
theorem d_M_goesBy_95 : decode Y_M_goesBy.2.1 95 = .ok (.putfield 520, 3) := by decide +kernel
theorem d_M_goesBy_98 : decode Y_M_goesBy.2.1 98 = .ok (.aload_n 0, 1) := by decide +kernel
theorem d_M_goesBy_99 : decode Y_M_goesBy.2.1 99 = .ok (.dup, 1) := by decide +kernel
theorem d_M_goesBy_100 : decode Y_M_goesBy.2.1 100 = .ok (.getfield 523, 3) := by decide +kernel
theorem d_M_goesBy_103 : decode Y_M_goesBy.2.1 103 = .ok (.iconst 1, 1) := by decide +kernel
theorem d_M_goesBy_104 : decode Y_M_goesBy.2.1 104 = .ok (.iadd, 1) := by decide +kernel
theorem d_M_goesBy_105 : decode Y_M_goesBy.2.1 105 = .ok (.putfield 523, 3) := by decide +kernel
theorem d_M_goesBy_108 : decode Y_M_goesBy.2.1 108 = .ok (.iinc 4 1, 3) := by decide +kernel
theorem d_M_goesBy_111 : decode Y_M_goesBy.2.1 111 = .ok (.goto (-75), 3) := by decide +kernel
theorem d_M_goesBy_114 : decode Y_M_goesBy.2.1 114 = .ok (.aload_n 0, 1) := by decide +kernel
theorem d_M_goesBy_115 : decode Y_M_goesBy.2.1 115 = .ok (.aload_n 0, 1) := by decide +kernel
theorem d_M_goesBy_116 : decode Y_M_goesBy.2.1 116 = .ok (.getfield 21, 3) := by decide +kernel
theorem d_M_goesBy_119 : decode Y_M_goesBy.2.1 119 = .ok (.invokevirtual 529, 3) := by decide +kernel
theorem d_M_goesBy_122 : decode Y_M_goesBy.2.1 122 = .ok (.pop, 1) := by decide +kernel
theorem d_M_goesBy_123 : decode Y_M_goesBy.2.1 123 = .ok (.iinc 3 1, 3) := by decide +kernel
theorem d_M_goesBy_126 : decode Y_M_goesBy.2.1 126 = .ok (.goto (-98), 3) := by decide +kernel
theorem d_M_goesBy_129 : decode Y_M_goesBy.2.1 129 = .ok (.return_, 1) := by decide +kernel
def f_M_goesBy (h : PH) (a0 : Option Nat) (a1 : Int32) (a2 : Int32) : Option PH := (cl h 12 a0 (f_M_asTold h a0)).bind fun h1 => (cl h1 12 a0 (f_M_tries h1 a0)).bind fun h2 => (gR h2 12 a0 16).bind fun v3 => (sA h2 50 v3 (22 : Int32) (.inl a1)).bind fun h4 => (sF h4 12 a0 30 (.inl (0 : Int32))).bind fun h5 => (sF h5 12 a0 31 (.inl (0 : Int32))).bind fun h6 => (pj_it (X := PH) (fun s7 : Int32 × PH => if a2 ≤ s7.1 then (some (.inr s7.2)) else ((pj_it (X := PH) (fun s9 : Int32 × PH => (gR s9.2 12 a0 3).bind fun v11 => (gI s9.2 11 v11 3).bind fun v12 => if v12 ≤ s9.1 then (some (.inr s9.2)) else ((gR s9.2 12 a0 16).bind fun v13 => (cl s9.2 12 a0 (f_M_choosesIn s9.2 a0 v13 s9.1)).bind fun v14 => (gR s9.2 12 a0 16).bind fun v15 => (aI s9.2 v15 ((0 : Int32) + s9.1)).bind fun v16 => if ¬ v14 = v16 then ((gI s9.2 12 a0 30).bind fun v17 => (gR s9.2 12 a0 16).bind fun v18 => (cl s9.2 12 a0 (f_M_changesTo s9.2 a0 v18 s9.1 v14)).bind fun v19 => (sF v19.2 12 a0 30 (.inl (v17 + v19.1))).bind fun h20 => (gI h20 12 a0 31).bind fun v21 => (sF h20 12 a0 31 (.inl (v21 + (1 : Int32)))).bind fun h22 => some (.inl ((s9.1 + (1 : Int32)), h22))) else (some (.inl ((s9.1 + (1 : Int32)), s9.2))))) FU ((0 : Int32), s7.2)).bind fun x10 => (gR x10 12 a0 16).bind fun v23 => (cl x10 12 a0 (f_M_nextHour x10 a0 v23)).bind fun v24 => some (.inl ((s7.1 + (1 : Int32)), v24.2)))) FU ((0 : Int32), h6)).bind fun x8 => some x8
set_option maxRecDepth 20000 in
theorem PM_M_goesBy {l : Launch} {G : Cx} {h : PH} {a0 : Option Nat} {a1 : Int32} {a2 : Int32} {z : PH} (hz : f_M_goesBy h a0 a1 a2 = some z) : PM l G 5 0 0 Y_M_goesBy [.inr (.inr a0), .inl a1, .inl a2] h (none, z) := by
  refine PM.of (Y := Y_M_goesBy) (cv := (fun z : PH => (((none, z) : Option PV × PH)))) (by decide) (L0 := [some (.inr (.inr a0)), some (.inl a1), some (.inl a2), none, none, none]) 3 rfl (Nat.le_of_ble_eq_true rfl) ?_ hz
  unfold f_M_goesBy
  refine PJ.aload_n (pc := 0) d_M_goesBy_0 rfl ?_
  refine PJ.cVV (pc := 1) cs_M_375 (fun z hz => PM_M_asTold hz) (pj_fitb rfl) rfl rfl (Nat.le_of_ble_eq_true rfl) d_M_goesBy_1 (fun h1 => ?_)
  refine PJ.aload_n (pc := 4) d_M_goesBy_4 rfl ?_
  refine PJ.cVV (pc := 5) cs_M_517 (fun z hz => PM_M_tries hz) (pj_fitb rfl) rfl rfl (Nat.le_of_ble_eq_true rfl) d_M_goesBy_5 (fun h2 => ?_)
  refine PJ.aload_n (pc := 8) d_M_goesBy_8 rfl ?_
  refine PJ.getR (pc := 9) fs_M_21 d_M_goesBy_9 (fun v3 => ?_)
  refine PJ.bipush (pc := 12) (v := 22) d_M_goesBy_12 (by decide) ?_
  refine PJ.iload_n (pc := 14) d_M_goesBy_14 rfl ?_
  refine PJ.iast (pc := 15) d_M_goesBy_15 (fun h4 => ?_)
  refine PJ.aload_n (pc := 16) d_M_goesBy_16 rfl ?_
  refine PJ.iconst (pc := 17) (v := 0) d_M_goesBy_17 (by decide) ?_
  refine PJ.putI (pc := 18) ps_M_520 d_M_goesBy_18 (fun h5 => ?_)
  refine PJ.aload_n (pc := 21) d_M_goesBy_21 rfl ?_
  refine PJ.iconst (pc := 22) (v := 0) d_M_goesBy_22 (by decide) ?_
  refine PJ.putI (pc := 23) ps_M_523 d_M_goesBy_23 (fun h6 => ?_)
  refine PJ.iconst (pc := 26) (v := 0) d_M_goesBy_26 (by decide) ?_
  refine PJ.istore_n (pc := 27) (L1 := [some (.inr (.inr a0)), some (.inl a1), some (.inl a2), some (.inl (0 : Int32)), none, none]) d_M_goesBy_27 (Nat.le_of_ble_eq_true rfl) rfl rfl ?_
  refine PJ.mk (L1 := [some (.inr (.inr a0)), none, some (.inl a2), some (.inl (0 : Int32)), none, none]) [true, false, true, true, false, false] rfl ?_
  refine PJ.bind (fun x8 : PH => ((129 : Nat), ([none, none, none, none, none, none] : List (Option PV)), ([] : List PV), (x8 : PH), (0 : Nat), (0 : Nat))) (PJ.it (E := (fun s7 : Int32 × PH => ((28 : Nat), ([some (.inr (.inr a0)), none, some (.inl a2), some (.inl s7.1), none, none] : List (Option PV)), ([] : List PV), (s7.2 : PH), (0 : Nat), (0 : Nat)))) (F := (fun x8 : PH => ((129 : Nat), ([none, none, none, none, none, none] : List (Option PV)), ([] : List PV), (x8 : PH), (0 : Nat), (0 : Nat)))) (fun s7 => ?_) FU ((0 : Int32), h6)) (fun x8 => ?_)
  · show PJ l G (pj_rm 5 0 0) Y_M_goesBy 28 [some (.inr (.inr a0)), none, some (.inl a2), some (.inl s7.1), none, none] [] s7.2 0 0 _ _
    refine PJ.iload_n (pc := 28) d_M_goesBy_28 rfl ?_
    refine PJ.iload_n (pc := 29) d_M_goesBy_29 rfl ?_
    refine PJ.icmp_ge (pc := 30) (tgt := 129) d_M_goesBy_30 (by decide) (fun _ => ?_) (fun _ => ?_)
    · refine PJ.mk (L1 := [none, none, none, none, none, none]) [false, false, false, false, false, false] rfl ?_
      exact PJ.done rfl
    · refine PJ.iconst (pc := 33) (v := 0) d_M_goesBy_33 (by decide) ?_
      refine PJ.istore (pc := 34) (L1 := [some (.inr (.inr a0)), none, some (.inl a2), some (.inl s7.1), some (.inl (0 : Int32)), none]) d_M_goesBy_34 (Nat.le_of_ble_eq_true rfl) rfl rfl ?_
      refine PJ.bind (fun x10 : PH => ((114 : Nat), ([some (.inr (.inr a0)), none, some (.inl a2), some (.inl s7.1), none, none] : List (Option PV)), ([] : List PV), (x10 : PH), (0 : Nat), (0 : Nat))) (PJ.it (E := (fun s9 : Int32 × PH => ((36 : Nat), ([some (.inr (.inr a0)), none, some (.inl a2), some (.inl s7.1), some (.inl s9.1), none] : List (Option PV)), ([] : List PV), (s9.2 : PH), (0 : Nat), (0 : Nat)))) (F := (fun x10 : PH => ((114 : Nat), ([some (.inr (.inr a0)), none, some (.inl a2), some (.inl s7.1), none, none] : List (Option PV)), ([] : List PV), (x10 : PH), (0 : Nat), (0 : Nat)))) (fun s9 => ?_) FU ((0 : Int32), s7.2)) (fun x10 => ?_)
      · show PJ l G (pj_rm 5 0 0) Y_M_goesBy 36 [some (.inr (.inr a0)), none, some (.inl a2), some (.inl s7.1), some (.inl s9.1), none] [] s9.2 0 0 _ _
        refine PJ.iload (pc := 36) d_M_goesBy_36 rfl ?_
        refine PJ.aload_n (pc := 38) d_M_goesBy_38 rfl ?_
        refine PJ.getR (pc := 39) fs_M_341 d_M_goesBy_39 (fun v11 => ?_)
        refine PJ.getI (pc := 42) fs_M_255 d_M_goesBy_42 (fun v12 => ?_)
        refine PJ.icmp_ge (pc := 45) (tgt := 114) d_M_goesBy_45 (by decide) (fun _ => ?_) (fun _ => ?_)
        · refine PJ.mk (L1 := [some (.inr (.inr a0)), none, some (.inl a2), some (.inl s7.1), none, none]) [true, false, true, true, false, false] rfl ?_
          exact PJ.done rfl
        · refine PJ.aload_n (pc := 48) d_M_goesBy_48 rfl ?_
          refine PJ.aload_n (pc := 49) d_M_goesBy_49 rfl ?_
          refine PJ.getR (pc := 50) fs_M_21 d_M_goesBy_50 (fun v13 => ?_)
          refine PJ.iload (pc := 53) d_M_goesBy_53 rfl ?_
          refine PJ.cVpI (pc := 55) cs_M_378 (fun z hz => PM_M_choosesIn hz) (pj_fitb rfl) rfl rfl (Nat.le_of_ble_eq_true rfl) d_M_goesBy_55 (fun v14 => ?_)
          refine PJ.istore (pc := 58) (L1 := [some (.inr (.inr a0)), none, some (.inl a2), some (.inl s7.1), some (.inl s9.1), some (.inl v14)]) d_M_goesBy_58 (Nat.le_of_ble_eq_true rfl) rfl rfl ?_
          refine PJ.iload (pc := 60) d_M_goesBy_60 rfl ?_
          refine PJ.aload_n (pc := 62) d_M_goesBy_62 rfl ?_
          refine PJ.getR (pc := 63) fs_M_21 d_M_goesBy_63 (fun v15 => ?_)
          refine PJ.iconst (pc := 66) (v := 0) d_M_goesBy_66 (by decide) ?_
          refine PJ.iload (pc := 67) d_M_goesBy_67 rfl ?_
          refine PJ.iadd (pc := 69) d_M_goesBy_69 ?_
          refine PJ.iald (pc := 70) d_M_goesBy_70 (fun v16 => ?_)
          refine PJ.icmp_ne (pc := 71) (tgt := 77) d_M_goesBy_71 (by decide) (fun _ => ?_) (fun _ => ?_)
          · refine PJ.aload_n (pc := 77) d_M_goesBy_77 rfl ?_
            refine PJ.dup (pc := 78) d_M_goesBy_78 rfl ?_
            refine PJ.getI (pc := 79) fs_M_520 d_M_goesBy_79 (fun v17 => ?_)
            refine PJ.aload_n (pc := 82) d_M_goesBy_82 rfl ?_
            refine PJ.aload_n (pc := 83) d_M_goesBy_83 rfl ?_
            refine PJ.getR (pc := 84) fs_M_21 d_M_goesBy_84 (fun v18 => ?_)
            refine PJ.iload (pc := 87) d_M_goesBy_87 rfl ?_
            refine PJ.iload (pc := 89) d_M_goesBy_89 rfl ?_
            refine PJ.cVI (pc := 91) cs_M_526 (fun z hz => PM_M_changesTo hz) (pj_fitb rfl) rfl rfl (Nat.le_of_ble_eq_true rfl) d_M_goesBy_91 (fun v19 => ?_)
            refine PJ.iadd (pc := 94) d_M_goesBy_94 ?_
            refine PJ.putI (pc := 95) ps_M_520 d_M_goesBy_95 (fun h20 => ?_)
            refine PJ.aload_n (pc := 98) d_M_goesBy_98 rfl ?_
            refine PJ.dup (pc := 99) d_M_goesBy_99 rfl ?_
            refine PJ.getI (pc := 100) fs_M_523 d_M_goesBy_100 (fun v21 => ?_)
            refine PJ.iconst (pc := 103) (v := 1) d_M_goesBy_103 (by decide) ?_
            refine PJ.iadd (pc := 104) d_M_goesBy_104 ?_
            refine PJ.putI (pc := 105) ps_M_523 d_M_goesBy_105 (fun h22 => ?_)
            refine PJ.iinc (pc := 108) (v := 1) (L1 := [some (.inr (.inr a0)), none, some (.inl a2), some (.inl s7.1), some (.inl (s9.1 + (1 : Int32))), some (.inl v14)]) d_M_goesBy_108 rfl (by decide) (Nat.le_of_ble_eq_true rfl) rfl rfl ?_
            refine PJ.goto (pc := 111) (tgt := 36) d_M_goesBy_111 (by decide) ?_
            refine PJ.mk (L1 := [some (.inr (.inr a0)), none, some (.inl a2), some (.inl s7.1), some (.inl (s9.1 + (1 : Int32))), none]) [true, false, true, true, true, false] rfl ?_
            exact PJ.done rfl
          · refine PJ.goto (pc := 74) (tgt := 108) d_M_goesBy_74 (by decide) ?_
            refine PJ.iinc (pc := 108) (v := 1) (L1 := [some (.inr (.inr a0)), none, some (.inl a2), some (.inl s7.1), some (.inl (s9.1 + (1 : Int32))), some (.inl v14)]) d_M_goesBy_108 rfl (by decide) (Nat.le_of_ble_eq_true rfl) rfl rfl ?_
            refine PJ.goto (pc := 111) (tgt := 36) d_M_goesBy_111 (by decide) ?_
            refine PJ.mk (L1 := [some (.inr (.inr a0)), none, some (.inl a2), some (.inl s7.1), some (.inl (s9.1 + (1 : Int32))), none]) [true, false, true, true, true, false] rfl ?_
            exact PJ.done rfl
      · show PJ l G (pj_rm 5 0 0) Y_M_goesBy 114 [some (.inr (.inr a0)), none, some (.inl a2), some (.inl s7.1), none, none] [] x10 0 0 _ _
        refine PJ.aload_n (pc := 114) d_M_goesBy_114 rfl ?_
        refine PJ.aload_n (pc := 115) d_M_goesBy_115 rfl ?_
        refine PJ.getR (pc := 116) fs_M_21 d_M_goesBy_116 (fun v23 => ?_)
        refine PJ.cVI (pc := 119) cs_M_529 (fun z hz => PM_M_nextHour hz) (pj_fitb rfl) rfl rfl (Nat.le_of_ble_eq_true rfl) d_M_goesBy_119 (fun v24 => ?_)
        refine PJ.pop (pc := 122) d_M_goesBy_122 rfl ?_
        refine PJ.iinc (pc := 123) (v := 1) (L1 := [some (.inr (.inr a0)), none, some (.inl a2), some (.inl (s7.1 + (1 : Int32))), none, none]) d_M_goesBy_123 rfl (by decide) (Nat.le_of_ble_eq_true rfl) rfl rfl ?_
        refine PJ.goto (pc := 126) (tgt := 28) d_M_goesBy_126 (by decide) ?_
        exact PJ.done rfl
  · show PJ l G (pj_rm 5 0 0) Y_M_goesBy 129 [none, none, none, none, none, none] [] x8 0 0 _ _
    exact PJ.vret (pc := 129) d_M_goesBy_129 rfl (Nat.le_of_ble_eq_true rfl) (Nat.le_of_ble_eq_true rfl)
theorem d_M_year_0 : decode Y_M_year.2.1 0 = .ok (.aload_n 0, 1) := by decide +kernel
theorem d_M_year_1 : decode Y_M_year.2.1 1 = .ok (.iconst 0, 1) := by decide +kernel
theorem d_M_year_2 : decode Y_M_year.2.1 2 = .ok (.putfield 46, 3) := by decide +kernel
theorem d_M_year_5 : decode Y_M_year.2.1 5 = .ok (.aload_n 0, 1) := by decide +kernel
theorem d_M_year_6 : decode Y_M_year.2.1 6 = .ok (.aload_n 0, 1) := by decide +kernel
theorem d_M_year_7 : decode Y_M_year.2.1 7 = .ok (.getfield 341, 3) := by decide +kernel
theorem d_M_year_10 : decode Y_M_year.2.1 10 = .ok (.ifnull 7, 3) := by decide +kernel
theorem d_M_year_13 : decode Y_M_year.2.1 13 = .ok (.iconst 1, 1) := by decide +kernel
theorem d_M_year_14 : decode Y_M_year.2.1 14 = .ok (.goto 4, 3) := by decide +kernel
theorem d_M_year_17 : decode Y_M_year.2.1 17 = .ok (.iconst 0, 1) := by decide +kernel
theorem d_M_year_18 : decode Y_M_year.2.1 18 = .ok (.iload_n 1, 1) := by decide +kernel
theorem d_M_year_19 : decode Y_M_year.2.1 19 = .ok (.iload_n 2, 1) := by decide +kernel
theorem d_M_year_20 : decode Y_M_year.2.1 20 = .ok (.invokevirtual 534, 3) := by decide +kernel
theorem d_M_year_23 : decode Y_M_year.2.1 23 = .ok (.istore_n 3, 1) := by decide +kernel
theorem d_M_year_24 : decode Y_M_year.2.1 24 = .ok (.iload_n 3, 1) := by decide +kernel
theorem d_M_year_25 : decode Y_M_year.2.1 25 = .ok (.ifCond .le 9, 3) := by decide +kernel
theorem d_M_year_28 : decode Y_M_year.2.1 28 = .ok (.aload_n 0, 1) := by decide +kernel
theorem d_M_year_29 : decode Y_M_year.2.1 29 = .ok (.iload_n 3, 1) := by decide +kernel
theorem d_M_year_30 : decode Y_M_year.2.1 30 = .ok (.invokevirtual 52, 3) := by decide +kernel
theorem d_M_year_33 : decode Y_M_year.2.1 33 = .ok (.ireturn, 1) := by decide +kernel
theorem d_M_year_34 : decode Y_M_year.2.1 34 = .ok (.aload_n 0, 1) := by decide +kernel
theorem d_M_year_35 : decode Y_M_year.2.1 35 = .ok (.iload_n 1, 1) := by decide +kernel
theorem d_M_year_36 : decode Y_M_year.2.1 36 = .ok (.iload_n 2, 1) := by decide +kernel
theorem d_M_year_37 : decode Y_M_year.2.1 37 = .ok (.invokevirtual 538, 3) := by decide +kernel
theorem d_M_year_40 : decode Y_M_year.2.1 40 = .ok (.aload_n 0, 1) := by decide +kernel
theorem d_M_year_41 : decode Y_M_year.2.1 41 = .ok (.aload_n 0, 1) := by decide +kernel
theorem d_M_year_42 : decode Y_M_year.2.1 42 = .ok (.getfield 520, 3) := by decide +kernel
theorem d_M_year_45 : decode Y_M_year.2.1 45 = .ok (.invokevirtual 58, 3) := by decide +kernel
theorem d_M_year_48 : decode Y_M_year.2.1 48 = .ok (.ireturn, 1) := by decide +kernel
def f_M_year (h : PH) (a0 : Option Nat) (a1 : Int32) (a2 : Int32) : Option (Int32 × PH) := (sF h 12 a0 0 (.inl (0 : Int32))).bind fun h1 => (gR h1 12 a0 3).bind fun v2 => (if v2 = none then (some (0 : Int32)) else (some (1 : Int32)) : Option (Int32)).bind fun j3 => (cl h1 12 a0 (f_M_refusesYear h1 a0 j3 a1 a2)).bind fun v4 => if v4 ≤ 0 then ((cl h1 12 a0 (f_M_goesBy h1 a0 a1 a2)).bind fun h5 => (gI h5 12 a0 30).bind fun v6 => (cl h5 12 a0 (f_M_good h5 a0 v6)).bind fun v7 => some (v7.1, v7.2)) else ((cl h1 12 a0 (f_M_refused h1 a0 v4)).bind fun v8 => some (v8.1, v8.2))
set_option maxRecDepth 20000 in
theorem PM_M_year {l : Launch} {G : Cx} {h : PH} {a0 : Option Nat} {a1 : Int32} {a2 : Int32} {z : (Int32 × PH)} (hz : f_M_year h a0 a1 a2 = some z) : PM l G 6 0 0 Y_M_year [.inr (.inr a0), .inl a1, .inl a2] h (some (.inl z.1), z.2) := by
  refine PM.of (Y := Y_M_year) (cv := (fun z : (Int32 × PH) => (((some (.inl z.1), z.2) : Option PV × PH)))) (by decide) (L0 := [some (.inr (.inr a0)), some (.inl a1), some (.inl a2), none]) 1 rfl (Nat.le_of_ble_eq_true rfl) ?_ hz
  unfold f_M_year
  refine PJ.aload_n (pc := 0) d_M_year_0 rfl ?_
  refine PJ.iconst (pc := 1) (v := 0) d_M_year_1 (by decide) ?_
  refine PJ.putI (pc := 2) ps_M_46 d_M_year_2 (fun h1 => ?_)
  refine PJ.aload_n (pc := 5) d_M_year_5 rfl ?_
  refine PJ.aload_n (pc := 6) d_M_year_6 rfl ?_
  refine PJ.getR (pc := 7) fs_M_341 d_M_year_7 (fun v2 => ?_)
  refine PJ.bind (fun j3 : Int32 => ((18 : Nat), ([some (.inr (.inr a0)), some (.inl a1), some (.inl a2), none] : List (Option PV)), ([.inl j3, .inr (.inr a0)] : List PV), (h1 : PH), (0 : Nat), (0 : Nat))) ?_ (fun j3 => ?_)
  · refine PJ.ifnull (pc := 10) (tgt := 17) d_M_year_10 (by decide) (fun _ => ?_) (fun _ => ?_)
    · refine PJ.iconst (pc := 17) (v := 0) d_M_year_17 (by decide) ?_
      exact PJ.done rfl
    · refine PJ.iconst (pc := 13) (v := 1) d_M_year_13 (by decide) ?_
      refine PJ.goto (pc := 14) (tgt := 18) d_M_year_14 (by decide) ?_
      exact PJ.done rfl
  · show PJ l G (pj_rm 6 0 0) Y_M_year 18 [some (.inr (.inr a0)), some (.inl a1), some (.inl a2), none] [.inl j3, .inr (.inr a0)] h1 0 0 _ _
    refine PJ.iload_n (pc := 18) d_M_year_18 rfl ?_
    refine PJ.iload_n (pc := 19) d_M_year_19 rfl ?_
    refine PJ.cVpI (pc := 20) cs_M_534 (fun z hz => PM_M_refusesYear hz) (pj_fitb rfl) rfl rfl (Nat.le_of_ble_eq_true rfl) d_M_year_20 (fun v4 => ?_)
    refine PJ.istore_n (pc := 23) (L1 := [some (.inr (.inr a0)), some (.inl a1), some (.inl a2), some (.inl v4)]) d_M_year_23 (Nat.le_of_ble_eq_true rfl) rfl rfl ?_
    refine PJ.iload_n (pc := 24) d_M_year_24 rfl ?_
    refine PJ.if_le (pc := 25) (tgt := 34) d_M_year_25 (by decide) (fun _ => ?_) (fun _ => ?_)
    · refine PJ.aload_n (pc := 34) d_M_year_34 rfl ?_
      refine PJ.iload_n (pc := 35) d_M_year_35 rfl ?_
      refine PJ.iload_n (pc := 36) d_M_year_36 rfl ?_
      refine PJ.cVV (pc := 37) cs_M_538 (fun z hz => PM_M_goesBy hz) (pj_fitb rfl) rfl rfl (Nat.le_of_ble_eq_true rfl) d_M_year_37 (fun h5 => ?_)
      refine PJ.aload_n (pc := 40) d_M_year_40 rfl ?_
      refine PJ.aload_n (pc := 41) d_M_year_41 rfl ?_
      refine PJ.getI (pc := 42) fs_M_520 d_M_year_42 (fun v6 => ?_)
      refine PJ.cVI (pc := 45) cs_M_58 (fun z hz => PM_M_good hz) (pj_fitb rfl) rfl rfl (Nat.le_of_ble_eq_true rfl) d_M_year_45 (fun v7 => ?_)
      exact PJ.iret (pc := 48) d_M_year_48 rfl (Nat.le_of_ble_eq_true rfl) (Nat.le_of_ble_eq_true rfl)
    · refine PJ.aload_n (pc := 28) d_M_year_28 rfl ?_
      refine PJ.iload_n (pc := 29) d_M_year_29 rfl ?_
      refine PJ.cVI (pc := 30) cs_M_52 (fun z hz => PM_M_refused hz) (pj_fitb rfl) rfl rfl (Nat.le_of_ble_eq_true rfl) d_M_year_30 (fun v8 => ?_)
      exact PJ.iret (pc := 33) d_M_year_33 rfl (Nat.le_of_ble_eq_true rfl) (Nat.le_of_ble_eq_true rfl)
theorem d_M_yearHeld_0 : decode Y_M_yearHeld.2.1 0 = .ok (.aload_n 0, 1) := by decide +kernel
theorem d_M_yearHeld_1 : decode Y_M_yearHeld.2.1 1 = .ok (.iconst 0, 1) := by decide +kernel
theorem d_M_yearHeld_2 : decode Y_M_yearHeld.2.1 2 = .ok (.putfield 46, 3) := by decide +kernel
theorem d_M_yearHeld_5 : decode Y_M_yearHeld.2.1 5 = .ok (.aload_n 0, 1) := by decide +kernel
theorem d_M_yearHeld_6 : decode Y_M_yearHeld.2.1 6 = .ok (.aload_n 0, 1) := by decide +kernel
theorem d_M_yearHeld_7 : decode Y_M_yearHeld.2.1 7 = .ok (.iload_n 1, 1) := by decide +kernel
theorem d_M_yearHeld_8 : decode Y_M_yearHeld.2.1 8 = .ok (.invokevirtual 369, 3) := by decide +kernel
theorem d_M_yearHeld_11 : decode Y_M_yearHeld.2.1 11 = .ok (.iload_n 2, 1) := by decide +kernel
theorem d_M_yearHeld_12 : decode Y_M_yearHeld.2.1 12 = .ok (.iload_n 3, 1) := by decide +kernel
theorem d_M_yearHeld_13 : decode Y_M_yearHeld.2.1 13 = .ok (.invokevirtual 534, 3) := by decide +kernel
theorem d_M_yearHeld_16 : decode Y_M_yearHeld.2.1 16 = .ok (.istore 4, 2) := by decide +kernel
theorem d_M_yearHeld_18 : decode Y_M_yearHeld.2.1 18 = .ok (.iload 4, 2) := by decide +kernel
theorem d_M_yearHeld_20 : decode Y_M_yearHeld.2.1 20 = .ok (.ifCond .le 10, 3) := by decide +kernel
theorem d_M_yearHeld_23 : decode Y_M_yearHeld.2.1 23 = .ok (.aload_n 0, 1) := by decide +kernel
theorem d_M_yearHeld_24 : decode Y_M_yearHeld.2.1 24 = .ok (.iload 4, 2) := by decide +kernel
theorem d_M_yearHeld_26 : decode Y_M_yearHeld.2.1 26 = .ok (.invokevirtual 52, 3) := by decide +kernel
theorem d_M_yearHeld_29 : decode Y_M_yearHeld.2.1 29 = .ok (.ireturn, 1) := by decide +kernel
theorem d_M_yearHeld_30 : decode Y_M_yearHeld.2.1 30 = .ok (.aload_n 0, 1) := by decide +kernel
theorem d_M_yearHeld_31 : decode Y_M_yearHeld.2.1 31 = .ok (.iload_n 2, 1) := by decide +kernel
theorem d_M_yearHeld_32 : decode Y_M_yearHeld.2.1 32 = .ok (.iload_n 3, 1) := by decide +kernel
theorem d_M_yearHeld_33 : decode Y_M_yearHeld.2.1 33 = .ok (.invokevirtual 538, 3) := by decide +kernel
theorem d_M_yearHeld_36 : decode Y_M_yearHeld.2.1 36 = .ok (.aload_n 0, 1) := by decide +kernel
theorem d_M_yearHeld_37 : decode Y_M_yearHeld.2.1 37 = .ok (.aload_n 0, 1) := by decide +kernel
theorem d_M_yearHeld_38 : decode Y_M_yearHeld.2.1 38 = .ok (.getfield 21, 3) := by decide +kernel
theorem d_M_yearHeld_41 : decode Y_M_yearHeld.2.1 41 = .ok (.iconst 0, 1) := by decide +kernel
theorem d_M_yearHeld_42 : decode Y_M_yearHeld.2.1 42 = .ok (.iload_n 1, 1) := by decide +kernel
theorem d_M_yearHeld_43 : decode Y_M_yearHeld.2.1 43 = .ok (.iadd, 1) := by decide +kernel
theorem d_M_yearHeld_44 : decode Y_M_yearHeld.2.1 44 = .ok (.iaload, 1) := by decide +kernel
theorem d_M_yearHeld_45 : decode Y_M_yearHeld.2.1 45 = .ok (.invokevirtual 58, 3) := by decide +kernel
theorem d_M_yearHeld_48 : decode Y_M_yearHeld.2.1 48 = .ok (.ireturn, 1) := by decide +kernel
def f_M_yearHeld (h : PH) (a0 : Option Nat) (a1 : Int32) (a2 : Int32) (a3 : Int32) : Option (Int32 × PH) := (sF h 12 a0 0 (.inl (0 : Int32))).bind fun h1 => (cl h1 12 a0 (f_M_isPerson h1 a0 a1)).bind fun v2 => (cl h1 12 a0 (f_M_refusesYear h1 a0 v2 a2 a3)).bind fun v3 => if v3 ≤ 0 then ((cl h1 12 a0 (f_M_goesBy h1 a0 a2 a3)).bind fun h4 => (gR h4 12 a0 16).bind fun v5 => (aI h4 v5 ((0 : Int32) + a1)).bind fun v6 => (cl h4 12 a0 (f_M_good h4 a0 v6)).bind fun v7 => some (v7.1, v7.2)) else ((cl h1 12 a0 (f_M_refused h1 a0 v3)).bind fun v8 => some (v8.1, v8.2))
set_option maxRecDepth 20000 in
theorem PM_M_yearHeld {l : Launch} {G : Cx} {h : PH} {a0 : Option Nat} {a1 : Int32} {a2 : Int32} {a3 : Int32} {z : (Int32 × PH)} (hz : f_M_yearHeld h a0 a1 a2 a3 = some z) : PM l G 6 0 0 Y_M_yearHeld [.inr (.inr a0), .inl a1, .inl a2, .inl a3] h (some (.inl z.1), z.2) := by
  refine PM.of (Y := Y_M_yearHeld) (cv := (fun z : (Int32 × PH) => (((some (.inl z.1), z.2) : Option PV × PH)))) (by decide) (L0 := [some (.inr (.inr a0)), some (.inl a1), some (.inl a2), some (.inl a3), none]) 1 rfl (Nat.le_of_ble_eq_true rfl) ?_ hz
  unfold f_M_yearHeld
  refine PJ.aload_n (pc := 0) d_M_yearHeld_0 rfl ?_
  refine PJ.iconst (pc := 1) (v := 0) d_M_yearHeld_1 (by decide) ?_
  refine PJ.putI (pc := 2) ps_M_46 d_M_yearHeld_2 (fun h1 => ?_)
  refine PJ.aload_n (pc := 5) d_M_yearHeld_5 rfl ?_
  refine PJ.aload_n (pc := 6) d_M_yearHeld_6 rfl ?_
  refine PJ.iload_n (pc := 7) d_M_yearHeld_7 rfl ?_
  refine PJ.cVpI (pc := 8) cs_M_369 (fun z hz => PM_M_isPerson hz) (pj_fitb rfl) rfl rfl (Nat.le_of_ble_eq_true rfl) d_M_yearHeld_8 (fun v2 => ?_)
  refine PJ.iload_n (pc := 11) d_M_yearHeld_11 rfl ?_
  refine PJ.iload_n (pc := 12) d_M_yearHeld_12 rfl ?_
  refine PJ.cVpI (pc := 13) cs_M_534 (fun z hz => PM_M_refusesYear hz) (pj_fitb rfl) rfl rfl (Nat.le_of_ble_eq_true rfl) d_M_yearHeld_13 (fun v3 => ?_)
  refine PJ.istore (pc := 16) (L1 := [some (.inr (.inr a0)), some (.inl a1), some (.inl a2), some (.inl a3), some (.inl v3)]) d_M_yearHeld_16 (Nat.le_of_ble_eq_true rfl) rfl rfl ?_
  refine PJ.iload (pc := 18) d_M_yearHeld_18 rfl ?_
  refine PJ.if_le (pc := 20) (tgt := 30) d_M_yearHeld_20 (by decide) (fun _ => ?_) (fun _ => ?_)
  · refine PJ.aload_n (pc := 30) d_M_yearHeld_30 rfl ?_
    refine PJ.iload_n (pc := 31) d_M_yearHeld_31 rfl ?_
    refine PJ.iload_n (pc := 32) d_M_yearHeld_32 rfl ?_
    refine PJ.cVV (pc := 33) cs_M_538 (fun z hz => PM_M_goesBy hz) (pj_fitb rfl) rfl rfl (Nat.le_of_ble_eq_true rfl) d_M_yearHeld_33 (fun h4 => ?_)
    refine PJ.aload_n (pc := 36) d_M_yearHeld_36 rfl ?_
    refine PJ.aload_n (pc := 37) d_M_yearHeld_37 rfl ?_
    refine PJ.getR (pc := 38) fs_M_21 d_M_yearHeld_38 (fun v5 => ?_)
    refine PJ.iconst (pc := 41) (v := 0) d_M_yearHeld_41 (by decide) ?_
    refine PJ.iload_n (pc := 42) d_M_yearHeld_42 rfl ?_
    refine PJ.iadd (pc := 43) d_M_yearHeld_43 ?_
    refine PJ.iald (pc := 44) d_M_yearHeld_44 (fun v6 => ?_)
    refine PJ.cVI (pc := 45) cs_M_58 (fun z hz => PM_M_good hz) (pj_fitb rfl) rfl rfl (Nat.le_of_ble_eq_true rfl) d_M_yearHeld_45 (fun v7 => ?_)
    exact PJ.iret (pc := 48) d_M_yearHeld_48 rfl (Nat.le_of_ble_eq_true rfl) (Nat.le_of_ble_eq_true rfl)
  · refine PJ.aload_n (pc := 23) d_M_yearHeld_23 rfl ?_
    refine PJ.iload (pc := 24) d_M_yearHeld_24 rfl ?_
    refine PJ.cVI (pc := 26) cs_M_52 (fun z hz => PM_M_refused hz) (pj_fitb rfl) rfl rfl (Nat.le_of_ble_eq_true rfl) d_M_yearHeld_26 (fun v8 => ?_)
    exact PJ.iret (pc := 29) d_M_yearHeld_29 rfl (Nat.le_of_ble_eq_true rfl) (Nat.le_of_ble_eq_true rfl)
theorem d_M_yearChanges_0 : decode Y_M_yearChanges.2.1 0 = .ok (.aload_n 0, 1) := by decide +kernel
theorem d_M_yearChanges_1 : decode Y_M_yearChanges.2.1 1 = .ok (.iconst 0, 1) := by decide +kernel
theorem d_M_yearChanges_2 : decode Y_M_yearChanges.2.1 2 = .ok (.putfield 46, 3) := by decide +kernel
theorem d_M_yearChanges_5 : decode Y_M_yearChanges.2.1 5 = .ok (.aload_n 0, 1) := by decide +kernel
theorem d_M_yearChanges_6 : decode Y_M_yearChanges.2.1 6 = .ok (.aload_n 0, 1) := by decide +kernel
theorem d_M_yearChanges_7 : decode Y_M_yearChanges.2.1 7 = .ok (.getfield 341, 3) := by decide +kernel
theorem d_M_yearChanges_10 : decode Y_M_yearChanges.2.1 10 = .ok (.ifnull 7, 3) := by decide +kernel
theorem d_M_yearChanges_13 : decode Y_M_yearChanges.2.1 13 = .ok (.iconst 1, 1) := by decide +kernel
theorem d_M_yearChanges_14 : decode Y_M_yearChanges.2.1 14 = .ok (.goto 4, 3) := by decide +kernel
theorem d_M_yearChanges_17 : decode Y_M_yearChanges.2.1 17 = .ok (.iconst 0, 1) := by decide +kernel
theorem d_M_yearChanges_18 : decode Y_M_yearChanges.2.1 18 = .ok (.iload_n 1, 1) := by decide +kernel
theorem d_M_yearChanges_19 : decode Y_M_yearChanges.2.1 19 = .ok (.iload_n 2, 1) := by decide +kernel
theorem d_M_yearChanges_20 : decode Y_M_yearChanges.2.1 20 = .ok (.invokevirtual 534, 3) := by decide +kernel
theorem d_M_yearChanges_23 : decode Y_M_yearChanges.2.1 23 = .ok (.istore_n 3, 1) := by decide +kernel
theorem d_M_yearChanges_24 : decode Y_M_yearChanges.2.1 24 = .ok (.iload_n 3, 1) := by decide +kernel
theorem d_M_yearChanges_25 : decode Y_M_yearChanges.2.1 25 = .ok (.ifCond .le 9, 3) := by decide +kernel
theorem d_M_yearChanges_28 : decode Y_M_yearChanges.2.1 28 = .ok (.aload_n 0, 1) := by decide +kernel
theorem d_M_yearChanges_29 : decode Y_M_yearChanges.2.1 29 = .ok (.iload_n 3, 1) := by decide +kernel
theorem d_M_yearChanges_30 : decode Y_M_yearChanges.2.1 30 = .ok (.invokevirtual 52, 3) := by decide +kernel
theorem d_M_yearChanges_33 : decode Y_M_yearChanges.2.1 33 = .ok (.ireturn, 1) := by decide +kernel
theorem d_M_yearChanges_34 : decode Y_M_yearChanges.2.1 34 = .ok (.aload_n 0, 1) := by decide +kernel
theorem d_M_yearChanges_35 : decode Y_M_yearChanges.2.1 35 = .ok (.iload_n 1, 1) := by decide +kernel
theorem d_M_yearChanges_36 : decode Y_M_yearChanges.2.1 36 = .ok (.iload_n 2, 1) := by decide +kernel
theorem d_M_yearChanges_37 : decode Y_M_yearChanges.2.1 37 = .ok (.invokevirtual 538, 3) := by decide +kernel
theorem d_M_yearChanges_40 : decode Y_M_yearChanges.2.1 40 = .ok (.aload_n 0, 1) := by decide +kernel
theorem d_M_yearChanges_41 : decode Y_M_yearChanges.2.1 41 = .ok (.aload_n 0, 1) := by decide +kernel
theorem d_M_yearChanges_42 : decode Y_M_yearChanges.2.1 42 = .ok (.getfield 523, 3) := by decide +kernel
theorem d_M_yearChanges_45 : decode Y_M_yearChanges.2.1 45 = .ok (.invokevirtual 58, 3) := by decide +kernel
theorem d_M_yearChanges_48 : decode Y_M_yearChanges.2.1 48 = .ok (.ireturn, 1) := by decide +kernel
def f_M_yearChanges (h : PH) (a0 : Option Nat) (a1 : Int32) (a2 : Int32) : Option (Int32 × PH) := (sF h 12 a0 0 (.inl (0 : Int32))).bind fun h1 => (gR h1 12 a0 3).bind fun v2 => (if v2 = none then (some (0 : Int32)) else (some (1 : Int32)) : Option (Int32)).bind fun j3 => (cl h1 12 a0 (f_M_refusesYear h1 a0 j3 a1 a2)).bind fun v4 => if v4 ≤ 0 then ((cl h1 12 a0 (f_M_goesBy h1 a0 a1 a2)).bind fun h5 => (gI h5 12 a0 31).bind fun v6 => (cl h5 12 a0 (f_M_good h5 a0 v6)).bind fun v7 => some (v7.1, v7.2)) else ((cl h1 12 a0 (f_M_refused h1 a0 v4)).bind fun v8 => some (v8.1, v8.2))
set_option maxRecDepth 20000 in
theorem PM_M_yearChanges {l : Launch} {G : Cx} {h : PH} {a0 : Option Nat} {a1 : Int32} {a2 : Int32} {z : (Int32 × PH)} (hz : f_M_yearChanges h a0 a1 a2 = some z) : PM l G 6 0 0 Y_M_yearChanges [.inr (.inr a0), .inl a1, .inl a2] h (some (.inl z.1), z.2) := by
  refine PM.of (Y := Y_M_yearChanges) (cv := (fun z : (Int32 × PH) => (((some (.inl z.1), z.2) : Option PV × PH)))) (by decide) (L0 := [some (.inr (.inr a0)), some (.inl a1), some (.inl a2), none]) 1 rfl (Nat.le_of_ble_eq_true rfl) ?_ hz
  unfold f_M_yearChanges
  refine PJ.aload_n (pc := 0) d_M_yearChanges_0 rfl ?_
  refine PJ.iconst (pc := 1) (v := 0) d_M_yearChanges_1 (by decide) ?_
  refine PJ.putI (pc := 2) ps_M_46 d_M_yearChanges_2 (fun h1 => ?_)
  refine PJ.aload_n (pc := 5) d_M_yearChanges_5 rfl ?_
  refine PJ.aload_n (pc := 6) d_M_yearChanges_6 rfl ?_
  refine PJ.getR (pc := 7) fs_M_341 d_M_yearChanges_7 (fun v2 => ?_)
  refine PJ.bind (fun j3 : Int32 => ((18 : Nat), ([some (.inr (.inr a0)), some (.inl a1), some (.inl a2), none] : List (Option PV)), ([.inl j3, .inr (.inr a0)] : List PV), (h1 : PH), (0 : Nat), (0 : Nat))) ?_ (fun j3 => ?_)
  · refine PJ.ifnull (pc := 10) (tgt := 17) d_M_yearChanges_10 (by decide) (fun _ => ?_) (fun _ => ?_)
    · refine PJ.iconst (pc := 17) (v := 0) d_M_yearChanges_17 (by decide) ?_
      exact PJ.done rfl
    · refine PJ.iconst (pc := 13) (v := 1) d_M_yearChanges_13 (by decide) ?_
      refine PJ.goto (pc := 14) (tgt := 18) d_M_yearChanges_14 (by decide) ?_
      exact PJ.done rfl
  · show PJ l G (pj_rm 6 0 0) Y_M_yearChanges 18 [some (.inr (.inr a0)), some (.inl a1), some (.inl a2), none] [.inl j3, .inr (.inr a0)] h1 0 0 _ _
    refine PJ.iload_n (pc := 18) d_M_yearChanges_18 rfl ?_
    refine PJ.iload_n (pc := 19) d_M_yearChanges_19 rfl ?_
    refine PJ.cVpI (pc := 20) cs_M_534 (fun z hz => PM_M_refusesYear hz) (pj_fitb rfl) rfl rfl (Nat.le_of_ble_eq_true rfl) d_M_yearChanges_20 (fun v4 => ?_)
    refine PJ.istore_n (pc := 23) (L1 := [some (.inr (.inr a0)), some (.inl a1), some (.inl a2), some (.inl v4)]) d_M_yearChanges_23 (Nat.le_of_ble_eq_true rfl) rfl rfl ?_
    refine PJ.iload_n (pc := 24) d_M_yearChanges_24 rfl ?_
    refine PJ.if_le (pc := 25) (tgt := 34) d_M_yearChanges_25 (by decide) (fun _ => ?_) (fun _ => ?_)
    · refine PJ.aload_n (pc := 34) d_M_yearChanges_34 rfl ?_
      refine PJ.iload_n (pc := 35) d_M_yearChanges_35 rfl ?_
      refine PJ.iload_n (pc := 36) d_M_yearChanges_36 rfl ?_
      refine PJ.cVV (pc := 37) cs_M_538 (fun z hz => PM_M_goesBy hz) (pj_fitb rfl) rfl rfl (Nat.le_of_ble_eq_true rfl) d_M_yearChanges_37 (fun h5 => ?_)
      refine PJ.aload_n (pc := 40) d_M_yearChanges_40 rfl ?_
      refine PJ.aload_n (pc := 41) d_M_yearChanges_41 rfl ?_
      refine PJ.getI (pc := 42) fs_M_523 d_M_yearChanges_42 (fun v6 => ?_)
      refine PJ.cVI (pc := 45) cs_M_58 (fun z hz => PM_M_good hz) (pj_fitb rfl) rfl rfl (Nat.le_of_ble_eq_true rfl) d_M_yearChanges_45 (fun v7 => ?_)
      exact PJ.iret (pc := 48) d_M_yearChanges_48 rfl (Nat.le_of_ble_eq_true rfl) (Nat.le_of_ble_eq_true rfl)
    · refine PJ.aload_n (pc := 28) d_M_yearChanges_28 rfl ?_
      refine PJ.iload_n (pc := 29) d_M_yearChanges_29 rfl ?_
      refine PJ.cVI (pc := 30) cs_M_52 (fun z hz => PM_M_refused hz) (pj_fitb rfl) rfl rfl (Nat.le_of_ble_eq_true rfl) d_M_yearChanges_30 (fun v8 => ?_)
      exact PJ.iret (pc := 33) d_M_yearChanges_33 rfl (Nat.le_of_ble_eq_true rfl) (Nat.le_of_ble_eq_true rfl)
theorem d_M_remembers_0 : decode Y_M_remembers.2.1 0 = .ok (.aload_n 0, 1) := by decide +kernel
theorem d_M_remembers_1 : decode Y_M_remembers.2.1 1 = .ok (.getfield 344, 3) := by decide +kernel
theorem d_M_remembers_4 : decode Y_M_remembers.2.1 4 = .ok (.bipush 16, 2) := by decide +kernel
theorem d_M_remembers_6 : decode Y_M_remembers.2.1 6 = .ok (.if_icmp .ne 43, 3) := by decide +kernel
theorem d_M_remembers_9 : decode Y_M_remembers.2.1 9 = .ok (.iconst 0, 1) := by decide +kernel
theorem d_M_remembers_10 : decode Y_M_remembers.2.1 10 = .ok (.istore_n 1, 1) := by decide +kernel
theorem d_M_remembers_11 : decode Y_M_remembers.2.1 11 = .ok (.iload_n 1, 1) := by decide +kernel
theorem d_M_remembers_12 : decode Y_M_remembers.2.1 12 = .ok (.sipush 345, 3) := by decide +kernel
theorem d_M_remembers_15 : decode Y_M_remembers.2.1 15 = .ok (.if_icmp .ge 24, 3) := by decide +kernel
theorem d_M_remembers_18 : decode Y_M_remembers.2.1 18 = .ok (.aload_n 0, 1) := by decide +kernel
theorem d_M_remembers_19 : decode Y_M_remembers.2.1 19 = .ok (.getfield 24, 3) := by decide +kernel
theorem d_M_remembers_22 : decode Y_M_remembers.2.1 22 = .ok (.iload_n 1, 1) := by decide +kernel
theorem d_M_remembers_23 : decode Y_M_remembers.2.1 23 = .ok (.aload_n 0, 1) := by decide +kernel
theorem d_M_remembers_24 : decode Y_M_remembers.2.1 24 = .ok (.getfield 24, 3) := by decide +kernel
theorem d_M_remembers_27 : decode Y_M_remembers.2.1 27 = .ok (.iload_n 1, 1) := by decide +kernel
theorem d_M_remembers_28 : decode Y_M_remembers.2.1 28 = .ok (.bipush 23, 2) := by decide +kernel
theorem d_M_remembers_30 : decode Y_M_remembers.2.1 30 = .ok (.iadd, 1) := by decide +kernel
theorem d_M_remembers_31 : decode Y_M_remembers.2.1 31 = .ok (.iaload, 1) := by decide +kernel
theorem d_M_remembers_32 : decode Y_M_remembers.2.1 32 = .ok (.iastore, 1) := by decide +kernel
theorem d_M_remembers_33 : decode Y_M_remembers.2.1 33 = .ok (.iinc 1 1, 3) := by decide +kernel
theorem d_M_remembers_36 : decode Y_M_remembers.2.1 36 = .ok (.goto (-25), 3) := by decide +kernel
theorem d_M_remembers_39 : decode Y_M_remembers.2.1 39 = .ok (.aload_n 0, 1) := by decide +kernel
theorem d_M_remembers_40 : decode Y_M_remembers.2.1 40 = .ok (.dup, 1) := by decide +kernel
theorem d_M_remembers_41 : decode Y_M_remembers.2.1 41 = .ok (.getfield 344, 3) := by decide +kernel
theorem d_M_remembers_44 : decode Y_M_remembers.2.1 44 = .ok (.iconst 1, 1) := by decide +kernel
theorem d_M_remembers_45 : decode Y_M_remembers.2.1 45 = .ok (.isub, 1) := by decide +kernel
theorem d_M_remembers_46 : decode Y_M_remembers.2.1 46 = .ok (.putfield 344, 3) := by decide +kernel
theorem d_M_remembers_49 : decode Y_M_remembers.2.1 49 = .ok (.iconst 0, 1) := by decide +kernel
theorem d_M_remembers_50 : decode Y_M_remembers.2.1 50 = .ok (.istore_n 1, 1) := by decide +kernel
theorem d_M_remembers_51 : decode Y_M_remembers.2.1 51 = .ok (.iload_n 1, 1) := by decide +kernel
theorem d_M_remembers_52 : decode Y_M_remembers.2.1 52 = .ok (.bipush 23, 2) := by decide +kernel
theorem d_M_remembers_54 : decode Y_M_remembers.2.1 54 = .ok (.if_icmp .ge 29, 3) := by decide +kernel
theorem d_M_remembers_57 : decode Y_M_remembers.2.1 57 = .ok (.aload_n 0, 1) := by decide +kernel
theorem d_M_remembers_58 : decode Y_M_remembers.2.1 58 = .ok (.getfield 24, 3) := by decide +kernel
theorem d_M_remembers_61 : decode Y_M_remembers.2.1 61 = .ok (.bipush 23, 2) := by decide +kernel
theorem d_M_remembers_63 : decode Y_M_remembers.2.1 63 = .ok (.aload_n 0, 1) := by decide +kernel
theorem d_M_remembers_64 : decode Y_M_remembers.2.1 64 = .ok (.getfield 344, 3) := by decide +kernel
theorem d_M_remembers_67 : decode Y_M_remembers.2.1 67 = .ok (.imul, 1) := by decide +kernel
theorem d_M_remembers_68 : decode Y_M_remembers.2.1 68 = .ok (.iload_n 1, 1) := by decide +kernel
theorem d_M_remembers_69 : decode Y_M_remembers.2.1 69 = .ok (.iadd, 1) := by decide +kernel
theorem d_M_remembers_70 : decode Y_M_remembers.2.1 70 = .ok (.aload_n 0, 1) := by decide +kernel
theorem d_M_remembers_71 : decode Y_M_remembers.2.1 71 = .ok (.getfield 17, 3) := by decide +kernel
theorem d_M_remembers_74 : decode Y_M_remembers.2.1 74 = .ok (.iload_n 1, 1) := by decide +kernel
theorem d_M_remembers_75 : decode Y_M_remembers.2.1 75 = .ok (.iaload, 1) := by decide +kernel
theorem d_M_remembers_76 : decode Y_M_remembers.2.1 76 = .ok (.iastore, 1) := by decide +kernel
theorem d_M_remembers_77 : decode Y_M_remembers.2.1 77 = .ok (.iinc 1 1, 3) := by decide +kernel
theorem d_M_remembers_80 : decode Y_M_remembers.2.1 80 = .ok (.goto (-29), 3) := by decide +kernel
theorem d_M_remembers_83 : decode Y_M_remembers.2.1 83 = .ok (.aload_n 0, 1) := by decide +kernel
theorem d_M_remembers_84 : decode Y_M_remembers.2.1 84 = .ok (.dup, 1) := by decide +kernel
theorem d_M_remembers_85 : decode Y_M_remembers.2.1 85 = .ok (.getfield 344, 3) := by decide +kernel
theorem d_M_remembers_88 : decode Y_M_remembers.2.1 88 = .ok (.iconst 1, 1) := by decide +kernel
theorem d_M_remembers_89 : decode Y_M_remembers.2.1 89 = .ok (.iadd, 1) := by decide +kernel
theorem d_M_remembers_90 : decode Y_M_remembers.2.1 90 = .ok (.putfield 344, 3) := by decide +kernel
theorem d_M_remembers_93 : decode Y_M_remembers.2.1 93 = .ok (.return_, 1) := by decide +kernel
def f_M_remembers (h : PH) (a0 : Option Nat) : Option PH := (gI h 12 a0 19).bind fun v1 => (if ¬ v1 = (16 : Int32) then (some h) else ((pj_it (X := PH) (fun s3 : Int32 × PH => if (345 : Int32) ≤ s3.1 then (some (.inr s3.2)) else ((gR s3.2 12 a0 17).bind fun v5 => (gR s3.2 12 a0 17).bind fun v6 => (aI s3.2 v6 (s3.1 + (23 : Int32))).bind fun v7 => (sA s3.2 50 v5 s3.1 (.inl v7)).bind fun h8 => some (.inl ((s3.1 + (1 : Int32)), h8)))) FU ((0 : Int32), h)).bind fun x4 => (gI x4 12 a0 19).bind fun v9 => (sF x4 12 a0 19 (.inl (v9 - (1 : Int32)))).bind fun h10 => some h10) : Option (PH)).bind fun j2 => (pj_it (X := PH) (fun s11 : Int32 × PH => if (23 : Int32) ≤ s11.1 then (some (.inr s11.2)) else ((gR s11.2 12 a0 17).bind fun v13 => (gI s11.2 12 a0 19).bind fun v14 => (gR s11.2 12 a0 15).bind fun v15 => (aI s11.2 v15 s11.1).bind fun v16 => (sA s11.2 50 v13 (((23 : Int32) * v14) + s11.1) (.inl v16)).bind fun h17 => some (.inl ((s11.1 + (1 : Int32)), h17)))) FU ((0 : Int32), j2)).bind fun x12 => (gI x12 12 a0 19).bind fun v18 => (sF x12 12 a0 19 (.inl (v18 + (1 : Int32)))).bind fun h19 => some h19
set_option maxRecDepth 20000 in
theorem PM_M_remembers {l : Launch} {G : Cx} {h : PH} {a0 : Option Nat} {z : PH} (hz : f_M_remembers h a0 = some z) : PM l G 1 0 0 Y_M_remembers [.inr (.inr a0)] h (none, z) := by
  refine PM.of (Y := Y_M_remembers) (cv := (fun z : PH => (((none, z) : Option PV × PH)))) (by decide) (L0 := [some (.inr (.inr a0)), none]) 1 rfl (Nat.le_of_ble_eq_true rfl) ?_ hz
  unfold f_M_remembers
  refine PJ.aload_n (pc := 0) d_M_remembers_0 rfl ?_
  refine PJ.getI (pc := 1) fs_M_344 d_M_remembers_1 (fun v1 => ?_)
  refine PJ.bipush (pc := 4) (v := 16) d_M_remembers_4 (by decide) ?_
  refine PJ.bind (fun j2 : PH => ((49 : Nat), ([some (.inr (.inr a0)), none] : List (Option PV)), ([] : List PV), (j2 : PH), (0 : Nat), (0 : Nat))) ?_ (fun j2 => ?_)
  · refine PJ.icmp_ne (pc := 6) (tgt := 49) d_M_remembers_6 (by decide) (fun _ => ?_) (fun _ => ?_)
    · exact PJ.done rfl
    · refine PJ.iconst (pc := 9) (v := 0) d_M_remembers_9 (by decide) ?_
      refine PJ.istore_n (pc := 10) (L1 := [some (.inr (.inr a0)), some (.inl (0 : Int32))]) d_M_remembers_10 (Nat.le_of_ble_eq_true rfl) rfl rfl ?_
      refine PJ.bind (fun x4 : PH => ((39 : Nat), ([some (.inr (.inr a0)), none] : List (Option PV)), ([] : List PV), (x4 : PH), (0 : Nat), (0 : Nat))) (PJ.it (E := (fun s3 : Int32 × PH => ((11 : Nat), ([some (.inr (.inr a0)), some (.inl s3.1)] : List (Option PV)), ([] : List PV), (s3.2 : PH), (0 : Nat), (0 : Nat)))) (F := (fun x4 : PH => ((39 : Nat), ([some (.inr (.inr a0)), none] : List (Option PV)), ([] : List PV), (x4 : PH), (0 : Nat), (0 : Nat)))) (fun s3 => ?_) FU ((0 : Int32), h)) (fun x4 => ?_)
      · show PJ l G (pj_rm 1 0 0) Y_M_remembers 11 [some (.inr (.inr a0)), some (.inl s3.1)] [] s3.2 0 0 _ _
        refine PJ.iload_n (pc := 11) d_M_remembers_11 rfl ?_
        refine PJ.sipush (pc := 12) (v := 345) d_M_remembers_12 (by decide) ?_
        refine PJ.icmp_ge (pc := 15) (tgt := 39) d_M_remembers_15 (by decide) (fun _ => ?_) (fun _ => ?_)
        · refine PJ.mk (L1 := [some (.inr (.inr a0)), none]) [true, false] rfl ?_
          exact PJ.done rfl
        · refine PJ.aload_n (pc := 18) d_M_remembers_18 rfl ?_
          refine PJ.getR (pc := 19) fs_M_24 d_M_remembers_19 (fun v5 => ?_)
          refine PJ.iload_n (pc := 22) d_M_remembers_22 rfl ?_
          refine PJ.aload_n (pc := 23) d_M_remembers_23 rfl ?_
          refine PJ.getR (pc := 24) fs_M_24 d_M_remembers_24 (fun v6 => ?_)
          refine PJ.iload_n (pc := 27) d_M_remembers_27 rfl ?_
          refine PJ.bipush (pc := 28) (v := 23) d_M_remembers_28 (by decide) ?_
          refine PJ.iadd (pc := 30) d_M_remembers_30 ?_
          refine PJ.iald (pc := 31) d_M_remembers_31 (fun v7 => ?_)
          refine PJ.iast (pc := 32) d_M_remembers_32 (fun h8 => ?_)
          refine PJ.iinc (pc := 33) (v := 1) (L1 := [some (.inr (.inr a0)), some (.inl (s3.1 + (1 : Int32)))]) d_M_remembers_33 rfl (by decide) (Nat.le_of_ble_eq_true rfl) rfl rfl ?_
          refine PJ.goto (pc := 36) (tgt := 11) d_M_remembers_36 (by decide) ?_
          exact PJ.done rfl
      · show PJ l G (pj_rm 1 0 0) Y_M_remembers 39 [some (.inr (.inr a0)), none] [] x4 0 0 _ _
        refine PJ.aload_n (pc := 39) d_M_remembers_39 rfl ?_
        refine PJ.dup (pc := 40) d_M_remembers_40 rfl ?_
        refine PJ.getI (pc := 41) fs_M_344 d_M_remembers_41 (fun v9 => ?_)
        refine PJ.iconst (pc := 44) (v := 1) d_M_remembers_44 (by decide) ?_
        refine PJ.isub (pc := 45) d_M_remembers_45 ?_
        refine PJ.putI (pc := 46) ps_M_344 d_M_remembers_46 (fun h10 => ?_)
        exact PJ.done rfl
  · show PJ l G (pj_rm 1 0 0) Y_M_remembers 49 [some (.inr (.inr a0)), none] [] j2 0 0 _ _
    refine PJ.iconst (pc := 49) (v := 0) d_M_remembers_49 (by decide) ?_
    refine PJ.istore_n (pc := 50) (L1 := [some (.inr (.inr a0)), some (.inl (0 : Int32))]) d_M_remembers_50 (Nat.le_of_ble_eq_true rfl) rfl rfl ?_
    refine PJ.bind (fun x12 : PH => ((83 : Nat), ([some (.inr (.inr a0)), none] : List (Option PV)), ([] : List PV), (x12 : PH), (0 : Nat), (0 : Nat))) (PJ.it (E := (fun s11 : Int32 × PH => ((51 : Nat), ([some (.inr (.inr a0)), some (.inl s11.1)] : List (Option PV)), ([] : List PV), (s11.2 : PH), (0 : Nat), (0 : Nat)))) (F := (fun x12 : PH => ((83 : Nat), ([some (.inr (.inr a0)), none] : List (Option PV)), ([] : List PV), (x12 : PH), (0 : Nat), (0 : Nat)))) (fun s11 => ?_) FU ((0 : Int32), j2)) (fun x12 => ?_)
    · show PJ l G (pj_rm 1 0 0) Y_M_remembers 51 [some (.inr (.inr a0)), some (.inl s11.1)] [] s11.2 0 0 _ _
      refine PJ.iload_n (pc := 51) d_M_remembers_51 rfl ?_
      refine PJ.bipush (pc := 52) (v := 23) d_M_remembers_52 (by decide) ?_
      refine PJ.icmp_ge (pc := 54) (tgt := 83) d_M_remembers_54 (by decide) (fun _ => ?_) (fun _ => ?_)
      · refine PJ.mk (L1 := [some (.inr (.inr a0)), none]) [true, false] rfl ?_
        exact PJ.done rfl
      · refine PJ.aload_n (pc := 57) d_M_remembers_57 rfl ?_
        refine PJ.getR (pc := 58) fs_M_24 d_M_remembers_58 (fun v13 => ?_)
        refine PJ.bipush (pc := 61) (v := 23) d_M_remembers_61 (by decide) ?_
        refine PJ.aload_n (pc := 63) d_M_remembers_63 rfl ?_
        refine PJ.getI (pc := 64) fs_M_344 d_M_remembers_64 (fun v14 => ?_)
        refine PJ.imul (pc := 67) d_M_remembers_67 ?_
        refine PJ.iload_n (pc := 68) d_M_remembers_68 rfl ?_
        refine PJ.iadd (pc := 69) d_M_remembers_69 ?_
        refine PJ.aload_n (pc := 70) d_M_remembers_70 rfl ?_
        refine PJ.getR (pc := 71) fs_M_17 d_M_remembers_71 (fun v15 => ?_)
        refine PJ.iload_n (pc := 74) d_M_remembers_74 rfl ?_
        refine PJ.iald (pc := 75) d_M_remembers_75 (fun v16 => ?_)
        refine PJ.iast (pc := 76) d_M_remembers_76 (fun h17 => ?_)
        refine PJ.iinc (pc := 77) (v := 1) (L1 := [some (.inr (.inr a0)), some (.inl (s11.1 + (1 : Int32)))]) d_M_remembers_77 rfl (by decide) (Nat.le_of_ble_eq_true rfl) rfl rfl ?_
        refine PJ.goto (pc := 80) (tgt := 51) d_M_remembers_80 (by decide) ?_
        exact PJ.done rfl
    · show PJ l G (pj_rm 1 0 0) Y_M_remembers 83 [some (.inr (.inr a0)), none] [] x12 0 0 _ _
      refine PJ.aload_n (pc := 83) d_M_remembers_83 rfl ?_
      refine PJ.dup (pc := 84) d_M_remembers_84 rfl ?_
      refine PJ.getI (pc := 85) fs_M_344 d_M_remembers_85 (fun v18 => ?_)
      refine PJ.iconst (pc := 88) (v := 1) d_M_remembers_88 (by decide) ?_
      refine PJ.iadd (pc := 89) d_M_remembers_89 ?_
      refine PJ.putI (pc := 90) ps_M_344 d_M_remembers_90 (fun h19 => ?_)
      exact PJ.vret (pc := 93) d_M_remembers_93 rfl (Nat.le_of_ble_eq_true rfl) (Nat.le_of_ble_eq_true rfl)
theorem d_M_change_0 : decode Y_M_change.2.1 0 = .ok (.aload_n 0, 1) := by decide +kernel
theorem d_M_change_1 : decode Y_M_change.2.1 1 = .ok (.iconst 0, 1) := by decide +kernel
theorem d_M_change_2 : decode Y_M_change.2.1 2 = .ok (.putfield 46, 3) := by decide +kernel
theorem d_M_change_5 : decode Y_M_change.2.1 5 = .ok (.aload_n 0, 1) := by decide +kernel
theorem d_M_change_6 : decode Y_M_change.2.1 6 = .ok (.iload_n 1, 1) := by decide +kernel
theorem d_M_change_7 : decode Y_M_change.2.1 7 = .ok (.invokevirtual 369, 3) := by decide +kernel
theorem d_M_change_10 : decode Y_M_change.2.1 10 = .ok (.ifCond .eq 11, 3) := by decide +kernel
theorem d_M_change_13 : decode Y_M_change.2.1 13 = .ok (.aload_n 0, 1) := by decide +kernel
theorem d_M_change_14 : decode Y_M_change.2.1 14 = .ok (.iload_n 2, 1) := by decide +kernel
theorem d_M_change_15 : decode Y_M_change.2.1 15 = .ok (.invokevirtual 372, 3) := by decide +kernel
theorem d_M_change_18 : decode Y_M_change.2.1 18 = .ok (.ifCond .ne 9, 3) := by decide +kernel
theorem d_M_change_21 : decode Y_M_change.2.1 21 = .ok (.aload_n 0, 1) := by decide +kernel
theorem d_M_change_22 : decode Y_M_change.2.1 22 = .ok (.iconst 1, 1) := by decide +kernel
theorem d_M_change_23 : decode Y_M_change.2.1 23 = .ok (.invokevirtual 52, 3) := by decide +kernel
theorem d_M_change_26 : decode Y_M_change.2.1 26 = .ok (.ireturn, 1) := by decide +kernel
theorem d_M_change_27 : decode Y_M_change.2.1 27 = .ok (.aload_n 0, 1) := by decide +kernel
theorem d_M_change_28 : decode Y_M_change.2.1 28 = .ok (.getfield 17, 3) := by decide +kernel
theorem d_M_change_31 : decode Y_M_change.2.1 31 = .ok (.iconst 0, 1) := by decide +kernel
theorem d_M_change_32 : decode Y_M_change.2.1 32 = .ok (.iload_n 1, 1) := by decide +kernel
theorem d_M_change_33 : decode Y_M_change.2.1 33 = .ok (.iadd, 1) := by decide +kernel
theorem d_M_change_34 : decode Y_M_change.2.1 34 = .ok (.iaload, 1) := by decide +kernel
theorem d_M_change_35 : decode Y_M_change.2.1 35 = .ok (.iload_n 2, 1) := by decide +kernel
theorem d_M_change_36 : decode Y_M_change.2.1 36 = .ok (.if_icmp .ne 9, 3) := by decide +kernel
theorem d_M_change_39 : decode Y_M_change.2.1 39 = .ok (.aload_n 0, 1) := by decide +kernel
theorem d_M_change_40 : decode Y_M_change.2.1 40 = .ok (.iconst 5, 1) := by decide +kernel
theorem d_M_change_41 : decode Y_M_change.2.1 41 = .ok (.invokevirtual 52, 3) := by decide +kernel
theorem d_M_change_44 : decode Y_M_change.2.1 44 = .ok (.ireturn, 1) := by decide +kernel
theorem d_M_change_45 : decode Y_M_change.2.1 45 = .ok (.aload_n 0, 1) := by decide +kernel
theorem d_M_change_46 : decode Y_M_change.2.1 46 = .ok (.invokevirtual 375, 3) := by decide +kernel
theorem d_M_change_49 : decode Y_M_change.2.1 49 = .ok (.aload_n 0, 1) := by decide +kernel
theorem d_M_change_50 : decode Y_M_change.2.1 50 = .ok (.invokevirtual 541, 3) := by decide +kernel
theorem d_M_change_53 : decode Y_M_change.2.1 53 = .ok (.aload_n 0, 1) := by decide +kernel
theorem d_M_change_54 : decode Y_M_change.2.1 54 = .ok (.aload_n 0, 1) := by decide +kernel
theorem d_M_change_55 : decode Y_M_change.2.1 55 = .ok (.aload_n 0, 1) := by decide +kernel
theorem d_M_change_56 : decode Y_M_change.2.1 56 = .ok (.getfield 17, 3) := by decide +kernel
theorem d_M_change_59 : decode Y_M_change.2.1 59 = .ok (.iload_n 1, 1) := by decide +kernel
theorem d_M_change_60 : decode Y_M_change.2.1 60 = .ok (.iload_n 2, 1) := by decide +kernel
theorem d_M_change_61 : decode Y_M_change.2.1 61 = .ok (.invokevirtual 526, 3) := by decide +kernel
theorem d_M_change_64 : decode Y_M_change.2.1 64 = .ok (.invokevirtual 58, 3) := by decide +kernel
theorem d_M_change_67 : decode Y_M_change.2.1 67 = .ok (.ireturn, 1) := by decide +kernel
def f_M_change (h : PH) (a0 : Option Nat) (a1 : Int32) (a2 : Int32) : Option (Int32 × PH) := (sF h 12 a0 0 (.inl (0 : Int32))).bind fun h1 => (cl h1 12 a0 (f_M_isPerson h1 a0 a1)).bind fun v2 => if v2 = 0 then ((cl h1 12 a0 (f_M_refused h1 a0 (1 : Int32))).bind fun v3 => some (v3.1, v3.2)) else ((cl h1 12 a0 (f_M_isChoice h1 a0 a2)).bind fun v4 => if ¬ v4 = 0 then ((gR h1 12 a0 15).bind fun v5 => (aI h1 v5 ((0 : Int32) + a1)).bind fun v6 => if ¬ v6 = a2 then ((cl h1 12 a0 (f_M_asTold h1 a0)).bind fun h7 => (cl h7 12 a0 (f_M_remembers h7 a0)).bind fun h8 => (gR h8 12 a0 15).bind fun v9 => (cl h8 12 a0 (f_M_changesTo h8 a0 v9 a1 a2)).bind fun v10 => (cl v10.2 12 a0 (f_M_good v10.2 a0 v10.1)).bind fun v11 => some (v11.1, v11.2)) else ((cl h1 12 a0 (f_M_refused h1 a0 (5 : Int32))).bind fun v12 => some (v12.1, v12.2))) else ((cl h1 12 a0 (f_M_refused h1 a0 (1 : Int32))).bind fun v13 => some (v13.1, v13.2)))
set_option maxRecDepth 20000 in
theorem PM_M_change {l : Launch} {G : Cx} {h : PH} {a0 : Option Nat} {a1 : Int32} {a2 : Int32} {z : (Int32 × PH)} (hz : f_M_change h a0 a1 a2 = some z) : PM l G 5 0 0 Y_M_change [.inr (.inr a0), .inl a1, .inl a2] h (some (.inl z.1), z.2) := by
  refine PM.of (Y := Y_M_change) (cv := (fun z : (Int32 × PH) => (((some (.inl z.1), z.2) : Option PV × PH)))) (by decide) (L0 := [some (.inr (.inr a0)), some (.inl a1), some (.inl a2)]) 0 rfl (Nat.le_of_ble_eq_true rfl) ?_ hz
  unfold f_M_change
  refine PJ.aload_n (pc := 0) d_M_change_0 rfl ?_
  refine PJ.iconst (pc := 1) (v := 0) d_M_change_1 (by decide) ?_
  refine PJ.putI (pc := 2) ps_M_46 d_M_change_2 (fun h1 => ?_)
  refine PJ.aload_n (pc := 5) d_M_change_5 rfl ?_
  refine PJ.iload_n (pc := 6) d_M_change_6 rfl ?_
  refine PJ.cVpI (pc := 7) cs_M_369 (fun z hz => PM_M_isPerson hz) (pj_fitb rfl) rfl rfl (Nat.le_of_ble_eq_true rfl) d_M_change_7 (fun v2 => ?_)
  refine PJ.if_eq (pc := 10) (tgt := 21) d_M_change_10 (by decide) (fun _ => ?_) (fun _ => ?_)
  · refine PJ.aload_n (pc := 21) d_M_change_21 rfl ?_
    refine PJ.iconst (pc := 22) (v := 1) d_M_change_22 (by decide) ?_
    refine PJ.cVI (pc := 23) cs_M_52 (fun z hz => PM_M_refused hz) (pj_fitb rfl) rfl rfl (Nat.le_of_ble_eq_true rfl) d_M_change_23 (fun v3 => ?_)
    exact PJ.iret (pc := 26) d_M_change_26 rfl (Nat.le_of_ble_eq_true rfl) (Nat.le_of_ble_eq_true rfl)
  · refine PJ.aload_n (pc := 13) d_M_change_13 rfl ?_
    refine PJ.iload_n (pc := 14) d_M_change_14 rfl ?_
    refine PJ.cVpI (pc := 15) cs_M_372 (fun z hz => PM_M_isChoice hz) (pj_fitb rfl) rfl rfl (Nat.le_of_ble_eq_true rfl) d_M_change_15 (fun v4 => ?_)
    refine PJ.if_ne (pc := 18) (tgt := 27) d_M_change_18 (by decide) (fun _ => ?_) (fun _ => ?_)
    · refine PJ.aload_n (pc := 27) d_M_change_27 rfl ?_
      refine PJ.getR (pc := 28) fs_M_17 d_M_change_28 (fun v5 => ?_)
      refine PJ.iconst (pc := 31) (v := 0) d_M_change_31 (by decide) ?_
      refine PJ.iload_n (pc := 32) d_M_change_32 rfl ?_
      refine PJ.iadd (pc := 33) d_M_change_33 ?_
      refine PJ.iald (pc := 34) d_M_change_34 (fun v6 => ?_)
      refine PJ.iload_n (pc := 35) d_M_change_35 rfl ?_
      refine PJ.icmp_ne (pc := 36) (tgt := 45) d_M_change_36 (by decide) (fun _ => ?_) (fun _ => ?_)
      · refine PJ.aload_n (pc := 45) d_M_change_45 rfl ?_
        refine PJ.cVV (pc := 46) cs_M_375 (fun z hz => PM_M_asTold hz) (pj_fitb rfl) rfl rfl (Nat.le_of_ble_eq_true rfl) d_M_change_46 (fun h7 => ?_)
        refine PJ.aload_n (pc := 49) d_M_change_49 rfl ?_
        refine PJ.cVV (pc := 50) cs_M_541 (fun z hz => PM_M_remembers hz) (pj_fitb rfl) rfl rfl (Nat.le_of_ble_eq_true rfl) d_M_change_50 (fun h8 => ?_)
        refine PJ.aload_n (pc := 53) d_M_change_53 rfl ?_
        refine PJ.aload_n (pc := 54) d_M_change_54 rfl ?_
        refine PJ.aload_n (pc := 55) d_M_change_55 rfl ?_
        refine PJ.getR (pc := 56) fs_M_17 d_M_change_56 (fun v9 => ?_)
        refine PJ.iload_n (pc := 59) d_M_change_59 rfl ?_
        refine PJ.iload_n (pc := 60) d_M_change_60 rfl ?_
        refine PJ.cVI (pc := 61) cs_M_526 (fun z hz => PM_M_changesTo hz) (pj_fitb rfl) rfl rfl (Nat.le_of_ble_eq_true rfl) d_M_change_61 (fun v10 => ?_)
        refine PJ.cVI (pc := 64) cs_M_58 (fun z hz => PM_M_good hz) (pj_fitb rfl) rfl rfl (Nat.le_of_ble_eq_true rfl) d_M_change_64 (fun v11 => ?_)
        exact PJ.iret (pc := 67) d_M_change_67 rfl (Nat.le_of_ble_eq_true rfl) (Nat.le_of_ble_eq_true rfl)
      · refine PJ.aload_n (pc := 39) d_M_change_39 rfl ?_
        refine PJ.iconst (pc := 40) (v := 5) d_M_change_40 (by decide) ?_
        refine PJ.cVI (pc := 41) cs_M_52 (fun z hz => PM_M_refused hz) (pj_fitb rfl) rfl rfl (Nat.le_of_ble_eq_true rfl) d_M_change_41 (fun v12 => ?_)
        exact PJ.iret (pc := 44) d_M_change_44 rfl (Nat.le_of_ble_eq_true rfl) (Nat.le_of_ble_eq_true rfl)
    · refine PJ.aload_n (pc := 21) d_M_change_21 rfl ?_
      refine PJ.iconst (pc := 22) (v := 1) d_M_change_22 (by decide) ?_
      refine PJ.cVI (pc := 23) cs_M_52 (fun z hz => PM_M_refused hz) (pj_fitb rfl) rfl rfl (Nat.le_of_ble_eq_true rfl) d_M_change_23 (fun v13 => ?_)
      exact PJ.iret (pc := 26) d_M_change_26 rfl (Nat.le_of_ble_eq_true rfl) (Nat.le_of_ble_eq_true rfl)
