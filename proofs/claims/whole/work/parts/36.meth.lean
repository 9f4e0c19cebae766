-- sites and methods: meth
abbrev Y_M_raisedThird : MI := (⟨"WaverTaxModel", "raisedThird", "(I)I"⟩, prog_13_method_96_code, 3, (some .int))
abbrev Y_M_harmThird : MI := (⟨"WaverTaxModel", "harmThird", "(I)I"⟩, prog_13_method_97_code, 3, (some .int))
abbrev Y_M_stillTable : MI := (⟨"WaverTaxModel", "stillTable", "()I"⟩, prog_13_method_98_code, 2, (some .int))
abbrev Y_M_receiptsOf : MI := (⟨"WaverTaxModel", "receiptsOf", "(I)I"⟩, prog_13_method_99_code, 4, (some .int))
abbrev Y_M_fits : MI := (⟨"WaverTaxModel", "fits", "(I)Z"⟩, prog_13_method_100_code, 6, (some .boolean))
abbrev Y_M_nextRow : MI := (⟨"WaverTaxModel", "nextRow", "(I)Z"⟩, prog_13_method_101_code, 3, (some .boolean))
abbrev Y_M_rowsOf : MI := (⟨"WaverTaxModel", "rowsOf", "(I)V"⟩, prog_13_method_102_code, 4, (none : Option FieldType))
abbrev Y_M_rows : MI := (⟨"WaverTaxModel", "rows", "(I)I"⟩, prog_13_method_103_code, 2, (some .int))
abbrev Y_M_isReceipt : MI := (⟨"WaverTaxModel", "isReceipt", "(I)Z"⟩, prog_13_method_51_code, 2, (some .boolean))
abbrev Y_M_couldBe : MI := (⟨"WaverTaxModel", "couldBe", "(I)I"⟩, prog_13_method_104_code, 4, (some .int))
abbrev Y_M_could : MI := (⟨"WaverTaxModel", "could", "(I)I"⟩, prog_13_method_105_code, 2, (some .int))
abbrev Y_M_surely : MI := (⟨"WaverTaxModel", "surely", "(I)I"⟩, prog_13_method_106_code, 3, (some .int))
abbrev Y_M_firstOf : MI := (⟨"WaverTaxModel", "firstOf", "(I)I"⟩, prog_13_method_107_code, 2, (some .int))
theorem cm_M_refusesThird : (Cond.code Y_M_refusesThird.1 Y_M_refusesThird.2.1 Y_M_refusesThird.2.2.1 Y_M_refusesThird.2.2.2 ∈ pj_ws) ∧ (Cond.initialized Y_M_refusesThird.1.cls ∈ pj_ws) ∧ (Y_M_refusesThird.1.cls ≠ "java/lang/invoke/MethodHandle" ∧ Y_M_refusesThird.1.cls ≠ "java/lang/invoke/VarHandle" ∧ (parseMethodDescriptor Y_M_refusesThird.1.desc).map (fun d => d.parameters.length) = some 1) ∧ (Cond.instanceMethod Y_M_refusesThird.1 ∈ pj_ws) ∧ (Cond.selects Y_M_refusesThird.1.cls Y_M_refusesThird.1 Y_M_refusesThird.1 ∈ pj_ws) := ⟨pj_mem 1983 (by decide +kernel) rfl, pj_mem 141 (by decide +kernel) rfl, ⟨by decide +kernel, by decide +kernel, by decide +kernel⟩, pj_mem 1982 (by decide +kernel) rfl, pj_mem 105 (by decide +kernel) rfl⟩
theorem cm_M_byThird : (Cond.code Y_M_byThird.1 Y_M_byThird.2.1 Y_M_byThird.2.2.1 Y_M_byThird.2.2.2 ∈ pj_ws) ∧ (Cond.initialized Y_M_byThird.1.cls ∈ pj_ws) ∧ (Y_M_byThird.1.cls ≠ "java/lang/invoke/MethodHandle" ∧ Y_M_byThird.1.cls ≠ "java/lang/invoke/VarHandle" ∧ (parseMethodDescriptor Y_M_byThird.1.desc).map (fun d => d.parameters.length) = some 1) ∧ (Cond.instanceMethod Y_M_byThird.1 ∈ pj_ws) ∧ (Cond.selects Y_M_byThird.1.cls Y_M_byThird.1 Y_M_byThird.1 ∈ pj_ws) := ⟨pj_mem 1987 (by decide +kernel) rfl, pj_mem 141 (by decide +kernel) rfl, ⟨by decide +kernel, by decide +kernel, by decide +kernel⟩, pj_mem 1986 (by decide +kernel) rfl, pj_mem 106 (by decide +kernel) rfl⟩
theorem cm_M_fits : (Cond.code Y_M_fits.1 Y_M_fits.2.1 Y_M_fits.2.2.1 Y_M_fits.2.2.2 ∈ pj_ws) ∧ (Cond.initialized Y_M_fits.1.cls ∈ pj_ws) ∧ (Y_M_fits.1.cls ≠ "java/lang/invoke/MethodHandle" ∧ Y_M_fits.1.cls ≠ "java/lang/invoke/VarHandle" ∧ (parseMethodDescriptor Y_M_fits.1.desc).map (fun d => d.parameters.length) = some 1) ∧ (Cond.instanceMethod Y_M_fits.1 ∈ pj_ws) ∧ (Cond.selects Y_M_fits.1.cls Y_M_fits.1 Y_M_fits.1 ∈ pj_ws) := ⟨pj_mem 2011 (by decide +kernel) rfl, pj_mem 141 (by decide +kernel) rfl, ⟨by decide +kernel, by decide +kernel, by decide +kernel⟩, pj_mem 2010 (by decide +kernel) rfl, pj_mem 109 (by decide +kernel) rfl⟩
theorem cm_M_nextRow : (Cond.code Y_M_nextRow.1 Y_M_nextRow.2.1 Y_M_nextRow.2.2.1 Y_M_nextRow.2.2.2 ∈ pj_ws) ∧ (Cond.initialized Y_M_nextRow.1.cls ∈ pj_ws) ∧ (Y_M_nextRow.1.cls ≠ "java/lang/invoke/MethodHandle" ∧ Y_M_nextRow.1.cls ≠ "java/lang/invoke/VarHandle" ∧ (parseMethodDescriptor Y_M_nextRow.1.desc).map (fun d => d.parameters.length) = some 1) ∧ (Cond.instanceMethod Y_M_nextRow.1 ∈ pj_ws) ∧ (Cond.selects Y_M_nextRow.1.cls Y_M_nextRow.1 Y_M_nextRow.1 ∈ pj_ws) := ⟨pj_mem 2015 (by decide +kernel) rfl, pj_mem 141 (by decide +kernel) rfl, ⟨by decide +kernel, by decide +kernel, by decide +kernel⟩, pj_mem 2014 (by decide +kernel) rfl, pj_mem 110 (by decide +kernel) rfl⟩
theorem cm_M_receiptsOf : (Cond.code Y_M_receiptsOf.1 Y_M_receiptsOf.2.1 Y_M_receiptsOf.2.2.1 Y_M_receiptsOf.2.2.2 ∈ pj_ws) ∧ (Cond.initialized Y_M_receiptsOf.1.cls ∈ pj_ws) ∧ (Y_M_receiptsOf.1.cls ≠ "java/lang/invoke/MethodHandle" ∧ Y_M_receiptsOf.1.cls ≠ "java/lang/invoke/VarHandle" ∧ (parseMethodDescriptor Y_M_receiptsOf.1.desc).map (fun d => d.parameters.length) = some 1) ∧ (Cond.instanceMethod Y_M_receiptsOf.1 ∈ pj_ws) ∧ (Cond.selects Y_M_receiptsOf.1.cls Y_M_receiptsOf.1 Y_M_receiptsOf.1 ∈ pj_ws) := ⟨pj_mem 2003 (by decide +kernel) rfl, pj_mem 141 (by decide +kernel) rfl, ⟨by decide +kernel, by decide +kernel, by decide +kernel⟩, pj_mem 2002 (by decide +kernel) rfl, pj_mem 107 (by decide +kernel) rfl⟩
theorem cm_M_rowsOf : (Cond.code Y_M_rowsOf.1 Y_M_rowsOf.2.1 Y_M_rowsOf.2.2.1 Y_M_rowsOf.2.2.2 ∈ pj_ws) ∧ (Cond.initialized Y_M_rowsOf.1.cls ∈ pj_ws) ∧ (Y_M_rowsOf.1.cls ≠ "java/lang/invoke/MethodHandle" ∧ Y_M_rowsOf.1.cls ≠ "java/lang/invoke/VarHandle" ∧ (parseMethodDescriptor Y_M_rowsOf.1.desc).map (fun d => d.parameters.length) = some 1) ∧ (Cond.instanceMethod Y_M_rowsOf.1 ∈ pj_ws) ∧ (Cond.selects Y_M_rowsOf.1.cls Y_M_rowsOf.1 Y_M_rowsOf.1 ∈ pj_ws) := ⟨pj_mem 2007 (by decide +kernel) rfl, pj_mem 141 (by decide +kernel) rfl, ⟨by decide +kernel, by decide +kernel, by decide +kernel⟩, pj_mem 2006 (by decide +kernel) rfl, pj_mem 108 (by decide +kernel) rfl⟩
theorem cm_M_isReceipt : (Cond.code Y_M_isReceipt.1 Y_M_isReceipt.2.1 Y_M_isReceipt.2.2.1 Y_M_isReceipt.2.2.2 ∈ pj_ws) ∧ (Cond.initialized Y_M_isReceipt.1.cls ∈ pj_ws) ∧ (Y_M_isReceipt.1.cls ≠ "java/lang/invoke/MethodHandle" ∧ Y_M_isReceipt.1.cls ≠ "java/lang/invoke/VarHandle" ∧ (parseMethodDescriptor Y_M_isReceipt.1.desc).map (fun d => d.parameters.length) = some 1) ∧ (Cond.instanceMethod Y_M_isReceipt.1 ∈ pj_ws) ∧ (Cond.selects Y_M_isReceipt.1.cls Y_M_isReceipt.1 Y_M_isReceipt.1 ∈ pj_ws) := ⟨pj_mem 2023 (by decide +kernel) rfl, pj_mem 141 (by decide +kernel) rfl, ⟨by decide +kernel, by decide +kernel, by decide +kernel⟩, pj_mem 2022 (by decide +kernel) rfl, pj_mem 111 (by decide +kernel) rfl⟩
theorem cm_M_couldBe : (Cond.code Y_M_couldBe.1 Y_M_couldBe.2.1 Y_M_couldBe.2.2.1 Y_M_couldBe.2.2.2 ∈ pj_ws) ∧ (Cond.initialized Y_M_couldBe.1.cls ∈ pj_ws) ∧ (Y_M_couldBe.1.cls ≠ "java/lang/invoke/MethodHandle" ∧ Y_M_couldBe.1.cls ≠ "java/lang/invoke/VarHandle" ∧ (parseMethodDescriptor Y_M_couldBe.1.desc).map (fun d => d.parameters.length) = some 1) ∧ (Cond.instanceMethod Y_M_couldBe.1 ∈ pj_ws) ∧ (Cond.selects Y_M_couldBe.1.cls Y_M_couldBe.1 Y_M_couldBe.1 ∈ pj_ws) := ⟨pj_mem 2027 (by decide +kernel) rfl, pj_mem 141 (by decide +kernel) rfl, ⟨by decide +kernel, by decide +kernel, by decide +kernel⟩, pj_mem 2026 (by decide +kernel) rfl, pj_mem 112 (by decide +kernel) rfl⟩
theorem cs_M_456 : pj_cV "WaverTaxModel" 456 Y_M_refusesThird 1 12 := ⟨⟨cm_M_refusesThird.1, cm_M_refusesThird.2.1, cm_M_refusesThird.2.2.1, Or.inl (pj_mem 1980 (by decide +kernel) rfl)⟩, by decide, cm_M_refusesThird.2.2.2.1, cm_M_refusesThird.2.2.2.2, ⟨_, rfl, rfl⟩⟩
theorem cs_M_459 : pj_cV "WaverTaxModel" 459 Y_M_byThird 1 12 := ⟨⟨cm_M_byThird.1, cm_M_byThird.2.1, cm_M_byThird.2.2.1, Or.inl (pj_mem 1984 (by decide +kernel) rfl)⟩, by decide, cm_M_byThird.2.2.2.1, cm_M_byThird.2.2.2.2, ⟨_, rfl, rfl⟩⟩
theorem cs_M_465 : pj_cV "WaverTaxModel" 465 Y_M_fits 1 12 := ⟨⟨cm_M_fits.1, cm_M_fits.2.1, cm_M_fits.2.2.1, Or.inl (pj_mem 2008 (by decide +kernel) rfl)⟩, by decide, cm_M_fits.2.2.2.1, cm_M_fits.2.2.2.2, ⟨_, rfl, rfl⟩⟩
theorem cs_M_468 : pj_cV "WaverTaxModel" 468 Y_M_nextRow 1 12 := ⟨⟨cm_M_nextRow.1, cm_M_nextRow.2.1, cm_M_nextRow.2.2.1, Or.inl (pj_mem 2012 (by decide +kernel) rfl)⟩, by decide, cm_M_nextRow.2.2.2.1, cm_M_nextRow.2.2.2.2, ⟨_, rfl, rfl⟩⟩
theorem cs_M_471 : pj_cV "WaverTaxModel" 471 Y_M_receiptsOf 1 12 := ⟨⟨cm_M_receiptsOf.1, cm_M_receiptsOf.2.1, cm_M_receiptsOf.2.2.1, Or.inl (pj_mem 2000 (by decide +kernel) rfl)⟩, by decide, cm_M_receiptsOf.2.2.2.1, cm_M_receiptsOf.2.2.2.2, ⟨_, rfl, rfl⟩⟩
theorem cs_M_474 : pj_cV "WaverTaxModel" 474 Y_M_rowsOf 1 12 := ⟨⟨cm_M_rowsOf.1, cm_M_rowsOf.2.1, cm_M_rowsOf.2.2.1, Or.inl (pj_mem 2004 (by decide +kernel) rfl)⟩, by decide, cm_M_rowsOf.2.2.2.1, cm_M_rowsOf.2.2.2.2, ⟨_, rfl, rfl⟩⟩
theorem cs_M_477 : pj_cV "WaverTaxModel" 477 Y_M_isReceipt 1 12 := ⟨⟨cm_M_isReceipt.1, cm_M_isReceipt.2.1, cm_M_isReceipt.2.2.1, Or.inl (pj_mem 2020 (by decide +kernel) rfl)⟩, by decide, cm_M_isReceipt.2.2.2.1, cm_M_isReceipt.2.2.2.2, ⟨_, rfl, rfl⟩⟩
theorem cs_M_480 : pj_cV "WaverTaxModel" 480 Y_M_couldBe 1 12 := ⟨⟨cm_M_couldBe.1, cm_M_couldBe.2.1, cm_M_couldBe.2.2.1, Or.inl (pj_mem 2024 (by decide +kernel) rfl)⟩, by decide, cm_M_couldBe.2.2.2.1, cm_M_couldBe.2.2.2.2, ⟨_, rfl, rfl⟩⟩
theorem fs_M_37 : pj_fs "WaverTaxModel" 12 25 37 (.array (.int)) := ⟨_, _, _, _, cd_12, by decide, rfl, Or.inl (pj_mem 1412 (by decide +kernel) rfl)⟩
theorem fs_M_40 : pj_fs "WaverTaxModel" 12 26 40 (.array (.int)) := ⟨_, _, _, _, cd_12, by decide, rfl, Or.inl (pj_mem 1413 (by decide +kernel) rfl)⟩
theorem fs_M_43 : pj_fs "WaverTaxModel" 12 27 43 (.array (.int)) := ⟨_, _, _, _, cd_12, by decide, rfl, Or.inl (pj_mem 1414 (by decide +kernel) rfl)⟩
theorem fs_M_462 : pj_fs "WaverTaxModel" 12 28 462 (.int) := ⟨_, _, _, _, cd_12, by decide, rfl, Or.inl (pj_mem 1415 (by decide +kernel) rfl)⟩
theorem ps_M_462 {mn : String} : pj_ps "WaverTaxModel" mn 12 28 462 (.int) := ⟨_, _, _, _, cd_12, by decide, rfl, Or.inl ⟨rfl, Or.inl (pj_mem 1415 (by decide +kernel) rfl)⟩⟩
theorem d_M_raisedThird_0 : decode Y_M_raisedThird.2.1 0 = .ok (.aload_n 0, 1) := by decide +kernel
theorem d_M_raisedThird_1 : decode Y_M_raisedThird.2.1 1 = .ok (.iconst 0, 1) := by decide +kernel
theorem d_M_raisedThird_2 : decode Y_M_raisedThird.2.1 2 = .ok (.putfield 46, 3) := by decide +kernel
theorem d_M_raisedThird_5 : decode Y_M_raisedThird.2.1 5 = .ok (.aload_n 0, 1) := by decide +kernel
theorem d_M_raisedThird_6 : decode Y_M_raisedThird.2.1 6 = .ok (.iload_n 1, 1) := by decide +kernel
theorem d_M_raisedThird_7 : decode Y_M_raisedThird.2.1 7 = .ok (.invokevirtual 456, 3) := by decide +kernel
theorem d_M_raisedThird_10 : decode Y_M_raisedThird.2.1 10 = .ok (.istore_n 2, 1) := by decide +kernel
theorem d_M_raisedThird_11 : decode Y_M_raisedThird.2.1 11 = .ok (.iload_n 2, 1) := by decide +kernel
theorem d_M_raisedThird_12 : decode Y_M_raisedThird.2.1 12 = .ok (.ifCond .le 9, 3) := by decide +kernel
theorem d_M_raisedThird_15 : decode Y_M_raisedThird.2.1 15 = .ok (.aload_n 0, 1) := by decide +kernel
theorem d_M_raisedThird_16 : decode Y_M_raisedThird.2.1 16 = .ok (.iload_n 2, 1) := by decide +kernel
theorem d_M_raisedThird_17 : decode Y_M_raisedThird.2.1 17 = .ok (.invokevirtual 52, 3) := by decide +kernel
theorem d_M_raisedThird_20 : decode Y_M_raisedThird.2.1 20 = .ok (.ireturn, 1) := by decide +kernel
theorem d_M_raisedThird_21 : decode Y_M_raisedThird.2.1 21 = .ok (.aload_n 0, 1) := by decide +kernel
theorem d_M_raisedThird_22 : decode Y_M_raisedThird.2.1 22 = .ok (.iload_n 1, 1) := by decide +kernel
theorem d_M_raisedThird_23 : decode Y_M_raisedThird.2.1 23 = .ok (.invokevirtual 459, 3) := by decide +kernel
theorem d_M_raisedThird_26 : decode Y_M_raisedThird.2.1 26 = .ok (.aload_n 0, 1) := by decide +kernel
theorem d_M_raisedThird_27 : decode Y_M_raisedThird.2.1 27 = .ok (.aload_n 0, 1) := by decide +kernel
theorem d_M_raisedThird_28 : decode Y_M_raisedThird.2.1 28 = .ok (.invokevirtual 444, 3) := by decide +kernel
theorem d_M_raisedThird_31 : decode Y_M_raisedThird.2.1 31 = .ok (.invokevirtual 58, 3) := by decide +kernel
theorem d_M_raisedThird_34 : decode Y_M_raisedThird.2.1 34 = .ok (.ireturn, 1) := by decide +kernel
def f_M_raisedThird (h : PH) (a0 : Option Nat) (a1 : Int32) : Option (Int32 × PH) := (sF h 12 a0 0 (.inl (0 : Int32))).bind fun h1 => (cl h1 12 a0 (f_M_refusesThird h1 a0 a1)).bind fun v2 => if v2 ≤ 0 then ((cl h1 12 a0 (f_M_byThird h1 a0 a1)).bind fun h3 => (cl h3 12 a0 (f_M_raising h3 a0)).bind fun v4 => (cl h3 12 a0 (f_M_good h3 a0 v4)).bind fun v5 => some (v5.1, v5.2)) else ((cl h1 12 a0 (f_M_refused h1 a0 v2)).bind fun v6 => some (v6.1, v6.2))
set_option maxRecDepth 20000 in
theorem PM_M_raisedThird {l : Launch} {G : Cx} {h : PH} {a0 : Option Nat} {a1 : Int32} {z : (Int32 × PH)} (hz : f_M_raisedThird h a0 a1 = some z) : PM l G 6 0 0 Y_M_raisedThird [.inr (.inr a0), .inl a1] h (some (.inl z.1), z.2) := by
  refine PM.of (Y := Y_M_raisedThird) (cv := (fun z : (Int32 × PH) => (((some (.inl z.1), z.2) : Option PV × PH)))) (by decide) (L0 := [some (.inr (.inr a0)), some (.inl a1), none]) 1 rfl (Nat.le_of_ble_eq_true rfl) ?_ hz
  unfold f_M_raisedThird
  refine PJ.aload_n (pc := 0) d_M_raisedThird_0 rfl ?_
  refine PJ.iconst (pc := 1) (v := 0) d_M_raisedThird_1 (by decide) ?_
  refine PJ.putI (pc := 2) ps_M_46 d_M_raisedThird_2 (fun h1 => ?_)
  refine PJ.aload_n (pc := 5) d_M_raisedThird_5 rfl ?_
  refine PJ.iload_n (pc := 6) d_M_raisedThird_6 rfl ?_
  refine PJ.cVpI (pc := 7) cs_M_456 (fun z hz => PM_M_refusesThird hz) (pj_fitb rfl) rfl rfl (Nat.le_of_ble_eq_true rfl) d_M_raisedThird_7 (fun v2 => ?_)
  refine PJ.istore_n (pc := 10) (L1 := [some (.inr (.inr a0)), some (.inl a1), some (.inl v2)]) d_M_raisedThird_10 (Nat.le_of_ble_eq_true rfl) rfl rfl ?_
  refine PJ.iload_n (pc := 11) d_M_raisedThird_11 rfl ?_
  refine PJ.if_le (pc := 12) (tgt := 21) d_M_raisedThird_12 (by decide) (fun _ => ?_) (fun _ => ?_)
  · refine PJ.aload_n (pc := 21) d_M_raisedThird_21 rfl ?_
    refine PJ.iload_n (pc := 22) d_M_raisedThird_22 rfl ?_
    refine PJ.cVV (pc := 23) cs_M_459 (fun z hz => PM_M_byThird hz) (pj_fitb rfl) rfl rfl (Nat.le_of_ble_eq_true rfl) d_M_raisedThird_23 (fun h3 => ?_)
    refine PJ.aload_n (pc := 26) d_M_raisedThird_26 rfl ?_
    refine PJ.aload_n (pc := 27) d_M_raisedThird_27 rfl ?_
    refine PJ.cVpI (pc := 28) cs_M_444 (fun z hz => PM_M_raising hz) (pj_fitb rfl) rfl rfl (Nat.le_of_ble_eq_true rfl) d_M_raisedThird_28 (fun v4 => ?_)
    refine PJ.cVI (pc := 31) cs_M_58 (fun z hz => PM_M_good hz) (pj_fitb rfl) rfl rfl (Nat.le_of_ble_eq_true rfl) d_M_raisedThird_31 (fun v5 => ?_)
    exact PJ.iret (pc := 34) d_M_raisedThird_34 rfl (Nat.le_of_ble_eq_true rfl) (Nat.le_of_ble_eq_true rfl)
  · refine PJ.aload_n (pc := 15) d_M_raisedThird_15 rfl ?_
    refine PJ.iload_n (pc := 16) d_M_raisedThird_16 rfl ?_
    refine PJ.cVI (pc := 17) cs_M_52 (fun z hz => PM_M_refused hz) (pj_fitb rfl) rfl rfl (Nat.le_of_ble_eq_true rfl) d_M_raisedThird_17 (fun v6 => ?_)
    exact PJ.iret (pc := 20) d_M_raisedThird_20 rfl (Nat.le_of_ble_eq_true rfl) (Nat.le_of_ble_eq_true rfl)
theorem d_M_harmThird_0 : decode Y_M_harmThird.2.1 0 = .ok (.aload_n 0, 1) := by decide +kernel
theorem d_M_harmThird_1 : decode Y_M_harmThird.2.1 1 = .ok (.iconst 0, 1) := by decide +kernel
theorem d_M_harmThird_2 : decode Y_M_harmThird.2.1 2 = .ok (.putfield 46, 3) := by decide +kernel
theorem d_M_harmThird_5 : decode Y_M_harmThird.2.1 5 = .ok (.aload_n 0, 1) := by decide +kernel
theorem d_M_harmThird_6 : decode Y_M_harmThird.2.1 6 = .ok (.iload_n 1, 1) := by decide +kernel
theorem d_M_harmThird_7 : decode Y_M_harmThird.2.1 7 = .ok (.invokevirtual 456, 3) := by decide +kernel
theorem d_M_harmThird_10 : decode Y_M_harmThird.2.1 10 = .ok (.istore_n 2, 1) := by decide +kernel
theorem d_M_harmThird_11 : decode Y_M_harmThird.2.1 11 = .ok (.iload_n 2, 1) := by decide +kernel
theorem d_M_harmThird_12 : decode Y_M_harmThird.2.1 12 = .ok (.ifCond .le 9, 3) := by decide +kernel
theorem d_M_harmThird_15 : decode Y_M_harmThird.2.1 15 = .ok (.aload_n 0, 1) := by decide +kernel
theorem d_M_harmThird_16 : decode Y_M_harmThird.2.1 16 = .ok (.iload_n 2, 1) := by decide +kernel
theorem d_M_harmThird_17 : decode Y_M_harmThird.2.1 17 = .ok (.invokevirtual 52, 3) := by decide +kernel
theorem d_M_harmThird_20 : decode Y_M_harmThird.2.1 20 = .ok (.ireturn, 1) := by decide +kernel
theorem d_M_harmThird_21 : decode Y_M_harmThird.2.1 21 = .ok (.aload_n 0, 1) := by decide +kernel
theorem d_M_harmThird_22 : decode Y_M_harmThird.2.1 22 = .ok (.iload_n 1, 1) := by decide +kernel
theorem d_M_harmThird_23 : decode Y_M_harmThird.2.1 23 = .ok (.invokevirtual 459, 3) := by decide +kernel
theorem d_M_harmThird_26 : decode Y_M_harmThird.2.1 26 = .ok (.aload_n 0, 1) := by decide +kernel
theorem d_M_harmThird_27 : decode Y_M_harmThird.2.1 27 = .ok (.aload_n 0, 1) := by decide +kernel
theorem d_M_harmThird_28 : decode Y_M_harmThird.2.1 28 = .ok (.invokevirtual 447, 3) := by decide +kernel
theorem d_M_harmThird_31 : decode Y_M_harmThird.2.1 31 = .ok (.invokevirtual 58, 3) := by decide +kernel
theorem d_M_harmThird_34 : decode Y_M_harmThird.2.1 34 = .ok (.ireturn, 1) := by decide +kernel
def f_M_harmThird (h : PH) (a0 : Option Nat) (a1 : Int32) : Option (Int32 × PH) := (sF h 12 a0 0 (.inl (0 : Int32))).bind fun h1 => (cl h1 12 a0 (f_M_refusesThird h1 a0 a1)).bind fun v2 => if v2 ≤ 0 then ((cl h1 12 a0 (f_M_byThird h1 a0 a1)).bind fun h3 => (cl h3 12 a0 (f_M_harming h3 a0)).bind fun v4 => (cl h3 12 a0 (f_M_good h3 a0 v4)).bind fun v5 => some (v5.1, v5.2)) else ((cl h1 12 a0 (f_M_refused h1 a0 v2)).bind fun v6 => some (v6.1, v6.2))
set_option maxRecDepth 20000 in
theorem PM_M_harmThird {l : Launch} {G : Cx} {h : PH} {a0 : Option Nat} {a1 : Int32} {z : (Int32 × PH)} (hz : f_M_harmThird h a0 a1 = some z) : PM l G 6 0 0 Y_M_harmThird [.inr (.inr a0), .inl a1] h (some (.inl z.1), z.2) := by
  refine PM.of (Y := Y_M_harmThird) (cv := (fun z : (Int32 × PH) => (((some (.inl z.1), z.2) : Option PV × PH)))) (by decide) (L0 := [some (.inr (.inr a0)), some (.inl a1), none]) 1 rfl (Nat.le_of_ble_eq_true rfl) ?_ hz
  unfold f_M_harmThird
  refine PJ.aload_n (pc := 0) d_M_harmThird_0 rfl ?_
  refine PJ.iconst (pc := 1) (v := 0) d_M_harmThird_1 (by decide) ?_
  refine PJ.putI (pc := 2) ps_M_46 d_M_harmThird_2 (fun h1 => ?_)
  refine PJ.aload_n (pc := 5) d_M_harmThird_5 rfl ?_
  refine PJ.iload_n (pc := 6) d_M_harmThird_6 rfl ?_
  refine PJ.cVpI (pc := 7) cs_M_456 (fun z hz => PM_M_refusesThird hz) (pj_fitb rfl) rfl rfl (Nat.le_of_ble_eq_true rfl) d_M_harmThird_7 (fun v2 => ?_)
  refine PJ.istore_n (pc := 10) (L1 := [some (.inr (.inr a0)), some (.inl a1), some (.inl v2)]) d_M_harmThird_10 (Nat.le_of_ble_eq_true rfl) rfl rfl ?_
  refine PJ.iload_n (pc := 11) d_M_harmThird_11 rfl ?_
  refine PJ.if_le (pc := 12) (tgt := 21) d_M_harmThird_12 (by decide) (fun _ => ?_) (fun _ => ?_)
  · refine PJ.aload_n (pc := 21) d_M_harmThird_21 rfl ?_
    refine PJ.iload_n (pc := 22) d_M_harmThird_22 rfl ?_
    refine PJ.cVV (pc := 23) cs_M_459 (fun z hz => PM_M_byThird hz) (pj_fitb rfl) rfl rfl (Nat.le_of_ble_eq_true rfl) d_M_harmThird_23 (fun h3 => ?_)
    refine PJ.aload_n (pc := 26) d_M_harmThird_26 rfl ?_
    refine PJ.aload_n (pc := 27) d_M_harmThird_27 rfl ?_
    refine PJ.cVpI (pc := 28) cs_M_447 (fun z hz => PM_M_harming hz) (pj_fitb rfl) rfl rfl (Nat.le_of_ble_eq_true rfl) d_M_harmThird_28 (fun v4 => ?_)
    refine PJ.cVI (pc := 31) cs_M_58 (fun z hz => PM_M_good hz) (pj_fitb rfl) rfl rfl (Nat.le_of_ble_eq_true rfl) d_M_harmThird_31 (fun v5 => ?_)
    exact PJ.iret (pc := 34) d_M_harmThird_34 rfl (Nat.le_of_ble_eq_true rfl) (Nat.le_of_ble_eq_true rfl)
  · refine PJ.aload_n (pc := 15) d_M_harmThird_15 rfl ?_
    refine PJ.iload_n (pc := 16) d_M_harmThird_16 rfl ?_
    refine PJ.cVI (pc := 17) cs_M_52 (fun z hz => PM_M_refused hz) (pj_fitb rfl) rfl rfl (Nat.le_of_ble_eq_true rfl) d_M_harmThird_17 (fun v6 => ?_)
    exact PJ.iret (pc := 20) d_M_harmThird_20 rfl (Nat.le_of_ble_eq_true rfl) (Nat.le_of_ble_eq_true rfl)
theorem d_M_stillTable_0 : decode Y_M_stillTable.2.1 0 = .ok (.aload_n 0, 1) := by decide +kernel
theorem d_M_stillTable_1 : decode Y_M_stillTable.2.1 1 = .ok (.iconst 0, 1) := by decide +kernel
theorem d_M_stillTable_2 : decode Y_M_stillTable.2.1 2 = .ok (.putfield 46, 3) := by decide +kernel
theorem d_M_stillTable_5 : decode Y_M_stillTable.2.1 5 = .ok (.aload_n 0, 1) := by decide +kernel
theorem d_M_stillTable_6 : decode Y_M_stillTable.2.1 6 = .ok (.getfield 341, 3) := by decide +kernel
theorem d_M_stillTable_9 : decode Y_M_stillTable.2.1 9 = .ok (.ifnonnull 9, 3) := by decide +kernel
theorem d_M_stillTable_12 : decode Y_M_stillTable.2.1 12 = .ok (.aload_n 0, 1) := by decide +kernel
theorem d_M_stillTable_13 : decode Y_M_stillTable.2.1 13 = .ok (.iconst 1, 1) := by decide +kernel
theorem d_M_stillTable_14 : decode Y_M_stillTable.2.1 14 = .ok (.invokevirtual 52, 3) := by decide +kernel
theorem d_M_stillTable_17 : decode Y_M_stillTable.2.1 17 = .ok (.ireturn, 1) := by decide +kernel
theorem d_M_stillTable_18 : decode Y_M_stillTable.2.1 18 = .ok (.iconst 0, 1) := by decide +kernel
theorem d_M_stillTable_19 : decode Y_M_stillTable.2.1 19 = .ok (.istore_n 1, 1) := by decide +kernel
theorem d_M_stillTable_20 : decode Y_M_stillTable.2.1 20 = .ok (.iload_n 1, 1) := by decide +kernel
theorem d_M_stillTable_21 : decode Y_M_stillTable.2.1 21 = .ok (.bipush 9, 2) := by decide +kernel
theorem d_M_stillTable_23 : decode Y_M_stillTable.2.1 23 = .ok (.if_icmp .gt 27, 3) := by decide +kernel
theorem d_M_stillTable_26 : decode Y_M_stillTable.2.1 26 = .ok (.aload_n 0, 1) := by decide +kernel
theorem d_M_stillTable_27 : decode Y_M_stillTable.2.1 27 = .ok (.iload_n 1, 1) := by decide +kernel
theorem d_M_stillTable_28 : decode Y_M_stillTable.2.1 28 = .ok (.invokevirtual 453, 3) := by decide +kernel
theorem d_M_stillTable_31 : decode Y_M_stillTable.2.1 31 = .ok (.aload_n 0, 1) := by decide +kernel
theorem d_M_stillTable_32 : decode Y_M_stillTable.2.1 32 = .ok (.invokevirtual 382, 3) := by decide +kernel
theorem d_M_stillTable_35 : decode Y_M_stillTable.2.1 35 = .ok (.ifCond .ne 9, 3) := by decide +kernel
theorem d_M_stillTable_38 : decode Y_M_stillTable.2.1 38 = .ok (.aload_n 0, 1) := by decide +kernel
theorem d_M_stillTable_39 : decode Y_M_stillTable.2.1 39 = .ok (.iload_n 1, 1) := by decide +kernel
theorem d_M_stillTable_40 : decode Y_M_stillTable.2.1 40 = .ok (.invokevirtual 58, 3) := by decide +kernel
theorem d_M_stillTable_43 : decode Y_M_stillTable.2.1 43 = .ok (.ireturn, 1) := by decide +kernel
theorem d_M_stillTable_44 : decode Y_M_stillTable.2.1 44 = .ok (.iinc 1 1, 3) := by decide +kernel
theorem d_M_stillTable_47 : decode Y_M_stillTable.2.1 47 = .ok (.goto (-27), 3) := by decide +kernel
theorem d_M_stillTable_50 : decode Y_M_stillTable.2.1 50 = .ok (.aload_n 0, 1) := by decide +kernel
theorem d_M_stillTable_51 : decode Y_M_stillTable.2.1 51 = .ok (.bipush (-2), 2) := by decide +kernel
theorem d_M_stillTable_53 : decode Y_M_stillTable.2.1 53 = .ok (.invokevirtual 58, 3) := by decide +kernel
theorem d_M_stillTable_56 : decode Y_M_stillTable.2.1 56 = .ok (.ireturn, 1) := by decide +kernel
def f_M_stillTable (h : PH) (a0 : Option Nat) : Option (Int32 × PH) := (sF h 12 a0 0 (.inl (0 : Int32))).bind fun h1 => (gR h1 12 a0 3).bind fun v2 => if v2 = none then ((cl h1 12 a0 (f_M_refused h1 a0 (1 : Int32))).bind fun v9 => some (v9.1, v9.2)) else ((pj_it (X := (PH) ⊕ (Int32 × PH)) (fun s3 : Int32 × PH => if (9 : Int32) < s3.1 then (some (.inr (.inl s3.2))) else ((cl s3.2 12 a0 (f_M_byTable s3.2 a0 s3.1)).bind fun h5 => (cl h5 12 a0 (f_M_wavering h5 a0)).bind fun v6 => if ¬ v6 = 0 then (some (.inl ((s3.1 + (1 : Int32)), h5))) else (some (.inr (.inr (s3.1, h5)))))) FU ((0 : Int32), h1)).bind fun x4 => match x4 with | (.inl yx4_0) => (cl yx4_0 12 a0 (f_M_good yx4_0 a0 (-2 : Int32))).bind fun v7 => some (v7.1, v7.2) | (.inr yx4_1) => (cl yx4_1.2 12 a0 (f_M_good yx4_1.2 a0 yx4_1.1)).bind fun v8 => some (v8.1, v8.2))
set_option maxRecDepth 20000 in
theorem PM_M_stillTable {l : Launch} {G : Cx} {h : PH} {a0 : Option Nat} {z : (Int32 × PH)} (hz : f_M_stillTable h a0 = some z) : PM l G 6 0 0 Y_M_stillTable [.inr (.inr a0)] h (some (.inl z.1), z.2) := by
  refine PM.of (Y := Y_M_stillTable) (cv := (fun z : (Int32 × PH) => (((some (.inl z.1), z.2) : Option PV × PH)))) (by decide) (L0 := [some (.inr (.inr a0)), none]) 1 rfl (Nat.le_of_ble_eq_true rfl) ?_ hz
  unfold f_M_stillTable
  refine PJ.aload_n (pc := 0) d_M_stillTable_0 rfl ?_
  refine PJ.iconst (pc := 1) (v := 0) d_M_stillTable_1 (by decide) ?_
  refine PJ.putI (pc := 2) ps_M_46 d_M_stillTable_2 (fun h1 => ?_)
  refine PJ.aload_n (pc := 5) d_M_stillTable_5 rfl ?_
  refine PJ.getR (pc := 6) fs_M_341 d_M_stillTable_6 (fun v2 => ?_)
  refine PJ.ifnonnull (pc := 9) (tgt := 18) d_M_stillTable_9 (by decide) (fun _ => ?_) (fun _ => ?_)
  · refine PJ.iconst (pc := 18) (v := 0) d_M_stillTable_18 (by decide) ?_
    refine PJ.istore_n (pc := 19) (L1 := [some (.inr (.inr a0)), some (.inl (0 : Int32))]) d_M_stillTable_19 (Nat.le_of_ble_eq_true rfl) rfl rfl ?_
    refine PJ.bind (fun x4 : (PH) ⊕ (Int32 × PH) => match x4 with | (.inl y0) => ((50 : Nat), ([some (.inr (.inr a0)), none] : List (Option PV)), ([] : List PV), (y0 : PH), (0 : Nat), (0 : Nat)) | (.inr y1) => ((38 : Nat), ([some (.inr (.inr a0)), some (.inl y1.1)] : List (Option PV)), ([] : List PV), (y1.2 : PH), (0 : Nat), (0 : Nat))) (PJ.it (E := (fun s3 : Int32 × PH => ((20 : Nat), ([some (.inr (.inr a0)), some (.inl s3.1)] : List (Option PV)), ([] : List PV), (s3.2 : PH), (0 : Nat), (0 : Nat)))) (F := (fun x4 : (PH) ⊕ (Int32 × PH) => match x4 with | (.inl y0) => ((50 : Nat), ([some (.inr (.inr a0)), none] : List (Option PV)), ([] : List PV), (y0 : PH), (0 : Nat), (0 : Nat)) | (.inr y1) => ((38 : Nat), ([some (.inr (.inr a0)), some (.inl y1.1)] : List (Option PV)), ([] : List PV), (y1.2 : PH), (0 : Nat), (0 : Nat)))) (fun s3 => ?_) FU ((0 : Int32), h1)) (fun x4 => ?_)
    · show PJ l G (pj_rm 6 0 0) Y_M_stillTable 20 [some (.inr (.inr a0)), some (.inl s3.1)] [] s3.2 0 0 _ _
      refine PJ.iload_n (pc := 20) d_M_stillTable_20 rfl ?_
      refine PJ.bipush (pc := 21) (v := 9) d_M_stillTable_21 (by decide) ?_
      refine PJ.icmp_gt (pc := 23) (tgt := 50) d_M_stillTable_23 (by decide) (fun _ => ?_) (fun _ => ?_)
      · refine PJ.mk (L1 := [some (.inr (.inr a0)), none]) [true, false] rfl ?_
        exact PJ.done rfl
      · refine PJ.aload_n (pc := 26) d_M_stillTable_26 rfl ?_
        refine PJ.iload_n (pc := 27) d_M_stillTable_27 rfl ?_
        refine PJ.cVV (pc := 28) cs_M_453 (fun z hz => PM_M_byTable hz) (pj_fitb rfl) rfl rfl (Nat.le_of_ble_eq_true rfl) d_M_stillTable_28 (fun h5 => ?_)
        refine PJ.aload_n (pc := 31) d_M_stillTable_31 rfl ?_
        refine PJ.cVpI (pc := 32) cs_M_382 (fun z hz => PM_M_wavering hz) (pj_fitb rfl) rfl rfl (Nat.le_of_ble_eq_true rfl) d_M_stillTable_32 (fun v6 => ?_)
        refine PJ.if_ne (pc := 35) (tgt := 44) d_M_stillTable_35 (by decide) (fun _ => ?_) (fun _ => ?_)
        · refine PJ.iinc (pc := 44) (v := 1) (L1 := [some (.inr (.inr a0)), some (.inl (s3.1 + (1 : Int32)))]) d_M_stillTable_44 rfl (by decide) (Nat.le_of_ble_eq_true rfl) rfl rfl ?_
          refine PJ.goto (pc := 47) (tgt := 20) d_M_stillTable_47 (by decide) ?_
          exact PJ.done rfl
        · exact PJ.done rfl
    · rcases x4 with yx4_0 | yx4_1
      · show PJ l G (pj_rm 6 0 0) Y_M_stillTable 50 [some (.inr (.inr a0)), none] [] yx4_0 0 0 _ _
        refine PJ.aload_n (pc := 50) d_M_stillTable_50 rfl ?_
        refine PJ.bipush (pc := 51) (v := -2) d_M_stillTable_51 (by decide) ?_
        refine PJ.cVI (pc := 53) cs_M_58 (fun z hz => PM_M_good hz) (pj_fitb rfl) rfl rfl (Nat.le_of_ble_eq_true rfl) d_M_stillTable_53 (fun v7 => ?_)
        exact PJ.iret (pc := 56) d_M_stillTable_56 rfl (Nat.le_of_ble_eq_true rfl) (Nat.le_of_ble_eq_true rfl)
      · show PJ l G (pj_rm 6 0 0) Y_M_stillTable 38 [some (.inr (.inr a0)), some (.inl yx4_1.1)] [] yx4_1.2 0 0 _ _
        refine PJ.aload_n (pc := 38) d_M_stillTable_38 rfl ?_
        refine PJ.iload_n (pc := 39) d_M_stillTable_39 rfl ?_
        refine PJ.cVI (pc := 40) cs_M_58 (fun z hz => PM_M_good hz) (pj_fitb rfl) rfl rfl (Nat.le_of_ble_eq_true rfl) d_M_stillTable_40 (fun v8 => ?_)
        exact PJ.iret (pc := 43) d_M_stillTable_43 rfl (Nat.le_of_ble_eq_true rfl) (Nat.le_of_ble_eq_true rfl)
  · refine PJ.aload_n (pc := 12) d_M_stillTable_12 rfl ?_
    refine PJ.iconst (pc := 13) (v := 1) d_M_stillTable_13 (by decide) ?_
    refine PJ.cVI (pc := 14) cs_M_52 (fun z hz => PM_M_refused hz) (pj_fitb rfl) rfl rfl (Nat.le_of_ble_eq_true rfl) d_M_stillTable_14 (fun v9 => ?_)
    exact PJ.iret (pc := 17) d_M_stillTable_17 rfl (Nat.le_of_ble_eq_true rfl) (Nat.le_of_ble_eq_true rfl)
theorem d_M_receiptsOf_0 : decode Y_M_receiptsOf.2.1 0 = .ok (.iconst 0, 1) := by decide +kernel
theorem d_M_receiptsOf_1 : decode Y_M_receiptsOf.2.1 1 = .ok (.istore_n 2, 1) := by decide +kernel
theorem d_M_receiptsOf_2 : decode Y_M_receiptsOf.2.1 2 = .ok (.iconst 0, 1) := by decide +kernel
theorem d_M_receiptsOf_3 : decode Y_M_receiptsOf.2.1 3 = .ok (.istore_n 3, 1) := by decide +kernel
theorem d_M_receiptsOf_4 : decode Y_M_receiptsOf.2.1 4 = .ok (.iload_n 3, 1) := by decide +kernel
theorem d_M_receiptsOf_5 : decode Y_M_receiptsOf.2.1 5 = .ok (.aload_n 0, 1) := by decide +kernel
theorem d_M_receiptsOf_6 : decode Y_M_receiptsOf.2.1 6 = .ok (.getfield 341, 3) := by decide +kernel
theorem d_M_receiptsOf_9 : decode Y_M_receiptsOf.2.1 9 = .ok (.getfield 302, 3) := by decide +kernel
theorem d_M_receiptsOf_12 : decode Y_M_receiptsOf.2.1 12 = .ok (.if_icmp .ge 30, 3) := by decide +kernel
theorem d_M_receiptsOf_15 : decode Y_M_receiptsOf.2.1 15 = .ok (.iload_n 2, 1) := by decide +kernel
theorem d_M_receiptsOf_16 : decode Y_M_receiptsOf.2.1 16 = .ok (.aload_n 0, 1) := by decide +kernel
theorem d_M_receiptsOf_17 : decode Y_M_receiptsOf.2.1 17 = .ok (.getfield 341, 3) := by decide +kernel
theorem d_M_receiptsOf_20 : decode Y_M_receiptsOf.2.1 20 = .ok (.getfield 309, 3) := by decide +kernel
theorem d_M_receiptsOf_23 : decode Y_M_receiptsOf.2.1 23 = .ok (.iload_n 3, 1) := by decide +kernel
theorem d_M_receiptsOf_24 : decode Y_M_receiptsOf.2.1 24 = .ok (.iaload, 1) := by decide +kernel
theorem d_M_receiptsOf_25 : decode Y_M_receiptsOf.2.1 25 = .ok (.iload_n 1, 1) := by decide +kernel
theorem d_M_receiptsOf_26 : decode Y_M_receiptsOf.2.1 26 = .ok (.if_icmp .ne 7, 3) := by decide +kernel
theorem d_M_receiptsOf_29 : decode Y_M_receiptsOf.2.1 29 = .ok (.iconst 1, 1) := by decide +kernel
theorem d_M_receiptsOf_30 : decode Y_M_receiptsOf.2.1 30 = .ok (.goto 4, 3) := by decide +kernel
theorem d_M_receiptsOf_33 : decode Y_M_receiptsOf.2.1 33 = .ok (.iconst 0, 1) := by decide +kernel
theorem d_M_receiptsOf_34 : decode Y_M_receiptsOf.2.1 34 = .ok (.iadd, 1) := by decide +kernel
theorem d_M_receiptsOf_35 : decode Y_M_receiptsOf.2.1 35 = .ok (.istore_n 2, 1) := by decide +kernel
theorem d_M_receiptsOf_36 : decode Y_M_receiptsOf.2.1 36 = .ok (.iinc 3 1, 3) := by decide +kernel
theorem d_M_receiptsOf_39 : decode Y_M_receiptsOf.2.1 39 = .ok (.goto (-35), 3) := by decide +kernel
theorem d_M_receiptsOf_42 : decode Y_M_receiptsOf.2.1 42 = .ok (.iload_n 2, 1) := by decide +kernel
theorem d_M_receiptsOf_43 : decode Y_M_receiptsOf.2.1 43 = .ok (.ireturn, 1) := by decide +kernel
def f_M_receiptsOf (h : PH) (a0 : Option Nat) (a1 : Int32) : Option Int32 := (pj_it (X := Int32) (fun s1 : Int32 × Int32 => (gR h 12 a0 3).bind fun v3 => (gI h 11 v3 6).bind fun v4 => if v4 ≤ s1.2 then (some (.inr s1.1)) else ((gR h 12 a0 3).bind fun v5 => (gR h 11 v5 19).bind fun v6 => (aI h v6 s1.2).bind fun v7 => (if ¬ v7 = a1 then (some (0 : Int32)) else (some (1 : Int32)) : Option (Int32)).bind fun j8 => some (.inl ((s1.1 + j8), (s1.2 + (1 : Int32)))))) FU ((0 : Int32), (0 : Int32))).bind fun x2 => some x2
set_option maxRecDepth 20000 in
theorem PM_M_receiptsOf {l : Launch} {G : Cx} {h : PH} {a0 : Option Nat} {a1 : Int32} {z : Int32} (hz : f_M_receiptsOf h a0 a1 = some z) : PM l G 1 0 0 Y_M_receiptsOf [.inr (.inr a0), .inl a1] h (some (.inl z), h) := by
  refine PM.of (Y := Y_M_receiptsOf) (cv := (fun z : Int32 => (((some (.inl z), h) : Option PV × PH)))) (by decide) (L0 := [some (.inr (.inr a0)), some (.inl a1), none, none]) 2 rfl (Nat.le_of_ble_eq_true rfl) ?_ hz
  unfold f_M_receiptsOf
  refine PJ.iconst (pc := 0) (v := 0) d_M_receiptsOf_0 (by decide) ?_
  refine PJ.istore_n (pc := 1) (L1 := [some (.inr (.inr a0)), some (.inl a1), some (.inl (0 : Int32)), none]) d_M_receiptsOf_1 (Nat.le_of_ble_eq_true rfl) rfl rfl ?_
  refine PJ.iconst (pc := 2) (v := 0) d_M_receiptsOf_2 (by decide) ?_
  refine PJ.istore_n (pc := 3) (L1 := [some (.inr (.inr a0)), some (.inl a1), some (.inl (0 : Int32)), some (.inl (0 : Int32))]) d_M_receiptsOf_3 (Nat.le_of_ble_eq_true rfl) rfl rfl ?_
  refine PJ.bind (fun x2 : Int32 => ((42 : Nat), ([none, none, some (.inl x2), none] : List (Option PV)), ([] : List PV), (h : PH), (0 : Nat), (0 : Nat))) (PJ.it (E := (fun s1 : Int32 × Int32 => ((4 : Nat), ([some (.inr (.inr a0)), some (.inl a1), some (.inl s1.1), some (.inl s1.2)] : List (Option PV)), ([] : List PV), (h : PH), (0 : Nat), (0 : Nat)))) (F := (fun x2 : Int32 => ((42 : Nat), ([none, none, some (.inl x2), none] : List (Option PV)), ([] : List PV), (h : PH), (0 : Nat), (0 : Nat)))) (fun s1 => ?_) FU ((0 : Int32), (0 : Int32))) (fun x2 => ?_)
  · show PJ l G (pj_rm 1 0 0) Y_M_receiptsOf 4 [some (.inr (.inr a0)), some (.inl a1), some (.inl s1.1), some (.inl s1.2)] [] h 0 0 _ _
    refine PJ.iload_n (pc := 4) d_M_receiptsOf_4 rfl ?_
    refine PJ.aload_n (pc := 5) d_M_receiptsOf_5 rfl ?_
    refine PJ.getR (pc := 6) fs_M_341 d_M_receiptsOf_6 (fun v3 => ?_)
    refine PJ.getI (pc := 9) fs_M_302 d_M_receiptsOf_9 (fun v4 => ?_)
    refine PJ.icmp_ge (pc := 12) (tgt := 42) d_M_receiptsOf_12 (by decide) (fun _ => ?_) (fun _ => ?_)
    · refine PJ.mk (L1 := [none, none, some (.inl s1.1), none]) [false, false, true, false] rfl ?_
      exact PJ.done rfl
    · refine PJ.iload_n (pc := 15) d_M_receiptsOf_15 rfl ?_
      refine PJ.aload_n (pc := 16) d_M_receiptsOf_16 rfl ?_
      refine PJ.getR (pc := 17) fs_M_341 d_M_receiptsOf_17 (fun v5 => ?_)
      refine PJ.getR (pc := 20) fs_M_309 d_M_receiptsOf_20 (fun v6 => ?_)
      refine PJ.iload_n (pc := 23) d_M_receiptsOf_23 rfl ?_
      refine PJ.iald (pc := 24) d_M_receiptsOf_24 (fun v7 => ?_)
      refine PJ.iload_n (pc := 25) d_M_receiptsOf_25 rfl ?_
      refine PJ.bind (fun j8 : Int32 => ((34 : Nat), ([some (.inr (.inr a0)), some (.inl a1), none, some (.inl s1.2)] : List (Option PV)), ([.inl j8, .inl s1.1] : List PV), (h : PH), (0 : Nat), (0 : Nat))) ?_ (fun j8 => ?_)
      · refine PJ.icmp_ne (pc := 26) (tgt := 33) d_M_receiptsOf_26 (by decide) (fun _ => ?_) (fun _ => ?_)
        · refine PJ.iconst (pc := 33) (v := 0) d_M_receiptsOf_33 (by decide) ?_
          refine PJ.mk (L1 := [some (.inr (.inr a0)), some (.inl a1), none, some (.inl s1.2)]) [true, true, false, true] rfl ?_
          exact PJ.done rfl
        · refine PJ.iconst (pc := 29) (v := 1) d_M_receiptsOf_29 (by decide) ?_
          refine PJ.goto (pc := 30) (tgt := 34) d_M_receiptsOf_30 (by decide) ?_
          refine PJ.mk (L1 := [some (.inr (.inr a0)), some (.inl a1), none, some (.inl s1.2)]) [true, true, false, true] rfl ?_
          exact PJ.done rfl
      · show PJ l G (pj_rm 1 0 0) Y_M_receiptsOf 34 [some (.inr (.inr a0)), some (.inl a1), none, some (.inl s1.2)] [.inl j8, .inl s1.1] h 0 0 _ _
        refine PJ.iadd (pc := 34) d_M_receiptsOf_34 ?_
        refine PJ.istore_n (pc := 35) (L1 := [some (.inr (.inr a0)), some (.inl a1), some (.inl (s1.1 + j8)), some (.inl s1.2)]) d_M_receiptsOf_35 (Nat.le_of_ble_eq_true rfl) rfl rfl ?_
        refine PJ.iinc (pc := 36) (v := 1) (L1 := [some (.inr (.inr a0)), some (.inl a1), some (.inl (s1.1 + j8)), some (.inl (s1.2 + (1 : Int32)))]) d_M_receiptsOf_36 rfl (by decide) (Nat.le_of_ble_eq_true rfl) rfl rfl ?_
        refine PJ.goto (pc := 39) (tgt := 4) d_M_receiptsOf_39 (by decide) ?_
        exact PJ.done rfl
  · show PJ l G (pj_rm 1 0 0) Y_M_receiptsOf 42 [none, none, some (.inl x2), none] [] h 0 0 _ _
    refine PJ.iload_n (pc := 42) d_M_receiptsOf_42 rfl ?_
    exact PJ.iretp (pc := 43) d_M_receiptsOf_43 rfl (Nat.le_of_ble_eq_true rfl) (Nat.le_of_ble_eq_true rfl)
theorem d_M_fits_0 : decode Y_M_fits.2.1 0 = .ok (.aload_n 0, 1) := by decide +kernel
theorem d_M_fits_1 : decode Y_M_fits.2.1 1 = .ok (.getfield 341, 3) := by decide +kernel
theorem d_M_fits_4 : decode Y_M_fits.2.1 4 = .ok (.getfield 270, 3) := by decide +kernel
theorem d_M_fits_7 : decode Y_M_fits.2.1 7 = .ok (.iload_n 1, 1) := by decide +kernel
theorem d_M_fits_8 : decode Y_M_fits.2.1 8 = .ok (.iaload, 1) := by decide +kernel
theorem d_M_fits_9 : decode Y_M_fits.2.1 9 = .ok (.istore_n 2, 1) := by decide +kernel
theorem d_M_fits_10 : decode Y_M_fits.2.1 10 = .ok (.iconst 0, 1) := by decide +kernel
theorem d_M_fits_11 : decode Y_M_fits.2.1 11 = .ok (.istore_n 3, 1) := by decide +kernel
theorem d_M_fits_12 : decode Y_M_fits.2.1 12 = .ok (.iconst (-1), 1) := by decide +kernel
theorem d_M_fits_13 : decode Y_M_fits.2.1 13 = .ok (.istore 4, 2) := by decide +kernel
theorem d_M_fits_15 : decode Y_M_fits.2.1 15 = .ok (.iconst 0, 1) := by decide +kernel
theorem d_M_fits_16 : decode Y_M_fits.2.1 16 = .ok (.istore 5, 2) := by decide +kernel
theorem d_M_fits_18 : decode Y_M_fits.2.1 18 = .ok (.iload 5, 2) := by decide +kernel
theorem d_M_fits_20 : decode Y_M_fits.2.1 20 = .ok (.aload_n 0, 1) := by decide +kernel
theorem d_M_fits_21 : decode Y_M_fits.2.1 21 = .ok (.getfield 341, 3) := by decide +kernel
theorem d_M_fits_24 : decode Y_M_fits.2.1 24 = .ok (.getfield 302, 3) := by decide +kernel
theorem d_M_fits_27 : decode Y_M_fits.2.1 27 = .ok (.if_icmp .ge 112, 3) := by decide +kernel
theorem d_M_fits_30 : decode Y_M_fits.2.1 30 = .ok (.aload_n 0, 1) := by decide +kernel
theorem d_M_fits_31 : decode Y_M_fits.2.1 31 = .ok (.getfield 341, 3) := by decide +kernel
theorem d_M_fits_34 : decode Y_M_fits.2.1 34 = .ok (.getfield 309, 3) := by decide +kernel
theorem d_M_fits_37 : decode Y_M_fits.2.1 37 = .ok (.iload 5, 2) := by decide +kernel
theorem d_M_fits_39 : decode Y_M_fits.2.1 39 = .ok (.iaload, 1) := by decide +kernel
theorem d_M_fits_40 : decode Y_M_fits.2.1 40 = .ok (.iload_n 1, 1) := by decide +kernel
theorem d_M_fits_41 : decode Y_M_fits.2.1 41 = .ok (.if_icmp .eq 6, 3) := by decide +kernel
theorem d_M_fits_44 : decode Y_M_fits.2.1 44 = .ok (.goto 89, 3) := by decide +kernel
theorem d_M_fits_47 : decode Y_M_fits.2.1 47 = .ok (.aload_n 0, 1) := by decide +kernel
theorem d_M_fits_48 : decode Y_M_fits.2.1 48 = .ok (.getfield 37, 3) := by decide +kernel
theorem d_M_fits_51 : decode Y_M_fits.2.1 51 = .ok (.iload 5, 2) := by decide +kernel
theorem d_M_fits_53 : decode Y_M_fits.2.1 53 = .ok (.iaload, 1) := by decide +kernel
theorem d_M_fits_54 : decode Y_M_fits.2.1 54 = .ok (.iload_n 2, 1) := by decide +kernel
theorem d_M_fits_55 : decode Y_M_fits.2.1 55 = .ok (.if_icmp .eq 53, 3) := by decide +kernel
theorem d_M_fits_58 : decode Y_M_fits.2.1 58 = .ok (.aload_n 0, 1) := by decide +kernel
theorem d_M_fits_59 : decode Y_M_fits.2.1 59 = .ok (.iload_n 1, 1) := by decide +kernel
theorem d_M_fits_60 : decode Y_M_fits.2.1 60 = .ok (.iload_n 2, 1) := by decide +kernel
theorem d_M_fits_61 : decode Y_M_fits.2.1 61 = .ok (.aload_n 0, 1) := by decide +kernel
theorem d_M_fits_62 : decode Y_M_fits.2.1 62 = .ok (.getfield 37, 3) := by decide +kernel
theorem d_M_fits_65 : decode Y_M_fits.2.1 65 = .ok (.iload 5, 2) := by decide +kernel
theorem d_M_fits_67 : decode Y_M_fits.2.1 67 = .ok (.iaload, 1) := by decide +kernel
theorem d_M_fits_68 : decode Y_M_fits.2.1 68 = .ok (.iload_n 3, 1) := by decide +kernel
theorem d_M_fits_69 : decode Y_M_fits.2.1 69 = .ok (.iload 4, 2) := by decide +kernel
theorem d_M_fits_71 : decode Y_M_fits.2.1 71 = .ok (.iconst (-1), 1) := by decide +kernel
theorem d_M_fits_72 : decode Y_M_fits.2.1 72 = .ok (.if_icmp .ne 7, 3) := by decide +kernel
theorem d_M_fits_75 : decode Y_M_fits.2.1 75 = .ok (.iconst (-1), 1) := by decide +kernel
theorem d_M_fits_76 : decode Y_M_fits.2.1 76 = .ok (.goto 16, 3) := by decide +kernel
theorem d_M_fits_79 : decode Y_M_fits.2.1 79 = .ok (.aload_n 0, 1) := by decide +kernel
theorem d_M_fits_80 : decode Y_M_fits.2.1 80 = .ok (.getfield 341, 3) := by decide +kernel
theorem d_M_fits_83 : decode Y_M_fits.2.1 83 = .ok (.getfield 315, 3) := by decide +kernel
theorem d_M_fits_86 : decode Y_M_fits.2.1 86 = .ok (.iload 5, 2) := by decide +kernel
theorem d_M_fits_88 : decode Y_M_fits.2.1 88 = .ok (.iaload, 1) := by decide +kernel
theorem d_M_fits_89 : decode Y_M_fits.2.1 89 = .ok (.iload 4, 2) := by decide +kernel
theorem d_M_fits_91 : decode Y_M_fits.2.1 91 = .ok (.isub, 1) := by decide +kernel
theorem d_M_fits_92 : decode Y_M_fits.2.1 92 = .ok (.invokevirtual 355, 3) := by decide +kernel
theorem d_M_fits_95 : decode Y_M_fits.2.1 95 = .ok (.aload_n 0, 1) := by decide +kernel
theorem d_M_fits_96 : decode Y_M_fits.2.1 96 = .ok (.getfield 341, 3) := by decide +kernel
theorem d_M_fits_99 : decode Y_M_fits.2.1 99 = .ok (.getfield 312, 3) := by decide +kernel
theorem d_M_fits_102 : decode Y_M_fits.2.1 102 = .ok (.iload 5, 2) := by decide +kernel
theorem d_M_fits_104 : decode Y_M_fits.2.1 104 = .ok (.iaload, 1) := by decide +kernel
theorem d_M_fits_105 : decode Y_M_fits.2.1 105 = .ok (.if_icmp .eq 5, 3) := by decide +kernel
theorem d_M_fits_108 : decode Y_M_fits.2.1 108 = .ok (.iconst 0, 1) := by decide +kernel
theorem d_M_fits_109 : decode Y_M_fits.2.1 109 = .ok (.ireturn, 1) := by decide +kernel
theorem d_M_fits_110 : decode Y_M_fits.2.1 110 = .ok (.aload_n 0, 1) := by decide +kernel
theorem d_M_fits_111 : decode Y_M_fits.2.1 111 = .ok (.getfield 37, 3) := by decide +kernel
theorem d_M_fits_114 : decode Y_M_fits.2.1 114 = .ok (.iload 5, 2) := by decide +kernel
theorem d_M_fits_116 : decode Y_M_fits.2.1 116 = .ok (.iaload, 1) := by decide +kernel
theorem d_M_fits_117 : decode Y_M_fits.2.1 117 = .ok (.istore_n 2, 1) := by decide +kernel
theorem d_M_fits_118 : decode Y_M_fits.2.1 118 = .ok (.iinc 3 1, 3) := by decide +kernel
theorem d_M_fits_121 : decode Y_M_fits.2.1 121 = .ok (.aload_n 0, 1) := by decide +kernel
theorem d_M_fits_122 : decode Y_M_fits.2.1 122 = .ok (.getfield 341, 3) := by decide +kernel
theorem d_M_fits_125 : decode Y_M_fits.2.1 125 = .ok (.getfield 315, 3) := by decide +kernel
theorem d_M_fits_128 : decode Y_M_fits.2.1 128 = .ok (.iload 5, 2) := by decide +kernel
theorem d_M_fits_130 : decode Y_M_fits.2.1 130 = .ok (.iaload, 1) := by decide +kernel
theorem d_M_fits_131 : decode Y_M_fits.2.1 131 = .ok (.istore 4, 2) := by decide +kernel
theorem d_M_fits_133 : decode Y_M_fits.2.1 133 = .ok (.iinc 5 1, 3) := by decide +kernel
theorem d_M_fits_136 : decode Y_M_fits.2.1 136 = .ok (.goto (-118), 3) := by decide +kernel
theorem d_M_fits_139 : decode Y_M_fits.2.1 139 = .ok (.iconst 1, 1) := by decide +kernel
theorem d_M_fits_140 : decode Y_M_fits.2.1 140 = .ok (.ireturn, 1) := by decide +kernel
def f_M_fits (h : PH) (a0 : Option Nat) (a1 : Int32) : Option Int32 := (gR h 12 a0 3).bind fun v1 => (gR h 11 v1 12).bind fun v2 => (aI h v2 a1).bind fun v3 => (pj_it (X := (Unit) ⊕ (Unit)) (fun s4 : Int32 × Int32 × Int32 × Int32 => (gR h 12 a0 3).bind fun v6 => (gI h 11 v6 6).bind fun v7 => if v7 ≤ s4.2.2.2 then (some (.inr (.inl ()))) else ((gR h 12 a0 3).bind fun v8 => (gR h 11 v8 19).bind fun v9 => (aI h v9 s4.2.2.2).bind fun v10 => if v10 = a1 then ((gR h 12 a0 25).bind fun v11 => (aI h v11 s4.2.2.2).bind fun v12 => if v12 = s4.1 then (some (.inr (.inr ()))) else ((gR h 12 a0 25).bind fun v13 => (aI h v13 s4.2.2.2).bind fun v14 => (if ¬ s4.2.2.1 = (-1 : Int32) then ((gR h 12 a0 3).bind fun v16 => (gR h 11 v16 21).bind fun v17 => (aI h v17 s4.2.2.2).bind fun v18 => some (v18 - s4.2.2.1)) else (some (-1 : Int32)) : Option (Int32)).bind fun j15 => (cl h 12 a0 (f_M_taxBy h a0 a1 s4.1 v14 s4.2.1 j15)).bind fun v19 => (gR h 12 a0 3).bind fun v20 => (gR h 11 v20 20).bind fun v21 => (aI h v21 s4.2.2.2).bind fun v22 => if v19 = v22 then ((gR h 12 a0 25).bind fun v23 => (aI h v23 s4.2.2.2).bind fun v24 => (gR h 12 a0 3).bind fun v25 => (gR h 11 v25 21).bind fun v26 => (aI h v26 s4.2.2.2).bind fun v27 => some (.inl (v24, (s4.2.1 + (1 : Int32)), v27, (s4.2.2.2 + (1 : Int32))))) else (some (.inr (.inr ()))))) else (some (.inl (s4.1, s4.2.1, s4.2.2.1, (s4.2.2.2 + (1 : Int32))))))) FU (v3, (0 : Int32), (-1 : Int32), (0 : Int32))).bind fun x5 => match x5 with | (.inl yx5_0) => some (1 : Int32) | (.inr yx5_1) => some (0 : Int32)
set_option maxRecDepth 20000 in
theorem PM_M_fits {l : Launch} {G : Cx} {h : PH} {a0 : Option Nat} {a1 : Int32} {z : Int32} (hz : f_M_fits h a0 a1 = some z) : PM l G 3 0 0 Y_M_fits [.inr (.inr a0), .inl a1] h (some (.inl z), h) := by
  refine PM.of (Y := Y_M_fits) (cv := (fun z : Int32 => (((some (.inl z), h) : Option PV × PH)))) (by decide) (L0 := [some (.inr (.inr a0)), some (.inl a1), none, none, none, none]) 4 rfl (Nat.le_of_ble_eq_true rfl) ?_ hz
  unfold f_M_fits
  refine PJ.aload_n (pc := 0) d_M_fits_0 rfl ?_
  refine PJ.getR (pc := 1) fs_M_341 d_M_fits_1 (fun v1 => ?_)
  refine PJ.getR (pc := 4) fs_M_270 d_M_fits_4 (fun v2 => ?_)
  refine PJ.iload_n (pc := 7) d_M_fits_7 rfl ?_
  refine PJ.iald (pc := 8) d_M_fits_8 (fun v3 => ?_)
  refine PJ.istore_n (pc := 9) (L1 := [some (.inr (.inr a0)), some (.inl a1), some (.inl v3), none, none, none]) d_M_fits_9 (Nat.le_of_ble_eq_true rfl) rfl rfl ?_
  refine PJ.iconst (pc := 10) (v := 0) d_M_fits_10 (by decide) ?_
  refine PJ.istore_n (pc := 11) (L1 := [some (.inr (.inr a0)), some (.inl a1), some (.inl v3), some (.inl (0 : Int32)), none, none]) d_M_fits_11 (Nat.le_of_ble_eq_true rfl) rfl rfl ?_
  refine PJ.iconst (pc := 12) (v := -1) d_M_fits_12 (by decide) ?_
  refine PJ.istore (pc := 13) (L1 := [some (.inr (.inr a0)), some (.inl a1), some (.inl v3), some (.inl (0 : Int32)), some (.inl (-1 : Int32)), none]) d_M_fits_13 (Nat.le_of_ble_eq_true rfl) rfl rfl ?_
  refine PJ.iconst (pc := 15) (v := 0) d_M_fits_15 (by decide) ?_
  refine PJ.istore (pc := 16) (L1 := [some (.inr (.inr a0)), some (.inl a1), some (.inl v3), some (.inl (0 : Int32)), some (.inl (-1 : Int32)), some (.inl (0 : Int32))]) d_M_fits_16 (Nat.le_of_ble_eq_true rfl) rfl rfl ?_
  refine PJ.bind (fun x5 : (Unit) ⊕ (Unit) => match x5 with | (.inl y0) => ((139 : Nat), ([none, none, none, none, none, none] : List (Option PV)), ([] : List PV), (h : PH), (0 : Nat), (0 : Nat)) | (.inr y1) => ((108 : Nat), ([none, none, none, none, none, none] : List (Option PV)), ([] : List PV), (h : PH), (0 : Nat), (0 : Nat))) (PJ.it (E := (fun s4 : Int32 × Int32 × Int32 × Int32 => ((18 : Nat), ([some (.inr (.inr a0)), some (.inl a1), some (.inl s4.1), some (.inl s4.2.1), some (.inl s4.2.2.1), some (.inl s4.2.2.2)] : List (Option PV)), ([] : List PV), (h : PH), (0 : Nat), (0 : Nat)))) (F := (fun x5 : (Unit) ⊕ (Unit) => match x5 with | (.inl y0) => ((139 : Nat), ([none, none, none, none, none, none] : List (Option PV)), ([] : List PV), (h : PH), (0 : Nat), (0 : Nat)) | (.inr y1) => ((108 : Nat), ([none, none, none, none, none, none] : List (Option PV)), ([] : List PV), (h : PH), (0 : Nat), (0 : Nat)))) (fun s4 => ?_) FU (v3, (0 : Int32), (-1 : Int32), (0 : Int32))) (fun x5 => ?_)
  · show PJ l G (pj_rm 3 0 0) Y_M_fits 18 [some (.inr (.inr a0)), some (.inl a1), some (.inl s4.1), some (.inl s4.2.1), some (.inl s4.2.2.1), some (.inl s4.2.2.2)] [] h 0 0 _ _
    refine PJ.iload (pc := 18) d_M_fits_18 rfl ?_
    refine PJ.aload_n (pc := 20) d_M_fits_20 rfl ?_
    refine PJ.getR (pc := 21) fs_M_341 d_M_fits_21 (fun v6 => ?_)
    refine PJ.getI (pc := 24) fs_M_302 d_M_fits_24 (fun v7 => ?_)
    refine PJ.icmp_ge (pc := 27) (tgt := 139) d_M_fits_27 (by decide) (fun _ => ?_) (fun _ => ?_)
    · refine PJ.mk (L1 := [none, none, none, none, none, none]) [false, false, false, false, false, false] rfl ?_
      exact PJ.done rfl
    · refine PJ.aload_n (pc := 30) d_M_fits_30 rfl ?_
      refine PJ.getR (pc := 31) fs_M_341 d_M_fits_31 (fun v8 => ?_)
      refine PJ.getR (pc := 34) fs_M_309 d_M_fits_34 (fun v9 => ?_)
      refine PJ.iload (pc := 37) d_M_fits_37 rfl ?_
      refine PJ.iald (pc := 39) d_M_fits_39 (fun v10 => ?_)
      refine PJ.iload_n (pc := 40) d_M_fits_40 rfl ?_
      refine PJ.icmp_eq (pc := 41) (tgt := 47) d_M_fits_41 (by decide) (fun _ => ?_) (fun _ => ?_)
      · refine PJ.aload_n (pc := 47) d_M_fits_47 rfl ?_
        refine PJ.getR (pc := 48) fs_M_37 d_M_fits_48 (fun v11 => ?_)
        refine PJ.iload (pc := 51) d_M_fits_51 rfl ?_
        refine PJ.iald (pc := 53) d_M_fits_53 (fun v12 => ?_)
        refine PJ.iload_n (pc := 54) d_M_fits_54 rfl ?_
        refine PJ.icmp_eq (pc := 55) (tgt := 108) d_M_fits_55 (by decide) (fun _ => ?_) (fun _ => ?_)
        · refine PJ.mk (L1 := [none, none, none, none, none, none]) [false, false, false, false, false, false] rfl ?_
          exact PJ.done rfl
        · refine PJ.aload_n (pc := 58) d_M_fits_58 rfl ?_
          refine PJ.iload_n (pc := 59) d_M_fits_59 rfl ?_
          refine PJ.iload_n (pc := 60) d_M_fits_60 rfl ?_
          refine PJ.aload_n (pc := 61) d_M_fits_61 rfl ?_
          refine PJ.getR (pc := 62) fs_M_37 d_M_fits_62 (fun v13 => ?_)
          refine PJ.iload (pc := 65) d_M_fits_65 rfl ?_
          refine PJ.iald (pc := 67) d_M_fits_67 (fun v14 => ?_)
          refine PJ.iload_n (pc := 68) d_M_fits_68 rfl ?_
          refine PJ.iload (pc := 69) d_M_fits_69 rfl ?_
          refine PJ.iconst (pc := 71) (v := -1) d_M_fits_71 (by decide) ?_
          refine PJ.bind (fun j15 : Int32 => ((92 : Nat), ([some (.inr (.inr a0)), some (.inl a1), none, some (.inl s4.2.1), none, some (.inl s4.2.2.2)] : List (Option PV)), ([.inl j15, .inl s4.2.1, .inl v14, .inl s4.1, .inl a1, .inr (.inr a0)] : List PV), (h : PH), (0 : Nat), (0 : Nat))) ?_ (fun j15 => ?_)
          · refine PJ.icmp_ne (pc := 72) (tgt := 79) d_M_fits_72 (by decide) (fun _ => ?_) (fun _ => ?_)
            · refine PJ.aload_n (pc := 79) d_M_fits_79 rfl ?_
              refine PJ.getR (pc := 80) fs_M_341 d_M_fits_80 (fun v16 => ?_)
              refine PJ.getR (pc := 83) fs_M_315 d_M_fits_83 (fun v17 => ?_)
              refine PJ.iload (pc := 86) d_M_fits_86 rfl ?_
              refine PJ.iald (pc := 88) d_M_fits_88 (fun v18 => ?_)
              refine PJ.iload (pc := 89) d_M_fits_89 rfl ?_
              refine PJ.isub (pc := 91) d_M_fits_91 ?_
              refine PJ.mk (L1 := [some (.inr (.inr a0)), some (.inl a1), none, some (.inl s4.2.1), none, some (.inl s4.2.2.2)]) [true, true, false, true, false, true] rfl ?_
              exact PJ.done rfl
            · refine PJ.iconst (pc := 75) (v := -1) d_M_fits_75 (by decide) ?_
              refine PJ.goto (pc := 76) (tgt := 92) d_M_fits_76 (by decide) ?_
              refine PJ.mk (L1 := [some (.inr (.inr a0)), some (.inl a1), none, some (.inl s4.2.1), none, some (.inl s4.2.2.2)]) [true, true, false, true, false, true] rfl ?_
              exact PJ.done rfl
          · show PJ l G (pj_rm 3 0 0) Y_M_fits 92 [some (.inr (.inr a0)), some (.inl a1), none, some (.inl s4.2.1), none, some (.inl s4.2.2.2)] [.inl j15, .inl s4.2.1, .inl v14, .inl s4.1, .inl a1, .inr (.inr a0)] h 0 0 _ _
            refine PJ.cVpI (pc := 92) cs_M_355 (fun z hz => PM_M_taxBy hz) (pj_fitb rfl) rfl rfl (Nat.le_of_ble_eq_true rfl) d_M_fits_92 (fun v19 => ?_)
            refine PJ.aload_n (pc := 95) d_M_fits_95 rfl ?_
            refine PJ.getR (pc := 96) fs_M_341 d_M_fits_96 (fun v20 => ?_)
            refine PJ.getR (pc := 99) fs_M_312 d_M_fits_99 (fun v21 => ?_)
            refine PJ.iload (pc := 102) d_M_fits_102 rfl ?_
            refine PJ.iald (pc := 104) d_M_fits_104 (fun v22 => ?_)
            refine PJ.icmp_eq (pc := 105) (tgt := 110) d_M_fits_105 (by decide) (fun _ => ?_) (fun _ => ?_)
            · refine PJ.aload_n (pc := 110) d_M_fits_110 rfl ?_
              refine PJ.getR (pc := 111) fs_M_37 d_M_fits_111 (fun v23 => ?_)
              refine PJ.iload (pc := 114) d_M_fits_114 rfl ?_
              refine PJ.iald (pc := 116) d_M_fits_116 (fun v24 => ?_)
              refine PJ.istore_n (pc := 117) (L1 := [some (.inr (.inr a0)), some (.inl a1), some (.inl v24), some (.inl s4.2.1), none, some (.inl s4.2.2.2)]) d_M_fits_117 (Nat.le_of_ble_eq_true rfl) rfl rfl ?_
              refine PJ.iinc (pc := 118) (v := 1) (L1 := [some (.inr (.inr a0)), some (.inl a1), some (.inl v24), some (.inl (s4.2.1 + (1 : Int32))), none, some (.inl s4.2.2.2)]) d_M_fits_118 rfl (by decide) (Nat.le_of_ble_eq_true rfl) rfl rfl ?_
              refine PJ.aload_n (pc := 121) d_M_fits_121 rfl ?_
              refine PJ.getR (pc := 122) fs_M_341 d_M_fits_122 (fun v25 => ?_)
              refine PJ.getR (pc := 125) fs_M_315 d_M_fits_125 (fun v26 => ?_)
              refine PJ.iload (pc := 128) d_M_fits_128 rfl ?_
              refine PJ.iald (pc := 130) d_M_fits_130 (fun v27 => ?_)
              refine PJ.istore (pc := 131) (L1 := [some (.inr (.inr a0)), some (.inl a1), some (.inl v24), some (.inl (s4.2.1 + (1 : Int32))), some (.inl v27), some (.inl s4.2.2.2)]) d_M_fits_131 (Nat.le_of_ble_eq_true rfl) rfl rfl ?_
              refine PJ.iinc (pc := 133) (v := 1) (L1 := [some (.inr (.inr a0)), some (.inl a1), some (.inl v24), some (.inl (s4.2.1 + (1 : Int32))), some (.inl v27), some (.inl (s4.2.2.2 + (1 : Int32)))]) d_M_fits_133 rfl (by decide) (Nat.le_of_ble_eq_true rfl) rfl rfl ?_
              refine PJ.goto (pc := 136) (tgt := 18) d_M_fits_136 (by decide) ?_
              exact PJ.done rfl
            · refine PJ.mk (L1 := [none, none, none, none, none, none]) [false, false, false, false, false, false] rfl ?_
              exact PJ.done rfl
      · refine PJ.goto (pc := 44) (tgt := 133) d_M_fits_44 (by decide) ?_
        refine PJ.iinc (pc := 133) (v := 1) (L1 := [some (.inr (.inr a0)), some (.inl a1), some (.inl s4.1), some (.inl s4.2.1), some (.inl s4.2.2.1), some (.inl (s4.2.2.2 + (1 : Int32)))]) d_M_fits_133 rfl (by decide) (Nat.le_of_ble_eq_true rfl) rfl rfl ?_
        refine PJ.goto (pc := 136) (tgt := 18) d_M_fits_136 (by decide) ?_
        exact PJ.done rfl
  · rcases x5 with yx5_0 | yx5_1
    · show PJ l G (pj_rm 3 0 0) Y_M_fits 139 [none, none, none, none, none, none] [] h 0 0 _ _
      refine PJ.iconst (pc := 139) (v := 1) d_M_fits_139 (by decide) ?_
      exact PJ.zretp (pc := 140) d_M_fits_140 rfl rfl (Nat.le_of_ble_eq_true rfl) (Nat.le_of_ble_eq_true rfl)
    · show PJ l G (pj_rm 3 0 0) Y_M_fits 108 [none, none, none, none, none, none] [] h 0 0 _ _
      refine PJ.iconst (pc := 108) (v := 0) d_M_fits_108 (by decide) ?_
      exact PJ.zretp (pc := 109) d_M_fits_109 rfl rfl (Nat.le_of_ble_eq_true rfl) (Nat.le_of_ble_eq_true rfl)
theorem d_M_nextRow_0 : decode Y_M_nextRow.2.1 0 = .ok (.aload_n 0, 1) := by decide +kernel
theorem d_M_nextRow_1 : decode Y_M_nextRow.2.1 1 = .ok (.getfield 341, 3) := by decide +kernel
theorem d_M_nextRow_4 : decode Y_M_nextRow.2.1 4 = .ok (.getfield 302, 3) := by decide +kernel
theorem d_M_nextRow_7 : decode Y_M_nextRow.2.1 7 = .ok (.iconst 1, 1) := by decide +kernel
theorem d_M_nextRow_8 : decode Y_M_nextRow.2.1 8 = .ok (.isub, 1) := by decide +kernel
theorem d_M_nextRow_9 : decode Y_M_nextRow.2.1 9 = .ok (.istore_n 2, 1) := by decide +kernel
theorem d_M_nextRow_10 : decode Y_M_nextRow.2.1 10 = .ok (.iload_n 2, 1) := by decide +kernel
theorem d_M_nextRow_11 : decode Y_M_nextRow.2.1 11 = .ok (.ifCond .lt 60, 3) := by decide +kernel
theorem d_M_nextRow_14 : decode Y_M_nextRow.2.1 14 = .ok (.aload_n 0, 1) := by decide +kernel
theorem d_M_nextRow_15 : decode Y_M_nextRow.2.1 15 = .ok (.getfield 341, 3) := by decide +kernel
theorem d_M_nextRow_18 : decode Y_M_nextRow.2.1 18 = .ok (.getfield 309, 3) := by decide +kernel
theorem d_M_nextRow_21 : decode Y_M_nextRow.2.1 21 = .ok (.iload_n 2, 1) := by decide +kernel
theorem d_M_nextRow_22 : decode Y_M_nextRow.2.1 22 = .ok (.iaload, 1) := by decide +kernel
theorem d_M_nextRow_23 : decode Y_M_nextRow.2.1 23 = .ok (.iload_n 1, 1) := by decide +kernel
theorem d_M_nextRow_24 : decode Y_M_nextRow.2.1 24 = .ok (.if_icmp .eq 6, 3) := by decide +kernel
theorem d_M_nextRow_27 : decode Y_M_nextRow.2.1 27 = .ok (.goto 38, 3) := by decide +kernel
theorem d_M_nextRow_30 : decode Y_M_nextRow.2.1 30 = .ok (.aload_n 0, 1) := by decide +kernel
theorem d_M_nextRow_31 : decode Y_M_nextRow.2.1 31 = .ok (.getfield 37, 3) := by decide +kernel
theorem d_M_nextRow_34 : decode Y_M_nextRow.2.1 34 = .ok (.iload_n 2, 1) := by decide +kernel
theorem d_M_nextRow_35 : decode Y_M_nextRow.2.1 35 = .ok (.dup2, 1) := by decide +kernel
theorem d_M_nextRow_36 : decode Y_M_nextRow.2.1 36 = .ok (.iaload, 1) := by decide +kernel
theorem d_M_nextRow_37 : decode Y_M_nextRow.2.1 37 = .ok (.iconst 1, 1) := by decide +kernel
theorem d_M_nextRow_38 : decode Y_M_nextRow.2.1 38 = .ok (.iadd, 1) := by decide +kernel
theorem d_M_nextRow_39 : decode Y_M_nextRow.2.1 39 = .ok (.iastore, 1) := by decide +kernel
theorem d_M_nextRow_40 : decode Y_M_nextRow.2.1 40 = .ok (.aload_n 0, 1) := by decide +kernel
theorem d_M_nextRow_41 : decode Y_M_nextRow.2.1 41 = .ok (.getfield 37, 3) := by decide +kernel
theorem d_M_nextRow_44 : decode Y_M_nextRow.2.1 44 = .ok (.iload_n 2, 1) := by decide +kernel
theorem d_M_nextRow_45 : decode Y_M_nextRow.2.1 45 = .ok (.iaload, 1) := by decide +kernel
theorem d_M_nextRow_46 : decode Y_M_nextRow.2.1 46 = .ok (.aload_n 0, 1) := by decide +kernel
theorem d_M_nextRow_47 : decode Y_M_nextRow.2.1 47 = .ok (.getfield 341, 3) := by decide +kernel
theorem d_M_nextRow_50 : decode Y_M_nextRow.2.1 50 = .ok (.getfield 198, 3) := by decide +kernel
theorem d_M_nextRow_53 : decode Y_M_nextRow.2.1 53 = .ok (.if_icmp .ge 5, 3) := by decide +kernel
theorem d_M_nextRow_56 : decode Y_M_nextRow.2.1 56 = .ok (.iconst 1, 1) := by decide +kernel
theorem d_M_nextRow_57 : decode Y_M_nextRow.2.1 57 = .ok (.ireturn, 1) := by decide +kernel
theorem d_M_nextRow_58 : decode Y_M_nextRow.2.1 58 = .ok (.aload_n 0, 1) := by decide +kernel
theorem d_M_nextRow_59 : decode Y_M_nextRow.2.1 59 = .ok (.getfield 37, 3) := by decide +kernel
theorem d_M_nextRow_62 : decode Y_M_nextRow.2.1 62 = .ok (.iload_n 2, 1) := by decide +kernel
theorem d_M_nextRow_63 : decode Y_M_nextRow.2.1 63 = .ok (.iconst 0, 1) := by decide +kernel
theorem d_M_nextRow_64 : decode Y_M_nextRow.2.1 64 = .ok (.iastore, 1) := by decide +kernel
theorem d_M_nextRow_65 : decode Y_M_nextRow.2.1 65 = .ok (.iinc 2 (-1), 3) := by decide +kernel
theorem d_M_nextRow_68 : decode Y_M_nextRow.2.1 68 = .ok (.goto (-58), 3) := by decide +kernel
theorem d_M_nextRow_71 : decode Y_M_nextRow.2.1 71 = .ok (.iconst 0, 1) := by decide +kernel
theorem d_M_nextRow_72 : decode Y_M_nextRow.2.1 72 = .ok (.ireturn, 1) := by decide +kernel
def f_M_nextRow (h : PH) (a0 : Option Nat) (a1 : Int32) : Option (Int32 × PH) := (gR h 12 a0 3).bind fun v1 => (gI h 11 v1 6).bind fun v2 => (pj_it (X := (PH) ⊕ (PH)) (fun s3 : Int32 × PH => if s3.1 < 0 then (some (.inr (.inl s3.2))) else ((gR s3.2 12 a0 3).bind fun v5 => (gR s3.2 11 v5 19).bind fun v6 => (aI s3.2 v6 s3.1).bind fun v7 => if v7 = a1 then ((gR s3.2 12 a0 25).bind fun v8 => (aI s3.2 v8 s3.1).bind fun v9 => (sA s3.2 50 v8 s3.1 (.inl (v9 + (1 : Int32)))).bind fun h10 => (gR h10 12 a0 25).bind fun v11 => (aI h10 v11 s3.1).bind fun v12 => (gR h10 12 a0 3).bind fun v13 => (gI h10 11 v13 2).bind fun v14 => if v14 ≤ v12 then ((gR h10 12 a0 25).bind fun v15 => (sA h10 50 v15 s3.1 (.inl (0 : Int32))).bind fun h16 => some (.inl ((s3.1 + (-1 : Int32)), h16))) else (some (.inr (.inr h10)))) else (some (.inl ((s3.1 + (-1 : Int32)), s3.2))))) FU ((v2 - (1 : Int32)), h)).bind fun x4 => match x4 with | (.inl yx4_0) => some ((0 : Int32), yx4_0) | (.inr yx4_1) => some ((1 : Int32), yx4_1)
set_option maxRecDepth 20000 in
theorem PM_M_nextRow {l : Launch} {G : Cx} {h : PH} {a0 : Option Nat} {a1 : Int32} {z : (Int32 × PH)} (hz : f_M_nextRow h a0 a1 = some z) : PM l G 1 0 0 Y_M_nextRow [.inr (.inr a0), .inl a1] h (some (.inl z.1), z.2) := by
  refine PM.of (Y := Y_M_nextRow) (cv := (fun z : (Int32 × PH) => (((some (.inl z.1), z.2) : Option PV × PH)))) (by decide) (L0 := [some (.inr (.inr a0)), some (.inl a1), none]) 1 rfl (Nat.le_of_ble_eq_true rfl) ?_ hz
  unfold f_M_nextRow
  refine PJ.aload_n (pc := 0) d_M_nextRow_0 rfl ?_
  refine PJ.getR (pc := 1) fs_M_341 d_M_nextRow_1 (fun v1 => ?_)
  refine PJ.getI (pc := 4) fs_M_302 d_M_nextRow_4 (fun v2 => ?_)
  refine PJ.iconst (pc := 7) (v := 1) d_M_nextRow_7 (by decide) ?_
  refine PJ.isub (pc := 8) d_M_nextRow_8 ?_
  refine PJ.istore_n (pc := 9) (L1 := [some (.inr (.inr a0)), some (.inl a1), some (.inl (v2 - (1 : Int32)))]) d_M_nextRow_9 (Nat.le_of_ble_eq_true rfl) rfl rfl ?_
  refine PJ.bind (fun x4 : (PH) ⊕ (PH) => match x4 with | (.inl y0) => ((71 : Nat), ([none, none, none] : List (Option PV)), ([] : List PV), (y0 : PH), (0 : Nat), (0 : Nat)) | (.inr y1) => ((56 : Nat), ([none, none, none] : List (Option PV)), ([] : List PV), (y1 : PH), (0 : Nat), (0 : Nat))) (PJ.it (E := (fun s3 : Int32 × PH => ((10 : Nat), ([some (.inr (.inr a0)), some (.inl a1), some (.inl s3.1)] : List (Option PV)), ([] : List PV), (s3.2 : PH), (0 : Nat), (0 : Nat)))) (F := (fun x4 : (PH) ⊕ (PH) => match x4 with | (.inl y0) => ((71 : Nat), ([none, none, none] : List (Option PV)), ([] : List PV), (y0 : PH), (0 : Nat), (0 : Nat)) | (.inr y1) => ((56 : Nat), ([none, none, none] : List (Option PV)), ([] : List PV), (y1 : PH), (0 : Nat), (0 : Nat)))) (fun s3 => ?_) FU ((v2 - (1 : Int32)), h)) (fun x4 => ?_)
  · show PJ l G (pj_rm 1 0 0) Y_M_nextRow 10 [some (.inr (.inr a0)), some (.inl a1), some (.inl s3.1)] [] s3.2 0 0 _ _
    refine PJ.iload_n (pc := 10) d_M_nextRow_10 rfl ?_
    refine PJ.if_lt (pc := 11) (tgt := 71) d_M_nextRow_11 (by decide) (fun _ => ?_) (fun _ => ?_)
    · refine PJ.mk (L1 := [none, none, none]) [false, false, false] rfl ?_
      exact PJ.done rfl
    · refine PJ.aload_n (pc := 14) d_M_nextRow_14 rfl ?_
      refine PJ.getR (pc := 15) fs_M_341 d_M_nextRow_15 (fun v5 => ?_)
      refine PJ.getR (pc := 18) fs_M_309 d_M_nextRow_18 (fun v6 => ?_)
      refine PJ.iload_n (pc := 21) d_M_nextRow_21 rfl ?_
      refine PJ.iald (pc := 22) d_M_nextRow_22 (fun v7 => ?_)
      refine PJ.iload_n (pc := 23) d_M_nextRow_23 rfl ?_
      refine PJ.icmp_eq (pc := 24) (tgt := 30) d_M_nextRow_24 (by decide) (fun _ => ?_) (fun _ => ?_)
      · refine PJ.aload_n (pc := 30) d_M_nextRow_30 rfl ?_
        refine PJ.getR (pc := 31) fs_M_37 d_M_nextRow_31 (fun v8 => ?_)
        refine PJ.iload_n (pc := 34) d_M_nextRow_34 rfl ?_
        refine PJ.dup2 (pc := 35) d_M_nextRow_35 rfl rfl ?_
        refine PJ.iald (pc := 36) d_M_nextRow_36 (fun v9 => ?_)
        refine PJ.iconst (pc := 37) (v := 1) d_M_nextRow_37 (by decide) ?_
        refine PJ.iadd (pc := 38) d_M_nextRow_38 ?_
        refine PJ.iast (pc := 39) d_M_nextRow_39 (fun h10 => ?_)
        refine PJ.aload_n (pc := 40) d_M_nextRow_40 rfl ?_
        refine PJ.getR (pc := 41) fs_M_37 d_M_nextRow_41 (fun v11 => ?_)
        refine PJ.iload_n (pc := 44) d_M_nextRow_44 rfl ?_
        refine PJ.iald (pc := 45) d_M_nextRow_45 (fun v12 => ?_)
        refine PJ.aload_n (pc := 46) d_M_nextRow_46 rfl ?_
        refine PJ.getR (pc := 47) fs_M_341 d_M_nextRow_47 (fun v13 => ?_)
        refine PJ.getI (pc := 50) fs_M_198 d_M_nextRow_50 (fun v14 => ?_)
        refine PJ.icmp_ge (pc := 53) (tgt := 58) d_M_nextRow_53 (by decide) (fun _ => ?_) (fun _ => ?_)
        · refine PJ.aload_n (pc := 58) d_M_nextRow_58 rfl ?_
          refine PJ.getR (pc := 59) fs_M_37 d_M_nextRow_59 (fun v15 => ?_)
          refine PJ.iload_n (pc := 62) d_M_nextRow_62 rfl ?_
          refine PJ.iconst (pc := 63) (v := 0) d_M_nextRow_63 (by decide) ?_
          refine PJ.iast (pc := 64) d_M_nextRow_64 (fun h16 => ?_)
          refine PJ.iinc (pc := 65) (v := -1) (L1 := [some (.inr (.inr a0)), some (.inl a1), some (.inl (s3.1 + (-1 : Int32)))]) d_M_nextRow_65 rfl (by decide) (Nat.le_of_ble_eq_true rfl) rfl rfl ?_
          refine PJ.goto (pc := 68) (tgt := 10) d_M_nextRow_68 (by decide) ?_
          exact PJ.done rfl
        · refine PJ.mk (L1 := [none, none, none]) [false, false, false] rfl ?_
          exact PJ.done rfl
      · refine PJ.goto (pc := 27) (tgt := 65) d_M_nextRow_27 (by decide) ?_
        refine PJ.iinc (pc := 65) (v := -1) (L1 := [some (.inr (.inr a0)), some (.inl a1), some (.inl (s3.1 + (-1 : Int32)))]) d_M_nextRow_65 rfl (by decide) (Nat.le_of_ble_eq_true rfl) rfl rfl ?_
        refine PJ.goto (pc := 68) (tgt := 10) d_M_nextRow_68 (by decide) ?_
        exact PJ.done rfl
  · rcases x4 with yx4_0 | yx4_1
    · show PJ l G (pj_rm 1 0 0) Y_M_nextRow 71 [none, none, none] [] yx4_0 0 0 _ _
      refine PJ.iconst (pc := 71) (v := 0) d_M_nextRow_71 (by decide) ?_
      exact PJ.zret (pc := 72) d_M_nextRow_72 rfl rfl (Nat.le_of_ble_eq_true rfl) (Nat.le_of_ble_eq_true rfl)
    · show PJ l G (pj_rm 1 0 0) Y_M_nextRow 56 [none, none, none] [] yx4_1 0 0 _ _
      refine PJ.iconst (pc := 56) (v := 1) d_M_nextRow_56 (by decide) ?_
      exact PJ.zret (pc := 57) d_M_nextRow_57 rfl rfl (Nat.le_of_ble_eq_true rfl) (Nat.le_of_ble_eq_true rfl)
theorem d_M_rowsOf_0 : decode Y_M_rowsOf.2.1 0 = .ok (.aload_n 0, 1) := by decide +kernel
theorem d_M_rowsOf_1 : decode Y_M_rowsOf.2.1 1 = .ok (.invokevirtual 375, 3) := by decide +kernel
theorem d_M_rowsOf_4 : decode Y_M_rowsOf.2.1 4 = .ok (.aload_n 0, 1) := by decide +kernel
theorem d_M_rowsOf_5 : decode Y_M_rowsOf.2.1 5 = .ok (.iconst 0, 1) := by decide +kernel
theorem d_M_rowsOf_6 : decode Y_M_rowsOf.2.1 6 = .ok (.putfield 462, 3) := by decide +kernel
theorem d_M_rowsOf_9 : decode Y_M_rowsOf.2.1 9 = .ok (.iconst 0, 1) := by decide +kernel
theorem d_M_rowsOf_10 : decode Y_M_rowsOf.2.1 10 = .ok (.istore_n 2, 1) := by decide +kernel
theorem d_M_rowsOf_11 : decode Y_M_rowsOf.2.1 11 = .ok (.iload_n 2, 1) := by decide +kernel
theorem d_M_rowsOf_12 : decode Y_M_rowsOf.2.1 12 = .ok (.bipush 25, 2) := by decide +kernel
theorem d_M_rowsOf_14 : decode Y_M_rowsOf.2.1 14 = .ok (.if_icmp .ge 16, 3) := by decide +kernel
theorem d_M_rowsOf_17 : decode Y_M_rowsOf.2.1 17 = .ok (.aload_n 0, 1) := by decide +kernel
theorem d_M_rowsOf_18 : decode Y_M_rowsOf.2.1 18 = .ok (.getfield 43, 3) := by decide +kernel
theorem d_M_rowsOf_21 : decode Y_M_rowsOf.2.1 21 = .ok (.iload_n 2, 1) := by decide +kernel
theorem d_M_rowsOf_22 : decode Y_M_rowsOf.2.1 22 = .ok (.iconst 0, 1) := by decide +kernel
theorem d_M_rowsOf_23 : decode Y_M_rowsOf.2.1 23 = .ok (.iastore, 1) := by decide +kernel
theorem d_M_rowsOf_24 : decode Y_M_rowsOf.2.1 24 = .ok (.iinc 2 1, 3) := by decide +kernel
theorem d_M_rowsOf_27 : decode Y_M_rowsOf.2.1 27 = .ok (.goto (-16), 3) := by decide +kernel
theorem d_M_rowsOf_30 : decode Y_M_rowsOf.2.1 30 = .ok (.iconst 0, 1) := by decide +kernel
theorem d_M_rowsOf_31 : decode Y_M_rowsOf.2.1 31 = .ok (.istore_n 2, 1) := by decide +kernel
theorem d_M_rowsOf_32 : decode Y_M_rowsOf.2.1 32 = .ok (.iload_n 2, 1) := by decide +kernel
theorem d_M_rowsOf_33 : decode Y_M_rowsOf.2.1 33 = .ok (.iconst 5, 1) := by decide +kernel
theorem d_M_rowsOf_34 : decode Y_M_rowsOf.2.1 34 = .ok (.if_icmp .ge 16, 3) := by decide +kernel
theorem d_M_rowsOf_37 : decode Y_M_rowsOf.2.1 37 = .ok (.aload_n 0, 1) := by decide +kernel
theorem d_M_rowsOf_38 : decode Y_M_rowsOf.2.1 38 = .ok (.getfield 37, 3) := by decide +kernel
theorem d_M_rowsOf_41 : decode Y_M_rowsOf.2.1 41 = .ok (.iload_n 2, 1) := by decide +kernel
theorem d_M_rowsOf_42 : decode Y_M_rowsOf.2.1 42 = .ok (.iconst 0, 1) := by decide +kernel
theorem d_M_rowsOf_43 : decode Y_M_rowsOf.2.1 43 = .ok (.iastore, 1) := by decide +kernel
theorem d_M_rowsOf_44 : decode Y_M_rowsOf.2.1 44 = .ok (.iinc 2 1, 3) := by decide +kernel
theorem d_M_rowsOf_47 : decode Y_M_rowsOf.2.1 47 = .ok (.goto (-15), 3) := by decide +kernel
theorem d_M_rowsOf_50 : decode Y_M_rowsOf.2.1 50 = .ok (.iconst 1, 1) := by decide +kernel
theorem d_M_rowsOf_51 : decode Y_M_rowsOf.2.1 51 = .ok (.istore_n 2, 1) := by decide +kernel
theorem d_M_rowsOf_52 : decode Y_M_rowsOf.2.1 52 = .ok (.iload_n 2, 1) := by decide +kernel
theorem d_M_rowsOf_53 : decode Y_M_rowsOf.2.1 53 = .ok (.ifCond .eq 113, 3) := by decide +kernel
theorem d_M_rowsOf_56 : decode Y_M_rowsOf.2.1 56 = .ok (.aload_n 0, 1) := by decide +kernel
theorem d_M_rowsOf_57 : decode Y_M_rowsOf.2.1 57 = .ok (.iload_n 1, 1) := by decide +kernel
theorem d_M_rowsOf_58 : decode Y_M_rowsOf.2.1 58 = .ok (.invokevirtual 465, 3) := by decide +kernel
theorem d_M_rowsOf_61 : decode Y_M_rowsOf.2.1 61 = .ok (.ifCond .eq 96, 3) := by decide +kernel
theorem d_M_rowsOf_64 : decode Y_M_rowsOf.2.1 64 = .ok (.aload_n 0, 1) := by decide +kernel
theorem d_M_rowsOf_65 : decode Y_M_rowsOf.2.1 65 = .ok (.getfield 462, 3) := by decide +kernel
theorem d_M_rowsOf_68 : decode Y_M_rowsOf.2.1 68 = .ok (.ifCond .ne 28, 3) := by decide +kernel
theorem d_M_rowsOf_71 : decode Y_M_rowsOf.2.1 71 = .ok (.iconst 0, 1) := by decide +kernel
theorem d_M_rowsOf_72 : decode Y_M_rowsOf.2.1 72 = .ok (.istore_n 3, 1) := by decide +kernel
theorem d_M_rowsOf_73 : decode Y_M_rowsOf.2.1 73 = .ok (.iload_n 3, 1) := by decide +kernel
theorem d_M_rowsOf_74 : decode Y_M_rowsOf.2.1 74 = .ok (.iconst 5, 1) := by decide +kernel
theorem d_M_rowsOf_75 : decode Y_M_rowsOf.2.1 75 = .ok (.if_icmp .ge 21, 3) := by decide +kernel
theorem d_M_rowsOf_78 : decode Y_M_rowsOf.2.1 78 = .ok (.aload_n 0, 1) := by decide +kernel
theorem d_M_rowsOf_79 : decode Y_M_rowsOf.2.1 79 = .ok (.getfield 40, 3) := by decide +kernel
theorem d_M_rowsOf_82 : decode Y_M_rowsOf.2.1 82 = .ok (.iload_n 3, 1) := by decide +kernel
theorem d_M_rowsOf_83 : decode Y_M_rowsOf.2.1 83 = .ok (.aload_n 0, 1) := by decide +kernel
theorem d_M_rowsOf_84 : decode Y_M_rowsOf.2.1 84 = .ok (.getfield 37, 3) := by decide +kernel
theorem d_M_rowsOf_87 : decode Y_M_rowsOf.2.1 87 = .ok (.iload_n 3, 1) := by decide +kernel
theorem d_M_rowsOf_88 : decode Y_M_rowsOf.2.1 88 = .ok (.iaload, 1) := by decide +kernel
theorem d_M_rowsOf_89 : decode Y_M_rowsOf.2.1 89 = .ok (.iastore, 1) := by decide +kernel
theorem d_M_rowsOf_90 : decode Y_M_rowsOf.2.1 90 = .ok (.iinc 3 1, 3) := by decide +kernel
theorem d_M_rowsOf_93 : decode Y_M_rowsOf.2.1 93 = .ok (.goto (-20), 3) := by decide +kernel
theorem d_M_rowsOf_96 : decode Y_M_rowsOf.2.1 96 = .ok (.aload_n 0, 1) := by decide +kernel
theorem d_M_rowsOf_97 : decode Y_M_rowsOf.2.1 97 = .ok (.dup, 1) := by decide +kernel
theorem d_M_rowsOf_98 : decode Y_M_rowsOf.2.1 98 = .ok (.getfield 462, 3) := by decide +kernel
theorem d_M_rowsOf_101 : decode Y_M_rowsOf.2.1 101 = .ok (.iconst 1, 1) := by decide +kernel
theorem d_M_rowsOf_102 : decode Y_M_rowsOf.2.1 102 = .ok (.iadd, 1) := by decide +kernel
theorem d_M_rowsOf_103 : decode Y_M_rowsOf.2.1 103 = .ok (.putfield 462, 3) := by decide +kernel
theorem d_M_rowsOf_106 : decode Y_M_rowsOf.2.1 106 = .ok (.iconst 0, 1) := by decide +kernel
theorem d_M_rowsOf_107 : decode Y_M_rowsOf.2.1 107 = .ok (.istore_n 3, 1) := by decide +kernel
theorem d_M_rowsOf_108 : decode Y_M_rowsOf.2.1 108 = .ok (.iload_n 3, 1) := by decide +kernel
theorem d_M_rowsOf_109 : decode Y_M_rowsOf.2.1 109 = .ok (.aload_n 0, 1) := by decide +kernel
theorem d_M_rowsOf_110 : decode Y_M_rowsOf.2.1 110 = .ok (.getfield 341, 3) := by decide +kernel
theorem d_M_rowsOf_113 : decode Y_M_rowsOf.2.1 113 = .ok (.getfield 302, 3) := by decide +kernel
theorem d_M_rowsOf_116 : decode Y_M_rowsOf.2.1 116 = .ok (.if_icmp .ge 41, 3) := by decide +kernel
theorem d_M_rowsOf_119 : decode Y_M_rowsOf.2.1 119 = .ok (.aload_n 0, 1) := by decide +kernel
theorem d_M_rowsOf_120 : decode Y_M_rowsOf.2.1 120 = .ok (.getfield 341, 3) := by decide +kernel
theorem d_M_rowsOf_123 : decode Y_M_rowsOf.2.1 123 = .ok (.getfield 309, 3) := by decide +kernel
theorem d_M_rowsOf_126 : decode Y_M_rowsOf.2.1 126 = .ok (.iload_n 3, 1) := by decide +kernel
theorem d_M_rowsOf_127 : decode Y_M_rowsOf.2.1 127 = .ok (.iaload, 1) := by decide +kernel
theorem d_M_rowsOf_128 : decode Y_M_rowsOf.2.1 128 = .ok (.iload_n 1, 1) := by decide +kernel
theorem d_M_rowsOf_129 : decode Y_M_rowsOf.2.1 129 = .ok (.if_icmp .ne 22, 3) := by decide +kernel
theorem d_M_rowsOf_132 : decode Y_M_rowsOf.2.1 132 = .ok (.aload_n 0, 1) := by decide +kernel
theorem d_M_rowsOf_133 : decode Y_M_rowsOf.2.1 133 = .ok (.getfield 43, 3) := by decide +kernel
theorem d_M_rowsOf_136 : decode Y_M_rowsOf.2.1 136 = .ok (.iconst 5, 1) := by decide +kernel
theorem d_M_rowsOf_137 : decode Y_M_rowsOf.2.1 137 = .ok (.iload_n 3, 1) := by decide +kernel
theorem d_M_rowsOf_138 : decode Y_M_rowsOf.2.1 138 = .ok (.imul, 1) := by decide +kernel
theorem d_M_rowsOf_139 : decode Y_M_rowsOf.2.1 139 = .ok (.aload_n 0, 1) := by decide +kernel
theorem d_M_rowsOf_140 : decode Y_M_rowsOf.2.1 140 = .ok (.getfield 37, 3) := by decide +kernel
theorem d_M_rowsOf_143 : decode Y_M_rowsOf.2.1 143 = .ok (.iload_n 3, 1) := by decide +kernel
theorem d_M_rowsOf_144 : decode Y_M_rowsOf.2.1 144 = .ok (.iaload, 1) := by decide +kernel
theorem d_M_rowsOf_145 : decode Y_M_rowsOf.2.1 145 = .ok (.iadd, 1) := by decide +kernel
theorem d_M_rowsOf_146 : decode Y_M_rowsOf.2.1 146 = .ok (.dup2, 1) := by decide +kernel
theorem d_M_rowsOf_147 : decode Y_M_rowsOf.2.1 147 = .ok (.iaload, 1) := by decide +kernel
theorem d_M_rowsOf_148 : decode Y_M_rowsOf.2.1 148 = .ok (.iconst 1, 1) := by decide +kernel
theorem d_M_rowsOf_149 : decode Y_M_rowsOf.2.1 149 = .ok (.iadd, 1) := by decide +kernel
theorem d_M_rowsOf_150 : decode Y_M_rowsOf.2.1 150 = .ok (.iastore, 1) := by decide +kernel
theorem d_M_rowsOf_151 : decode Y_M_rowsOf.2.1 151 = .ok (.iinc 3 1, 3) := by decide +kernel
theorem d_M_rowsOf_154 : decode Y_M_rowsOf.2.1 154 = .ok (.goto (-46), 3) := by decide +kernel
theorem d_M_rowsOf_157 : decode Y_M_rowsOf.2.1 157 = .ok (.aload_n 0, 1) := by decide +kernel
theorem d_M_rowsOf_158 : decode Y_M_rowsOf.2.1 158 = .ok (.iload_n 1, 1) := by decide +kernel
theorem d_M_rowsOf_159 : decode Y_M_rowsOf.2.1 159 = .ok (.invokevirtual 468, 3) := by decide +kernel
theorem d_M_rowsOf_162 : decode Y_M_rowsOf.2.1 162 = .ok (.istore_n 2, 1) := by decide +kernel
theorem d_M_rowsOf_163 : decode Y_M_rowsOf.2.1 163 = .ok (.goto (-111), 3) := by decide +kernel
theorem d_M_rowsOf_166 : decode Y_M_rowsOf.2.1 166 = .ok (.return_, 1) := by decide +kernel
def f_M_rowsOf (h : PH) (a0 : Option Nat) (a1 : Int32) : Option PH := (cl h 12 a0 (f_M_asTold h a0)).bind fun h1 => (sF h1 12 a0 28 (.inl (0 : Int32))).bind fun h2 => (pj_it (X := PH) (fun s3 : Int32 × PH => if (25 : Int32) ≤ s3.1 then (some (.inr s3.2)) else ((gR s3.2 12 a0 27).bind fun v5 => (sA s3.2 50 v5 s3.1 (.inl (0 : Int32))).bind fun h6 => some (.inl ((s3.1 + (1 : Int32)), h6)))) FU ((0 : Int32), h2)).bind fun x4 => (pj_it (X := PH) (fun s7 : Int32 × PH => if (5 : Int32) ≤ s7.1 then (some (.inr s7.2)) else ((gR s7.2 12 a0 25).bind fun v9 => (sA s7.2 50 v9 s7.1 (.inl (0 : Int32))).bind fun h10 => some (.inl ((s7.1 + (1 : Int32)), h10)))) FU ((0 : Int32), x4)).bind fun x8 => (pj_it (X := PH) (fun s11 : Int32 × PH => if s11.1 = 0 then (some (.inr s11.2)) else ((cl s11.2 12 a0 (f_M_fits s11.2 a0 a1)).bind fun v13 => (if v13 = 0 then (some s11.2) else ((gI s11.2 12 a0 28).bind fun v15 => (if ¬ v15 = 0 then (some s11.2) else ((pj_it (X := PH) (fun s17 : Int32 × PH => if (5 : Int32) ≤ s17.1 then (some (.inr s17.2)) else ((gR s17.2 12 a0 26).bind fun v19 => (gR s17.2 12 a0 25).bind fun v20 => (aI s17.2 v20 s17.1).bind fun v21 => (sA s17.2 50 v19 s17.1 (.inl v21)).bind fun h22 => some (.inl ((s17.1 + (1 : Int32)), h22)))) FU ((0 : Int32), s11.2)).bind fun x18 => some x18) : Option (PH)).bind fun j16 => (gI j16 12 a0 28).bind fun v23 => (sF j16 12 a0 28 (.inl (v23 + (1 : Int32)))).bind fun h24 => (pj_it (X := PH) (fun s25 : Int32 × PH => (gR s25.2 12 a0 3).bind fun v27 => (gI s25.2 11 v27 6).bind fun v28 => if v28 ≤ s25.1 then (some (.inr s25.2)) else ((gR s25.2 12 a0 3).bind fun v29 => (gR s25.2 11 v29 19).bind fun v30 => (aI s25.2 v30 s25.1).bind fun v31 => if ¬ v31 = a1 then (some (.inl ((s25.1 + (1 : Int32)), s25.2))) else ((gR s25.2 12 a0 27).bind fun v32 => (gR s25.2 12 a0 25).bind fun v33 => (aI s25.2 v33 s25.1).bind fun v34 => (aI s25.2 v32 (((5 : Int32) * s25.1) + v34)).bind fun v35 => (sA s25.2 50 v32 (((5 : Int32) * s25.1) + v34) (.inl (v35 + (1 : Int32)))).bind fun h36 => some (.inl ((s25.1 + (1 : Int32)), h36))))) FU ((0 : Int32), h24)).bind fun x26 => some x26) : Option (PH)).bind fun j14 => (cl j14 12 a0 (f_M_nextRow j14 a0 a1)).bind fun v37 => some (.inl (v37.1, v37.2)))) FU ((1 : Int32), x8)).bind fun x12 => some x12
set_option maxRecDepth 20000 in
theorem PM_M_rowsOf {l : Launch} {G : Cx} {h : PH} {a0 : Option Nat} {a1 : Int32} {z : PH} (hz : f_M_rowsOf h a0 a1 = some z) : PM l G 4 0 0 Y_M_rowsOf [.inr (.inr a0), .inl a1] h (none, z) := by
  refine PM.of (Y := Y_M_rowsOf) (cv := (fun z : PH => (((none, z) : Option PV × PH)))) (by decide) (L0 := [some (.inr (.inr a0)), some (.inl a1), none, none]) 2 rfl (Nat.le_of_ble_eq_true rfl) ?_ hz
  unfold f_M_rowsOf
  refine PJ.aload_n (pc := 0) d_M_rowsOf_0 rfl ?_
  refine PJ.cVV (pc := 1) cs_M_375 (fun z hz => PM_M_asTold hz) (pj_fitb rfl) rfl rfl (Nat.le_of_ble_eq_true rfl) d_M_rowsOf_1 (fun h1 => ?_)
  refine PJ.aload_n (pc := 4) d_M_rowsOf_4 rfl ?_
  refine PJ.iconst (pc := 5) (v := 0) d_M_rowsOf_5 (by decide) ?_
  refine PJ.putI (pc := 6) ps_M_462 d_M_rowsOf_6 (fun h2 => ?_)
  refine PJ.iconst (pc := 9) (v := 0) d_M_rowsOf_9 (by decide) ?_
  refine PJ.istore_n (pc := 10) (L1 := [some (.inr (.inr a0)), some (.inl a1), some (.inl (0 : Int32)), none]) d_M_rowsOf_10 (Nat.le_of_ble_eq_true rfl) rfl rfl ?_
  refine PJ.bind (fun x4 : PH => ((30 : Nat), ([some (.inr (.inr a0)), some (.inl a1), none, none] : List (Option PV)), ([] : List PV), (x4 : PH), (0 : Nat), (0 : Nat))) (PJ.it (E := (fun s3 : Int32 × PH => ((11 : Nat), ([some (.inr (.inr a0)), some (.inl a1), some (.inl s3.1), none] : List (Option PV)), ([] : List PV), (s3.2 : PH), (0 : Nat), (0 : Nat)))) (F := (fun x4 : PH => ((30 : Nat), ([some (.inr (.inr a0)), some (.inl a1), none, none] : List (Option PV)), ([] : List PV), (x4 : PH), (0 : Nat), (0 : Nat)))) (fun s3 => ?_) FU ((0 : Int32), h2)) (fun x4 => ?_)
  · show PJ l G (pj_rm 4 0 0) Y_M_rowsOf 11 [some (.inr (.inr a0)), some (.inl a1), some (.inl s3.1), none] [] s3.2 0 0 _ _
    refine PJ.iload_n (pc := 11) d_M_rowsOf_11 rfl ?_
    refine PJ.bipush (pc := 12) (v := 25) d_M_rowsOf_12 (by decide) ?_
    refine PJ.icmp_ge (pc := 14) (tgt := 30) d_M_rowsOf_14 (by decide) (fun _ => ?_) (fun _ => ?_)
    · refine PJ.mk (L1 := [some (.inr (.inr a0)), some (.inl a1), none, none]) [true, true, false, false] rfl ?_
      exact PJ.done rfl
    · refine PJ.aload_n (pc := 17) d_M_rowsOf_17 rfl ?_
      refine PJ.getR (pc := 18) fs_M_43 d_M_rowsOf_18 (fun v5 => ?_)
      refine PJ.iload_n (pc := 21) d_M_rowsOf_21 rfl ?_
      refine PJ.iconst (pc := 22) (v := 0) d_M_rowsOf_22 (by decide) ?_
      refine PJ.iast (pc := 23) d_M_rowsOf_23 (fun h6 => ?_)
      refine PJ.iinc (pc := 24) (v := 1) (L1 := [some (.inr (.inr a0)), some (.inl a1), some (.inl (s3.1 + (1 : Int32))), none]) d_M_rowsOf_24 rfl (by decide) (Nat.le_of_ble_eq_true rfl) rfl rfl ?_
      refine PJ.goto (pc := 27) (tgt := 11) d_M_rowsOf_27 (by decide) ?_
      exact PJ.done rfl
  · show PJ l G (pj_rm 4 0 0) Y_M_rowsOf 30 [some (.inr (.inr a0)), some (.inl a1), none, none] [] x4 0 0 _ _
    refine PJ.iconst (pc := 30) (v := 0) d_M_rowsOf_30 (by decide) ?_
    refine PJ.istore_n (pc := 31) (L1 := [some (.inr (.inr a0)), some (.inl a1), some (.inl (0 : Int32)), none]) d_M_rowsOf_31 (Nat.le_of_ble_eq_true rfl) rfl rfl ?_
    refine PJ.bind (fun x8 : PH => ((50 : Nat), ([some (.inr (.inr a0)), some (.inl a1), none, none] : List (Option PV)), ([] : List PV), (x8 : PH), (0 : Nat), (0 : Nat))) (PJ.it (E := (fun s7 : Int32 × PH => ((32 : Nat), ([some (.inr (.inr a0)), some (.inl a1), some (.inl s7.1), none] : List (Option PV)), ([] : List PV), (s7.2 : PH), (0 : Nat), (0 : Nat)))) (F := (fun x8 : PH => ((50 : Nat), ([some (.inr (.inr a0)), some (.inl a1), none, none] : List (Option PV)), ([] : List PV), (x8 : PH), (0 : Nat), (0 : Nat)))) (fun s7 => ?_) FU ((0 : Int32), x4)) (fun x8 => ?_)
    · show PJ l G (pj_rm 4 0 0) Y_M_rowsOf 32 [some (.inr (.inr a0)), some (.inl a1), some (.inl s7.1), none] [] s7.2 0 0 _ _
      refine PJ.iload_n (pc := 32) d_M_rowsOf_32 rfl ?_
      refine PJ.iconst (pc := 33) (v := 5) d_M_rowsOf_33 (by decide) ?_
      refine PJ.icmp_ge (pc := 34) (tgt := 50) d_M_rowsOf_34 (by decide) (fun _ => ?_) (fun _ => ?_)
      · refine PJ.mk (L1 := [some (.inr (.inr a0)), some (.inl a1), none, none]) [true, true, false, false] rfl ?_
        exact PJ.done rfl
      · refine PJ.aload_n (pc := 37) d_M_rowsOf_37 rfl ?_
        refine PJ.getR (pc := 38) fs_M_37 d_M_rowsOf_38 (fun v9 => ?_)
        refine PJ.iload_n (pc := 41) d_M_rowsOf_41 rfl ?_
        refine PJ.iconst (pc := 42) (v := 0) d_M_rowsOf_42 (by decide) ?_
        refine PJ.iast (pc := 43) d_M_rowsOf_43 (fun h10 => ?_)
        refine PJ.iinc (pc := 44) (v := 1) (L1 := [some (.inr (.inr a0)), some (.inl a1), some (.inl (s7.1 + (1 : Int32))), none]) d_M_rowsOf_44 rfl (by decide) (Nat.le_of_ble_eq_true rfl) rfl rfl ?_
        refine PJ.goto (pc := 47) (tgt := 32) d_M_rowsOf_47 (by decide) ?_
        exact PJ.done rfl
    · show PJ l G (pj_rm 4 0 0) Y_M_rowsOf 50 [some (.inr (.inr a0)), some (.inl a1), none, none] [] x8 0 0 _ _
      refine PJ.iconst (pc := 50) (v := 1) d_M_rowsOf_50 (by decide) ?_
      refine PJ.istore_n (pc := 51) (L1 := [some (.inr (.inr a0)), some (.inl a1), some (.inl (1 : Int32)), none]) d_M_rowsOf_51 (Nat.le_of_ble_eq_true rfl) rfl rfl ?_
      refine PJ.bind (fun x12 : PH => ((166 : Nat), ([none, none, none, none] : List (Option PV)), ([] : List PV), (x12 : PH), (0 : Nat), (0 : Nat))) (PJ.it (E := (fun s11 : Int32 × PH => ((52 : Nat), ([some (.inr (.inr a0)), some (.inl a1), some (.inl s11.1), none] : List (Option PV)), ([] : List PV), (s11.2 : PH), (0 : Nat), (0 : Nat)))) (F := (fun x12 : PH => ((166 : Nat), ([none, none, none, none] : List (Option PV)), ([] : List PV), (x12 : PH), (0 : Nat), (0 : Nat)))) (fun s11 => ?_) FU ((1 : Int32), x8)) (fun x12 => ?_)
      · show PJ l G (pj_rm 4 0 0) Y_M_rowsOf 52 [some (.inr (.inr a0)), some (.inl a1), some (.inl s11.1), none] [] s11.2 0 0 _ _
        refine PJ.iload_n (pc := 52) d_M_rowsOf_52 rfl ?_
        refine PJ.if_eq (pc := 53) (tgt := 166) d_M_rowsOf_53 (by decide) (fun _ => ?_) (fun _ => ?_)
        · refine PJ.mk (L1 := [none, none, none, none]) [false, false, false, false] rfl ?_
          exact PJ.done rfl
        · refine PJ.aload_n (pc := 56) d_M_rowsOf_56 rfl ?_
          refine PJ.iload_n (pc := 57) d_M_rowsOf_57 rfl ?_
          refine PJ.cVpI (pc := 58) cs_M_465 (fun z hz => PM_M_fits hz) (pj_fitb rfl) rfl rfl (Nat.le_of_ble_eq_true rfl) d_M_rowsOf_58 (fun v13 => ?_)
          refine PJ.bind (fun j14 : PH => ((157 : Nat), ([some (.inr (.inr a0)), some (.inl a1), none, none] : List (Option PV)), ([] : List PV), (j14 : PH), (0 : Nat), (0 : Nat))) ?_ (fun j14 => ?_)
          · refine PJ.if_eq (pc := 61) (tgt := 157) d_M_rowsOf_61 (by decide) (fun _ => ?_) (fun _ => ?_)
            · refine PJ.mk (L1 := [some (.inr (.inr a0)), some (.inl a1), none, none]) [true, true, false, false] rfl ?_
              exact PJ.done rfl
            · refine PJ.aload_n (pc := 64) d_M_rowsOf_64 rfl ?_
              refine PJ.getI (pc := 65) fs_M_462 d_M_rowsOf_65 (fun v15 => ?_)
              refine PJ.bind (fun j16 : PH => ((96 : Nat), ([some (.inr (.inr a0)), some (.inl a1), none, none] : List (Option PV)), ([] : List PV), (j16 : PH), (0 : Nat), (0 : Nat))) ?_ (fun j16 => ?_)
              · refine PJ.if_ne (pc := 68) (tgt := 96) d_M_rowsOf_68 (by decide) (fun _ => ?_) (fun _ => ?_)
                · refine PJ.mk (L1 := [some (.inr (.inr a0)), some (.inl a1), none, none]) [true, true, false, false] rfl ?_
                  exact PJ.done rfl
                · refine PJ.iconst (pc := 71) (v := 0) d_M_rowsOf_71 (by decide) ?_
                  refine PJ.istore_n (pc := 72) (L1 := [some (.inr (.inr a0)), some (.inl a1), some (.inl s11.1), some (.inl (0 : Int32))]) d_M_rowsOf_72 (Nat.le_of_ble_eq_true rfl) rfl rfl ?_
                  refine PJ.mk (L1 := [some (.inr (.inr a0)), some (.inl a1), none, some (.inl (0 : Int32))]) [true, true, false, true] rfl ?_
                  refine PJ.bind (fun x18 : PH => ((96 : Nat), ([some (.inr (.inr a0)), some (.inl a1), none, none] : List (Option PV)), ([] : List PV), (x18 : PH), (0 : Nat), (0 : Nat))) (PJ.it (E := (fun s17 : Int32 × PH => ((73 : Nat), ([some (.inr (.inr a0)), some (.inl a1), none, some (.inl s17.1)] : List (Option PV)), ([] : List PV), (s17.2 : PH), (0 : Nat), (0 : Nat)))) (F := (fun x18 : PH => ((96 : Nat), ([some (.inr (.inr a0)), some (.inl a1), none, none] : List (Option PV)), ([] : List PV), (x18 : PH), (0 : Nat), (0 : Nat)))) (fun s17 => ?_) FU ((0 : Int32), s11.2)) (fun x18 => ?_)
                  · show PJ l G (pj_rm 4 0 0) Y_M_rowsOf 73 [some (.inr (.inr a0)), some (.inl a1), none, some (.inl s17.1)] [] s17.2 0 0 _ _
                    refine PJ.iload_n (pc := 73) d_M_rowsOf_73 rfl ?_
                    refine PJ.iconst (pc := 74) (v := 5) d_M_rowsOf_74 (by decide) ?_
                    refine PJ.icmp_ge (pc := 75) (tgt := 96) d_M_rowsOf_75 (by decide) (fun _ => ?_) (fun _ => ?_)
                    · refine PJ.mk (L1 := [some (.inr (.inr a0)), some (.inl a1), none, none]) [true, true, false, false] rfl ?_
                      exact PJ.done rfl
                    · refine PJ.aload_n (pc := 78) d_M_rowsOf_78 rfl ?_
                      refine PJ.getR (pc := 79) fs_M_40 d_M_rowsOf_79 (fun v19 => ?_)
                      refine PJ.iload_n (pc := 82) d_M_rowsOf_82 rfl ?_
                      refine PJ.aload_n (pc := 83) d_M_rowsOf_83 rfl ?_
                      refine PJ.getR (pc := 84) fs_M_37 d_M_rowsOf_84 (fun v20 => ?_)
                      refine PJ.iload_n (pc := 87) d_M_rowsOf_87 rfl ?_
                      refine PJ.iald (pc := 88) d_M_rowsOf_88 (fun v21 => ?_)
                      refine PJ.iast (pc := 89) d_M_rowsOf_89 (fun h22 => ?_)
                      refine PJ.iinc (pc := 90) (v := 1) (L1 := [some (.inr (.inr a0)), some (.inl a1), none, some (.inl (s17.1 + (1 : Int32)))]) d_M_rowsOf_90 rfl (by decide) (Nat.le_of_ble_eq_true rfl) rfl rfl ?_
                      refine PJ.goto (pc := 93) (tgt := 73) d_M_rowsOf_93 (by decide) ?_
                      exact PJ.done rfl
                  · show PJ l G (pj_rm 4 0 0) Y_M_rowsOf 96 [some (.inr (.inr a0)), some (.inl a1), none, none] [] x18 0 0 _ _
                    exact PJ.done rfl
              · show PJ l G (pj_rm 4 0 0) Y_M_rowsOf 96 [some (.inr (.inr a0)), some (.inl a1), none, none] [] j16 0 0 _ _
                refine PJ.aload_n (pc := 96) d_M_rowsOf_96 rfl ?_
                refine PJ.dup (pc := 97) d_M_rowsOf_97 rfl ?_
                refine PJ.getI (pc := 98) fs_M_462 d_M_rowsOf_98 (fun v23 => ?_)
                refine PJ.iconst (pc := 101) (v := 1) d_M_rowsOf_101 (by decide) ?_
                refine PJ.iadd (pc := 102) d_M_rowsOf_102 ?_
                refine PJ.putI (pc := 103) ps_M_462 d_M_rowsOf_103 (fun h24 => ?_)
                refine PJ.iconst (pc := 106) (v := 0) d_M_rowsOf_106 (by decide) ?_
                refine PJ.istore_n (pc := 107) (L1 := [some (.inr (.inr a0)), some (.inl a1), none, some (.inl (0 : Int32))]) d_M_rowsOf_107 (Nat.le_of_ble_eq_true rfl) rfl rfl ?_
                refine PJ.bind (fun x26 : PH => ((157 : Nat), ([some (.inr (.inr a0)), some (.inl a1), none, none] : List (Option PV)), ([] : List PV), (x26 : PH), (0 : Nat), (0 : Nat))) (PJ.it (E := (fun s25 : Int32 × PH => ((108 : Nat), ([some (.inr (.inr a0)), some (.inl a1), none, some (.inl s25.1)] : List (Option PV)), ([] : List PV), (s25.2 : PH), (0 : Nat), (0 : Nat)))) (F := (fun x26 : PH => ((157 : Nat), ([some (.inr (.inr a0)), some (.inl a1), none, none] : List (Option PV)), ([] : List PV), (x26 : PH), (0 : Nat), (0 : Nat)))) (fun s25 => ?_) FU ((0 : Int32), h24)) (fun x26 => ?_)
                · show PJ l G (pj_rm 4 0 0) Y_M_rowsOf 108 [some (.inr (.inr a0)), some (.inl a1), none, some (.inl s25.1)] [] s25.2 0 0 _ _
                  refine PJ.iload_n (pc := 108) d_M_rowsOf_108 rfl ?_
                  refine PJ.aload_n (pc := 109) d_M_rowsOf_109 rfl ?_
                  refine PJ.getR (pc := 110) fs_M_341 d_M_rowsOf_110 (fun v27 => ?_)
                  refine PJ.getI (pc := 113) fs_M_302 d_M_rowsOf_113 (fun v28 => ?_)
                  refine PJ.icmp_ge (pc := 116) (tgt := 157) d_M_rowsOf_116 (by decide) (fun _ => ?_) (fun _ => ?_)
                  · refine PJ.mk (L1 := [some (.inr (.inr a0)), some (.inl a1), none, none]) [true, true, false, false] rfl ?_
                    exact PJ.done rfl
                  · refine PJ.aload_n (pc := 119) d_M_rowsOf_119 rfl ?_
                    refine PJ.getR (pc := 120) fs_M_341 d_M_rowsOf_120 (fun v29 => ?_)
                    refine PJ.getR (pc := 123) fs_M_309 d_M_rowsOf_123 (fun v30 => ?_)
                    refine PJ.iload_n (pc := 126) d_M_rowsOf_126 rfl ?_
                    refine PJ.iald (pc := 127) d_M_rowsOf_127 (fun v31 => ?_)
                    refine PJ.iload_n (pc := 128) d_M_rowsOf_128 rfl ?_
                    refine PJ.icmp_ne (pc := 129) (tgt := 151) d_M_rowsOf_129 (by decide) (fun _ => ?_) (fun _ => ?_)
                    · refine PJ.iinc (pc := 151) (v := 1) (L1 := [some (.inr (.inr a0)), some (.inl a1), none, some (.inl (s25.1 + (1 : Int32)))]) d_M_rowsOf_151 rfl (by decide) (Nat.le_of_ble_eq_true rfl) rfl rfl ?_
                      refine PJ.goto (pc := 154) (tgt := 108) d_M_rowsOf_154 (by decide) ?_
                      exact PJ.done rfl
                    · refine PJ.aload_n (pc := 132) d_M_rowsOf_132 rfl ?_
                      refine PJ.getR (pc := 133) fs_M_43 d_M_rowsOf_133 (fun v32 => ?_)
                      refine PJ.iconst (pc := 136) (v := 5) d_M_rowsOf_136 (by decide) ?_
                      refine PJ.iload_n (pc := 137) d_M_rowsOf_137 rfl ?_
                      refine PJ.imul (pc := 138) d_M_rowsOf_138 ?_
                      refine PJ.aload_n (pc := 139) d_M_rowsOf_139 rfl ?_
                      refine PJ.getR (pc := 140) fs_M_37 d_M_rowsOf_140 (fun v33 => ?_)
                      refine PJ.iload_n (pc := 143) d_M_rowsOf_143 rfl ?_
                      refine PJ.iald (pc := 144) d_M_rowsOf_144 (fun v34 => ?_)
                      refine PJ.iadd (pc := 145) d_M_rowsOf_145 ?_
                      refine PJ.dup2 (pc := 146) d_M_rowsOf_146 rfl rfl ?_
                      refine PJ.iald (pc := 147) d_M_rowsOf_147 (fun v35 => ?_)
                      refine PJ.iconst (pc := 148) (v := 1) d_M_rowsOf_148 (by decide) ?_
                      refine PJ.iadd (pc := 149) d_M_rowsOf_149 ?_
                      refine PJ.iast (pc := 150) d_M_rowsOf_150 (fun h36 => ?_)
                      refine PJ.iinc (pc := 151) (v := 1) (L1 := [some (.inr (.inr a0)), some (.inl a1), none, some (.inl (s25.1 + (1 : Int32)))]) d_M_rowsOf_151 rfl (by decide) (Nat.le_of_ble_eq_true rfl) rfl rfl ?_
                      refine PJ.goto (pc := 154) (tgt := 108) d_M_rowsOf_154 (by decide) ?_
                      exact PJ.done rfl
                · show PJ l G (pj_rm 4 0 0) Y_M_rowsOf 157 [some (.inr (.inr a0)), some (.inl a1), none, none] [] x26 0 0 _ _
                  exact PJ.done rfl
          · show PJ l G (pj_rm 4 0 0) Y_M_rowsOf 157 [some (.inr (.inr a0)), some (.inl a1), none, none] [] j14 0 0 _ _
            refine PJ.aload_n (pc := 157) d_M_rowsOf_157 rfl ?_
            refine PJ.iload_n (pc := 158) d_M_rowsOf_158 rfl ?_
            refine PJ.cVI (pc := 159) cs_M_468 (fun z hz => PM_M_nextRow hz) (pj_fitb rfl) rfl rfl (Nat.le_of_ble_eq_true rfl) d_M_rowsOf_159 (fun v37 => ?_)
            refine PJ.istore_n (pc := 162) (L1 := [some (.inr (.inr a0)), some (.inl a1), some (.inl v37.1), none]) d_M_rowsOf_162 (Nat.le_of_ble_eq_true rfl) rfl rfl ?_
            refine PJ.goto (pc := 163) (tgt := 52) d_M_rowsOf_163 (by decide) ?_
            exact PJ.done rfl
      · show PJ l G (pj_rm 4 0 0) Y_M_rowsOf 166 [none, none, none, none] [] x12 0 0 _ _
        exact PJ.vret (pc := 166) d_M_rowsOf_166 rfl (Nat.le_of_ble_eq_true rfl) (Nat.le_of_ble_eq_true rfl)
theorem d_M_rows_0 : decode Y_M_rows.2.1 0 = .ok (.aload_n 0, 1) := by decide +kernel
theorem d_M_rows_1 : decode Y_M_rows.2.1 1 = .ok (.iconst 0, 1) := by decide +kernel
theorem d_M_rows_2 : decode Y_M_rows.2.1 2 = .ok (.putfield 46, 3) := by decide +kernel
theorem d_M_rows_5 : decode Y_M_rows.2.1 5 = .ok (.aload_n 0, 1) := by decide +kernel
theorem d_M_rows_6 : decode Y_M_rows.2.1 6 = .ok (.iload_n 1, 1) := by decide +kernel
theorem d_M_rows_7 : decode Y_M_rows.2.1 7 = .ok (.invokevirtual 369, 3) := by decide +kernel
theorem d_M_rows_10 : decode Y_M_rows.2.1 10 = .ok (.ifCond .ne 9, 3) := by decide +kernel
theorem d_M_rows_13 : decode Y_M_rows.2.1 13 = .ok (.aload_n 0, 1) := by decide +kernel
theorem d_M_rows_14 : decode Y_M_rows.2.1 14 = .ok (.iconst 1, 1) := by decide +kernel
theorem d_M_rows_15 : decode Y_M_rows.2.1 15 = .ok (.invokevirtual 52, 3) := by decide +kernel
theorem d_M_rows_18 : decode Y_M_rows.2.1 18 = .ok (.ireturn, 1) := by decide +kernel
theorem d_M_rows_19 : decode Y_M_rows.2.1 19 = .ok (.aload_n 0, 1) := by decide +kernel
theorem d_M_rows_20 : decode Y_M_rows.2.1 20 = .ok (.iload_n 1, 1) := by decide +kernel
theorem d_M_rows_21 : decode Y_M_rows.2.1 21 = .ok (.invokevirtual 471, 3) := by decide +kernel
theorem d_M_rows_24 : decode Y_M_rows.2.1 24 = .ok (.ifCond .ne 10, 3) := by decide +kernel
theorem d_M_rows_27 : decode Y_M_rows.2.1 27 = .ok (.aload_n 0, 1) := by decide +kernel
theorem d_M_rows_28 : decode Y_M_rows.2.1 28 = .ok (.bipush 6, 2) := by decide +kernel
theorem d_M_rows_30 : decode Y_M_rows.2.1 30 = .ok (.invokevirtual 52, 3) := by decide +kernel
theorem d_M_rows_33 : decode Y_M_rows.2.1 33 = .ok (.ireturn, 1) := by decide +kernel
theorem d_M_rows_34 : decode Y_M_rows.2.1 34 = .ok (.aload_n 0, 1) := by decide +kernel
theorem d_M_rows_35 : decode Y_M_rows.2.1 35 = .ok (.iload_n 1, 1) := by decide +kernel
theorem d_M_rows_36 : decode Y_M_rows.2.1 36 = .ok (.invokevirtual 474, 3) := by decide +kernel
theorem d_M_rows_39 : decode Y_M_rows.2.1 39 = .ok (.aload_n 0, 1) := by decide +kernel
theorem d_M_rows_40 : decode Y_M_rows.2.1 40 = .ok (.aload_n 0, 1) := by decide +kernel
theorem d_M_rows_41 : decode Y_M_rows.2.1 41 = .ok (.getfield 462, 3) := by decide +kernel
theorem d_M_rows_44 : decode Y_M_rows.2.1 44 = .ok (.invokevirtual 58, 3) := by decide +kernel
theorem d_M_rows_47 : decode Y_M_rows.2.1 47 = .ok (.ireturn, 1) := by decide +kernel
def f_M_rows (h : PH) (a0 : Option Nat) (a1 : Int32) : Option (Int32 × PH) := (sF h 12 a0 0 (.inl (0 : Int32))).bind fun h1 => (cl h1 12 a0 (f_M_isPerson h1 a0 a1)).bind fun v2 => if ¬ v2 = 0 then ((cl h1 12 a0 (f_M_receiptsOf h1 a0 a1)).bind fun v3 => if ¬ v3 = 0 then ((cl h1 12 a0 (f_M_rowsOf h1 a0 a1)).bind fun h4 => (gI h4 12 a0 28).bind fun v5 => (cl h4 12 a0 (f_M_good h4 a0 v5)).bind fun v6 => some (v6.1, v6.2)) else ((cl h1 12 a0 (f_M_refused h1 a0 (6 : Int32))).bind fun v7 => some (v7.1, v7.2))) else ((cl h1 12 a0 (f_M_refused h1 a0 (1 : Int32))).bind fun v8 => some (v8.1, v8.2))
set_option maxRecDepth 20000 in
theorem PM_M_rows {l : Launch} {G : Cx} {h : PH} {a0 : Option Nat} {a1 : Int32} {z : (Int32 × PH)} (hz : f_M_rows h a0 a1 = some z) : PM l G 5 0 0 Y_M_rows [.inr (.inr a0), .inl a1] h (some (.inl z.1), z.2) := by
  refine PM.of (Y := Y_M_rows) (cv := (fun z : (Int32 × PH) => (((some (.inl z.1), z.2) : Option PV × PH)))) (by decide) (L0 := [some (.inr (.inr a0)), some (.inl a1)]) 0 rfl (Nat.le_of_ble_eq_true rfl) ?_ hz
  unfold f_M_rows
  refine PJ.aload_n (pc := 0) d_M_rows_0 rfl ?_
  refine PJ.iconst (pc := 1) (v := 0) d_M_rows_1 (by decide) ?_
  refine PJ.putI (pc := 2) ps_M_46 d_M_rows_2 (fun h1 => ?_)
  refine PJ.aload_n (pc := 5) d_M_rows_5 rfl ?_
  refine PJ.iload_n (pc := 6) d_M_rows_6 rfl ?_
  refine PJ.cVpI (pc := 7) cs_M_369 (fun z hz => PM_M_isPerson hz) (pj_fitb rfl) rfl rfl (Nat.le_of_ble_eq_true rfl) d_M_rows_7 (fun v2 => ?_)
  refine PJ.if_ne (pc := 10) (tgt := 19) d_M_rows_10 (by decide) (fun _ => ?_) (fun _ => ?_)
  · refine PJ.aload_n (pc := 19) d_M_rows_19 rfl ?_
    refine PJ.iload_n (pc := 20) d_M_rows_20 rfl ?_
    refine PJ.cVpI (pc := 21) cs_M_471 (fun z hz => PM_M_receiptsOf hz) (pj_fitb rfl) rfl rfl (Nat.le_of_ble_eq_true rfl) d_M_rows_21 (fun v3 => ?_)
    refine PJ.if_ne (pc := 24) (tgt := 34) d_M_rows_24 (by decide) (fun _ => ?_) (fun _ => ?_)
    · refine PJ.aload_n (pc := 34) d_M_rows_34 rfl ?_
      refine PJ.iload_n (pc := 35) d_M_rows_35 rfl ?_
      refine PJ.cVV (pc := 36) cs_M_474 (fun z hz => PM_M_rowsOf hz) (pj_fitb rfl) rfl rfl (Nat.le_of_ble_eq_true rfl) d_M_rows_36 (fun h4 => ?_)
      refine PJ.aload_n (pc := 39) d_M_rows_39 rfl ?_
      refine PJ.aload_n (pc := 40) d_M_rows_40 rfl ?_
      refine PJ.getI (pc := 41) fs_M_462 d_M_rows_41 (fun v5 => ?_)
      refine PJ.cVI (pc := 44) cs_M_58 (fun z hz => PM_M_good hz) (pj_fitb rfl) rfl rfl (Nat.le_of_ble_eq_true rfl) d_M_rows_44 (fun v6 => ?_)
      exact PJ.iret (pc := 47) d_M_rows_47 rfl (Nat.le_of_ble_eq_true rfl) (Nat.le_of_ble_eq_true rfl)
    · refine PJ.aload_n (pc := 27) d_M_rows_27 rfl ?_
      refine PJ.bipush (pc := 28) (v := 6) d_M_rows_28 (by decide) ?_
      refine PJ.cVI (pc := 30) cs_M_52 (fun z hz => PM_M_refused hz) (pj_fitb rfl) rfl rfl (Nat.le_of_ble_eq_true rfl) d_M_rows_30 (fun v7 => ?_)
      exact PJ.iret (pc := 33) d_M_rows_33 rfl (Nat.le_of_ble_eq_true rfl) (Nat.le_of_ble_eq_true rfl)
  · refine PJ.aload_n (pc := 13) d_M_rows_13 rfl ?_
    refine PJ.iconst (pc := 14) (v := 1) d_M_rows_14 (by decide) ?_
    refine PJ.cVI (pc := 15) cs_M_52 (fun z hz => PM_M_refused hz) (pj_fitb rfl) rfl rfl (Nat.le_of_ble_eq_true rfl) d_M_rows_15 (fun v8 => ?_)
    exact PJ.iret (pc := 18) d_M_rows_18 rfl (Nat.le_of_ble_eq_true rfl) (Nat.le_of_ble_eq_true rfl)
theorem d_M_isReceipt_0 : decode Y_M_isReceipt.2.1 0 = .ok (.aload_n 0, 1) := by decide +kernel
theorem d_M_isReceipt_1 : decode Y_M_isReceipt.2.1 1 = .ok (.getfield 341, 3) := by decide +kernel
theorem d_M_isReceipt_4 : decode Y_M_isReceipt.2.1 4 = .ok (.ifnull 22, 3) := by decide +kernel
theorem d_M_isReceipt_7 : decode Y_M_isReceipt.2.1 7 = .ok (.iload_n 1, 1) := by decide +kernel
theorem d_M_isReceipt_8 : decode Y_M_isReceipt.2.1 8 = .ok (.ifCond .lt 18, 3) := by decide +kernel
theorem d_M_isReceipt_11 : decode Y_M_isReceipt.2.1 11 = .ok (.iload_n 1, 1) := by decide +kernel
theorem d_M_isReceipt_12 : decode Y_M_isReceipt.2.1 12 = .ok (.aload_n 0, 1) := by decide +kernel
theorem d_M_isReceipt_13 : decode Y_M_isReceipt.2.1 13 = .ok (.getfield 341, 3) := by decide +kernel
theorem d_M_isReceipt_16 : decode Y_M_isReceipt.2.1 16 = .ok (.getfield 302, 3) := by decide +kernel
theorem d_M_isReceipt_19 : decode Y_M_isReceipt.2.1 19 = .ok (.if_icmp .ge 7, 3) := by decide +kernel
theorem d_M_isReceipt_22 : decode Y_M_isReceipt.2.1 22 = .ok (.iconst 1, 1) := by decide +kernel
theorem d_M_isReceipt_23 : decode Y_M_isReceipt.2.1 23 = .ok (.goto 4, 3) := by decide +kernel
theorem d_M_isReceipt_26 : decode Y_M_isReceipt.2.1 26 = .ok (.iconst 0, 1) := by decide +kernel
theorem d_M_isReceipt_27 : decode Y_M_isReceipt.2.1 27 = .ok (.ireturn, 1) := by decide +kernel
def f_M_isReceipt (h : PH) (a0 : Option Nat) (a1 : Int32) : Option Int32 := (gR h 12 a0 3).bind fun v1 => if v1 = none then (some (0 : Int32)) else (if a1 < 0 then (some (0 : Int32)) else ((gR h 12 a0 3).bind fun v2 => (gI h 11 v2 6).bind fun v3 => if v3 ≤ a1 then (some (0 : Int32)) else (some (1 : Int32))))
set_option maxRecDepth 20000 in
theorem PM_M_isReceipt {l : Launch} {G : Cx} {h : PH} {a0 : Option Nat} {a1 : Int32} {z : Int32} (hz : f_M_isReceipt h a0 a1 = some z) : PM l G 1 0 0 Y_M_isReceipt [.inr (.inr a0), .inl a1] h (some (.inl z), h) := by
  refine PM.of (Y := Y_M_isReceipt) (cv := (fun z : Int32 => (((some (.inl z), h) : Option PV × PH)))) (by decide) (L0 := [some (.inr (.inr a0)), some (.inl a1)]) 0 rfl (Nat.le_of_ble_eq_true rfl) ?_ hz
  unfold f_M_isReceipt
  refine PJ.aload_n (pc := 0) d_M_isReceipt_0 rfl ?_
  refine PJ.getR (pc := 1) fs_M_341 d_M_isReceipt_1 (fun v1 => ?_)
  refine PJ.ifnull (pc := 4) (tgt := 26) d_M_isReceipt_4 (by decide) (fun _ => ?_) (fun _ => ?_)
  · refine PJ.iconst (pc := 26) (v := 0) d_M_isReceipt_26 (by decide) ?_
    exact PJ.zretp (pc := 27) d_M_isReceipt_27 rfl rfl (Nat.le_of_ble_eq_true rfl) (Nat.le_of_ble_eq_true rfl)
  · refine PJ.iload_n (pc := 7) d_M_isReceipt_7 rfl ?_
    refine PJ.if_lt (pc := 8) (tgt := 26) d_M_isReceipt_8 (by decide) (fun _ => ?_) (fun _ => ?_)
    · refine PJ.iconst (pc := 26) (v := 0) d_M_isReceipt_26 (by decide) ?_
      exact PJ.zretp (pc := 27) d_M_isReceipt_27 rfl rfl (Nat.le_of_ble_eq_true rfl) (Nat.le_of_ble_eq_true rfl)
    · refine PJ.iload_n (pc := 11) d_M_isReceipt_11 rfl ?_
      refine PJ.aload_n (pc := 12) d_M_isReceipt_12 rfl ?_
      refine PJ.getR (pc := 13) fs_M_341 d_M_isReceipt_13 (fun v2 => ?_)
      refine PJ.getI (pc := 16) fs_M_302 d_M_isReceipt_16 (fun v3 => ?_)
      refine PJ.icmp_ge (pc := 19) (tgt := 26) d_M_isReceipt_19 (by decide) (fun _ => ?_) (fun _ => ?_)
      · refine PJ.iconst (pc := 26) (v := 0) d_M_isReceipt_26 (by decide) ?_
        exact PJ.zretp (pc := 27) d_M_isReceipt_27 rfl rfl (Nat.le_of_ble_eq_true rfl) (Nat.le_of_ble_eq_true rfl)
      · refine PJ.iconst (pc := 22) (v := 1) d_M_isReceipt_22 (by decide) ?_
        refine PJ.goto (pc := 23) (tgt := 27) d_M_isReceipt_23 (by decide) ?_
        exact PJ.zretp (pc := 27) d_M_isReceipt_27 rfl rfl (Nat.le_of_ble_eq_true rfl) (Nat.le_of_ble_eq_true rfl)
theorem d_M_couldBe_0 : decode Y_M_couldBe.2.1 0 = .ok (.iconst 0, 1) := by decide +kernel
theorem d_M_couldBe_1 : decode Y_M_couldBe.2.1 1 = .ok (.istore_n 2, 1) := by decide +kernel
theorem d_M_couldBe_2 : decode Y_M_couldBe.2.1 2 = .ok (.iconst 0, 1) := by decide +kernel
theorem d_M_couldBe_3 : decode Y_M_couldBe.2.1 3 = .ok (.istore_n 3, 1) := by decide +kernel
theorem d_M_couldBe_4 : decode Y_M_couldBe.2.1 4 = .ok (.iload_n 3, 1) := by decide +kernel
theorem d_M_couldBe_5 : decode Y_M_couldBe.2.1 5 = .ok (.iconst 5, 1) := by decide +kernel
theorem d_M_couldBe_6 : decode Y_M_couldBe.2.1 6 = .ok (.if_icmp .ge 32, 3) := by decide +kernel
theorem d_M_couldBe_9 : decode Y_M_couldBe.2.1 9 = .ok (.iload_n 2, 1) := by decide +kernel
theorem d_M_couldBe_10 : decode Y_M_couldBe.2.1 10 = .ok (.aload_n 0, 1) := by decide +kernel
theorem d_M_couldBe_11 : decode Y_M_couldBe.2.1 11 = .ok (.getfield 43, 3) := by decide +kernel
theorem d_M_couldBe_14 : decode Y_M_couldBe.2.1 14 = .ok (.iconst 5, 1) := by decide +kernel
theorem d_M_couldBe_15 : decode Y_M_couldBe.2.1 15 = .ok (.iload_n 1, 1) := by decide +kernel
theorem d_M_couldBe_16 : decode Y_M_couldBe.2.1 16 = .ok (.imul, 1) := by decide +kernel
theorem d_M_couldBe_17 : decode Y_M_couldBe.2.1 17 = .ok (.iload_n 3, 1) := by decide +kernel
theorem d_M_couldBe_18 : decode Y_M_couldBe.2.1 18 = .ok (.iadd, 1) := by decide +kernel
theorem d_M_couldBe_19 : decode Y_M_couldBe.2.1 19 = .ok (.iaload, 1) := by decide +kernel
theorem d_M_couldBe_20 : decode Y_M_couldBe.2.1 20 = .ok (.ifCond .le 9, 3) := by decide +kernel
theorem d_M_couldBe_23 : decode Y_M_couldBe.2.1 23 = .ok (.iconst 1, 1) := by decide +kernel
theorem d_M_couldBe_24 : decode Y_M_couldBe.2.1 24 = .ok (.iload_n 3, 1) := by decide +kernel
theorem d_M_couldBe_25 : decode Y_M_couldBe.2.1 25 = .ok (.ishl, 1) := by decide +kernel
theorem d_M_couldBe_26 : decode Y_M_couldBe.2.1 26 = .ok (.goto 4, 3) := by decide +kernel
theorem d_M_couldBe_29 : decode Y_M_couldBe.2.1 29 = .ok (.iconst 0, 1) := by decide +kernel
theorem d_M_couldBe_30 : decode Y_M_couldBe.2.1 30 = .ok (.ior, 1) := by decide +kernel
theorem d_M_couldBe_31 : decode Y_M_couldBe.2.1 31 = .ok (.istore_n 2, 1) := by decide +kernel
theorem d_M_couldBe_32 : decode Y_M_couldBe.2.1 32 = .ok (.iinc 3 1, 3) := by decide +kernel
theorem d_M_couldBe_35 : decode Y_M_couldBe.2.1 35 = .ok (.goto (-31), 3) := by decide +kernel
theorem d_M_couldBe_38 : decode Y_M_couldBe.2.1 38 = .ok (.iload_n 2, 1) := by decide +kernel
theorem d_M_couldBe_39 : decode Y_M_couldBe.2.1 39 = .ok (.ireturn, 1) := by decide +kernel
def f_M_couldBe (h : PH) (a0 : Option Nat) (a1 : Int32) : Option Int32 := (pj_it (X := Int32) (fun s1 : Int32 × Int32 => if (5 : Int32) ≤ s1.2 then (some (.inr s1.1)) else ((gR h 12 a0 27).bind fun v3 => (aI h v3 (((5 : Int32) * a1) + s1.2)).bind fun v4 => (if v4 ≤ 0 then (some (0 : Int32)) else (some ((1 : Int32) <<< (s1.2 &&& 31))) : Option (Int32)).bind fun j5 => some (.inl ((s1.1 ||| j5), (s1.2 + (1 : Int32)))))) FU ((0 : Int32), (0 : Int32))).bind fun x2 => some x2
set_option maxRecDepth 20000 in
theorem PM_M_couldBe {l : Launch} {G : Cx} {h : PH} {a0 : Option Nat} {a1 : Int32} {z : Int32} (hz : f_M_couldBe h a0 a1 = some z) : PM l G 1 0 0 Y_M_couldBe [.inr (.inr a0), .inl a1] h (some (.inl z), h) := by
  refine PM.of (Y := Y_M_couldBe) (cv := (fun z : Int32 => (((some (.inl z), h) : Option PV × PH)))) (by decide) (L0 := [some (.inr (.inr a0)), some (.inl a1), none, none]) 2 rfl (Nat.le_of_ble_eq_true rfl) ?_ hz
  unfold f_M_couldBe
  refine PJ.iconst (pc := 0) (v := 0) d_M_couldBe_0 (by decide) ?_
  refine PJ.istore_n (pc := 1) (L1 := [some (.inr (.inr a0)), some (.inl a1), some (.inl (0 : Int32)), none]) d_M_couldBe_1 (Nat.le_of_ble_eq_true rfl) rfl rfl ?_
  refine PJ.iconst (pc := 2) (v := 0) d_M_couldBe_2 (by decide) ?_
  refine PJ.istore_n (pc := 3) (L1 := [some (.inr (.inr a0)), some (.inl a1), some (.inl (0 : Int32)), some (.inl (0 : Int32))]) d_M_couldBe_3 (Nat.le_of_ble_eq_true rfl) rfl rfl ?_
  refine PJ.bind (fun x2 : Int32 => ((38 : Nat), ([none, none, some (.inl x2), none] : List (Option PV)), ([] : List PV), (h : PH), (0 : Nat), (0 : Nat))) (PJ.it (E := (fun s1 : Int32 × Int32 => ((4 : Nat), ([some (.inr (.inr a0)), some (.inl a1), some (.inl s1.1), some (.inl s1.2)] : List (Option PV)), ([] : List PV), (h : PH), (0 : Nat), (0 : Nat)))) (F := (fun x2 : Int32 => ((38 : Nat), ([none, none, some (.inl x2), none] : List (Option PV)), ([] : List PV), (h : PH), (0 : Nat), (0 : Nat)))) (fun s1 => ?_) FU ((0 : Int32), (0 : Int32))) (fun x2 => ?_)
  · show PJ l G (pj_rm 1 0 0) Y_M_couldBe 4 [some (.inr (.inr a0)), some (.inl a1), some (.inl s1.1), some (.inl s1.2)] [] h 0 0 _ _
    refine PJ.iload_n (pc := 4) d_M_couldBe_4 rfl ?_
    refine PJ.iconst (pc := 5) (v := 5) d_M_couldBe_5 (by decide) ?_
    refine PJ.icmp_ge (pc := 6) (tgt := 38) d_M_couldBe_6 (by decide) (fun _ => ?_) (fun _ => ?_)
    · refine PJ.mk (L1 := [none, none, some (.inl s1.1), none]) [false, false, true, false] rfl ?_
      exact PJ.done rfl
    · refine PJ.iload_n (pc := 9) d_M_couldBe_9 rfl ?_
      refine PJ.aload_n (pc := 10) d_M_couldBe_10 rfl ?_
      refine PJ.getR (pc := 11) fs_M_43 d_M_couldBe_11 (fun v3 => ?_)
      refine PJ.iconst (pc := 14) (v := 5) d_M_couldBe_14 (by decide) ?_
      refine PJ.iload_n (pc := 15) d_M_couldBe_15 rfl ?_
      refine PJ.imul (pc := 16) d_M_couldBe_16 ?_
      refine PJ.iload_n (pc := 17) d_M_couldBe_17 rfl ?_
      refine PJ.iadd (pc := 18) d_M_couldBe_18 ?_
      refine PJ.iald (pc := 19) d_M_couldBe_19 (fun v4 => ?_)
      refine PJ.bind (fun j5 : Int32 => ((30 : Nat), ([some (.inr (.inr a0)), some (.inl a1), none, some (.inl s1.2)] : List (Option PV)), ([.inl j5, .inl s1.1] : List PV), (h : PH), (0 : Nat), (0 : Nat))) ?_ (fun j5 => ?_)
      · refine PJ.if_le (pc := 20) (tgt := 29) d_M_couldBe_20 (by decide) (fun _ => ?_) (fun _ => ?_)
        · refine PJ.iconst (pc := 29) (v := 0) d_M_couldBe_29 (by decide) ?_
          refine PJ.mk (L1 := [some (.inr (.inr a0)), some (.inl a1), none, some (.inl s1.2)]) [true, true, false, true] rfl ?_
          exact PJ.done rfl
        · refine PJ.iconst (pc := 23) (v := 1) d_M_couldBe_23 (by decide) ?_
          refine PJ.iload_n (pc := 24) d_M_couldBe_24 rfl ?_
          refine PJ.ishl (pc := 25) d_M_couldBe_25 ?_
          refine PJ.goto (pc := 26) (tgt := 30) d_M_couldBe_26 (by decide) ?_
          refine PJ.mk (L1 := [some (.inr (.inr a0)), some (.inl a1), none, some (.inl s1.2)]) [true, true, false, true] rfl ?_
          exact PJ.done rfl
      · show PJ l G (pj_rm 1 0 0) Y_M_couldBe 30 [some (.inr (.inr a0)), some (.inl a1), none, some (.inl s1.2)] [.inl j5, .inl s1.1] h 0 0 _ _
        refine PJ.ior (pc := 30) d_M_couldBe_30 ?_
        refine PJ.istore_n (pc := 31) (L1 := [some (.inr (.inr a0)), some (.inl a1), some (.inl (s1.1 ||| j5)), some (.inl s1.2)]) d_M_couldBe_31 (Nat.le_of_ble_eq_true rfl) rfl rfl ?_
        refine PJ.iinc (pc := 32) (v := 1) (L1 := [some (.inr (.inr a0)), some (.inl a1), some (.inl (s1.1 ||| j5)), some (.inl (s1.2 + (1 : Int32)))]) d_M_couldBe_32 rfl (by decide) (Nat.le_of_ble_eq_true rfl) rfl rfl ?_
        refine PJ.goto (pc := 35) (tgt := 4) d_M_couldBe_35 (by decide) ?_
        exact PJ.done rfl
  · show PJ l G (pj_rm 1 0 0) Y_M_couldBe 38 [none, none, some (.inl x2), none] [] h 0 0 _ _
    refine PJ.iload_n (pc := 38) d_M_couldBe_38 rfl ?_
    exact PJ.iretp (pc := 39) d_M_couldBe_39 rfl (Nat.le_of_ble_eq_true rfl) (Nat.le_of_ble_eq_true rfl)
theorem d_M_could_0 : decode Y_M_could.2.1 0 = .ok (.aload_n 0, 1) := by decide +kernel
theorem d_M_could_1 : decode Y_M_could.2.1 1 = .ok (.iconst 0, 1) := by decide +kernel
theorem d_M_could_2 : decode Y_M_could.2.1 2 = .ok (.putfield 46, 3) := by decide +kernel
theorem d_M_could_5 : decode Y_M_could.2.1 5 = .ok (.aload_n 0, 1) := by decide +kernel
theorem d_M_could_6 : decode Y_M_could.2.1 6 = .ok (.iload_n 1, 1) := by decide +kernel
theorem d_M_could_7 : decode Y_M_could.2.1 7 = .ok (.invokevirtual 477, 3) := by decide +kernel
theorem d_M_could_10 : decode Y_M_could.2.1 10 = .ok (.ifCond .ne 9, 3) := by decide +kernel
theorem d_M_could_13 : decode Y_M_could.2.1 13 = .ok (.aload_n 0, 1) := by decide +kernel
theorem d_M_could_14 : decode Y_M_could.2.1 14 = .ok (.iconst 1, 1) := by decide +kernel
theorem d_M_could_15 : decode Y_M_could.2.1 15 = .ok (.invokevirtual 52, 3) := by decide +kernel
theorem d_M_could_18 : decode Y_M_could.2.1 18 = .ok (.ireturn, 1) := by decide +kernel
theorem d_M_could_19 : decode Y_M_could.2.1 19 = .ok (.aload_n 0, 1) := by decide +kernel
theorem d_M_could_20 : decode Y_M_could.2.1 20 = .ok (.aload_n 0, 1) := by decide +kernel
theorem d_M_could_21 : decode Y_M_could.2.1 21 = .ok (.getfield 341, 3) := by decide +kernel
theorem d_M_could_24 : decode Y_M_could.2.1 24 = .ok (.getfield 309, 3) := by decide +kernel
theorem d_M_could_27 : decode Y_M_could.2.1 27 = .ok (.iload_n 1, 1) := by decide +kernel
theorem d_M_could_28 : decode Y_M_could.2.1 28 = .ok (.iaload, 1) := by decide +kernel
theorem d_M_could_29 : decode Y_M_could.2.1 29 = .ok (.invokevirtual 474, 3) := by decide +kernel
theorem d_M_could_32 : decode Y_M_could.2.1 32 = .ok (.aload_n 0, 1) := by decide +kernel
theorem d_M_could_33 : decode Y_M_could.2.1 33 = .ok (.aload_n 0, 1) := by decide +kernel
theorem d_M_could_34 : decode Y_M_could.2.1 34 = .ok (.iload_n 1, 1) := by decide +kernel
theorem d_M_could_35 : decode Y_M_could.2.1 35 = .ok (.invokevirtual 480, 3) := by decide +kernel
theorem d_M_could_38 : decode Y_M_could.2.1 38 = .ok (.invokevirtual 58, 3) := by decide +kernel
theorem d_M_could_41 : decode Y_M_could.2.1 41 = .ok (.ireturn, 1) := by decide +kernel
def f_M_could (h : PH) (a0 : Option Nat) (a1 : Int32) : Option (Int32 × PH) := (sF h 12 a0 0 (.inl (0 : Int32))).bind fun h1 => (cl h1 12 a0 (f_M_isReceipt h1 a0 a1)).bind fun v2 => if ¬ v2 = 0 then ((gR h1 12 a0 3).bind fun v3 => (gR h1 11 v3 19).bind fun v4 => (aI h1 v4 a1).bind fun v5 => (cl h1 12 a0 (f_M_rowsOf h1 a0 v5)).bind fun h6 => (cl h6 12 a0 (f_M_couldBe h6 a0 a1)).bind fun v7 => (cl h6 12 a0 (f_M_good h6 a0 v7)).bind fun v8 => some (v8.1, v8.2)) else ((cl h1 12 a0 (f_M_refused h1 a0 (1 : Int32))).bind fun v9 => some (v9.1, v9.2))
set_option maxRecDepth 20000 in
theorem PM_M_could {l : Launch} {G : Cx} {h : PH} {a0 : Option Nat} {a1 : Int32} {z : (Int32 × PH)} (hz : f_M_could h a0 a1 = some z) : PM l G 5 0 0 Y_M_could [.inr (.inr a0), .inl a1] h (some (.inl z.1), z.2) := by
  refine PM.of (Y := Y_M_could) (cv := (fun z : (Int32 × PH) => (((some (.inl z.1), z.2) : Option PV × PH)))) (by decide) (L0 := [some (.inr (.inr a0)), some (.inl a1)]) 0 rfl (Nat.le_of_ble_eq_true rfl) ?_ hz
  unfold f_M_could
  refine PJ.aload_n (pc := 0) d_M_could_0 rfl ?_
  refine PJ.iconst (pc := 1) (v := 0) d_M_could_1 (by decide) ?_
  refine PJ.putI (pc := 2) ps_M_46 d_M_could_2 (fun h1 => ?_)
  refine PJ.aload_n (pc := 5) d_M_could_5 rfl ?_
  refine PJ.iload_n (pc := 6) d_M_could_6 rfl ?_
  refine PJ.cVpI (pc := 7) cs_M_477 (fun z hz => PM_M_isReceipt hz) (pj_fitb rfl) rfl rfl (Nat.le_of_ble_eq_true rfl) d_M_could_7 (fun v2 => ?_)
  refine PJ.if_ne (pc := 10) (tgt := 19) d_M_could_10 (by decide) (fun _ => ?_) (fun _ => ?_)
  · refine PJ.aload_n (pc := 19) d_M_could_19 rfl ?_
    refine PJ.aload_n (pc := 20) d_M_could_20 rfl ?_
    refine PJ.getR (pc := 21) fs_M_341 d_M_could_21 (fun v3 => ?_)
    refine PJ.getR (pc := 24) fs_M_309 d_M_could_24 (fun v4 => ?_)
    refine PJ.iload_n (pc := 27) d_M_could_27 rfl ?_
    refine PJ.iald (pc := 28) d_M_could_28 (fun v5 => ?_)
    refine PJ.cVV (pc := 29) cs_M_474 (fun z hz => PM_M_rowsOf hz) (pj_fitb rfl) rfl rfl (Nat.le_of_ble_eq_true rfl) d_M_could_29 (fun h6 => ?_)
    refine PJ.aload_n (pc := 32) d_M_could_32 rfl ?_
    refine PJ.aload_n (pc := 33) d_M_could_33 rfl ?_
    refine PJ.iload_n (pc := 34) d_M_could_34 rfl ?_
    refine PJ.cVpI (pc := 35) cs_M_480 (fun z hz => PM_M_couldBe hz) (pj_fitb rfl) rfl rfl (Nat.le_of_ble_eq_true rfl) d_M_could_35 (fun v7 => ?_)
    refine PJ.cVI (pc := 38) cs_M_58 (fun z hz => PM_M_good hz) (pj_fitb rfl) rfl rfl (Nat.le_of_ble_eq_true rfl) d_M_could_38 (fun v8 => ?_)
    exact PJ.iret (pc := 41) d_M_could_41 rfl (Nat.le_of_ble_eq_true rfl) (Nat.le_of_ble_eq_true rfl)
  · refine PJ.aload_n (pc := 13) d_M_could_13 rfl ?_
    refine PJ.iconst (pc := 14) (v := 1) d_M_could_14 (by decide) ?_
    refine PJ.cVI (pc := 15) cs_M_52 (fun z hz => PM_M_refused hz) (pj_fitb rfl) rfl rfl (Nat.le_of_ble_eq_true rfl) d_M_could_15 (fun v9 => ?_)
    exact PJ.iret (pc := 18) d_M_could_18 rfl (Nat.le_of_ble_eq_true rfl) (Nat.le_of_ble_eq_true rfl)
theorem d_M_surely_0 : decode Y_M_surely.2.1 0 = .ok (.aload_n 0, 1) := by decide +kernel
theorem d_M_surely_1 : decode Y_M_surely.2.1 1 = .ok (.iconst 0, 1) := by decide +kernel
theorem d_M_surely_2 : decode Y_M_surely.2.1 2 = .ok (.putfield 46, 3) := by decide +kernel
theorem d_M_surely_5 : decode Y_M_surely.2.1 5 = .ok (.aload_n 0, 1) := by decide +kernel
theorem d_M_surely_6 : decode Y_M_surely.2.1 6 = .ok (.iload_n 1, 1) := by decide +kernel
theorem d_M_surely_7 : decode Y_M_surely.2.1 7 = .ok (.invokevirtual 477, 3) := by decide +kernel
theorem d_M_surely_10 : decode Y_M_surely.2.1 10 = .ok (.ifCond .ne 9, 3) := by decide +kernel
theorem d_M_surely_13 : decode Y_M_surely.2.1 13 = .ok (.aload_n 0, 1) := by decide +kernel
theorem d_M_surely_14 : decode Y_M_surely.2.1 14 = .ok (.iconst 1, 1) := by decide +kernel
theorem d_M_surely_15 : decode Y_M_surely.2.1 15 = .ok (.invokevirtual 52, 3) := by decide +kernel
theorem d_M_surely_18 : decode Y_M_surely.2.1 18 = .ok (.ireturn, 1) := by decide +kernel
theorem d_M_surely_19 : decode Y_M_surely.2.1 19 = .ok (.aload_n 0, 1) := by decide +kernel
theorem d_M_surely_20 : decode Y_M_surely.2.1 20 = .ok (.aload_n 0, 1) := by decide +kernel
theorem d_M_surely_21 : decode Y_M_surely.2.1 21 = .ok (.getfield 341, 3) := by decide +kernel
theorem d_M_surely_24 : decode Y_M_surely.2.1 24 = .ok (.getfield 309, 3) := by decide +kernel
theorem d_M_surely_27 : decode Y_M_surely.2.1 27 = .ok (.iload_n 1, 1) := by decide +kernel
theorem d_M_surely_28 : decode Y_M_surely.2.1 28 = .ok (.iaload, 1) := by decide +kernel
theorem d_M_surely_29 : decode Y_M_surely.2.1 29 = .ok (.invokevirtual 474, 3) := by decide +kernel
theorem d_M_surely_32 : decode Y_M_surely.2.1 32 = .ok (.iconst 0, 1) := by decide +kernel
theorem d_M_surely_33 : decode Y_M_surely.2.1 33 = .ok (.istore_n 2, 1) := by decide +kernel
theorem d_M_surely_34 : decode Y_M_surely.2.1 34 = .ok (.iload_n 2, 1) := by decide +kernel
theorem d_M_surely_35 : decode Y_M_surely.2.1 35 = .ok (.iconst 5, 1) := by decide +kernel
theorem d_M_surely_36 : decode Y_M_surely.2.1 36 = .ok (.if_icmp .ge 26, 3) := by decide +kernel
theorem d_M_surely_39 : decode Y_M_surely.2.1 39 = .ok (.aload_n 0, 1) := by decide +kernel
theorem d_M_surely_40 : decode Y_M_surely.2.1 40 = .ok (.iload_n 1, 1) := by decide +kernel
theorem d_M_surely_41 : decode Y_M_surely.2.1 41 = .ok (.invokevirtual 480, 3) := by decide +kernel
theorem d_M_surely_44 : decode Y_M_surely.2.1 44 = .ok (.iconst 1, 1) := by decide +kernel
theorem d_M_surely_45 : decode Y_M_surely.2.1 45 = .ok (.iload_n 2, 1) := by decide +kernel
theorem d_M_surely_46 : decode Y_M_surely.2.1 46 = .ok (.ishl, 1) := by decide +kernel
theorem d_M_surely_47 : decode Y_M_surely.2.1 47 = .ok (.if_icmp .ne 9, 3) := by decide +kernel
theorem d_M_surely_50 : decode Y_M_surely.2.1 50 = .ok (.aload_n 0, 1) := by decide +kernel
theorem d_M_surely_51 : decode Y_M_surely.2.1 51 = .ok (.iload_n 2, 1) := by decide +kernel
theorem d_M_surely_52 : decode Y_M_surely.2.1 52 = .ok (.invokevirtual 58, 3) := by decide +kernel
theorem d_M_surely_55 : decode Y_M_surely.2.1 55 = .ok (.ireturn, 1) := by decide +kernel
theorem d_M_surely_56 : decode Y_M_surely.2.1 56 = .ok (.iinc 2 1, 3) := by decide +kernel
theorem d_M_surely_59 : decode Y_M_surely.2.1 59 = .ok (.goto (-25), 3) := by decide +kernel
theorem d_M_surely_62 : decode Y_M_surely.2.1 62 = .ok (.aload_n 0, 1) := by decide +kernel
theorem d_M_surely_63 : decode Y_M_surely.2.1 63 = .ok (.bipush (-2), 2) := by decide +kernel
theorem d_M_surely_65 : decode Y_M_surely.2.1 65 = .ok (.invokevirtual 58, 3) := by decide +kernel
theorem d_M_surely_68 : decode Y_M_surely.2.1 68 = .ok (.ireturn, 1) := by decide +kernel
def f_M_surely (h : PH) (a0 : Option Nat) (a1 : Int32) : Option (Int32 × PH) := (sF h 12 a0 0 (.inl (0 : Int32))).bind fun h1 => (cl h1 12 a0 (f_M_isReceipt h1 a0 a1)).bind fun v2 => if ¬ v2 = 0 then ((gR h1 12 a0 3).bind fun v3 => (gR h1 11 v3 19).bind fun v4 => (aI h1 v4 a1).bind fun v5 => (cl h1 12 a0 (f_M_rowsOf h1 a0 v5)).bind fun h6 => (pj_it (X := (Unit) ⊕ (Int32)) (fun s7 : Int32 => if (5 : Int32) ≤ s7 then (some (.inr (.inl ()))) else ((cl h6 12 a0 (f_M_couldBe h6 a0 a1)).bind fun v9 => if ¬ v9 = ((1 : Int32) <<< (s7 &&& 31)) then (some (.inl (s7 + (1 : Int32)))) else (some (.inr (.inr s7))))) FU (0 : Int32)).bind fun x8 => match x8 with | (.inl yx8_0) => (cl h6 12 a0 (f_M_good h6 a0 (-2 : Int32))).bind fun v10 => some (v10.1, v10.2) | (.inr yx8_1) => (cl h6 12 a0 (f_M_good h6 a0 yx8_1)).bind fun v11 => some (v11.1, v11.2)) else ((cl h1 12 a0 (f_M_refused h1 a0 (1 : Int32))).bind fun v12 => some (v12.1, v12.2))
set_option maxRecDepth 20000 in
theorem PM_M_surely {l : Launch} {G : Cx} {h : PH} {a0 : Option Nat} {a1 : Int32} {z : (Int32 × PH)} (hz : f_M_surely h a0 a1 = some z) : PM l G 5 0 0 Y_M_surely [.inr (.inr a0), .inl a1] h (some (.inl z.1), z.2) := by
  refine PM.of (Y := Y_M_surely) (cv := (fun z : (Int32 × PH) => (((some (.inl z.1), z.2) : Option PV × PH)))) (by decide) (L0 := [some (.inr (.inr a0)), some (.inl a1), none]) 1 rfl (Nat.le_of_ble_eq_true rfl) ?_ hz
  unfold f_M_surely
  refine PJ.aload_n (pc := 0) d_M_surely_0 rfl ?_
  refine PJ.iconst (pc := 1) (v := 0) d_M_surely_1 (by decide) ?_
  refine PJ.putI (pc := 2) ps_M_46 d_M_surely_2 (fun h1 => ?_)
  refine PJ.aload_n (pc := 5) d_M_surely_5 rfl ?_
  refine PJ.iload_n (pc := 6) d_M_surely_6 rfl ?_
  refine PJ.cVpI (pc := 7) cs_M_477 (fun z hz => PM_M_isReceipt hz) (pj_fitb rfl) rfl rfl (Nat.le_of_ble_eq_true rfl) d_M_surely_7 (fun v2 => ?_)
  refine PJ.if_ne (pc := 10) (tgt := 19) d_M_surely_10 (by decide) (fun _ => ?_) (fun _ => ?_)
  · refine PJ.aload_n (pc := 19) d_M_surely_19 rfl ?_
    refine PJ.aload_n (pc := 20) d_M_surely_20 rfl ?_
    refine PJ.getR (pc := 21) fs_M_341 d_M_surely_21 (fun v3 => ?_)
    refine PJ.getR (pc := 24) fs_M_309 d_M_surely_24 (fun v4 => ?_)
    refine PJ.iload_n (pc := 27) d_M_surely_27 rfl ?_
    refine PJ.iald (pc := 28) d_M_surely_28 (fun v5 => ?_)
    refine PJ.cVV (pc := 29) cs_M_474 (fun z hz => PM_M_rowsOf hz) (pj_fitb rfl) rfl rfl (Nat.le_of_ble_eq_true rfl) d_M_surely_29 (fun h6 => ?_)
    refine PJ.iconst (pc := 32) (v := 0) d_M_surely_32 (by decide) ?_
    refine PJ.istore_n (pc := 33) (L1 := [some (.inr (.inr a0)), some (.inl a1), some (.inl (0 : Int32))]) d_M_surely_33 (Nat.le_of_ble_eq_true rfl) rfl rfl ?_
    refine PJ.bind (fun x8 : (Unit) ⊕ (Int32) => match x8 with | (.inl y0) => ((62 : Nat), ([some (.inr (.inr a0)), none, none] : List (Option PV)), ([] : List PV), (h6 : PH), (0 : Nat), (0 : Nat)) | (.inr y1) => ((50 : Nat), ([some (.inr (.inr a0)), none, some (.inl y1)] : List (Option PV)), ([] : List PV), (h6 : PH), (0 : Nat), (0 : Nat))) (PJ.it (E := (fun s7 : Int32 => ((34 : Nat), ([some (.inr (.inr a0)), some (.inl a1), some (.inl s7)] : List (Option PV)), ([] : List PV), (h6 : PH), (0 : Nat), (0 : Nat)))) (F := (fun x8 : (Unit) ⊕ (Int32) => match x8 with | (.inl y0) => ((62 : Nat), ([some (.inr (.inr a0)), none, none] : List (Option PV)), ([] : List PV), (h6 : PH), (0 : Nat), (0 : Nat)) | (.inr y1) => ((50 : Nat), ([some (.inr (.inr a0)), none, some (.inl y1)] : List (Option PV)), ([] : List PV), (h6 : PH), (0 : Nat), (0 : Nat)))) (fun s7 => ?_) FU (0 : Int32)) (fun x8 => ?_)
    · show PJ l G (pj_rm 5 0 0) Y_M_surely 34 [some (.inr (.inr a0)), some (.inl a1), some (.inl s7)] [] h6 0 0 _ _
      refine PJ.iload_n (pc := 34) d_M_surely_34 rfl ?_
      refine PJ.iconst (pc := 35) (v := 5) d_M_surely_35 (by decide) ?_
      refine PJ.icmp_ge (pc := 36) (tgt := 62) d_M_surely_36 (by decide) (fun _ => ?_) (fun _ => ?_)
      · refine PJ.mk (L1 := [some (.inr (.inr a0)), none, none]) [true, false, false] rfl ?_
        exact PJ.done rfl
      · refine PJ.aload_n (pc := 39) d_M_surely_39 rfl ?_
        refine PJ.iload_n (pc := 40) d_M_surely_40 rfl ?_
        refine PJ.cVpI (pc := 41) cs_M_480 (fun z hz => PM_M_couldBe hz) (pj_fitb rfl) rfl rfl (Nat.le_of_ble_eq_true rfl) d_M_surely_41 (fun v9 => ?_)
        refine PJ.iconst (pc := 44) (v := 1) d_M_surely_44 (by decide) ?_
        refine PJ.iload_n (pc := 45) d_M_surely_45 rfl ?_
        refine PJ.ishl (pc := 46) d_M_surely_46 ?_
        refine PJ.icmp_ne (pc := 47) (tgt := 56) d_M_surely_47 (by decide) (fun _ => ?_) (fun _ => ?_)
        · refine PJ.iinc (pc := 56) (v := 1) (L1 := [some (.inr (.inr a0)), some (.inl a1), some (.inl (s7 + (1 : Int32)))]) d_M_surely_56 rfl (by decide) (Nat.le_of_ble_eq_true rfl) rfl rfl ?_
          refine PJ.goto (pc := 59) (tgt := 34) d_M_surely_59 (by decide) ?_
          exact PJ.done rfl
        · refine PJ.mk (L1 := [some (.inr (.inr a0)), none, some (.inl s7)]) [true, false, true] rfl ?_
          exact PJ.done rfl
    · rcases x8 with yx8_0 | yx8_1
      · show PJ l G (pj_rm 5 0 0) Y_M_surely 62 [some (.inr (.inr a0)), none, none] [] h6 0 0 _ _
        refine PJ.aload_n (pc := 62) d_M_surely_62 rfl ?_
        refine PJ.bipush (pc := 63) (v := -2) d_M_surely_63 (by decide) ?_
        refine PJ.cVI (pc := 65) cs_M_58 (fun z hz => PM_M_good hz) (pj_fitb rfl) rfl rfl (Nat.le_of_ble_eq_true rfl) d_M_surely_65 (fun v10 => ?_)
        exact PJ.iret (pc := 68) d_M_surely_68 rfl (Nat.le_of_ble_eq_true rfl) (Nat.le_of_ble_eq_true rfl)
      · show PJ l G (pj_rm 5 0 0) Y_M_surely 50 [some (.inr (.inr a0)), none, some (.inl yx8_1)] [] h6 0 0 _ _
        refine PJ.aload_n (pc := 50) d_M_surely_50 rfl ?_
        refine PJ.iload_n (pc := 51) d_M_surely_51 rfl ?_
        refine PJ.cVI (pc := 52) cs_M_58 (fun z hz => PM_M_good hz) (pj_fitb rfl) rfl rfl (Nat.le_of_ble_eq_true rfl) d_M_surely_52 (fun v11 => ?_)
        exact PJ.iret (pc := 55) d_M_surely_55 rfl (Nat.le_of_ble_eq_true rfl) (Nat.le_of_ble_eq_true rfl)
  · refine PJ.aload_n (pc := 13) d_M_surely_13 rfl ?_
    refine PJ.iconst (pc := 14) (v := 1) d_M_surely_14 (by decide) ?_
    refine PJ.cVI (pc := 15) cs_M_52 (fun z hz => PM_M_refused hz) (pj_fitb rfl) rfl rfl (Nat.le_of_ble_eq_true rfl) d_M_surely_15 (fun v12 => ?_)
    exact PJ.iret (pc := 18) d_M_surely_18 rfl (Nat.le_of_ble_eq_true rfl) (Nat.le_of_ble_eq_true rfl)
theorem d_M_firstOf_0 : decode Y_M_firstOf.2.1 0 = .ok (.aload_n 0, 1) := by decide +kernel
theorem d_M_firstOf_1 : decode Y_M_firstOf.2.1 1 = .ok (.iconst 0, 1) := by decide +kernel
theorem d_M_firstOf_2 : decode Y_M_firstOf.2.1 2 = .ok (.putfield 46, 3) := by decide +kernel
theorem d_M_firstOf_5 : decode Y_M_firstOf.2.1 5 = .ok (.aload_n 0, 1) := by decide +kernel
theorem d_M_firstOf_6 : decode Y_M_firstOf.2.1 6 = .ok (.iload_n 1, 1) := by decide +kernel
theorem d_M_firstOf_7 : decode Y_M_firstOf.2.1 7 = .ok (.invokevirtual 477, 3) := by decide +kernel
theorem d_M_firstOf_10 : decode Y_M_firstOf.2.1 10 = .ok (.ifCond .ne 9, 3) := by decide +kernel
theorem d_M_firstOf_13 : decode Y_M_firstOf.2.1 13 = .ok (.aload_n 0, 1) := by decide +kernel
theorem d_M_firstOf_14 : decode Y_M_firstOf.2.1 14 = .ok (.iconst 1, 1) := by decide +kernel
theorem d_M_firstOf_15 : decode Y_M_firstOf.2.1 15 = .ok (.invokevirtual 52, 3) := by decide +kernel
theorem d_M_firstOf_18 : decode Y_M_firstOf.2.1 18 = .ok (.ireturn, 1) := by decide +kernel
theorem d_M_firstOf_19 : decode Y_M_firstOf.2.1 19 = .ok (.aload_n 0, 1) := by decide +kernel
theorem d_M_firstOf_20 : decode Y_M_firstOf.2.1 20 = .ok (.aload_n 0, 1) := by decide +kernel
theorem d_M_firstOf_21 : decode Y_M_firstOf.2.1 21 = .ok (.getfield 341, 3) := by decide +kernel
theorem d_M_firstOf_24 : decode Y_M_firstOf.2.1 24 = .ok (.getfield 309, 3) := by decide +kernel
theorem d_M_firstOf_27 : decode Y_M_firstOf.2.1 27 = .ok (.iload_n 1, 1) := by decide +kernel
theorem d_M_firstOf_28 : decode Y_M_firstOf.2.1 28 = .ok (.iaload, 1) := by decide +kernel
theorem d_M_firstOf_29 : decode Y_M_firstOf.2.1 29 = .ok (.invokevirtual 474, 3) := by decide +kernel
theorem d_M_firstOf_32 : decode Y_M_firstOf.2.1 32 = .ok (.aload_n 0, 1) := by decide +kernel
theorem d_M_firstOf_33 : decode Y_M_firstOf.2.1 33 = .ok (.aload_n 0, 1) := by decide +kernel
theorem d_M_firstOf_34 : decode Y_M_firstOf.2.1 34 = .ok (.getfield 462, 3) := by decide +kernel
theorem d_M_firstOf_37 : decode Y_M_firstOf.2.1 37 = .ok (.ifCond .ne 8, 3) := by decide +kernel
theorem d_M_firstOf_40 : decode Y_M_firstOf.2.1 40 = .ok (.bipush (-2), 2) := by decide +kernel
theorem d_M_firstOf_42 : decode Y_M_firstOf.2.1 42 = .ok (.goto 9, 3) := by decide +kernel
theorem d_M_firstOf_45 : decode Y_M_firstOf.2.1 45 = .ok (.aload_n 0, 1) := by decide +kernel
theorem d_M_firstOf_46 : decode Y_M_firstOf.2.1 46 = .ok (.getfield 40, 3) := by decide +kernel
theorem d_M_firstOf_49 : decode Y_M_firstOf.2.1 49 = .ok (.iload_n 1, 1) := by decide +kernel
theorem d_M_firstOf_50 : decode Y_M_firstOf.2.1 50 = .ok (.iaload, 1) := by decide +kernel
theorem d_M_firstOf_51 : decode Y_M_firstOf.2.1 51 = .ok (.invokevirtual 58, 3) := by decide +kernel
theorem d_M_firstOf_54 : decode Y_M_firstOf.2.1 54 = .ok (.ireturn, 1) := by decide +kernel
def f_M_firstOf (h : PH) (a0 : Option Nat) (a1 : Int32) : Option (Int32 × PH) := (sF h 12 a0 0 (.inl (0 : Int32))).bind fun h1 => (cl h1 12 a0 (f_M_isReceipt h1 a0 a1)).bind fun v2 => if ¬ v2 = 0 then ((gR h1 12 a0 3).bind fun v3 => (gR h1 11 v3 19).bind fun v4 => (aI h1 v4 a1).bind fun v5 => (cl h1 12 a0 (f_M_rowsOf h1 a0 v5)).bind fun h6 => (gI h6 12 a0 28).bind fun v7 => (if ¬ v7 = 0 then ((gR h6 12 a0 26).bind fun v9 => (aI h6 v9 a1).bind fun v10 => some v10) else (some (-2 : Int32)) : Option (Int32)).bind fun j8 => (cl h6 12 a0 (f_M_good h6 a0 j8)).bind fun v11 => some (v11.1, v11.2)) else ((cl h1 12 a0 (f_M_refused h1 a0 (1 : Int32))).bind fun v12 => some (v12.1, v12.2))
set_option maxRecDepth 20000 in
theorem PM_M_firstOf {l : Launch} {G : Cx} {h : PH} {a0 : Option Nat} {a1 : Int32} {z : (Int32 × PH)} (hz : f_M_firstOf h a0 a1 = some z) : PM l G 5 0 0 Y_M_firstOf [.inr (.inr a0), .inl a1] h (some (.inl z.1), z.2) := by
  refine PM.of (Y := Y_M_firstOf) (cv := (fun z : (Int32 × PH) => (((some (.inl z.1), z.2) : Option PV × PH)))) (by decide) (L0 := [some (.inr (.inr a0)), some (.inl a1)]) 0 rfl (Nat.le_of_ble_eq_true rfl) ?_ hz
  unfold f_M_firstOf
  refine PJ.aload_n (pc := 0) d_M_firstOf_0 rfl ?_
  refine PJ.iconst (pc := 1) (v := 0) d_M_firstOf_1 (by decide) ?_
  refine PJ.putI (pc := 2) ps_M_46 d_M_firstOf_2 (fun h1 => ?_)
  refine PJ.aload_n (pc := 5) d_M_firstOf_5 rfl ?_
  refine PJ.iload_n (pc := 6) d_M_firstOf_6 rfl ?_
  refine PJ.cVpI (pc := 7) cs_M_477 (fun z hz => PM_M_isReceipt hz) (pj_fitb rfl) rfl rfl (Nat.le_of_ble_eq_true rfl) d_M_firstOf_7 (fun v2 => ?_)
  refine PJ.if_ne (pc := 10) (tgt := 19) d_M_firstOf_10 (by decide) (fun _ => ?_) (fun _ => ?_)
  · refine PJ.aload_n (pc := 19) d_M_firstOf_19 rfl ?_
    refine PJ.aload_n (pc := 20) d_M_firstOf_20 rfl ?_
    refine PJ.getR (pc := 21) fs_M_341 d_M_firstOf_21 (fun v3 => ?_)
    refine PJ.getR (pc := 24) fs_M_309 d_M_firstOf_24 (fun v4 => ?_)
    refine PJ.iload_n (pc := 27) d_M_firstOf_27 rfl ?_
    refine PJ.iald (pc := 28) d_M_firstOf_28 (fun v5 => ?_)
    refine PJ.cVV (pc := 29) cs_M_474 (fun z hz => PM_M_rowsOf hz) (pj_fitb rfl) rfl rfl (Nat.le_of_ble_eq_true rfl) d_M_firstOf_29 (fun h6 => ?_)
    refine PJ.aload_n (pc := 32) d_M_firstOf_32 rfl ?_
    refine PJ.aload_n (pc := 33) d_M_firstOf_33 rfl ?_
    refine PJ.getI (pc := 34) fs_M_462 d_M_firstOf_34 (fun v7 => ?_)
    refine PJ.bind (fun j8 : Int32 => ((51 : Nat), ([none, none] : List (Option PV)), ([.inl j8, .inr (.inr a0)] : List PV), (h6 : PH), (0 : Nat), (0 : Nat))) ?_ (fun j8 => ?_)
    · refine PJ.if_ne (pc := 37) (tgt := 45) d_M_firstOf_37 (by decide) (fun _ => ?_) (fun _ => ?_)
      · refine PJ.aload_n (pc := 45) d_M_firstOf_45 rfl ?_
        refine PJ.getR (pc := 46) fs_M_40 d_M_firstOf_46 (fun v9 => ?_)
        refine PJ.iload_n (pc := 49) d_M_firstOf_49 rfl ?_
        refine PJ.iald (pc := 50) d_M_firstOf_50 (fun v10 => ?_)
        refine PJ.mk (L1 := [none, none]) [false, false] rfl ?_
        exact PJ.done rfl
      · refine PJ.bipush (pc := 40) (v := -2) d_M_firstOf_40 (by decide) ?_
        refine PJ.goto (pc := 42) (tgt := 51) d_M_firstOf_42 (by decide) ?_
        refine PJ.mk (L1 := [none, none]) [false, false] rfl ?_
        exact PJ.done rfl
    · show PJ l G (pj_rm 5 0 0) Y_M_firstOf 51 [none, none] [.inl j8, .inr (.inr a0)] h6 0 0 _ _
      refine PJ.cVI (pc := 51) cs_M_58 (fun z hz => PM_M_good hz) (pj_fitb rfl) rfl rfl (Nat.le_of_ble_eq_true rfl) d_M_firstOf_51 (fun v11 => ?_)
      exact PJ.iret (pc := 54) d_M_firstOf_54 rfl (Nat.le_of_ble_eq_true rfl) (Nat.le_of_ble_eq_true rfl)
  · refine PJ.aload_n (pc := 13) d_M_firstOf_13 rfl ?_
    refine PJ.iconst (pc := 14) (v := 1) d_M_firstOf_14 (by decide) ?_
    refine PJ.cVI (pc := 15) cs_M_52 (fun z hz => PM_M_refused hz) (pj_fitb rfl) rfl rfl (Nat.le_of_ble_eq_true rfl) d_M_firstOf_15 (fun v12 => ?_)
    exact PJ.iret (pc := 18) d_M_firstOf_18 rfl (Nat.le_of_ble_eq_true rfl) (Nat.le_of_ble_eq_true rfl)
