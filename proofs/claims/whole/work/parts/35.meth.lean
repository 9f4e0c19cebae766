-- sites and methods: meth
abbrev Y_M_planFirst : MI := (⟨"WaverTaxModel", "planFirst", "(II)I"⟩, prog_13_method_82_code, 4, (some .int))
abbrev Y_M_stays : MI := (⟨"WaverTaxModel", "stays", "(IIZ)J"⟩, prog_13_method_83_code, 11, (some .long))
abbrev Y_M_planBy : MI := (⟨"WaverTaxModel", "planBy", "(IIIZ)J"⟩, prog_13_method_84_code, 6, (some .long))
abbrev Y_M_raising : MI := (⟨"WaverTaxModel", "raising", "()I"⟩, prog_13_method_85_code, 3, (some .int))
abbrev Y_M_raised : MI := (⟨"WaverTaxModel", "raised", "()I"⟩, prog_13_method_91_code, 1, (some .int))
abbrev Y_M_harming : MI := (⟨"WaverTaxModel", "harming", "()I"⟩, prog_13_method_86_code, 5, (some .int))
abbrev Y_M_harm : MI := (⟨"WaverTaxModel", "harm", "()I"⟩, prog_13_method_92_code, 1, (some .int))
abbrev Y_M_refusesTable : MI := (⟨"WaverTaxModel", "refusesTable", "(I)I"⟩, prog_13_method_89_code, 2, (some .int))
abbrev Y_M_byTable : MI := (⟨"WaverTaxModel", "byTable", "(I)V"⟩, prog_13_method_87_code, 2, (none : Option FieldType))
abbrev Y_M_raisedBy : MI := (⟨"WaverTaxModel", "raisedBy", "(I)I"⟩, prog_13_method_93_code, 3, (some .int))
abbrev Y_M_harmBy : MI := (⟨"WaverTaxModel", "harmBy", "(I)I"⟩, prog_13_method_94_code, 3, (some .int))
abbrev Y_M_bestTable : MI := (⟨"WaverTaxModel", "bestTable", "()I"⟩, prog_13_method_95_code, 7, (some .int))
abbrev Y_M_refusesThird : MI := (⟨"WaverTaxModel", "refusesThird", "(I)I"⟩, prog_13_method_90_code, 2, (some .int))
abbrev Y_M_byThird : MI := (⟨"WaverTaxModel", "byThird", "(I)V"⟩, prog_13_method_88_code, 2, (none : Option FieldType))
theorem cm_M_raising : (Cond.code Y_M_raising.1 Y_M_raising.2.1 Y_M_raising.2.2.1 Y_M_raising.2.2.2 ∈ pj_ws) ∧ (Cond.initialized Y_M_raising.1.cls ∈ pj_ws) ∧ (Y_M_raising.1.cls ≠ "java/lang/invoke/MethodHandle" ∧ Y_M_raising.1.cls ≠ "java/lang/invoke/VarHandle" ∧ (parseMethodDescriptor Y_M_raising.1.desc).map (fun d => d.parameters.length) = some 0) ∧ (Cond.instanceMethod Y_M_raising.1 ∈ pj_ws) ∧ (Cond.selects Y_M_raising.1.cls Y_M_raising.1 Y_M_raising.1 ∈ pj_ws) := ⟨pj_mem 1947 (by decide +kernel) rfl, pj_mem 141 (by decide +kernel) rfl, ⟨by decide +kernel, by decide +kernel, by decide +kernel⟩, pj_mem 1946 (by decide +kernel) rfl, pj_mem 101 (by decide +kernel) rfl⟩
theorem cm_M_harming : (Cond.code Y_M_harming.1 Y_M_harming.2.1 Y_M_harming.2.2.1 Y_M_harming.2.2.2 ∈ pj_ws) ∧ (Cond.initialized Y_M_harming.1.cls ∈ pj_ws) ∧ (Y_M_harming.1.cls ≠ "java/lang/invoke/MethodHandle" ∧ Y_M_harming.1.cls ≠ "java/lang/invoke/VarHandle" ∧ (parseMethodDescriptor Y_M_harming.1.desc).map (fun d => d.parameters.length) = some 0) ∧ (Cond.instanceMethod Y_M_harming.1 ∈ pj_ws) ∧ (Cond.selects Y_M_harming.1.cls Y_M_harming.1 Y_M_harming.1 ∈ pj_ws) := ⟨pj_mem 1955 (by decide +kernel) rfl, pj_mem 141 (by decide +kernel) rfl, ⟨by decide +kernel, by decide +kernel, by decide +kernel⟩, pj_mem 1954 (by decide +kernel) rfl, pj_mem 102 (by decide +kernel) rfl⟩
theorem cm_M_refusesTable : (Cond.code Y_M_refusesTable.1 Y_M_refusesTable.2.1 Y_M_refusesTable.2.2.1 Y_M_refusesTable.2.2.2 ∈ pj_ws) ∧ (Cond.initialized Y_M_refusesTable.1.cls ∈ pj_ws) ∧ (Y_M_refusesTable.1.cls ≠ "java/lang/invoke/MethodHandle" ∧ Y_M_refusesTable.1.cls ≠ "java/lang/invoke/VarHandle" ∧ (parseMethodDescriptor Y_M_refusesTable.1.desc).map (fun d => d.parameters.length) = some 1) ∧ (Cond.instanceMethod Y_M_refusesTable.1 ∈ pj_ws) ∧ (Cond.selects Y_M_refusesTable.1.cls Y_M_refusesTable.1 Y_M_refusesTable.1 ∈ pj_ws) := ⟨pj_mem 1963 (by decide +kernel) rfl, pj_mem 141 (by decide +kernel) rfl, ⟨by decide +kernel, by decide +kernel, by decide +kernel⟩, pj_mem 1962 (by decide +kernel) rfl, pj_mem 103 (by decide +kernel) rfl⟩
theorem cm_M_byTable : (Cond.code Y_M_byTable.1 Y_M_byTable.2.1 Y_M_byTable.2.2.1 Y_M_byTable.2.2.2 ∈ pj_ws) ∧ (Cond.initialized Y_M_byTable.1.cls ∈ pj_ws) ∧ (Y_M_byTable.1.cls ≠ "java/lang/invoke/MethodHandle" ∧ Y_M_byTable.1.cls ≠ "java/lang/invoke/VarHandle" ∧ (parseMethodDescriptor Y_M_byTable.1.desc).map (fun d => d.parameters.length) = some 1) ∧ (Cond.instanceMethod Y_M_byTable.1 ∈ pj_ws) ∧ (Cond.selects Y_M_byTable.1.cls Y_M_byTable.1 Y_M_byTable.1 ∈ pj_ws) := ⟨pj_mem 1967 (by decide +kernel) rfl, pj_mem 141 (by decide +kernel) rfl, ⟨by decide +kernel, by decide +kernel, by decide +kernel⟩, pj_mem 1966 (by decide +kernel) rfl, pj_mem 104 (by decide +kernel) rfl⟩
theorem cs_M_444 : pj_cV "WaverTaxModel" 444 Y_M_raising 0 12 := ⟨⟨cm_M_raising.1, cm_M_raising.2.1, cm_M_raising.2.2.1, Or.inl (pj_mem 1944 (by decide +kernel) rfl)⟩, by decide, cm_M_raising.2.2.2.1, cm_M_raising.2.2.2.2, ⟨_, rfl, rfl⟩⟩
theorem cs_M_447 : pj_cV "WaverTaxModel" 447 Y_M_harming 0 12 := ⟨⟨cm_M_harming.1, cm_M_harming.2.1, cm_M_harming.2.2.1, Or.inl (pj_mem 1952 (by decide +kernel) rfl)⟩, by decide, cm_M_harming.2.2.2.1, cm_M_harming.2.2.2.2, ⟨_, rfl, rfl⟩⟩
theorem cs_M_450 : pj_cV "WaverTaxModel" 450 Y_M_refusesTable 1 12 := ⟨⟨cm_M_refusesTable.1, cm_M_refusesTable.2.1, cm_M_refusesTable.2.2.1, Or.inl (pj_mem 1960 (by decide +kernel) rfl)⟩, by decide, cm_M_refusesTable.2.2.2.1, cm_M_refusesTable.2.2.2.2, ⟨_, rfl, rfl⟩⟩
theorem cs_M_453 : pj_cV "WaverTaxModel" 453 Y_M_byTable 1 12 := ⟨⟨cm_M_byTable.1, cm_M_byTable.2.1, cm_M_byTable.2.2.1, Or.inl (pj_mem 1964 (by decide +kernel) rfl)⟩, by decide, cm_M_byTable.2.2.2.1, cm_M_byTable.2.2.2.2, ⟨_, rfl, rfl⟩⟩
theorem fs_M_417 : pj_fs "WaverTaxModel" 12 24 417 (.int) := ⟨_, _, _, _, cd_12, by decide, rfl, Or.inl (pj_mem 1411 (by decide +kernel) rfl)⟩
theorem d_M_planFirst_0 : decode Y_M_planFirst.2.1 0 = .ok (.aload_n 0, 1) := by decide +kernel
theorem d_M_planFirst_1 : decode Y_M_planFirst.2.1 1 = .ok (.iconst 0, 1) := by decide +kernel
theorem d_M_planFirst_2 : decode Y_M_planFirst.2.1 2 = .ok (.putfield 46, 3) := by decide +kernel
theorem d_M_planFirst_5 : decode Y_M_planFirst.2.1 5 = .ok (.aload_n 0, 1) := by decide +kernel
theorem d_M_planFirst_6 : decode Y_M_planFirst.2.1 6 = .ok (.iload_n 1, 1) := by decide +kernel
theorem d_M_planFirst_7 : decode Y_M_planFirst.2.1 7 = .ok (.iload_n 2, 1) := by decide +kernel
theorem d_M_planFirst_8 : decode Y_M_planFirst.2.1 8 = .ok (.invokevirtual 423, 3) := by decide +kernel
theorem d_M_planFirst_11 : decode Y_M_planFirst.2.1 11 = .ok (.istore_n 3, 1) := by decide +kernel
theorem d_M_planFirst_12 : decode Y_M_planFirst.2.1 12 = .ok (.iload_n 3, 1) := by decide +kernel
theorem d_M_planFirst_13 : decode Y_M_planFirst.2.1 13 = .ok (.ifCond .le 9, 3) := by decide +kernel
theorem d_M_planFirst_16 : decode Y_M_planFirst.2.1 16 = .ok (.aload_n 0, 1) := by decide +kernel
theorem d_M_planFirst_17 : decode Y_M_planFirst.2.1 17 = .ok (.iload_n 3, 1) := by decide +kernel
theorem d_M_planFirst_18 : decode Y_M_planFirst.2.1 18 = .ok (.invokevirtual 52, 3) := by decide +kernel
theorem d_M_planFirst_21 : decode Y_M_planFirst.2.1 21 = .ok (.ireturn, 1) := by decide +kernel
theorem d_M_planFirst_22 : decode Y_M_planFirst.2.1 22 = .ok (.aload_n 0, 1) := by decide +kernel
theorem d_M_planFirst_23 : decode Y_M_planFirst.2.1 23 = .ok (.iload_n 1, 1) := by decide +kernel
theorem d_M_planFirst_24 : decode Y_M_planFirst.2.1 24 = .ok (.iload_n 2, 1) := by decide +kernel
theorem d_M_planFirst_25 : decode Y_M_planFirst.2.1 25 = .ok (.invokevirtual 430, 3) := by decide +kernel
theorem d_M_planFirst_28 : decode Y_M_planFirst.2.1 28 = .ok (.aload_n 0, 1) := by decide +kernel
theorem d_M_planFirst_29 : decode Y_M_planFirst.2.1 29 = .ok (.iload_n 1, 1) := by decide +kernel
theorem d_M_planFirst_30 : decode Y_M_planFirst.2.1 30 = .ok (.iconst 0, 1) := by decide +kernel
theorem d_M_planFirst_31 : decode Y_M_planFirst.2.1 31 = .ok (.iload_n 2, 1) := by decide +kernel
theorem d_M_planFirst_32 : decode Y_M_planFirst.2.1 32 = .ok (.aload_n 0, 1) := by decide +kernel
theorem d_M_planFirst_33 : decode Y_M_planFirst.2.1 33 = .ok (.getfield 17, 3) := by decide +kernel
theorem d_M_planFirst_36 : decode Y_M_planFirst.2.1 36 = .ok (.iconst 0, 1) := by decide +kernel
theorem d_M_planFirst_37 : decode Y_M_planFirst.2.1 37 = .ok (.iload_n 1, 1) := by decide +kernel
theorem d_M_planFirst_38 : decode Y_M_planFirst.2.1 38 = .ok (.iadd, 1) := by decide +kernel
theorem d_M_planFirst_39 : decode Y_M_planFirst.2.1 39 = .ok (.iaload, 1) := by decide +kernel
theorem d_M_planFirst_40 : decode Y_M_planFirst.2.1 40 = .ok (.aload_n 0, 1) := by decide +kernel
theorem d_M_planFirst_41 : decode Y_M_planFirst.2.1 41 = .ok (.iload_n 1, 1) := by decide +kernel
theorem d_M_planFirst_42 : decode Y_M_planFirst.2.1 42 = .ok (.invokevirtual 433, 3) := by decide +kernel
theorem d_M_planFirst_45 : decode Y_M_planFirst.2.1 45 = .ok (.iconst 0, 1) := by decide +kernel
theorem d_M_planFirst_46 : decode Y_M_planFirst.2.1 46 = .ok (.aload_n 0, 1) := by decide +kernel
theorem d_M_planFirst_47 : decode Y_M_planFirst.2.1 47 = .ok (.getfield 17, 3) := by decide +kernel
theorem d_M_planFirst_50 : decode Y_M_planFirst.2.1 50 = .ok (.bipush 20, 2) := by decide +kernel
theorem d_M_planFirst_52 : decode Y_M_planFirst.2.1 52 = .ok (.iaload, 1) := by decide +kernel
theorem d_M_planFirst_53 : decode Y_M_planFirst.2.1 53 = .ok (.invokevirtual 420, 3) := by decide +kernel
theorem d_M_planFirst_56 : decode Y_M_planFirst.2.1 56 = .ok (.pop2, 1) := by decide +kernel
theorem d_M_planFirst_57 : decode Y_M_planFirst.2.1 57 = .ok (.aload_n 0, 1) := by decide +kernel
theorem d_M_planFirst_58 : decode Y_M_planFirst.2.1 58 = .ok (.aload_n 0, 1) := by decide +kernel
theorem d_M_planFirst_59 : decode Y_M_planFirst.2.1 59 = .ok (.getfield 417, 3) := by decide +kernel
theorem d_M_planFirst_62 : decode Y_M_planFirst.2.1 62 = .ok (.invokevirtual 58, 3) := by decide +kernel
theorem d_M_planFirst_65 : decode Y_M_planFirst.2.1 65 = .ok (.ireturn, 1) := by decide +kernel
def f_M_planFirst (h : PH) (a0 : Option Nat) (a1 : Int32) (a2 : Int32) : Option (Int32 × PH) := (sF h 12 a0 0 (.inl (0 : Int32))).bind fun h1 => (cl h1 12 a0 (f_M_refusesPlan h1 a0 a1 a2)).bind fun v2 => if v2 ≤ 0 then ((cl h1 12 a0 (f_M_plans h1 a0 a1 a2)).bind fun h3 => (gR h3 12 a0 15).bind fun v4 => (aI h3 v4 ((0 : Int32) + a1)).bind fun v5 => (cl h3 12 a0 (f_M_turnsNow h3 a0 a1)).bind fun v6 => (gR h3 12 a0 15).bind fun v7 => (aI h3 v7 (20 : Int32)).bind fun v8 => (cl h3 12 a0 (f_M_bestBy h3 a0 a1 (0 : Int32) a2 v5 v6 (0 : Int32) v8)).bind fun v9 => (gI v9.2 12 a0 24).bind fun v10 => (cl v9.2 12 a0 (f_M_good v9.2 a0 v10)).bind fun v11 => some (v11.1, v11.2)) else ((cl h1 12 a0 (f_M_refused h1 a0 v2)).bind fun v12 => some (v12.1, v12.2))
set_option maxRecDepth 20000 in
theorem PM_M_planFirst {l : Launch} {G : Cx} {h : PH} {a0 : Option Nat} {a1 : Int32} {a2 : Int32} {z : (Int32 × PH)} (hz : f_M_planFirst h a0 a1 a2 = some z) : PM l G 6 0 0 Y_M_planFirst [.inr (.inr a0), .inl a1, .inl a2] h (some (.inl z.1), z.2) := by
  refine PM.of (Y := Y_M_planFirst) (cv := (fun z : (Int32 × PH) => (((some (.inl z.1), z.2) : Option PV × PH)))) (by decide) (L0 := [some (.inr (.inr a0)), some (.inl a1), some (.inl a2), none]) 1 rfl (Nat.le_of_ble_eq_true rfl) ?_ hz
  unfold f_M_planFirst
  refine PJ.aload_n (pc := 0) d_M_planFirst_0 rfl ?_
  refine PJ.iconst (pc := 1) (v := 0) d_M_planFirst_1 (by decide) ?_
  refine PJ.putI (pc := 2) ps_M_46 d_M_planFirst_2 (fun h1 => ?_)
  refine PJ.aload_n (pc := 5) d_M_planFirst_5 rfl ?_
  refine PJ.iload_n (pc := 6) d_M_planFirst_6 rfl ?_
  refine PJ.iload_n (pc := 7) d_M_planFirst_7 rfl ?_
  refine PJ.cVpI (pc := 8) cs_M_423 (fun z hz => PM_M_refusesPlan hz) (pj_fitb rfl) rfl rfl (Nat.le_of_ble_eq_true rfl) d_M_planFirst_8 (fun v2 => ?_)
  refine PJ.istore_n (pc := 11) (L1 := [some (.inr (.inr a0)), some (.inl a1), some (.inl a2), some (.inl v2)]) d_M_planFirst_11 (Nat.le_of_ble_eq_true rfl) rfl rfl ?_
  refine PJ.iload_n (pc := 12) d_M_planFirst_12 rfl ?_
  refine PJ.if_le (pc := 13) (tgt := 22) d_M_planFirst_13 (by decide) (fun _ => ?_) (fun _ => ?_)
  · refine PJ.aload_n (pc := 22) d_M_planFirst_22 rfl ?_
    refine PJ.iload_n (pc := 23) d_M_planFirst_23 rfl ?_
    refine PJ.iload_n (pc := 24) d_M_planFirst_24 rfl ?_
    refine PJ.cVV (pc := 25) cs_M_430 (fun z hz => PM_M_plans hz) (pj_fitb rfl) rfl rfl (Nat.le_of_ble_eq_true rfl) d_M_planFirst_25 (fun h3 => ?_)
    refine PJ.aload_n (pc := 28) d_M_planFirst_28 rfl ?_
    refine PJ.iload_n (pc := 29) d_M_planFirst_29 rfl ?_
    refine PJ.iconst (pc := 30) (v := 0) d_M_planFirst_30 (by decide) ?_
    refine PJ.iload_n (pc := 31) d_M_planFirst_31 rfl ?_
    refine PJ.aload_n (pc := 32) d_M_planFirst_32 rfl ?_
    refine PJ.getR (pc := 33) fs_M_17 d_M_planFirst_33 (fun v4 => ?_)
    refine PJ.iconst (pc := 36) (v := 0) d_M_planFirst_36 (by decide) ?_
    refine PJ.iload_n (pc := 37) d_M_planFirst_37 rfl ?_
    refine PJ.iadd (pc := 38) d_M_planFirst_38 ?_
    refine PJ.iald (pc := 39) d_M_planFirst_39 (fun v5 => ?_)
    refine PJ.aload_n (pc := 40) d_M_planFirst_40 rfl ?_
    refine PJ.iload_n (pc := 41) d_M_planFirst_41 rfl ?_
    refine PJ.cVpI (pc := 42) cs_M_433 (fun z hz => PM_M_turnsNow hz) (pj_fitb rfl) rfl rfl (Nat.le_of_ble_eq_true rfl) d_M_planFirst_42 (fun v6 => ?_)
    refine PJ.iconst (pc := 45) (v := 0) d_M_planFirst_45 (by decide) ?_
    refine PJ.aload_n (pc := 46) d_M_planFirst_46 rfl ?_
    refine PJ.getR (pc := 47) fs_M_17 d_M_planFirst_47 (fun v7 => ?_)
    refine PJ.bipush (pc := 50) (v := 20) d_M_planFirst_50 (by decide) ?_
    refine PJ.iald (pc := 52) d_M_planFirst_52 (fun v8 => ?_)
    refine PJ.cVL (pc := 53) cs_M_420 (fun z hz => PM_M_bestBy hz) (pj_fitb rfl) rfl rfl (Nat.le_of_ble_eq_true rfl) d_M_planFirst_53 (fun v9 => ?_)
    refine PJ.pop2 (pc := 56) d_M_planFirst_56 rfl ?_
    refine PJ.aload_n (pc := 57) d_M_planFirst_57 rfl ?_
    refine PJ.aload_n (pc := 58) d_M_planFirst_58 rfl ?_
    refine PJ.getI (pc := 59) fs_M_417 d_M_planFirst_59 (fun v10 => ?_)
    refine PJ.cVI (pc := 62) cs_M_58 (fun z hz => PM_M_good hz) (pj_fitb rfl) rfl rfl (Nat.le_of_ble_eq_true rfl) d_M_planFirst_62 (fun v11 => ?_)
    exact PJ.iret (pc := 65) d_M_planFirst_65 rfl (Nat.le_of_ble_eq_true rfl) (Nat.le_of_ble_eq_true rfl)
  · refine PJ.aload_n (pc := 16) d_M_planFirst_16 rfl ?_
    refine PJ.iload_n (pc := 17) d_M_planFirst_17 rfl ?_
    refine PJ.cVI (pc := 18) cs_M_52 (fun z hz => PM_M_refused hz) (pj_fitb rfl) rfl rfl (Nat.le_of_ble_eq_true rfl) d_M_planFirst_18 (fun v12 => ?_)
    exact PJ.iret (pc := 21) d_M_planFirst_21 rfl (Nat.le_of_ble_eq_true rfl) (Nat.le_of_ble_eq_true rfl)
theorem d_M_stays_0 : decode Y_M_stays.2.1 0 = .ok (.aload_n 0, 1) := by decide +kernel
theorem d_M_stays_1 : decode Y_M_stays.2.1 1 = .ok (.iconst 0, 1) := by decide +kernel
theorem d_M_stays_2 : decode Y_M_stays.2.1 2 = .ok (.putfield 46, 3) := by decide +kernel
theorem d_M_stays_5 : decode Y_M_stays.2.1 5 = .ok (.aload_n 0, 1) := by decide +kernel
theorem d_M_stays_6 : decode Y_M_stays.2.1 6 = .ok (.iload_n 1, 1) := by decide +kernel
theorem d_M_stays_7 : decode Y_M_stays.2.1 7 = .ok (.iload_n 2, 1) := by decide +kernel
theorem d_M_stays_8 : decode Y_M_stays.2.1 8 = .ok (.invokevirtual 423, 3) := by decide +kernel
theorem d_M_stays_11 : decode Y_M_stays.2.1 11 = .ok (.istore 4, 2) := by decide +kernel
theorem d_M_stays_13 : decode Y_M_stays.2.1 13 = .ok (.iload 4, 2) := by decide +kernel
theorem d_M_stays_15 : decode Y_M_stays.2.1 15 = .ok (.ifCond .le 10, 3) := by decide +kernel
theorem d_M_stays_18 : decode Y_M_stays.2.1 18 = .ok (.aload_n 0, 1) := by decide +kernel
theorem d_M_stays_19 : decode Y_M_stays.2.1 19 = .ok (.iload 4, 2) := by decide +kernel
theorem d_M_stays_21 : decode Y_M_stays.2.1 21 = .ok (.invokevirtual 426, 3) := by decide +kernel
theorem d_M_stays_24 : decode Y_M_stays.2.1 24 = .ok (.lreturn, 1) := by decide +kernel
theorem d_M_stays_25 : decode Y_M_stays.2.1 25 = .ok (.aload_n 0, 1) := by decide +kernel
theorem d_M_stays_26 : decode Y_M_stays.2.1 26 = .ok (.getfield 17, 3) := by decide +kernel
theorem d_M_stays_29 : decode Y_M_stays.2.1 29 = .ok (.iconst 0, 1) := by decide +kernel
theorem d_M_stays_30 : decode Y_M_stays.2.1 30 = .ok (.iload_n 1, 1) := by decide +kernel
theorem d_M_stays_31 : decode Y_M_stays.2.1 31 = .ok (.iadd, 1) := by decide +kernel
theorem d_M_stays_32 : decode Y_M_stays.2.1 32 = .ok (.iaload, 1) := by decide +kernel
theorem d_M_stays_33 : decode Y_M_stays.2.1 33 = .ok (.istore 5, 2) := by decide +kernel
theorem d_M_stays_35 : decode Y_M_stays.2.1 35 = .ok (.ldc2_w 401, 3) := by decide +kernel
theorem d_M_stays_38 : decode Y_M_stays.2.1 38 = .ok (.iload_n 2, 1) := by decide +kernel
theorem d_M_stays_39 : decode Y_M_stays.2.1 39 = .ok (.i2l, 1) := by decide +kernel
theorem d_M_stays_40 : decode Y_M_stays.2.1 40 = .ok (.lmul, 1) := by decide +kernel
theorem d_M_stays_41 : decode Y_M_stays.2.1 41 = .ok (.aload_n 0, 1) := by decide +kernel
theorem d_M_stays_42 : decode Y_M_stays.2.1 42 = .ok (.iload_n 1, 1) := by decide +kernel
theorem d_M_stays_43 : decode Y_M_stays.2.1 43 = .ok (.iload 5, 2) := by decide +kernel
theorem d_M_stays_45 : decode Y_M_stays.2.1 45 = .ok (.aload_n 0, 1) := by decide +kernel
theorem d_M_stays_46 : decode Y_M_stays.2.1 46 = .ok (.getfield 17, 3) := by decide +kernel
theorem d_M_stays_49 : decode Y_M_stays.2.1 49 = .ok (.bipush 20, 2) := by decide +kernel
theorem d_M_stays_51 : decode Y_M_stays.2.1 51 = .ok (.iaload, 1) := by decide +kernel
theorem d_M_stays_52 : decode Y_M_stays.2.1 52 = .ok (.invokevirtual 361, 3) := by decide +kernel
theorem d_M_stays_55 : decode Y_M_stays.2.1 55 = .ok (.i2l, 1) := by decide +kernel
theorem d_M_stays_56 : decode Y_M_stays.2.1 56 = .ok (.lmul, 1) := by decide +kernel
theorem d_M_stays_57 : decode Y_M_stays.2.1 57 = .ok (.lstore 6, 2) := by decide +kernel
theorem d_M_stays_59 : decode Y_M_stays.2.1 59 = .ok (.iconst 1, 1) := by decide +kernel
theorem d_M_stays_60 : decode Y_M_stays.2.1 60 = .ok (.istore 8, 2) := by decide +kernel
theorem d_M_stays_62 : decode Y_M_stays.2.1 62 = .ok (.iload 8, 2) := by decide +kernel
theorem d_M_stays_64 : decode Y_M_stays.2.1 64 = .ok (.iload_n 2, 1) := by decide +kernel
theorem d_M_stays_65 : decode Y_M_stays.2.1 65 = .ok (.if_icmp .ge 98, 3) := by decide +kernel
theorem d_M_stays_68 : decode Y_M_stays.2.1 68 = .ok (.aload_n 0, 1) := by decide +kernel
theorem d_M_stays_69 : decode Y_M_stays.2.1 69 = .ok (.iload_n 1, 1) := by decide +kernel
theorem d_M_stays_70 : decode Y_M_stays.2.1 70 = .ok (.iload 8, 2) := by decide +kernel
theorem d_M_stays_72 : decode Y_M_stays.2.1 72 = .ok (.invokevirtual 391, 3) := by decide +kernel
theorem d_M_stays_75 : decode Y_M_stays.2.1 75 = .ok (.istore 9, 2) := by decide +kernel
theorem d_M_stays_77 : decode Y_M_stays.2.1 77 = .ok (.iconst 0, 1) := by decide +kernel
theorem d_M_stays_78 : decode Y_M_stays.2.1 78 = .ok (.istore 10, 2) := by decide +kernel
theorem d_M_stays_80 : decode Y_M_stays.2.1 80 = .ok (.iload 10, 2) := by decide +kernel
theorem d_M_stays_82 : decode Y_M_stays.2.1 82 = .ok (.aload_n 0, 1) := by decide +kernel
theorem d_M_stays_83 : decode Y_M_stays.2.1 83 = .ok (.getfield 341, 3) := by decide +kernel
theorem d_M_stays_86 : decode Y_M_stays.2.1 86 = .ok (.getfield 280, 3) := by decide +kernel
theorem d_M_stays_89 : decode Y_M_stays.2.1 89 = .ok (.if_icmp .ge 68, 3) := by decide +kernel
theorem d_M_stays_92 : decode Y_M_stays.2.1 92 = .ok (.iload 9, 2) := by decide +kernel
theorem d_M_stays_94 : decode Y_M_stays.2.1 94 = .ok (.iload 10, 2) := by decide +kernel
theorem d_M_stays_96 : decode Y_M_stays.2.1 96 = .ok (.invokestatic 330, 3) := by decide +kernel
theorem d_M_stays_99 : decode Y_M_stays.2.1 99 = .ok (.ifCond .eq 52, 3) := by decide +kernel
theorem d_M_stays_102 : decode Y_M_stays.2.1 102 = .ok (.aload_n 0, 1) := by decide +kernel
theorem d_M_stays_103 : decode Y_M_stays.2.1 103 = .ok (.getfield 341, 3) := by decide +kernel
theorem d_M_stays_106 : decode Y_M_stays.2.1 106 = .ok (.getfield 292, 3) := by decide +kernel
theorem d_M_stays_109 : decode Y_M_stays.2.1 109 = .ok (.iload 10, 2) := by decide +kernel
theorem d_M_stays_111 : decode Y_M_stays.2.1 111 = .ok (.iaload, 1) := by decide +kernel
theorem d_M_stays_112 : decode Y_M_stays.2.1 112 = .ok (.iload 5, 2) := by decide +kernel
theorem d_M_stays_114 : decode Y_M_stays.2.1 114 = .ok (.if_icmp .ne 37, 3) := by decide +kernel
theorem d_M_stays_117 : decode Y_M_stays.2.1 117 = .ok (.lload 6, 2) := by decide +kernel
theorem d_M_stays_119 : decode Y_M_stays.2.1 119 = .ok (.iload_n 2, 1) := by decide +kernel
theorem d_M_stays_120 : decode Y_M_stays.2.1 120 = .ok (.iload 8, 2) := by decide +kernel
theorem d_M_stays_122 : decode Y_M_stays.2.1 122 = .ok (.isub, 1) := by decide +kernel
theorem d_M_stays_123 : decode Y_M_stays.2.1 123 = .ok (.i2l, 1) := by decide +kernel
theorem d_M_stays_124 : decode Y_M_stays.2.1 124 = .ok (.aload_n 0, 1) := by decide +kernel
theorem d_M_stays_125 : decode Y_M_stays.2.1 125 = .ok (.getfield 341, 3) := by decide +kernel
theorem d_M_stays_128 : decode Y_M_stays.2.1 128 = .ok (.getfield 298, 3) := by decide +kernel
theorem d_M_stays_131 : decode Y_M_stays.2.1 131 = .ok (.iload 10, 2) := by decide +kernel
theorem d_M_stays_133 : decode Y_M_stays.2.1 133 = .ok (.iaload, 1) := by decide +kernel
theorem d_M_stays_134 : decode Y_M_stays.2.1 134 = .ok (.i2l, 1) := by decide +kernel
theorem d_M_stays_135 : decode Y_M_stays.2.1 135 = .ok (.lmul, 1) := by decide +kernel
theorem d_M_stays_136 : decode Y_M_stays.2.1 136 = .ok (.aload_n 0, 1) := by decide +kernel
theorem d_M_stays_137 : decode Y_M_stays.2.1 137 = .ok (.getfield 341, 3) := by decide +kernel
theorem d_M_stays_140 : decode Y_M_stays.2.1 140 = .ok (.getfield 300, 3) := by decide +kernel
theorem d_M_stays_143 : decode Y_M_stays.2.1 143 = .ok (.iload 10, 2) := by decide +kernel
theorem d_M_stays_145 : decode Y_M_stays.2.1 145 = .ok (.iaload, 1) := by decide +kernel
theorem d_M_stays_146 : decode Y_M_stays.2.1 146 = .ok (.i2l, 1) := by decide +kernel
theorem d_M_stays_147 : decode Y_M_stays.2.1 147 = .ok (.lmul, 1) := by decide +kernel
theorem d_M_stays_148 : decode Y_M_stays.2.1 148 = .ok (.ladd, 1) := by decide +kernel
theorem d_M_stays_149 : decode Y_M_stays.2.1 149 = .ok (.lstore 6, 2) := by decide +kernel
theorem d_M_stays_151 : decode Y_M_stays.2.1 151 = .ok (.iinc 10 1, 3) := by decide +kernel
theorem d_M_stays_154 : decode Y_M_stays.2.1 154 = .ok (.goto (-74), 3) := by decide +kernel
theorem d_M_stays_157 : decode Y_M_stays.2.1 157 = .ok (.iinc 8 1, 3) := by decide +kernel
theorem d_M_stays_160 : decode Y_M_stays.2.1 160 = .ok (.goto (-98), 3) := by decide +kernel
theorem d_M_stays_163 : decode Y_M_stays.2.1 163 = .ok (.aload_n 0, 1) := by decide +kernel
theorem d_M_stays_164 : decode Y_M_stays.2.1 164 = .ok (.lload 6, 2) := by decide +kernel
theorem d_M_stays_166 : decode Y_M_stays.2.1 166 = .ok (.ldc2_w 401, 3) := by decide +kernel
theorem d_M_stays_169 : decode Y_M_stays.2.1 169 = .ok (.iload_n 3, 1) := by decide +kernel
theorem d_M_stays_170 : decode Y_M_stays.2.1 170 = .ok (.invokevirtual 440, 3) := by decide +kernel
theorem d_M_stays_173 : decode Y_M_stays.2.1 173 = .ok (.lreturn, 1) := by decide +kernel
def f_M_stays (h : PH) (a0 : Option Nat) (a1 : Int32) (a2 : Int32) (a3 : Int32) : Option (Int64 × PH) := (sF h 12 a0 0 (.inl (0 : Int32))).bind fun h1 => (cl h1 12 a0 (f_M_refusesPlan h1 a0 a1 a2)).bind fun v2 => if v2 ≤ 0 then ((gR h1 12 a0 15).bind fun v3 => (aI h1 v3 ((0 : Int32) + a1)).bind fun v4 => (gR h1 12 a0 15).bind fun v5 => (aI h1 v5 (20 : Int32)).bind fun v6 => (cl h1 12 a0 (f_M_worthBy h1 a0 a1 v4 v6)).bind fun v7 => (pj_it (X := Int64) (fun s8 : Int64 × Int32 => if a2 ≤ s8.2 then (some (.inr s8.1)) else ((cl h1 12 a0 (f_M_reasonsAt h1 a0 a1 s8.2)).bind fun v10 => (pj_it (X := Int64) (fun s11 : Int64 × Int32 => (gR h1 12 a0 3).bind fun v13 => (gI h1 11 v13 5).bind fun v14 => if v14 ≤ s11.2 then (some (.inr s11.1)) else ((f_M_bit h1 v10 s11.2).bind fun v15 => if v15 = 0 then (some (.inl (s11.1, (s11.2 + (1 : Int32))))) else ((gR h1 12 a0 3).bind fun v16 => (gR h1 11 v16 15).bind fun v17 => (aI h1 v17 s11.2).bind fun v18 => if ¬ v18 = v4 then (some (.inl (s11.1, (s11.2 + (1 : Int32))))) else ((gR h1 12 a0 3).bind fun v19 => (gR h1 11 v19 17).bind fun v20 => (aI h1 v20 s11.2).bind fun v21 => (gR h1 12 a0 3).bind fun v22 => (gR h1 11 v22 18).bind fun v23 => (aI h1 v23 s11.2).bind fun v24 => some (.inl ((s11.1 + (((Int32.toInt64 (a2 - s8.2)) * (Int32.toInt64 v21)) * (Int32.toInt64 v24))), (s11.2 + (1 : Int32)))))))) FU (s8.1, (0 : Int32))).bind fun x12 => some (.inl (x12, (s8.2 + (1 : Int32)))))) FU ((((100 : Int64) * (Int32.toInt64 a2)) * (Int32.toInt64 v7)), (1 : Int32))).bind fun x9 => (cl h1 12 a0 (f_M_fraction h1 a0 x9 (100 : Int64) a3)).bind fun v25 => some (v25.1, v25.2)) else ((cl h1 12 a0 (f_M_never h1 a0 v2)).bind fun v26 => some (v26.1, v26.2))
set_option maxRecDepth 20000 in
theorem PM_M_stays {l : Launch} {G : Cx} {h : PH} {a0 : Option Nat} {a1 : Int32} {a2 : Int32} {a3 : Int32} {z : (Int64 × PH)} (hz : f_M_stays h a0 a1 a2 a3 = some z) : PM l G 3 0 0 Y_M_stays [.inr (.inr a0), .inl a1, .inl a2, .inl a3] h (some (.inr (.inl z.1)), z.2) := by
  refine PM.of (Y := Y_M_stays) (cv := (fun z : (Int64 × PH) => (((some (.inr (.inl z.1)), z.2) : Option PV × PH)))) (by decide) (L0 := [some (.inr (.inr a0)), some (.inl a1), some (.inl a2), some (.inl a3), none, none, none, none, none, none, none]) 7 rfl (Nat.le_of_ble_eq_true rfl) ?_ hz
  unfold f_M_stays
  refine PJ.aload_n (pc := 0) d_M_stays_0 rfl ?_
  refine PJ.iconst (pc := 1) (v := 0) d_M_stays_1 (by decide) ?_
  refine PJ.putI (pc := 2) ps_M_46 d_M_stays_2 (fun h1 => ?_)
  refine PJ.aload_n (pc := 5) d_M_stays_5 rfl ?_
  refine PJ.iload_n (pc := 6) d_M_stays_6 rfl ?_
  refine PJ.iload_n (pc := 7) d_M_stays_7 rfl ?_
  refine PJ.cVpI (pc := 8) cs_M_423 (fun z hz => PM_M_refusesPlan hz) (pj_fitb rfl) rfl rfl (Nat.le_of_ble_eq_true rfl) d_M_stays_8 (fun v2 => ?_)
  refine PJ.istore (pc := 11) (L1 := [some (.inr (.inr a0)), some (.inl a1), some (.inl a2), some (.inl a3), some (.inl v2), none, none, none, none, none, none]) d_M_stays_11 (Nat.le_of_ble_eq_true rfl) rfl rfl ?_
  refine PJ.iload (pc := 13) d_M_stays_13 rfl ?_
  refine PJ.if_le (pc := 15) (tgt := 25) d_M_stays_15 (by decide) (fun _ => ?_) (fun _ => ?_)
  · refine PJ.aload_n (pc := 25) d_M_stays_25 rfl ?_
    refine PJ.getR (pc := 26) fs_M_17 d_M_stays_26 (fun v3 => ?_)
    refine PJ.iconst (pc := 29) (v := 0) d_M_stays_29 (by decide) ?_
    refine PJ.iload_n (pc := 30) d_M_stays_30 rfl ?_
    refine PJ.iadd (pc := 31) d_M_stays_31 ?_
    refine PJ.iald (pc := 32) d_M_stays_32 (fun v4 => ?_)
    refine PJ.istore (pc := 33) (L1 := [some (.inr (.inr a0)), some (.inl a1), some (.inl a2), some (.inl a3), some (.inl v2), some (.inl v4), none, none, none, none, none]) d_M_stays_33 (Nat.le_of_ble_eq_true rfl) rfl rfl ?_
    refine PJ.ldc2 (pc := 35) (v := 100) d_M_stays_35 wd_1897 ?_
    refine PJ.iload_n (pc := 38) d_M_stays_38 rfl ?_
    refine PJ.i2l (pc := 39) d_M_stays_39 ?_
    refine PJ.lmul (pc := 40) d_M_stays_40 ?_
    refine PJ.aload_n (pc := 41) d_M_stays_41 rfl ?_
    refine PJ.iload_n (pc := 42) d_M_stays_42 rfl ?_
    refine PJ.iload (pc := 43) d_M_stays_43 rfl ?_
    refine PJ.aload_n (pc := 45) d_M_stays_45 rfl ?_
    refine PJ.getR (pc := 46) fs_M_17 d_M_stays_46 (fun v5 => ?_)
    refine PJ.bipush (pc := 49) (v := 20) d_M_stays_49 (by decide) ?_
    refine PJ.iald (pc := 51) d_M_stays_51 (fun v6 => ?_)
    refine PJ.cVpI (pc := 52) cs_M_361 (fun z hz => PM_M_worthBy hz) (pj_fitb rfl) rfl rfl (Nat.le_of_ble_eq_true rfl) d_M_stays_52 (fun v7 => ?_)
    refine PJ.i2l (pc := 55) d_M_stays_55 ?_
    refine PJ.lmul (pc := 56) d_M_stays_56 ?_
    refine PJ.lstore (pc := 57) (L1 := [some (.inr (.inr a0)), some (.inl a1), some (.inl a2), some (.inl a3), some (.inl v2), some (.inl v4), some (.inr (.inl (((100 : Int64) * (Int32.toInt64 a2)) * (Int32.toInt64 v7)))), none, none, none, none]) d_M_stays_57 (Nat.le_of_ble_eq_true rfl) rfl rfl ?_
    refine PJ.iconst (pc := 59) (v := 1) d_M_stays_59 (by decide) ?_
    refine PJ.istore (pc := 60) (L1 := [some (.inr (.inr a0)), some (.inl a1), some (.inl a2), some (.inl a3), some (.inl v2), some (.inl v4), some (.inr (.inl (((100 : Int64) * (Int32.toInt64 a2)) * (Int32.toInt64 v7)))), none, some (.inl (1 : Int32)), none, none]) d_M_stays_60 (Nat.le_of_ble_eq_true rfl) rfl rfl ?_
    refine PJ.mk (L1 := [some (.inr (.inr a0)), some (.inl a1), some (.inl a2), some (.inl a3), none, some (.inl v4), some (.inr (.inl (((100 : Int64) * (Int32.toInt64 a2)) * (Int32.toInt64 v7)))), none, some (.inl (1 : Int32)), none, none]) [true, true, true, true, false, true, true, false, true, false, false] rfl ?_
    refine PJ.bind (fun x9 : Int64 => ((163 : Nat), ([some (.inr (.inr a0)), none, none, some (.inl a3), none, none, some (.inr (.inl x9)), none, none, none, none] : List (Option PV)), ([] : List PV), (h1 : PH), (0 : Nat), (0 : Nat))) (PJ.it (E := (fun s8 : Int64 × Int32 => ((62 : Nat), ([some (.inr (.inr a0)), some (.inl a1), some (.inl a2), some (.inl a3), none, some (.inl v4), some (.inr (.inl s8.1)), none, some (.inl s8.2), none, none] : List (Option PV)), ([] : List PV), (h1 : PH), (0 : Nat), (0 : Nat)))) (F := (fun x9 : Int64 => ((163 : Nat), ([some (.inr (.inr a0)), none, none, some (.inl a3), none, none, some (.inr (.inl x9)), none, none, none, none] : List (Option PV)), ([] : List PV), (h1 : PH), (0 : Nat), (0 : Nat)))) (fun s8 => ?_) FU ((((100 : Int64) * (Int32.toInt64 a2)) * (Int32.toInt64 v7)), (1 : Int32))) (fun x9 => ?_)
    · show PJ l G (pj_rm 3 0 0) Y_M_stays 62 [some (.inr (.inr a0)), some (.inl a1), some (.inl a2), some (.inl a3), none, some (.inl v4), some (.inr (.inl s8.1)), none, some (.inl s8.2), none, none] [] h1 0 0 _ _
      refine PJ.iload (pc := 62) d_M_stays_62 rfl ?_
      refine PJ.iload_n (pc := 64) d_M_stays_64 rfl ?_
      refine PJ.icmp_ge (pc := 65) (tgt := 163) d_M_stays_65 (by decide) (fun _ => ?_) (fun _ => ?_)
      · refine PJ.mk (L1 := [some (.inr (.inr a0)), none, none, some (.inl a3), none, none, some (.inr (.inl s8.1)), none, none, none, none]) [true, false, false, true, false, false, true, false, false, false, false] rfl ?_
        exact PJ.done rfl
      · refine PJ.aload_n (pc := 68) d_M_stays_68 rfl ?_
        refine PJ.iload_n (pc := 69) d_M_stays_69 rfl ?_
        refine PJ.iload (pc := 70) d_M_stays_70 rfl ?_
        refine PJ.cVpI (pc := 72) cs_M_391 (fun z hz => PM_M_reasonsAt hz) (pj_fitb rfl) rfl rfl (Nat.le_of_ble_eq_true rfl) d_M_stays_72 (fun v10 => ?_)
        refine PJ.istore (pc := 75) (L1 := [some (.inr (.inr a0)), some (.inl a1), some (.inl a2), some (.inl a3), none, some (.inl v4), some (.inr (.inl s8.1)), none, some (.inl s8.2), some (.inl v10), none]) d_M_stays_75 (Nat.le_of_ble_eq_true rfl) rfl rfl ?_
        refine PJ.iconst (pc := 77) (v := 0) d_M_stays_77 (by decide) ?_
        refine PJ.istore (pc := 78) (L1 := [some (.inr (.inr a0)), some (.inl a1), some (.inl a2), some (.inl a3), none, some (.inl v4), some (.inr (.inl s8.1)), none, some (.inl s8.2), some (.inl v10), some (.inl (0 : Int32))]) d_M_stays_78 (Nat.le_of_ble_eq_true rfl) rfl rfl ?_
        refine PJ.bind (fun x12 : Int64 => ((157 : Nat), ([some (.inr (.inr a0)), some (.inl a1), some (.inl a2), some (.inl a3), none, some (.inl v4), some (.inr (.inl x12)), none, some (.inl s8.2), none, none] : List (Option PV)), ([] : List PV), (h1 : PH), (0 : Nat), (0 : Nat))) (PJ.it (E := (fun s11 : Int64 × Int32 => ((80 : Nat), ([some (.inr (.inr a0)), some (.inl a1), some (.inl a2), some (.inl a3), none, some (.inl v4), some (.inr (.inl s11.1)), none, some (.inl s8.2), some (.inl v10), some (.inl s11.2)] : List (Option PV)), ([] : List PV), (h1 : PH), (0 : Nat), (0 : Nat)))) (F := (fun x12 : Int64 => ((157 : Nat), ([some (.inr (.inr a0)), some (.inl a1), some (.inl a2), some (.inl a3), none, some (.inl v4), some (.inr (.inl x12)), none, some (.inl s8.2), none, none] : List (Option PV)), ([] : List PV), (h1 : PH), (0 : Nat), (0 : Nat)))) (fun s11 => ?_) FU (s8.1, (0 : Int32))) (fun x12 => ?_)
        · show PJ l G (pj_rm 3 0 0) Y_M_stays 80 [some (.inr (.inr a0)), some (.inl a1), some (.inl a2), some (.inl a3), none, some (.inl v4), some (.inr (.inl s11.1)), none, some (.inl s8.2), some (.inl v10), some (.inl s11.2)] [] h1 0 0 _ _
          refine PJ.iload (pc := 80) d_M_stays_80 rfl ?_
          refine PJ.aload_n (pc := 82) d_M_stays_82 rfl ?_
          refine PJ.getR (pc := 83) fs_M_341 d_M_stays_83 (fun v13 => ?_)
          refine PJ.getI (pc := 86) fs_M_280 d_M_stays_86 (fun v14 => ?_)
          refine PJ.icmp_ge (pc := 89) (tgt := 157) d_M_stays_89 (by decide) (fun _ => ?_) (fun _ => ?_)
          · refine PJ.mk (L1 := [some (.inr (.inr a0)), some (.inl a1), some (.inl a2), some (.inl a3), none, some (.inl v4), some (.inr (.inl s11.1)), none, some (.inl s8.2), none, none]) [true, true, true, true, false, true, true, false, true, false, false] rfl ?_
            exact PJ.done rfl
          · refine PJ.iload (pc := 92) d_M_stays_92 rfl ?_
            refine PJ.iload (pc := 94) d_M_stays_94 rfl ?_
            refine PJ.cSpI (pc := 96) cs_M_330 (fun z hz => PM_M_bit hz) (pj_fitb rfl) rfl rfl (Nat.le_of_ble_eq_true rfl) d_M_stays_96 (fun v15 => ?_)
            refine PJ.if_eq (pc := 99) (tgt := 151) d_M_stays_99 (by decide) (fun _ => ?_) (fun _ => ?_)
            · refine PJ.iinc (pc := 151) (v := 1) (L1 := [some (.inr (.inr a0)), some (.inl a1), some (.inl a2), some (.inl a3), none, some (.inl v4), some (.inr (.inl s11.1)), none, some (.inl s8.2), some (.inl v10), some (.inl (s11.2 + (1 : Int32)))]) d_M_stays_151 rfl (by decide) (Nat.le_of_ble_eq_true rfl) rfl rfl ?_
              refine PJ.goto (pc := 154) (tgt := 80) d_M_stays_154 (by decide) ?_
              exact PJ.done rfl
            · refine PJ.aload_n (pc := 102) d_M_stays_102 rfl ?_
              refine PJ.getR (pc := 103) fs_M_341 d_M_stays_103 (fun v16 => ?_)
              refine PJ.getR (pc := 106) fs_M_292 d_M_stays_106 (fun v17 => ?_)
              refine PJ.iload (pc := 109) d_M_stays_109 rfl ?_
              refine PJ.iald (pc := 111) d_M_stays_111 (fun v18 => ?_)
              refine PJ.iload (pc := 112) d_M_stays_112 rfl ?_
              refine PJ.icmp_ne (pc := 114) (tgt := 151) d_M_stays_114 (by decide) (fun _ => ?_) (fun _ => ?_)
              · refine PJ.iinc (pc := 151) (v := 1) (L1 := [some (.inr (.inr a0)), some (.inl a1), some (.inl a2), some (.inl a3), none, some (.inl v4), some (.inr (.inl s11.1)), none, some (.inl s8.2), some (.inl v10), some (.inl (s11.2 + (1 : Int32)))]) d_M_stays_151 rfl (by decide) (Nat.le_of_ble_eq_true rfl) rfl rfl ?_
                refine PJ.goto (pc := 154) (tgt := 80) d_M_stays_154 (by decide) ?_
                exact PJ.done rfl
              · refine PJ.lload (pc := 117) d_M_stays_117 rfl ?_
                refine PJ.iload_n (pc := 119) d_M_stays_119 rfl ?_
                refine PJ.iload (pc := 120) d_M_stays_120 rfl ?_
                refine PJ.isub (pc := 122) d_M_stays_122 ?_
                refine PJ.i2l (pc := 123) d_M_stays_123 ?_
                refine PJ.aload_n (pc := 124) d_M_stays_124 rfl ?_
                refine PJ.getR (pc := 125) fs_M_341 d_M_stays_125 (fun v19 => ?_)
                refine PJ.getR (pc := 128) fs_M_298 d_M_stays_128 (fun v20 => ?_)
                refine PJ.iload (pc := 131) d_M_stays_131 rfl ?_
                refine PJ.iald (pc := 133) d_M_stays_133 (fun v21 => ?_)
                refine PJ.i2l (pc := 134) d_M_stays_134 ?_
                refine PJ.lmul (pc := 135) d_M_stays_135 ?_
                refine PJ.aload_n (pc := 136) d_M_stays_136 rfl ?_
                refine PJ.getR (pc := 137) fs_M_341 d_M_stays_137 (fun v22 => ?_)
                refine PJ.getR (pc := 140) fs_M_300 d_M_stays_140 (fun v23 => ?_)
                refine PJ.iload (pc := 143) d_M_stays_143 rfl ?_
                refine PJ.iald (pc := 145) d_M_stays_145 (fun v24 => ?_)
                refine PJ.i2l (pc := 146) d_M_stays_146 ?_
                refine PJ.lmul (pc := 147) d_M_stays_147 ?_
                refine PJ.ladd (pc := 148) d_M_stays_148 ?_
                refine PJ.lstore (pc := 149) (L1 := [some (.inr (.inr a0)), some (.inl a1), some (.inl a2), some (.inl a3), none, some (.inl v4), some (.inr (.inl (s11.1 + (((Int32.toInt64 (a2 - s8.2)) * (Int32.toInt64 v21)) * (Int32.toInt64 v24))))), none, some (.inl s8.2), some (.inl v10), some (.inl s11.2)]) d_M_stays_149 (Nat.le_of_ble_eq_true rfl) rfl rfl ?_
                refine PJ.iinc (pc := 151) (v := 1) (L1 := [some (.inr (.inr a0)), some (.inl a1), some (.inl a2), some (.inl a3), none, some (.inl v4), some (.inr (.inl (s11.1 + (((Int32.toInt64 (a2 - s8.2)) * (Int32.toInt64 v21)) * (Int32.toInt64 v24))))), none, some (.inl s8.2), some (.inl v10), some (.inl (s11.2 + (1 : Int32)))]) d_M_stays_151 rfl (by decide) (Nat.le_of_ble_eq_true rfl) rfl rfl ?_
                refine PJ.goto (pc := 154) (tgt := 80) d_M_stays_154 (by decide) ?_
                exact PJ.done rfl
        · show PJ l G (pj_rm 3 0 0) Y_M_stays 157 [some (.inr (.inr a0)), some (.inl a1), some (.inl a2), some (.inl a3), none, some (.inl v4), some (.inr (.inl x12)), none, some (.inl s8.2), none, none] [] h1 0 0 _ _
          refine PJ.iinc (pc := 157) (v := 1) (L1 := [some (.inr (.inr a0)), some (.inl a1), some (.inl a2), some (.inl a3), none, some (.inl v4), some (.inr (.inl x12)), none, some (.inl (s8.2 + (1 : Int32))), none, none]) d_M_stays_157 rfl (by decide) (Nat.le_of_ble_eq_true rfl) rfl rfl ?_
          refine PJ.goto (pc := 160) (tgt := 62) d_M_stays_160 (by decide) ?_
          exact PJ.done rfl
    · show PJ l G (pj_rm 3 0 0) Y_M_stays 163 [some (.inr (.inr a0)), none, none, some (.inl a3), none, none, some (.inr (.inl x9)), none, none, none, none] [] h1 0 0 _ _
      refine PJ.aload_n (pc := 163) d_M_stays_163 rfl ?_
      refine PJ.lload (pc := 164) d_M_stays_164 rfl ?_
      refine PJ.ldc2 (pc := 166) (v := 100) d_M_stays_166 wd_1897 ?_
      refine PJ.iload_n (pc := 169) d_M_stays_169 rfl ?_
      refine PJ.cVL (pc := 170) cs_M_440 (fun z hz => PM_M_fraction hz) (pj_fitb rfl) rfl rfl (Nat.le_of_ble_eq_true rfl) d_M_stays_170 (fun v25 => ?_)
      exact PJ.lret (pc := 173) d_M_stays_173 rfl (Nat.le_of_ble_eq_true rfl) (Nat.le_of_ble_eq_true rfl)
  · refine PJ.aload_n (pc := 18) d_M_stays_18 rfl ?_
    refine PJ.iload (pc := 19) d_M_stays_19 rfl ?_
    refine PJ.cVL (pc := 21) cs_M_426 (fun z hz => PM_M_never hz) (pj_fitb rfl) rfl rfl (Nat.le_of_ble_eq_true rfl) d_M_stays_21 (fun v26 => ?_)
    exact PJ.lret (pc := 24) d_M_stays_24 rfl (Nat.le_of_ble_eq_true rfl) (Nat.le_of_ble_eq_true rfl)
theorem d_M_planBy_0 : decode Y_M_planBy.2.1 0 = .ok (.aload_n 0, 1) := by decide +kernel
theorem d_M_planBy_1 : decode Y_M_planBy.2.1 1 = .ok (.iconst 0, 1) := by decide +kernel
theorem d_M_planBy_2 : decode Y_M_planBy.2.1 2 = .ok (.putfield 46, 3) := by decide +kernel
theorem d_M_planBy_5 : decode Y_M_planBy.2.1 5 = .ok (.aload_n 0, 1) := by decide +kernel
theorem d_M_planBy_6 : decode Y_M_planBy.2.1 6 = .ok (.iload_n 3, 1) := by decide +kernel
theorem d_M_planBy_7 : decode Y_M_planBy.2.1 7 = .ok (.invokevirtual 372, 3) := by decide +kernel
theorem d_M_planBy_10 : decode Y_M_planBy.2.1 10 = .ok (.ifCond .eq 12, 3) := by decide +kernel
theorem d_M_planBy_13 : decode Y_M_planBy.2.1 13 = .ok (.aload_n 0, 1) := by decide +kernel
theorem d_M_planBy_14 : decode Y_M_planBy.2.1 14 = .ok (.iload_n 1, 1) := by decide +kernel
theorem d_M_planBy_15 : decode Y_M_planBy.2.1 15 = .ok (.iload_n 2, 1) := by decide +kernel
theorem d_M_planBy_16 : decode Y_M_planBy.2.1 16 = .ok (.invokevirtual 423, 3) := by decide +kernel
theorem d_M_planBy_19 : decode Y_M_planBy.2.1 19 = .ok (.goto 4, 3) := by decide +kernel
theorem d_M_planBy_22 : decode Y_M_planBy.2.1 22 = .ok (.iconst 1, 1) := by decide +kernel
theorem d_M_planBy_23 : decode Y_M_planBy.2.1 23 = .ok (.istore 5, 2) := by decide +kernel
theorem d_M_planBy_25 : decode Y_M_planBy.2.1 25 = .ok (.iload 5, 2) := by decide +kernel
theorem d_M_planBy_27 : decode Y_M_planBy.2.1 27 = .ok (.ifCond .le 10, 3) := by decide +kernel
theorem d_M_planBy_30 : decode Y_M_planBy.2.1 30 = .ok (.aload_n 0, 1) := by decide +kernel
theorem d_M_planBy_31 : decode Y_M_planBy.2.1 31 = .ok (.iload 5, 2) := by decide +kernel
theorem d_M_planBy_33 : decode Y_M_planBy.2.1 33 = .ok (.invokevirtual 426, 3) := by decide +kernel
theorem d_M_planBy_36 : decode Y_M_planBy.2.1 36 = .ok (.lreturn, 1) := by decide +kernel
theorem d_M_planBy_37 : decode Y_M_planBy.2.1 37 = .ok (.aload_n 0, 1) := by decide +kernel
theorem d_M_planBy_38 : decode Y_M_planBy.2.1 38 = .ok (.iload_n 1, 1) := by decide +kernel
theorem d_M_planBy_39 : decode Y_M_planBy.2.1 39 = .ok (.iload_n 2, 1) := by decide +kernel
theorem d_M_planBy_40 : decode Y_M_planBy.2.1 40 = .ok (.invokevirtual 430, 3) := by decide +kernel
theorem d_M_planBy_43 : decode Y_M_planBy.2.1 43 = .ok (.aload_n 0, 1) := by decide +kernel
theorem d_M_planBy_44 : decode Y_M_planBy.2.1 44 = .ok (.aload_n 0, 1) := by decide +kernel
theorem d_M_planBy_45 : decode Y_M_planBy.2.1 45 = .ok (.iload_n 1, 1) := by decide +kernel
theorem d_M_planBy_46 : decode Y_M_planBy.2.1 46 = .ok (.iconst 0, 1) := by decide +kernel
theorem d_M_planBy_47 : decode Y_M_planBy.2.1 47 = .ok (.iload_n 2, 1) := by decide +kernel
theorem d_M_planBy_48 : decode Y_M_planBy.2.1 48 = .ok (.aload_n 0, 1) := by decide +kernel
theorem d_M_planBy_49 : decode Y_M_planBy.2.1 49 = .ok (.getfield 17, 3) := by decide +kernel
theorem d_M_planBy_52 : decode Y_M_planBy.2.1 52 = .ok (.iconst 0, 1) := by decide +kernel
theorem d_M_planBy_53 : decode Y_M_planBy.2.1 53 = .ok (.iload_n 1, 1) := by decide +kernel
theorem d_M_planBy_54 : decode Y_M_planBy.2.1 54 = .ok (.iadd, 1) := by decide +kernel
theorem d_M_planBy_55 : decode Y_M_planBy.2.1 55 = .ok (.iaload, 1) := by decide +kernel
theorem d_M_planBy_56 : decode Y_M_planBy.2.1 56 = .ok (.aload_n 0, 1) := by decide +kernel
theorem d_M_planBy_57 : decode Y_M_planBy.2.1 57 = .ok (.iload_n 1, 1) := by decide +kernel
theorem d_M_planBy_58 : decode Y_M_planBy.2.1 58 = .ok (.invokevirtual 433, 3) := by decide +kernel
theorem d_M_planBy_61 : decode Y_M_planBy.2.1 61 = .ok (.iconst 0, 1) := by decide +kernel
theorem d_M_planBy_62 : decode Y_M_planBy.2.1 62 = .ok (.aload_n 0, 1) := by decide +kernel
theorem d_M_planBy_63 : decode Y_M_planBy.2.1 63 = .ok (.getfield 17, 3) := by decide +kernel
theorem d_M_planBy_66 : decode Y_M_planBy.2.1 66 = .ok (.bipush 20, 2) := by decide +kernel
theorem d_M_planBy_68 : decode Y_M_planBy.2.1 68 = .ok (.iaload, 1) := by decide +kernel
theorem d_M_planBy_69 : decode Y_M_planBy.2.1 69 = .ok (.iload_n 3, 1) := by decide +kernel
theorem d_M_planBy_70 : decode Y_M_planBy.2.1 70 = .ok (.invokevirtual 414, 3) := by decide +kernel
theorem d_M_planBy_73 : decode Y_M_planBy.2.1 73 = .ok (.aload_n 0, 1) := by decide +kernel
theorem d_M_planBy_74 : decode Y_M_planBy.2.1 74 = .ok (.iload_n 1, 1) := by decide +kernel
theorem d_M_planBy_75 : decode Y_M_planBy.2.1 75 = .ok (.iload_n 2, 1) := by decide +kernel
theorem d_M_planBy_76 : decode Y_M_planBy.2.1 76 = .ok (.invokevirtual 436, 3) := by decide +kernel
theorem d_M_planBy_79 : decode Y_M_planBy.2.1 79 = .ok (.iload 4, 2) := by decide +kernel
theorem d_M_planBy_81 : decode Y_M_planBy.2.1 81 = .ok (.invokevirtual 440, 3) := by decide +kernel
theorem d_M_planBy_84 : decode Y_M_planBy.2.1 84 = .ok (.lreturn, 1) := by decide +kernel
def f_M_planBy (h : PH) (a0 : Option Nat) (a1 : Int32) (a2 : Int32) (a3 : Int32) (a4 : Int32) : Option (Int64 × PH) := (sF h 12 a0 0 (.inl (0 : Int32))).bind fun h1 => (cl h1 12 a0 (f_M_isChoice h1 a0 a3)).bind fun v2 => (if v2 = 0 then (some (1 : Int32)) else ((cl h1 12 a0 (f_M_refusesPlan h1 a0 a1 a2)).bind fun v4 => some v4) : Option (Int32)).bind fun j3 => if j3 ≤ 0 then ((cl h1 12 a0 (f_M_plans h1 a0 a1 a2)).bind fun h5 => (gR h5 12 a0 15).bind fun v6 => (aI h5 v6 ((0 : Int32) + a1)).bind fun v7 => (cl h5 12 a0 (f_M_turnsNow h5 a0 a1)).bind fun v8 => (gR h5 12 a0 15).bind fun v9 => (aI h5 v9 (20 : Int32)).bind fun v10 => (cl h5 12 a0 (f_M_by h5 a0 a1 (0 : Int32) a2 v7 v8 (0 : Int32) v10 a3)).bind fun v11 => (cl h5 12 a0 (f_M_parts h5 a0 a1 a2)).bind fun v12 => (cl h5 12 a0 (f_M_fraction h5 a0 v11 v12 a4)).bind fun v13 => some (v13.1, v13.2)) else ((cl h1 12 a0 (f_M_never h1 a0 j3)).bind fun v14 => some (v14.1, v14.2))
set_option maxRecDepth 20000 in
theorem PM_M_planBy {l : Launch} {G : Cx} {h : PH} {a0 : Option Nat} {a1 : Int32} {a2 : Int32} {a3 : Int32} {a4 : Int32} {z : (Int64 × PH)} (hz : f_M_planBy h a0 a1 a2 a3 a4 = some z) : PM l G 6 0 0 Y_M_planBy [.inr (.inr a0), .inl a1, .inl a2, .inl a3, .inl a4] h (some (.inr (.inl z.1)), z.2) := by
  refine PM.of (Y := Y_M_planBy) (cv := (fun z : (Int64 × PH) => (((some (.inr (.inl z.1)), z.2) : Option PV × PH)))) (by decide) (L0 := [some (.inr (.inr a0)), some (.inl a1), some (.inl a2), some (.inl a3), some (.inl a4), none]) 1 rfl (Nat.le_of_ble_eq_true rfl) ?_ hz
  unfold f_M_planBy
  refine PJ.aload_n (pc := 0) d_M_planBy_0 rfl ?_
  refine PJ.iconst (pc := 1) (v := 0) d_M_planBy_1 (by decide) ?_
  refine PJ.putI (pc := 2) ps_M_46 d_M_planBy_2 (fun h1 => ?_)
  refine PJ.aload_n (pc := 5) d_M_planBy_5 rfl ?_
  refine PJ.iload_n (pc := 6) d_M_planBy_6 rfl ?_
  refine PJ.cVpI (pc := 7) cs_M_372 (fun z hz => PM_M_isChoice hz) (pj_fitb rfl) rfl rfl (Nat.le_of_ble_eq_true rfl) d_M_planBy_7 (fun v2 => ?_)
  refine PJ.bind (fun j3 : Int32 => ((23 : Nat), ([some (.inr (.inr a0)), some (.inl a1), some (.inl a2), some (.inl a3), some (.inl a4), none] : List (Option PV)), ([.inl j3] : List PV), (h1 : PH), (0 : Nat), (0 : Nat))) ?_ (fun j3 => ?_)
  · refine PJ.if_eq (pc := 10) (tgt := 22) d_M_planBy_10 (by decide) (fun _ => ?_) (fun _ => ?_)
    · refine PJ.iconst (pc := 22) (v := 1) d_M_planBy_22 (by decide) ?_
      exact PJ.done rfl
    · refine PJ.aload_n (pc := 13) d_M_planBy_13 rfl ?_
      refine PJ.iload_n (pc := 14) d_M_planBy_14 rfl ?_
      refine PJ.iload_n (pc := 15) d_M_planBy_15 rfl ?_
      refine PJ.cVpI (pc := 16) cs_M_423 (fun z hz => PM_M_refusesPlan hz) (pj_fitb rfl) rfl rfl (Nat.le_of_ble_eq_true rfl) d_M_planBy_16 (fun v4 => ?_)
      refine PJ.goto (pc := 19) (tgt := 23) d_M_planBy_19 (by decide) ?_
      exact PJ.done rfl
  · show PJ l G (pj_rm 6 0 0) Y_M_planBy 23 [some (.inr (.inr a0)), some (.inl a1), some (.inl a2), some (.inl a3), some (.inl a4), none] [.inl j3] h1 0 0 _ _
    refine PJ.istore (pc := 23) (L1 := [some (.inr (.inr a0)), some (.inl a1), some (.inl a2), some (.inl a3), some (.inl a4), some (.inl j3)]) d_M_planBy_23 (Nat.le_of_ble_eq_true rfl) rfl rfl ?_
    refine PJ.iload (pc := 25) d_M_planBy_25 rfl ?_
    refine PJ.if_le (pc := 27) (tgt := 37) d_M_planBy_27 (by decide) (fun _ => ?_) (fun _ => ?_)
    · refine PJ.aload_n (pc := 37) d_M_planBy_37 rfl ?_
      refine PJ.iload_n (pc := 38) d_M_planBy_38 rfl ?_
      refine PJ.iload_n (pc := 39) d_M_planBy_39 rfl ?_
      refine PJ.cVV (pc := 40) cs_M_430 (fun z hz => PM_M_plans hz) (pj_fitb rfl) rfl rfl (Nat.le_of_ble_eq_true rfl) d_M_planBy_40 (fun h5 => ?_)
      refine PJ.aload_n (pc := 43) d_M_planBy_43 rfl ?_
      refine PJ.aload_n (pc := 44) d_M_planBy_44 rfl ?_
      refine PJ.iload_n (pc := 45) d_M_planBy_45 rfl ?_
      refine PJ.iconst (pc := 46) (v := 0) d_M_planBy_46 (by decide) ?_
      refine PJ.iload_n (pc := 47) d_M_planBy_47 rfl ?_
      refine PJ.aload_n (pc := 48) d_M_planBy_48 rfl ?_
      refine PJ.getR (pc := 49) fs_M_17 d_M_planBy_49 (fun v6 => ?_)
      refine PJ.iconst (pc := 52) (v := 0) d_M_planBy_52 (by decide) ?_
      refine PJ.iload_n (pc := 53) d_M_planBy_53 rfl ?_
      refine PJ.iadd (pc := 54) d_M_planBy_54 ?_
      refine PJ.iald (pc := 55) d_M_planBy_55 (fun v7 => ?_)
      refine PJ.aload_n (pc := 56) d_M_planBy_56 rfl ?_
      refine PJ.iload_n (pc := 57) d_M_planBy_57 rfl ?_
      refine PJ.cVpI (pc := 58) cs_M_433 (fun z hz => PM_M_turnsNow hz) (pj_fitb rfl) rfl rfl (Nat.le_of_ble_eq_true rfl) d_M_planBy_58 (fun v8 => ?_)
      refine PJ.iconst (pc := 61) (v := 0) d_M_planBy_61 (by decide) ?_
      refine PJ.aload_n (pc := 62) d_M_planBy_62 rfl ?_
      refine PJ.getR (pc := 63) fs_M_17 d_M_planBy_63 (fun v9 => ?_)
      refine PJ.bipush (pc := 66) (v := 20) d_M_planBy_66 (by decide) ?_
      refine PJ.iald (pc := 68) d_M_planBy_68 (fun v10 => ?_)
      refine PJ.iload_n (pc := 69) d_M_planBy_69 rfl ?_
      refine PJ.cVpL (pc := 70) cs_M_414 (fun z hz => PM_M_by hz) (pj_fitb rfl) rfl rfl (Nat.le_of_ble_eq_true rfl) d_M_planBy_70 (fun v11 => ?_)
      refine PJ.aload_n (pc := 73) d_M_planBy_73 rfl ?_
      refine PJ.iload_n (pc := 74) d_M_planBy_74 rfl ?_
      refine PJ.iload_n (pc := 75) d_M_planBy_75 rfl ?_
      refine PJ.cVpL (pc := 76) cs_M_436 (fun z hz => PM_M_parts hz) (pj_fitb rfl) rfl rfl (Nat.le_of_ble_eq_true rfl) d_M_planBy_76 (fun v12 => ?_)
      refine PJ.iload (pc := 79) d_M_planBy_79 rfl ?_
      refine PJ.cVL (pc := 81) cs_M_440 (fun z hz => PM_M_fraction hz) (pj_fitb rfl) rfl rfl (Nat.le_of_ble_eq_true rfl) d_M_planBy_81 (fun v13 => ?_)
      exact PJ.lret (pc := 84) d_M_planBy_84 rfl (Nat.le_of_ble_eq_true rfl) (Nat.le_of_ble_eq_true rfl)
    · refine PJ.aload_n (pc := 30) d_M_planBy_30 rfl ?_
      refine PJ.iload (pc := 31) d_M_planBy_31 rfl ?_
      refine PJ.cVL (pc := 33) cs_M_426 (fun z hz => PM_M_never hz) (pj_fitb rfl) rfl rfl (Nat.le_of_ble_eq_true rfl) d_M_planBy_33 (fun v14 => ?_)
      exact PJ.lret (pc := 36) d_M_planBy_36 rfl (Nat.le_of_ble_eq_true rfl) (Nat.le_of_ble_eq_true rfl)
theorem d_M_raising_0 : decode Y_M_raising.2.1 0 = .ok (.iconst 0, 1) := by decide +kernel
theorem d_M_raising_1 : decode Y_M_raising.2.1 1 = .ok (.istore_n 1, 1) := by decide +kernel
theorem d_M_raising_2 : decode Y_M_raising.2.1 2 = .ok (.iconst 0, 1) := by decide +kernel
theorem d_M_raising_3 : decode Y_M_raising.2.1 3 = .ok (.istore_n 2, 1) := by decide +kernel
theorem d_M_raising_4 : decode Y_M_raising.2.1 4 = .ok (.iload_n 2, 1) := by decide +kernel
theorem d_M_raising_5 : decode Y_M_raising.2.1 5 = .ok (.aload_n 0, 1) := by decide +kernel
theorem d_M_raising_6 : decode Y_M_raising.2.1 6 = .ok (.getfield 341, 3) := by decide +kernel
theorem d_M_raising_9 : decode Y_M_raising.2.1 9 = .ok (.getfield 255, 3) := by decide +kernel
theorem d_M_raising_12 : decode Y_M_raising.2.1 12 = .ok (.if_icmp .ge 30, 3) := by decide +kernel
theorem d_M_raising_15 : decode Y_M_raising.2.1 15 = .ok (.iload_n 1, 1) := by decide +kernel
theorem d_M_raising_16 : decode Y_M_raising.2.1 16 = .ok (.aload_n 0, 1) := by decide +kernel
theorem d_M_raising_17 : decode Y_M_raising.2.1 17 = .ok (.aload_n 0, 1) := by decide +kernel
theorem d_M_raising_18 : decode Y_M_raising.2.1 18 = .ok (.getfield 17, 3) := by decide +kernel
theorem d_M_raising_21 : decode Y_M_raising.2.1 21 = .ok (.iload_n 2, 1) := by decide +kernel
theorem d_M_raising_22 : decode Y_M_raising.2.1 22 = .ok (.aload_n 0, 1) := by decide +kernel
theorem d_M_raising_23 : decode Y_M_raising.2.1 23 = .ok (.aload_n 0, 1) := by decide +kernel
theorem d_M_raising_24 : decode Y_M_raising.2.1 24 = .ok (.getfield 17, 3) := by decide +kernel
theorem d_M_raising_27 : decode Y_M_raising.2.1 27 = .ok (.iload_n 2, 1) := by decide +kernel
theorem d_M_raising_28 : decode Y_M_raising.2.1 28 = .ok (.invokevirtual 378, 3) := by decide +kernel
theorem d_M_raising_31 : decode Y_M_raising.2.1 31 = .ok (.invokevirtual 365, 3) := by decide +kernel
theorem d_M_raising_34 : decode Y_M_raising.2.1 34 = .ok (.iadd, 1) := by decide +kernel
theorem d_M_raising_35 : decode Y_M_raising.2.1 35 = .ok (.istore_n 1, 1) := by decide +kernel
theorem d_M_raising_36 : decode Y_M_raising.2.1 36 = .ok (.iinc 2 1, 3) := by decide +kernel
theorem d_M_raising_39 : decode Y_M_raising.2.1 39 = .ok (.goto (-35), 3) := by decide +kernel
theorem d_M_raising_42 : decode Y_M_raising.2.1 42 = .ok (.iload_n 1, 1) := by decide +kernel
theorem d_M_raising_43 : decode Y_M_raising.2.1 43 = .ok (.ireturn, 1) := by decide +kernel
def f_M_raising (h : PH) (a0 : Option Nat) : Option Int32 := (pj_it (X := Int32) (fun s1 : Int32 × Int32 => (gR h 12 a0 3).bind fun v3 => (gI h 11 v3 3).bind fun v4 => if v4 ≤ s1.2 then (some (.inr s1.1)) else ((gR h 12 a0 15).bind fun v5 => (gR h 12 a0 15).bind fun v6 => (cl h 12 a0 (f_M_choosesIn h a0 v6 s1.2)).bind fun v7 => (cl h 12 a0 (f_M_taxIn h a0 v5 s1.2 v7)).bind fun v8 => some (.inl ((s1.1 + v8), (s1.2 + (1 : Int32)))))) FU ((0 : Int32), (0 : Int32))).bind fun x2 => some x2
set_option maxRecDepth 20000 in
theorem PM_M_raising {l : Launch} {G : Cx} {h : PH} {a0 : Option Nat} {z : Int32} (hz : f_M_raising h a0 = some z) : PM l G 5 0 0 Y_M_raising [.inr (.inr a0)] h (some (.inl z), h) := by
  refine PM.of (Y := Y_M_raising) (cv := (fun z : Int32 => (((some (.inl z), h) : Option PV × PH)))) (by decide) (L0 := [some (.inr (.inr a0)), none, none]) 2 rfl (Nat.le_of_ble_eq_true rfl) ?_ hz
  unfold f_M_raising
  refine PJ.iconst (pc := 0) (v := 0) d_M_raising_0 (by decide) ?_
  refine PJ.istore_n (pc := 1) (L1 := [some (.inr (.inr a0)), some (.inl (0 : Int32)), none]) d_M_raising_1 (Nat.le_of_ble_eq_true rfl) rfl rfl ?_
  refine PJ.iconst (pc := 2) (v := 0) d_M_raising_2 (by decide) ?_
  refine PJ.istore_n (pc := 3) (L1 := [some (.inr (.inr a0)), some (.inl (0 : Int32)), some (.inl (0 : Int32))]) d_M_raising_3 (Nat.le_of_ble_eq_true rfl) rfl rfl ?_
  refine PJ.bind (fun x2 : Int32 => ((42 : Nat), ([none, some (.inl x2), none] : List (Option PV)), ([] : List PV), (h : PH), (0 : Nat), (0 : Nat))) (PJ.it (E := (fun s1 : Int32 × Int32 => ((4 : Nat), ([some (.inr (.inr a0)), some (.inl s1.1), some (.inl s1.2)] : List (Option PV)), ([] : List PV), (h : PH), (0 : Nat), (0 : Nat)))) (F := (fun x2 : Int32 => ((42 : Nat), ([none, some (.inl x2), none] : List (Option PV)), ([] : List PV), (h : PH), (0 : Nat), (0 : Nat)))) (fun s1 => ?_) FU ((0 : Int32), (0 : Int32))) (fun x2 => ?_)
  · show PJ l G (pj_rm 5 0 0) Y_M_raising 4 [some (.inr (.inr a0)), some (.inl s1.1), some (.inl s1.2)] [] h 0 0 _ _
    refine PJ.iload_n (pc := 4) d_M_raising_4 rfl ?_
    refine PJ.aload_n (pc := 5) d_M_raising_5 rfl ?_
    refine PJ.getR (pc := 6) fs_M_341 d_M_raising_6 (fun v3 => ?_)
    refine PJ.getI (pc := 9) fs_M_255 d_M_raising_9 (fun v4 => ?_)
    refine PJ.icmp_ge (pc := 12) (tgt := 42) d_M_raising_12 (by decide) (fun _ => ?_) (fun _ => ?_)
    · refine PJ.mk (L1 := [none, some (.inl s1.1), none]) [false, true, false] rfl ?_
      exact PJ.done rfl
    · refine PJ.iload_n (pc := 15) d_M_raising_15 rfl ?_
      refine PJ.aload_n (pc := 16) d_M_raising_16 rfl ?_
      refine PJ.aload_n (pc := 17) d_M_raising_17 rfl ?_
      refine PJ.getR (pc := 18) fs_M_17 d_M_raising_18 (fun v5 => ?_)
      refine PJ.iload_n (pc := 21) d_M_raising_21 rfl ?_
      refine PJ.aload_n (pc := 22) d_M_raising_22 rfl ?_
      refine PJ.aload_n (pc := 23) d_M_raising_23 rfl ?_
      refine PJ.getR (pc := 24) fs_M_17 d_M_raising_24 (fun v6 => ?_)
      refine PJ.iload_n (pc := 27) d_M_raising_27 rfl ?_
      refine PJ.cVpI (pc := 28) cs_M_378 (fun z hz => PM_M_choosesIn hz) (pj_fitb rfl) rfl rfl (Nat.le_of_ble_eq_true rfl) d_M_raising_28 (fun v7 => ?_)
      refine PJ.cVpI (pc := 31) cs_M_365 (fun z hz => PM_M_taxIn hz) (pj_fitb rfl) rfl rfl (Nat.le_of_ble_eq_true rfl) d_M_raising_31 (fun v8 => ?_)
      refine PJ.iadd (pc := 34) d_M_raising_34 ?_
      refine PJ.istore_n (pc := 35) (L1 := [some (.inr (.inr a0)), some (.inl (s1.1 + v8)), some (.inl s1.2)]) d_M_raising_35 (Nat.le_of_ble_eq_true rfl) rfl rfl ?_
      refine PJ.iinc (pc := 36) (v := 1) (L1 := [some (.inr (.inr a0)), some (.inl (s1.1 + v8)), some (.inl (s1.2 + (1 : Int32)))]) d_M_raising_36 rfl (by decide) (Nat.le_of_ble_eq_true rfl) rfl rfl ?_
      refine PJ.goto (pc := 39) (tgt := 4) d_M_raising_39 (by decide) ?_
      exact PJ.done rfl
  · show PJ l G (pj_rm 5 0 0) Y_M_raising 42 [none, some (.inl x2), none] [] h 0 0 _ _
    refine PJ.iload_n (pc := 42) d_M_raising_42 rfl ?_
    exact PJ.iretp (pc := 43) d_M_raising_43 rfl (Nat.le_of_ble_eq_true rfl) (Nat.le_of_ble_eq_true rfl)
theorem d_M_raised_0 : decode Y_M_raised.2.1 0 = .ok (.aload_n 0, 1) := by decide +kernel
theorem d_M_raised_1 : decode Y_M_raised.2.1 1 = .ok (.iconst 0, 1) := by decide +kernel
theorem d_M_raised_2 : decode Y_M_raised.2.1 2 = .ok (.putfield 46, 3) := by decide +kernel
theorem d_M_raised_5 : decode Y_M_raised.2.1 5 = .ok (.aload_n 0, 1) := by decide +kernel
theorem d_M_raised_6 : decode Y_M_raised.2.1 6 = .ok (.getfield 341, 3) := by decide +kernel
theorem d_M_raised_9 : decode Y_M_raised.2.1 9 = .ok (.ifnonnull 9, 3) := by decide +kernel
theorem d_M_raised_12 : decode Y_M_raised.2.1 12 = .ok (.aload_n 0, 1) := by decide +kernel
theorem d_M_raised_13 : decode Y_M_raised.2.1 13 = .ok (.iconst 1, 1) := by decide +kernel
theorem d_M_raised_14 : decode Y_M_raised.2.1 14 = .ok (.invokevirtual 52, 3) := by decide +kernel
theorem d_M_raised_17 : decode Y_M_raised.2.1 17 = .ok (.ireturn, 1) := by decide +kernel
theorem d_M_raised_18 : decode Y_M_raised.2.1 18 = .ok (.aload_n 0, 1) := by decide +kernel
theorem d_M_raised_19 : decode Y_M_raised.2.1 19 = .ok (.invokevirtual 375, 3) := by decide +kernel
theorem d_M_raised_22 : decode Y_M_raised.2.1 22 = .ok (.aload_n 0, 1) := by decide +kernel
theorem d_M_raised_23 : decode Y_M_raised.2.1 23 = .ok (.aload_n 0, 1) := by decide +kernel
theorem d_M_raised_24 : decode Y_M_raised.2.1 24 = .ok (.invokevirtual 444, 3) := by decide +kernel
theorem d_M_raised_27 : decode Y_M_raised.2.1 27 = .ok (.invokevirtual 58, 3) := by decide +kernel
theorem d_M_raised_30 : decode Y_M_raised.2.1 30 = .ok (.ireturn, 1) := by decide +kernel
def f_M_raised (h : PH) (a0 : Option Nat) : Option (Int32 × PH) := (sF h 12 a0 0 (.inl (0 : Int32))).bind fun h1 => (gR h1 12 a0 3).bind fun v2 => if v2 = none then ((cl h1 12 a0 (f_M_refused h1 a0 (1 : Int32))).bind fun v6 => some (v6.1, v6.2)) else ((cl h1 12 a0 (f_M_asTold h1 a0)).bind fun h3 => (cl h3 12 a0 (f_M_raising h3 a0)).bind fun v4 => (cl h3 12 a0 (f_M_good h3 a0 v4)).bind fun v5 => some (v5.1, v5.2))
set_option maxRecDepth 20000 in
theorem PM_M_raised {l : Launch} {G : Cx} {h : PH} {a0 : Option Nat} {z : (Int32 × PH)} (hz : f_M_raised h a0 = some z) : PM l G 6 0 0 Y_M_raised [.inr (.inr a0)] h (some (.inl z.1), z.2) := by
  refine PM.of (Y := Y_M_raised) (cv := (fun z : (Int32 × PH) => (((some (.inl z.1), z.2) : Option PV × PH)))) (by decide) (L0 := [some (.inr (.inr a0))]) 0 rfl (Nat.le_of_ble_eq_true rfl) ?_ hz
  unfold f_M_raised
  refine PJ.aload_n (pc := 0) d_M_raised_0 rfl ?_
  refine PJ.iconst (pc := 1) (v := 0) d_M_raised_1 (by decide) ?_
  refine PJ.putI (pc := 2) ps_M_46 d_M_raised_2 (fun h1 => ?_)
  refine PJ.aload_n (pc := 5) d_M_raised_5 rfl ?_
  refine PJ.getR (pc := 6) fs_M_341 d_M_raised_6 (fun v2 => ?_)
  refine PJ.ifnonnull (pc := 9) (tgt := 18) d_M_raised_9 (by decide) (fun _ => ?_) (fun _ => ?_)
  · refine PJ.aload_n (pc := 18) d_M_raised_18 rfl ?_
    refine PJ.cVV (pc := 19) cs_M_375 (fun z hz => PM_M_asTold hz) (pj_fitb rfl) rfl rfl (Nat.le_of_ble_eq_true rfl) d_M_raised_19 (fun h3 => ?_)
    refine PJ.aload_n (pc := 22) d_M_raised_22 rfl ?_
    refine PJ.aload_n (pc := 23) d_M_raised_23 rfl ?_
    refine PJ.cVpI (pc := 24) cs_M_444 (fun z hz => PM_M_raising hz) (pj_fitb rfl) rfl rfl (Nat.le_of_ble_eq_true rfl) d_M_raised_24 (fun v4 => ?_)
    refine PJ.cVI (pc := 27) cs_M_58 (fun z hz => PM_M_good hz) (pj_fitb rfl) rfl rfl (Nat.le_of_ble_eq_true rfl) d_M_raised_27 (fun v5 => ?_)
    exact PJ.iret (pc := 30) d_M_raised_30 rfl (Nat.le_of_ble_eq_true rfl) (Nat.le_of_ble_eq_true rfl)
  · refine PJ.aload_n (pc := 12) d_M_raised_12 rfl ?_
    refine PJ.iconst (pc := 13) (v := 1) d_M_raised_13 (by decide) ?_
    refine PJ.cVI (pc := 14) cs_M_52 (fun z hz => PM_M_refused hz) (pj_fitb rfl) rfl rfl (Nat.le_of_ble_eq_true rfl) d_M_raised_14 (fun v6 => ?_)
    exact PJ.iret (pc := 17) d_M_raised_17 rfl (Nat.le_of_ble_eq_true rfl) (Nat.le_of_ble_eq_true rfl)
theorem d_M_harming_0 : decode Y_M_harming.2.1 0 = .ok (.iconst 0, 1) := by decide +kernel
theorem d_M_harming_1 : decode Y_M_harming.2.1 1 = .ok (.istore_n 1, 1) := by decide +kernel
theorem d_M_harming_2 : decode Y_M_harming.2.1 2 = .ok (.iconst 0, 1) := by decide +kernel
theorem d_M_harming_3 : decode Y_M_harming.2.1 3 = .ok (.istore_n 2, 1) := by decide +kernel
theorem d_M_harming_4 : decode Y_M_harming.2.1 4 = .ok (.iload_n 2, 1) := by decide +kernel
theorem d_M_harming_5 : decode Y_M_harming.2.1 5 = .ok (.aload_n 0, 1) := by decide +kernel
theorem d_M_harming_6 : decode Y_M_harming.2.1 6 = .ok (.getfield 341, 3) := by decide +kernel
theorem d_M_harming_9 : decode Y_M_harming.2.1 9 = .ok (.getfield 255, 3) := by decide +kernel
theorem d_M_harming_12 : decode Y_M_harming.2.1 12 = .ok (.if_icmp .ge 107, 3) := by decide +kernel
theorem d_M_harming_15 : decode Y_M_harming.2.1 15 = .ok (.iconst 0, 1) := by decide +kernel
theorem d_M_harming_16 : decode Y_M_harming.2.1 16 = .ok (.istore_n 3, 1) := by decide +kernel
theorem d_M_harming_17 : decode Y_M_harming.2.1 17 = .ok (.iconst 0, 1) := by decide +kernel
theorem d_M_harming_18 : decode Y_M_harming.2.1 18 = .ok (.istore 4, 2) := by decide +kernel
theorem d_M_harming_20 : decode Y_M_harming.2.1 20 = .ok (.iload 4, 2) := by decide +kernel
theorem d_M_harming_22 : decode Y_M_harming.2.1 22 = .ok (.aload_n 0, 1) := by decide +kernel
theorem d_M_harming_23 : decode Y_M_harming.2.1 23 = .ok (.getfield 341, 3) := by decide +kernel
theorem d_M_harming_26 : decode Y_M_harming.2.1 26 = .ok (.getfield 198, 3) := by decide +kernel
theorem d_M_harming_29 : decode Y_M_harming.2.1 29 = .ok (.if_icmp .ge 42, 3) := by decide +kernel
theorem d_M_harming_32 : decode Y_M_harming.2.1 32 = .ok (.aload_n 0, 1) := by decide +kernel
theorem d_M_harming_33 : decode Y_M_harming.2.1 33 = .ok (.iload_n 2, 1) := by decide +kernel
theorem d_M_harming_34 : decode Y_M_harming.2.1 34 = .ok (.iload 4, 2) := by decide +kernel
theorem d_M_harming_36 : decode Y_M_harming.2.1 36 = .ok (.aload_n 0, 1) := by decide +kernel
theorem d_M_harming_37 : decode Y_M_harming.2.1 37 = .ok (.getfield 17, 3) := by decide +kernel
theorem d_M_harming_40 : decode Y_M_harming.2.1 40 = .ok (.bipush 20, 2) := by decide +kernel
theorem d_M_harming_42 : decode Y_M_harming.2.1 42 = .ok (.iaload, 1) := by decide +kernel
theorem d_M_harming_43 : decode Y_M_harming.2.1 43 = .ok (.invokevirtual 361, 3) := by decide +kernel
theorem d_M_harming_46 : decode Y_M_harming.2.1 46 = .ok (.iload_n 3, 1) := by decide +kernel
theorem d_M_harming_47 : decode Y_M_harming.2.1 47 = .ok (.if_icmp .le 18, 3) := by decide +kernel
theorem d_M_harming_50 : decode Y_M_harming.2.1 50 = .ok (.aload_n 0, 1) := by decide +kernel
theorem d_M_harming_51 : decode Y_M_harming.2.1 51 = .ok (.iload_n 2, 1) := by decide +kernel
theorem d_M_harming_52 : decode Y_M_harming.2.1 52 = .ok (.iload 4, 2) := by decide +kernel
theorem d_M_harming_54 : decode Y_M_harming.2.1 54 = .ok (.aload_n 0, 1) := by decide +kernel
theorem d_M_harming_55 : decode Y_M_harming.2.1 55 = .ok (.getfield 17, 3) := by decide +kernel
theorem d_M_harming_58 : decode Y_M_harming.2.1 58 = .ok (.bipush 20, 2) := by decide +kernel
theorem d_M_harming_60 : decode Y_M_harming.2.1 60 = .ok (.iaload, 1) := by decide +kernel
theorem d_M_harming_61 : decode Y_M_harming.2.1 61 = .ok (.invokevirtual 361, 3) := by decide +kernel
theorem d_M_harming_64 : decode Y_M_harming.2.1 64 = .ok (.istore_n 3, 1) := by decide +kernel
theorem d_M_harming_65 : decode Y_M_harming.2.1 65 = .ok (.iinc 4 1, 3) := by decide +kernel
theorem d_M_harming_68 : decode Y_M_harming.2.1 68 = .ok (.goto (-48), 3) := by decide +kernel
theorem d_M_harming_71 : decode Y_M_harming.2.1 71 = .ok (.aload_n 0, 1) := by decide +kernel
theorem d_M_harming_72 : decode Y_M_harming.2.1 72 = .ok (.aload_n 0, 1) := by decide +kernel
theorem d_M_harming_73 : decode Y_M_harming.2.1 73 = .ok (.getfield 17, 3) := by decide +kernel
theorem d_M_harming_76 : decode Y_M_harming.2.1 76 = .ok (.iload_n 2, 1) := by decide +kernel
theorem d_M_harming_77 : decode Y_M_harming.2.1 77 = .ok (.invokevirtual 378, 3) := by decide +kernel
theorem d_M_harming_80 : decode Y_M_harming.2.1 80 = .ok (.istore 4, 2) := by decide +kernel
theorem d_M_harming_82 : decode Y_M_harming.2.1 82 = .ok (.iload_n 1, 1) := by decide +kernel
theorem d_M_harming_83 : decode Y_M_harming.2.1 83 = .ok (.iload_n 3, 1) := by decide +kernel
theorem d_M_harming_84 : decode Y_M_harming.2.1 84 = .ok (.aload_n 0, 1) := by decide +kernel
theorem d_M_harming_85 : decode Y_M_harming.2.1 85 = .ok (.iload_n 2, 1) := by decide +kernel
theorem d_M_harming_86 : decode Y_M_harming.2.1 86 = .ok (.iload 4, 2) := by decide +kernel
theorem d_M_harming_88 : decode Y_M_harming.2.1 88 = .ok (.aload_n 0, 1) := by decide +kernel
theorem d_M_harming_89 : decode Y_M_harming.2.1 89 = .ok (.getfield 17, 3) := by decide +kernel
theorem d_M_harming_92 : decode Y_M_harming.2.1 92 = .ok (.bipush 20, 2) := by decide +kernel
theorem d_M_harming_94 : decode Y_M_harming.2.1 94 = .ok (.iaload, 1) := by decide +kernel
theorem d_M_harming_95 : decode Y_M_harming.2.1 95 = .ok (.invokevirtual 361, 3) := by decide +kernel
theorem d_M_harming_98 : decode Y_M_harming.2.1 98 = .ok (.isub, 1) := by decide +kernel
theorem d_M_harming_99 : decode Y_M_harming.2.1 99 = .ok (.aload_n 0, 1) := by decide +kernel
theorem d_M_harming_100 : decode Y_M_harming.2.1 100 = .ok (.aload_n 0, 1) := by decide +kernel
theorem d_M_harming_101 : decode Y_M_harming.2.1 101 = .ok (.getfield 17, 3) := by decide +kernel
theorem d_M_harming_104 : decode Y_M_harming.2.1 104 = .ok (.iload_n 2, 1) := by decide +kernel
theorem d_M_harming_105 : decode Y_M_harming.2.1 105 = .ok (.iload 4, 2) := by decide +kernel
theorem d_M_harming_107 : decode Y_M_harming.2.1 107 = .ok (.invokevirtual 365, 3) := by decide +kernel
theorem d_M_harming_110 : decode Y_M_harming.2.1 110 = .ok (.iadd, 1) := by decide +kernel
theorem d_M_harming_111 : decode Y_M_harming.2.1 111 = .ok (.iadd, 1) := by decide +kernel
theorem d_M_harming_112 : decode Y_M_harming.2.1 112 = .ok (.istore_n 1, 1) := by decide +kernel
theorem d_M_harming_113 : decode Y_M_harming.2.1 113 = .ok (.iinc 2 1, 3) := by decide +kernel
theorem d_M_harming_116 : decode Y_M_harming.2.1 116 = .ok (.goto (-112), 3) := by decide +kernel
theorem d_M_harming_119 : decode Y_M_harming.2.1 119 = .ok (.iload_n 1, 1) := by decide +kernel
theorem d_M_harming_120 : decode Y_M_harming.2.1 120 = .ok (.ireturn, 1) := by decide +kernel
def f_M_harming (h : PH) (a0 : Option Nat) : Option Int32 := (pj_it (X := Int32) (fun s1 : Int32 × Int32 => (gR h 12 a0 3).bind fun v3 => (gI h 11 v3 3).bind fun v4 => if v4 ≤ s1.2 then (some (.inr s1.1)) else ((pj_it (X := Int32) (fun s5 : Int32 × Int32 => (gR h 12 a0 3).bind fun v7 => (gI h 11 v7 2).bind fun v8 => if v8 ≤ s5.2 then (some (.inr s5.1)) else ((gR h 12 a0 15).bind fun v9 => (aI h v9 (20 : Int32)).bind fun v10 => (cl h 12 a0 (f_M_worthBy h a0 s1.2 s5.2 v10)).bind fun v11 => if v11 ≤ s5.1 then (some (.inl (s5.1, (s5.2 + (1 : Int32))))) else ((gR h 12 a0 15).bind fun v12 => (aI h v12 (20 : Int32)).bind fun v13 => (cl h 12 a0 (f_M_worthBy h a0 s1.2 s5.2 v13)).bind fun v14 => some (.inl (v14, (s5.2 + (1 : Int32))))))) FU ((0 : Int32), (0 : Int32))).bind fun x6 => (gR h 12 a0 15).bind fun v15 => (cl h 12 a0 (f_M_choosesIn h a0 v15 s1.2)).bind fun v16 => (gR h 12 a0 15).bind fun v17 => (aI h v17 (20 : Int32)).bind fun v18 => (cl h 12 a0 (f_M_worthBy h a0 s1.2 v16 v18)).bind fun v19 => (gR h 12 a0 15).bind fun v20 => (cl h 12 a0 (f_M_taxIn h a0 v20 s1.2 v16)).bind fun v21 => some (.inl ((s1.1 + ((x6 - v19) + v21)), (s1.2 + (1 : Int32)))))) FU ((0 : Int32), (0 : Int32))).bind fun x2 => some x2
set_option maxRecDepth 20000 in
theorem PM_M_harming {l : Launch} {G : Cx} {h : PH} {a0 : Option Nat} {z : Int32} (hz : f_M_harming h a0 = some z) : PM l G 5 0 0 Y_M_harming [.inr (.inr a0)] h (some (.inl z), h) := by
  refine PM.of (Y := Y_M_harming) (cv := (fun z : Int32 => (((some (.inl z), h) : Option PV × PH)))) (by decide) (L0 := [some (.inr (.inr a0)), none, none, none, none]) 4 rfl (Nat.le_of_ble_eq_true rfl) ?_ hz
  unfold f_M_harming
  refine PJ.iconst (pc := 0) (v := 0) d_M_harming_0 (by decide) ?_
  refine PJ.istore_n (pc := 1) (L1 := [some (.inr (.inr a0)), some (.inl (0 : Int32)), none, none, none]) d_M_harming_1 (Nat.le_of_ble_eq_true rfl) rfl rfl ?_
  refine PJ.iconst (pc := 2) (v := 0) d_M_harming_2 (by decide) ?_
  refine PJ.istore_n (pc := 3) (L1 := [some (.inr (.inr a0)), some (.inl (0 : Int32)), some (.inl (0 : Int32)), none, none]) d_M_harming_3 (Nat.le_of_ble_eq_true rfl) rfl rfl ?_
  refine PJ.bind (fun x2 : Int32 => ((119 : Nat), ([none, some (.inl x2), none, none, none] : List (Option PV)), ([] : List PV), (h : PH), (0 : Nat), (0 : Nat))) (PJ.it (E := (fun s1 : Int32 × Int32 => ((4 : Nat), ([some (.inr (.inr a0)), some (.inl s1.1), some (.inl s1.2), none, none] : List (Option PV)), ([] : List PV), (h : PH), (0 : Nat), (0 : Nat)))) (F := (fun x2 : Int32 => ((119 : Nat), ([none, some (.inl x2), none, none, none] : List (Option PV)), ([] : List PV), (h : PH), (0 : Nat), (0 : Nat)))) (fun s1 => ?_) FU ((0 : Int32), (0 : Int32))) (fun x2 => ?_)
  · show PJ l G (pj_rm 5 0 0) Y_M_harming 4 [some (.inr (.inr a0)), some (.inl s1.1), some (.inl s1.2), none, none] [] h 0 0 _ _
    refine PJ.iload_n (pc := 4) d_M_harming_4 rfl ?_
    refine PJ.aload_n (pc := 5) d_M_harming_5 rfl ?_
    refine PJ.getR (pc := 6) fs_M_341 d_M_harming_6 (fun v3 => ?_)
    refine PJ.getI (pc := 9) fs_M_255 d_M_harming_9 (fun v4 => ?_)
    refine PJ.icmp_ge (pc := 12) (tgt := 119) d_M_harming_12 (by decide) (fun _ => ?_) (fun _ => ?_)
    · refine PJ.mk (L1 := [none, some (.inl s1.1), none, none, none]) [false, true, false, false, false] rfl ?_
      exact PJ.done rfl
    · refine PJ.iconst (pc := 15) (v := 0) d_M_harming_15 (by decide) ?_
      refine PJ.istore_n (pc := 16) (L1 := [some (.inr (.inr a0)), some (.inl s1.1), some (.inl s1.2), some (.inl (0 : Int32)), none]) d_M_harming_16 (Nat.le_of_ble_eq_true rfl) rfl rfl ?_
      refine PJ.iconst (pc := 17) (v := 0) d_M_harming_17 (by decide) ?_
      refine PJ.istore (pc := 18) (L1 := [some (.inr (.inr a0)), some (.inl s1.1), some (.inl s1.2), some (.inl (0 : Int32)), some (.inl (0 : Int32))]) d_M_harming_18 (Nat.le_of_ble_eq_true rfl) rfl rfl ?_
      refine PJ.bind (fun x6 : Int32 => ((71 : Nat), ([some (.inr (.inr a0)), some (.inl s1.1), some (.inl s1.2), some (.inl x6), none] : List (Option PV)), ([] : List PV), (h : PH), (0 : Nat), (0 : Nat))) (PJ.it (E := (fun s5 : Int32 × Int32 => ((20 : Nat), ([some (.inr (.inr a0)), some (.inl s1.1), some (.inl s1.2), some (.inl s5.1), some (.inl s5.2)] : List (Option PV)), ([] : List PV), (h : PH), (0 : Nat), (0 : Nat)))) (F := (fun x6 : Int32 => ((71 : Nat), ([some (.inr (.inr a0)), some (.inl s1.1), some (.inl s1.2), some (.inl x6), none] : List (Option PV)), ([] : List PV), (h : PH), (0 : Nat), (0 : Nat)))) (fun s5 => ?_) FU ((0 : Int32), (0 : Int32))) (fun x6 => ?_)
      · show PJ l G (pj_rm 5 0 0) Y_M_harming 20 [some (.inr (.inr a0)), some (.inl s1.1), some (.inl s1.2), some (.inl s5.1), some (.inl s5.2)] [] h 0 0 _ _
        refine PJ.iload (pc := 20) d_M_harming_20 rfl ?_
        refine PJ.aload_n (pc := 22) d_M_harming_22 rfl ?_
        refine PJ.getR (pc := 23) fs_M_341 d_M_harming_23 (fun v7 => ?_)
        refine PJ.getI (pc := 26) fs_M_198 d_M_harming_26 (fun v8 => ?_)
        refine PJ.icmp_ge (pc := 29) (tgt := 71) d_M_harming_29 (by decide) (fun _ => ?_) (fun _ => ?_)
        · refine PJ.mk (L1 := [some (.inr (.inr a0)), some (.inl s1.1), some (.inl s1.2), some (.inl s5.1), none]) [true, true, true, true, false] rfl ?_
          exact PJ.done rfl
        · refine PJ.aload_n (pc := 32) d_M_harming_32 rfl ?_
          refine PJ.iload_n (pc := 33) d_M_harming_33 rfl ?_
          refine PJ.iload (pc := 34) d_M_harming_34 rfl ?_
          refine PJ.aload_n (pc := 36) d_M_harming_36 rfl ?_
          refine PJ.getR (pc := 37) fs_M_17 d_M_harming_37 (fun v9 => ?_)
          refine PJ.bipush (pc := 40) (v := 20) d_M_harming_40 (by decide) ?_
          refine PJ.iald (pc := 42) d_M_harming_42 (fun v10 => ?_)
          refine PJ.cVpI (pc := 43) cs_M_361 (fun z hz => PM_M_worthBy hz) (pj_fitb rfl) rfl rfl (Nat.le_of_ble_eq_true rfl) d_M_harming_43 (fun v11 => ?_)
          refine PJ.iload_n (pc := 46) d_M_harming_46 rfl ?_
          refine PJ.icmp_le (pc := 47) (tgt := 65) d_M_harming_47 (by decide) (fun _ => ?_) (fun _ => ?_)
          · refine PJ.iinc (pc := 65) (v := 1) (L1 := [some (.inr (.inr a0)), some (.inl s1.1), some (.inl s1.2), some (.inl s5.1), some (.inl (s5.2 + (1 : Int32)))]) d_M_harming_65 rfl (by decide) (Nat.le_of_ble_eq_true rfl) rfl rfl ?_
            refine PJ.goto (pc := 68) (tgt := 20) d_M_harming_68 (by decide) ?_
            exact PJ.done rfl
          · refine PJ.aload_n (pc := 50) d_M_harming_50 rfl ?_
            refine PJ.iload_n (pc := 51) d_M_harming_51 rfl ?_
            refine PJ.iload (pc := 52) d_M_harming_52 rfl ?_
            refine PJ.aload_n (pc := 54) d_M_harming_54 rfl ?_
            refine PJ.getR (pc := 55) fs_M_17 d_M_harming_55 (fun v12 => ?_)
            refine PJ.bipush (pc := 58) (v := 20) d_M_harming_58 (by decide) ?_
            refine PJ.iald (pc := 60) d_M_harming_60 (fun v13 => ?_)
            refine PJ.cVpI (pc := 61) cs_M_361 (fun z hz => PM_M_worthBy hz) (pj_fitb rfl) rfl rfl (Nat.le_of_ble_eq_true rfl) d_M_harming_61 (fun v14 => ?_)
            refine PJ.istore_n (pc := 64) (L1 := [some (.inr (.inr a0)), some (.inl s1.1), some (.inl s1.2), some (.inl v14), some (.inl s5.2)]) d_M_harming_64 (Nat.le_of_ble_eq_true rfl) rfl rfl ?_
            refine PJ.iinc (pc := 65) (v := 1) (L1 := [some (.inr (.inr a0)), some (.inl s1.1), some (.inl s1.2), some (.inl v14), some (.inl (s5.2 + (1 : Int32)))]) d_M_harming_65 rfl (by decide) (Nat.le_of_ble_eq_true rfl) rfl rfl ?_
            refine PJ.goto (pc := 68) (tgt := 20) d_M_harming_68 (by decide) ?_
            exact PJ.done rfl
      · show PJ l G (pj_rm 5 0 0) Y_M_harming 71 [some (.inr (.inr a0)), some (.inl s1.1), some (.inl s1.2), some (.inl x6), none] [] h 0 0 _ _
        refine PJ.aload_n (pc := 71) d_M_harming_71 rfl ?_
        refine PJ.aload_n (pc := 72) d_M_harming_72 rfl ?_
        refine PJ.getR (pc := 73) fs_M_17 d_M_harming_73 (fun v15 => ?_)
        refine PJ.iload_n (pc := 76) d_M_harming_76 rfl ?_
        refine PJ.cVpI (pc := 77) cs_M_378 (fun z hz => PM_M_choosesIn hz) (pj_fitb rfl) rfl rfl (Nat.le_of_ble_eq_true rfl) d_M_harming_77 (fun v16 => ?_)
        refine PJ.istore (pc := 80) (L1 := [some (.inr (.inr a0)), some (.inl s1.1), some (.inl s1.2), some (.inl x6), some (.inl v16)]) d_M_harming_80 (Nat.le_of_ble_eq_true rfl) rfl rfl ?_
        refine PJ.iload_n (pc := 82) d_M_harming_82 rfl ?_
        refine PJ.iload_n (pc := 83) d_M_harming_83 rfl ?_
        refine PJ.aload_n (pc := 84) d_M_harming_84 rfl ?_
        refine PJ.iload_n (pc := 85) d_M_harming_85 rfl ?_
        refine PJ.iload (pc := 86) d_M_harming_86 rfl ?_
        refine PJ.aload_n (pc := 88) d_M_harming_88 rfl ?_
        refine PJ.getR (pc := 89) fs_M_17 d_M_harming_89 (fun v17 => ?_)
        refine PJ.bipush (pc := 92) (v := 20) d_M_harming_92 (by decide) ?_
        refine PJ.iald (pc := 94) d_M_harming_94 (fun v18 => ?_)
        refine PJ.cVpI (pc := 95) cs_M_361 (fun z hz => PM_M_worthBy hz) (pj_fitb rfl) rfl rfl (Nat.le_of_ble_eq_true rfl) d_M_harming_95 (fun v19 => ?_)
        refine PJ.isub (pc := 98) d_M_harming_98 ?_
        refine PJ.aload_n (pc := 99) d_M_harming_99 rfl ?_
        refine PJ.aload_n (pc := 100) d_M_harming_100 rfl ?_
        refine PJ.getR (pc := 101) fs_M_17 d_M_harming_101 (fun v20 => ?_)
        refine PJ.iload_n (pc := 104) d_M_harming_104 rfl ?_
        refine PJ.iload (pc := 105) d_M_harming_105 rfl ?_
        refine PJ.cVpI (pc := 107) cs_M_365 (fun z hz => PM_M_taxIn hz) (pj_fitb rfl) rfl rfl (Nat.le_of_ble_eq_true rfl) d_M_harming_107 (fun v21 => ?_)
        refine PJ.iadd (pc := 110) d_M_harming_110 ?_
        refine PJ.iadd (pc := 111) d_M_harming_111 ?_
        refine PJ.istore_n (pc := 112) (L1 := [some (.inr (.inr a0)), some (.inl (s1.1 + ((x6 - v19) + v21))), some (.inl s1.2), some (.inl x6), some (.inl v16)]) d_M_harming_112 (Nat.le_of_ble_eq_true rfl) rfl rfl ?_
        refine PJ.iinc (pc := 113) (v := 1) (L1 := [some (.inr (.inr a0)), some (.inl (s1.1 + ((x6 - v19) + v21))), some (.inl (s1.2 + (1 : Int32))), some (.inl x6), some (.inl v16)]) d_M_harming_113 rfl (by decide) (Nat.le_of_ble_eq_true rfl) rfl rfl ?_
        refine PJ.goto (pc := 116) (tgt := 4) d_M_harming_116 (by decide) ?_
        refine PJ.mk (L1 := [some (.inr (.inr a0)), some (.inl (s1.1 + ((x6 - v19) + v21))), some (.inl (s1.2 + (1 : Int32))), none, none]) [true, true, true, false, false] rfl ?_
        exact PJ.done rfl
  · show PJ l G (pj_rm 5 0 0) Y_M_harming 119 [none, some (.inl x2), none, none, none] [] h 0 0 _ _
    refine PJ.iload_n (pc := 119) d_M_harming_119 rfl ?_
    exact PJ.iretp (pc := 120) d_M_harming_120 rfl (Nat.le_of_ble_eq_true rfl) (Nat.le_of_ble_eq_true rfl)
theorem d_M_harm_0 : decode Y_M_harm.2.1 0 = .ok (.aload_n 0, 1) := by decide +kernel
theorem d_M_harm_1 : decode Y_M_harm.2.1 1 = .ok (.iconst 0, 1) := by decide +kernel
theorem d_M_harm_2 : decode Y_M_harm.2.1 2 = .ok (.putfield 46, 3) := by decide +kernel
theorem d_M_harm_5 : decode Y_M_harm.2.1 5 = .ok (.aload_n 0, 1) := by decide +kernel
theorem d_M_harm_6 : decode Y_M_harm.2.1 6 = .ok (.getfield 341, 3) := by decide +kernel
theorem d_M_harm_9 : decode Y_M_harm.2.1 9 = .ok (.ifnonnull 9, 3) := by decide +kernel
theorem d_M_harm_12 : decode Y_M_harm.2.1 12 = .ok (.aload_n 0, 1) := by decide +kernel
theorem d_M_harm_13 : decode Y_M_harm.2.1 13 = .ok (.iconst 1, 1) := by decide +kernel
theorem d_M_harm_14 : decode Y_M_harm.2.1 14 = .ok (.invokevirtual 52, 3) := by decide +kernel
theorem d_M_harm_17 : decode Y_M_harm.2.1 17 = .ok (.ireturn, 1) := by decide +kernel
theorem d_M_harm_18 : decode Y_M_harm.2.1 18 = .ok (.aload_n 0, 1) := by decide +kernel
theorem d_M_harm_19 : decode Y_M_harm.2.1 19 = .ok (.invokevirtual 375, 3) := by decide +kernel
theorem d_M_harm_22 : decode Y_M_harm.2.1 22 = .ok (.aload_n 0, 1) := by decide +kernel
theorem d_M_harm_23 : decode Y_M_harm.2.1 23 = .ok (.aload_n 0, 1) := by decide +kernel
theorem d_M_harm_24 : decode Y_M_harm.2.1 24 = .ok (.invokevirtual 447, 3) := by decide +kernel
theorem d_M_harm_27 : decode Y_M_harm.2.1 27 = .ok (.invokevirtual 58, 3) := by decide +kernel
theorem d_M_harm_30 : decode Y_M_harm.2.1 30 = .ok (.ireturn, 1) := by decide +kernel
def f_M_harm (h : PH) (a0 : Option Nat) : Option (Int32 × PH) := (sF h 12 a0 0 (.inl (0 : Int32))).bind fun h1 => (gR h1 12 a0 3).bind fun v2 => if v2 = none then ((cl h1 12 a0 (f_M_refused h1 a0 (1 : Int32))).bind fun v6 => some (v6.1, v6.2)) else ((cl h1 12 a0 (f_M_asTold h1 a0)).bind fun h3 => (cl h3 12 a0 (f_M_harming h3 a0)).bind fun v4 => (cl h3 12 a0 (f_M_good h3 a0 v4)).bind fun v5 => some (v5.1, v5.2))
set_option maxRecDepth 20000 in
theorem PM_M_harm {l : Launch} {G : Cx} {h : PH} {a0 : Option Nat} {z : (Int32 × PH)} (hz : f_M_harm h a0 = some z) : PM l G 6 0 0 Y_M_harm [.inr (.inr a0)] h (some (.inl z.1), z.2) := by
  refine PM.of (Y := Y_M_harm) (cv := (fun z : (Int32 × PH) => (((some (.inl z.1), z.2) : Option PV × PH)))) (by decide) (L0 := [some (.inr (.inr a0))]) 0 rfl (Nat.le_of_ble_eq_true rfl) ?_ hz
  unfold f_M_harm
  refine PJ.aload_n (pc := 0) d_M_harm_0 rfl ?_
  refine PJ.iconst (pc := 1) (v := 0) d_M_harm_1 (by decide) ?_
  refine PJ.putI (pc := 2) ps_M_46 d_M_harm_2 (fun h1 => ?_)
  refine PJ.aload_n (pc := 5) d_M_harm_5 rfl ?_
  refine PJ.getR (pc := 6) fs_M_341 d_M_harm_6 (fun v2 => ?_)
  refine PJ.ifnonnull (pc := 9) (tgt := 18) d_M_harm_9 (by decide) (fun _ => ?_) (fun _ => ?_)
  · refine PJ.aload_n (pc := 18) d_M_harm_18 rfl ?_
    refine PJ.cVV (pc := 19) cs_M_375 (fun z hz => PM_M_asTold hz) (pj_fitb rfl) rfl rfl (Nat.le_of_ble_eq_true rfl) d_M_harm_19 (fun h3 => ?_)
    refine PJ.aload_n (pc := 22) d_M_harm_22 rfl ?_
    refine PJ.aload_n (pc := 23) d_M_harm_23 rfl ?_
    refine PJ.cVpI (pc := 24) cs_M_447 (fun z hz => PM_M_harming hz) (pj_fitb rfl) rfl rfl (Nat.le_of_ble_eq_true rfl) d_M_harm_24 (fun v4 => ?_)
    refine PJ.cVI (pc := 27) cs_M_58 (fun z hz => PM_M_good hz) (pj_fitb rfl) rfl rfl (Nat.le_of_ble_eq_true rfl) d_M_harm_27 (fun v5 => ?_)
    exact PJ.iret (pc := 30) d_M_harm_30 rfl (Nat.le_of_ble_eq_true rfl) (Nat.le_of_ble_eq_true rfl)
  · refine PJ.aload_n (pc := 12) d_M_harm_12 rfl ?_
    refine PJ.iconst (pc := 13) (v := 1) d_M_harm_13 (by decide) ?_
    refine PJ.cVI (pc := 14) cs_M_52 (fun z hz => PM_M_refused hz) (pj_fitb rfl) rfl rfl (Nat.le_of_ble_eq_true rfl) d_M_harm_14 (fun v6 => ?_)
    exact PJ.iret (pc := 17) d_M_harm_17 rfl (Nat.le_of_ble_eq_true rfl) (Nat.le_of_ble_eq_true rfl)
theorem d_M_refusesTable_0 : decode Y_M_refusesTable.2.1 0 = .ok (.aload_n 0, 1) := by decide +kernel
theorem d_M_refusesTable_1 : decode Y_M_refusesTable.2.1 1 = .ok (.getfield 341, 3) := by decide +kernel
theorem d_M_refusesTable_4 : decode Y_M_refusesTable.2.1 4 = .ok (.ifnonnull 7, 3) := by decide +kernel
theorem d_M_refusesTable_7 : decode Y_M_refusesTable.2.1 7 = .ok (.iconst 1, 1) := by decide +kernel
theorem d_M_refusesTable_8 : decode Y_M_refusesTable.2.1 8 = .ok (.goto 18, 3) := by decide +kernel
theorem d_M_refusesTable_11 : decode Y_M_refusesTable.2.1 11 = .ok (.iload_n 1, 1) := by decide +kernel
theorem d_M_refusesTable_12 : decode Y_M_refusesTable.2.1 12 = .ok (.iconst 0, 1) := by decide +kernel
theorem d_M_refusesTable_13 : decode Y_M_refusesTable.2.1 13 = .ok (.bipush 9, 2) := by decide +kernel
theorem d_M_refusesTable_15 : decode Y_M_refusesTable.2.1 15 = .ok (.invokestatic 127, 3) := by decide +kernel
theorem d_M_refusesTable_18 : decode Y_M_refusesTable.2.1 18 = .ok (.ifCond .eq 7, 3) := by decide +kernel
theorem d_M_refusesTable_21 : decode Y_M_refusesTable.2.1 21 = .ok (.iconst 0, 1) := by decide +kernel
theorem d_M_refusesTable_22 : decode Y_M_refusesTable.2.1 22 = .ok (.goto 4, 3) := by decide +kernel
theorem d_M_refusesTable_25 : decode Y_M_refusesTable.2.1 25 = .ok (.iconst 2, 1) := by decide +kernel
theorem d_M_refusesTable_26 : decode Y_M_refusesTable.2.1 26 = .ok (.ireturn, 1) := by decide +kernel
def f_M_refusesTable (h : PH) (a0 : Option Nat) (a1 : Int32) : Option Int32 := (gR h 12 a0 3).bind fun v1 => if v1 = none then (some (1 : Int32)) else ((f_M_in h a1 (0 : Int32) (9 : Int32)).bind fun v2 => if v2 = 0 then (some (2 : Int32)) else (some (0 : Int32)))
set_option maxRecDepth 20000 in
theorem PM_M_refusesTable {l : Launch} {G : Cx} {h : PH} {a0 : Option Nat} {a1 : Int32} {z : Int32} (hz : f_M_refusesTable h a0 a1 = some z) : PM l G 2 0 0 Y_M_refusesTable [.inr (.inr a0), .inl a1] h (some (.inl z), h) := by
  refine PM.of (Y := Y_M_refusesTable) (cv := (fun z : Int32 => (((some (.inl z), h) : Option PV × PH)))) (by decide) (L0 := [some (.inr (.inr a0)), some (.inl a1)]) 0 rfl (Nat.le_of_ble_eq_true rfl) ?_ hz
  unfold f_M_refusesTable
  refine PJ.aload_n (pc := 0) d_M_refusesTable_0 rfl ?_
  refine PJ.getR (pc := 1) fs_M_341 d_M_refusesTable_1 (fun v1 => ?_)
  refine PJ.ifnonnull (pc := 4) (tgt := 11) d_M_refusesTable_4 (by decide) (fun _ => ?_) (fun _ => ?_)
  · refine PJ.iload_n (pc := 11) d_M_refusesTable_11 rfl ?_
    refine PJ.iconst (pc := 12) (v := 0) d_M_refusesTable_12 (by decide) ?_
    refine PJ.bipush (pc := 13) (v := 9) d_M_refusesTable_13 (by decide) ?_
    refine PJ.cSpI (pc := 15) cs_M_127 (fun z hz => PM_M_in hz) (pj_fitb rfl) rfl rfl (Nat.le_of_ble_eq_true rfl) d_M_refusesTable_15 (fun v2 => ?_)
    refine PJ.if_eq (pc := 18) (tgt := 25) d_M_refusesTable_18 (by decide) (fun _ => ?_) (fun _ => ?_)
    · refine PJ.iconst (pc := 25) (v := 2) d_M_refusesTable_25 (by decide) ?_
      exact PJ.iretp (pc := 26) d_M_refusesTable_26 rfl (Nat.le_of_ble_eq_true rfl) (Nat.le_of_ble_eq_true rfl)
    · refine PJ.iconst (pc := 21) (v := 0) d_M_refusesTable_21 (by decide) ?_
      refine PJ.goto (pc := 22) (tgt := 26) d_M_refusesTable_22 (by decide) ?_
      exact PJ.iretp (pc := 26) d_M_refusesTable_26 rfl (Nat.le_of_ble_eq_true rfl) (Nat.le_of_ble_eq_true rfl)
  · refine PJ.iconst (pc := 7) (v := 1) d_M_refusesTable_7 (by decide) ?_
    refine PJ.goto (pc := 8) (tgt := 26) d_M_refusesTable_8 (by decide) ?_
    exact PJ.iretp (pc := 26) d_M_refusesTable_26 rfl (Nat.le_of_ble_eq_true rfl) (Nat.le_of_ble_eq_true rfl)
theorem d_M_byTable_0 : decode Y_M_byTable.2.1 0 = .ok (.aload_n 0, 1) := by decide +kernel
theorem d_M_byTable_1 : decode Y_M_byTable.2.1 1 = .ok (.invokevirtual 375, 3) := by decide +kernel
theorem d_M_byTable_4 : decode Y_M_byTable.2.1 4 = .ok (.aload_n 0, 1) := by decide +kernel
theorem d_M_byTable_5 : decode Y_M_byTable.2.1 5 = .ok (.iload_n 1, 1) := by decide +kernel
theorem d_M_byTable_6 : decode Y_M_byTable.2.1 6 = .ok (.putfield 30, 3) := by decide +kernel
theorem d_M_byTable_9 : decode Y_M_byTable.2.1 9 = .ok (.return_, 1) := by decide +kernel
def f_M_byTable (h : PH) (a0 : Option Nat) (a1 : Int32) : Option PH := (cl h 12 a0 (f_M_asTold h a0)).bind fun h1 => (sF h1 12 a0 21 (.inl a1)).bind fun h2 => some h2
set_option maxRecDepth 20000 in
theorem PM_M_byTable {l : Launch} {G : Cx} {h : PH} {a0 : Option Nat} {a1 : Int32} {z : PH} (hz : f_M_byTable h a0 a1 = some z) : PM l G 2 0 0 Y_M_byTable [.inr (.inr a0), .inl a1] h (none, z) := by
  refine PM.of (Y := Y_M_byTable) (cv := (fun z : PH => (((none, z) : Option PV × PH)))) (by decide) (L0 := [some (.inr (.inr a0)), some (.inl a1)]) 0 rfl (Nat.le_of_ble_eq_true rfl) ?_ hz
  unfold f_M_byTable
  refine PJ.aload_n (pc := 0) d_M_byTable_0 rfl ?_
  refine PJ.cVV (pc := 1) cs_M_375 (fun z hz => PM_M_asTold hz) (pj_fitb rfl) rfl rfl (Nat.le_of_ble_eq_true rfl) d_M_byTable_1 (fun h1 => ?_)
  refine PJ.aload_n (pc := 4) d_M_byTable_4 rfl ?_
  refine PJ.iload_n (pc := 5) d_M_byTable_5 rfl ?_
  refine PJ.putI (pc := 6) ps_M_30 d_M_byTable_6 (fun h2 => ?_)
  exact PJ.vret (pc := 9) d_M_byTable_9 rfl (Nat.le_of_ble_eq_true rfl) (Nat.le_of_ble_eq_true rfl)
theorem d_M_raisedBy_0 : decode Y_M_raisedBy.2.1 0 = .ok (.aload_n 0, 1) := by decide +kernel
theorem d_M_raisedBy_1 : decode Y_M_raisedBy.2.1 1 = .ok (.iconst 0, 1) := by decide +kernel
theorem d_M_raisedBy_2 : decode Y_M_raisedBy.2.1 2 = .ok (.putfield 46, 3) := by decide +kernel
theorem d_M_raisedBy_5 : decode Y_M_raisedBy.2.1 5 = .ok (.aload_n 0, 1) := by decide +kernel
theorem d_M_raisedBy_6 : decode Y_M_raisedBy.2.1 6 = .ok (.iload_n 1, 1) := by decide +kernel
theorem d_M_raisedBy_7 : decode Y_M_raisedBy.2.1 7 = .ok (.invokevirtual 450, 3) := by decide +kernel
theorem d_M_raisedBy_10 : decode Y_M_raisedBy.2.1 10 = .ok (.istore_n 2, 1) := by decide +kernel
theorem d_M_raisedBy_11 : decode Y_M_raisedBy.2.1 11 = .ok (.iload_n 2, 1) := by decide +kernel
theorem d_M_raisedBy_12 : decode Y_M_raisedBy.2.1 12 = .ok (.ifCond .le 9, 3) := by decide +kernel
theorem d_M_raisedBy_15 : decode Y_M_raisedBy.2.1 15 = .ok (.aload_n 0, 1) := by decide +kernel
theorem d_M_raisedBy_16 : decode Y_M_raisedBy.2.1 16 = .ok (.iload_n 2, 1) := by decide +kernel
theorem d_M_raisedBy_17 : decode Y_M_raisedBy.2.1 17 = .ok (.invokevirtual 52, 3) := by decide +kernel
theorem d_M_raisedBy_20 : decode Y_M_raisedBy.2.1 20 = .ok (.ireturn, 1) := by decide +kernel
theorem d_M_raisedBy_21 : decode Y_M_raisedBy.2.1 21 = .ok (.aload_n 0, 1) := by decide +kernel
theorem d_M_raisedBy_22 : decode Y_M_raisedBy.2.1 22 = .ok (.iload_n 1, 1) := by decide +kernel
theorem d_M_raisedBy_23 : decode Y_M_raisedBy.2.1 23 = .ok (.invokevirtual 453, 3) := by decide +kernel
theorem d_M_raisedBy_26 : decode Y_M_raisedBy.2.1 26 = .ok (.aload_n 0, 1) := by decide +kernel
theorem d_M_raisedBy_27 : decode Y_M_raisedBy.2.1 27 = .ok (.aload_n 0, 1) := by decide +kernel
theorem d_M_raisedBy_28 : decode Y_M_raisedBy.2.1 28 = .ok (.invokevirtual 444, 3) := by decide +kernel
theorem d_M_raisedBy_31 : decode Y_M_raisedBy.2.1 31 = .ok (.invokevirtual 58, 3) := by decide +kernel
theorem d_M_raisedBy_34 : decode Y_M_raisedBy.2.1 34 = .ok (.ireturn, 1) := by decide +kernel
def f_M_raisedBy (h : PH) (a0 : Option Nat) (a1 : Int32) : Option (Int32 × PH) := (sF h 12 a0 0 (.inl (0 : Int32))).bind fun h1 => (cl h1 12 a0 (f_M_refusesTable h1 a0 a1)).bind fun v2 => if v2 ≤ 0 then ((cl h1 12 a0 (f_M_byTable h1 a0 a1)).bind fun h3 => (cl h3 12 a0 (f_M_raising h3 a0)).bind fun v4 => (cl h3 12 a0 (f_M_good h3 a0 v4)).bind fun v5 => some (v5.1, v5.2)) else ((cl h1 12 a0 (f_M_refused h1 a0 v2)).bind fun v6 => some (v6.1, v6.2))
set_option maxRecDepth 20000 in
theorem PM_M_raisedBy {l : Launch} {G : Cx} {h : PH} {a0 : Option Nat} {a1 : Int32} {z : (Int32 × PH)} (hz : f_M_raisedBy h a0 a1 = some z) : PM l G 6 0 0 Y_M_raisedBy [.inr (.inr a0), .inl a1] h (some (.inl z.1), z.2) := by
  refine PM.of (Y := Y_M_raisedBy) (cv := (fun z : (Int32 × PH) => (((some (.inl z.1), z.2) : Option PV × PH)))) (by decide) (L0 := [some (.inr (.inr a0)), some (.inl a1), none]) 1 rfl (Nat.le_of_ble_eq_true rfl) ?_ hz
  unfold f_M_raisedBy
  refine PJ.aload_n (pc := 0) d_M_raisedBy_0 rfl ?_
  refine PJ.iconst (pc := 1) (v := 0) d_M_raisedBy_1 (by decide) ?_
  refine PJ.putI (pc := 2) ps_M_46 d_M_raisedBy_2 (fun h1 => ?_)
  refine PJ.aload_n (pc := 5) d_M_raisedBy_5 rfl ?_
  refine PJ.iload_n (pc := 6) d_M_raisedBy_6 rfl ?_
  refine PJ.cVpI (pc := 7) cs_M_450 (fun z hz => PM_M_refusesTable hz) (pj_fitb rfl) rfl rfl (Nat.le_of_ble_eq_true rfl) d_M_raisedBy_7 (fun v2 => ?_)
  refine PJ.istore_n (pc := 10) (L1 := [some (.inr (.inr a0)), some (.inl a1), some (.inl v2)]) d_M_raisedBy_10 (Nat.le_of_ble_eq_true rfl) rfl rfl ?_
  refine PJ.iload_n (pc := 11) d_M_raisedBy_11 rfl ?_
  refine PJ.if_le (pc := 12) (tgt := 21) d_M_raisedBy_12 (by decide) (fun _ => ?_) (fun _ => ?_)
  · refine PJ.aload_n (pc := 21) d_M_raisedBy_21 rfl ?_
    refine PJ.iload_n (pc := 22) d_M_raisedBy_22 rfl ?_
    refine PJ.cVV (pc := 23) cs_M_453 (fun z hz => PM_M_byTable hz) (pj_fitb rfl) rfl rfl (Nat.le_of_ble_eq_true rfl) d_M_raisedBy_23 (fun h3 => ?_)
    refine PJ.aload_n (pc := 26) d_M_raisedBy_26 rfl ?_
    refine PJ.aload_n (pc := 27) d_M_raisedBy_27 rfl ?_
    refine PJ.cVpI (pc := 28) cs_M_444 (fun z hz => PM_M_raising hz) (pj_fitb rfl) rfl rfl (Nat.le_of_ble_eq_true rfl) d_M_raisedBy_28 (fun v4 => ?_)
    refine PJ.cVI (pc := 31) cs_M_58 (fun z hz => PM_M_good hz) (pj_fitb rfl) rfl rfl (Nat.le_of_ble_eq_true rfl) d_M_raisedBy_31 (fun v5 => ?_)
    exact PJ.iret (pc := 34) d_M_raisedBy_34 rfl (Nat.le_of_ble_eq_true rfl) (Nat.le_of_ble_eq_true rfl)
  · refine PJ.aload_n (pc := 15) d_M_raisedBy_15 rfl ?_
    refine PJ.iload_n (pc := 16) d_M_raisedBy_16 rfl ?_
    refine PJ.cVI (pc := 17) cs_M_52 (fun z hz => PM_M_refused hz) (pj_fitb rfl) rfl rfl (Nat.le_of_ble_eq_true rfl) d_M_raisedBy_17 (fun v6 => ?_)
    exact PJ.iret (pc := 20) d_M_raisedBy_20 rfl (Nat.le_of_ble_eq_true rfl) (Nat.le_of_ble_eq_true rfl)
theorem d_M_harmBy_0 : decode Y_M_harmBy.2.1 0 = .ok (.aload_n 0, 1) := by decide +kernel
theorem d_M_harmBy_1 : decode Y_M_harmBy.2.1 1 = .ok (.iconst 0, 1) := by decide +kernel
theorem d_M_harmBy_2 : decode Y_M_harmBy.2.1 2 = .ok (.putfield 46, 3) := by decide +kernel
theorem d_M_harmBy_5 : decode Y_M_harmBy.2.1 5 = .ok (.aload_n 0, 1) := by decide +kernel
theorem d_M_harmBy_6 : decode Y_M_harmBy.2.1 6 = .ok (.iload_n 1, 1) := by decide +kernel
theorem d_M_harmBy_7 : decode Y_M_harmBy.2.1 7 = .ok (.invokevirtual 450, 3) := by decide +kernel
theorem d_M_harmBy_10 : decode Y_M_harmBy.2.1 10 = .ok (.istore_n 2, 1) := by decide +kernel
theorem d_M_harmBy_11 : decode Y_M_harmBy.2.1 11 = .ok (.iload_n 2, 1) := by decide +kernel
theorem d_M_harmBy_12 : decode Y_M_harmBy.2.1 12 = .ok (.ifCond .le 9, 3) := by decide +kernel
theorem d_M_harmBy_15 : decode Y_M_harmBy.2.1 15 = .ok (.aload_n 0, 1) := by decide +kernel
theorem d_M_harmBy_16 : decode Y_M_harmBy.2.1 16 = .ok (.iload_n 2, 1) := by decide +kernel
theorem d_M_harmBy_17 : decode Y_M_harmBy.2.1 17 = .ok (.invokevirtual 52, 3) := by decide +kernel
theorem d_M_harmBy_20 : decode Y_M_harmBy.2.1 20 = .ok (.ireturn, 1) := by decide +kernel
theorem d_M_harmBy_21 : decode Y_M_harmBy.2.1 21 = .ok (.aload_n 0, 1) := by decide +kernel
theorem d_M_harmBy_22 : decode Y_M_harmBy.2.1 22 = .ok (.iload_n 1, 1) := by decide +kernel
theorem d_M_harmBy_23 : decode Y_M_harmBy.2.1 23 = .ok (.invokevirtual 453, 3) := by decide +kernel
theorem d_M_harmBy_26 : decode Y_M_harmBy.2.1 26 = .ok (.aload_n 0, 1) := by decide +kernel
theorem d_M_harmBy_27 : decode Y_M_harmBy.2.1 27 = .ok (.aload_n 0, 1) := by decide +kernel
theorem d_M_harmBy_28 : decode Y_M_harmBy.2.1 28 = .ok (.invokevirtual 447, 3) := by decide +kernel
theorem d_M_harmBy_31 : decode Y_M_harmBy.2.1 31 = .ok (.invokevirtual 58, 3) := by decide +kernel
theorem d_M_harmBy_34 : decode Y_M_harmBy.2.1 34 = .ok (.ireturn, 1) := by decide +kernel
def f_M_harmBy (h : PH) (a0 : Option Nat) (a1 : Int32) : Option (Int32 × PH) := (sF h 12 a0 0 (.inl (0 : Int32))).bind fun h1 => (cl h1 12 a0 (f_M_refusesTable h1 a0 a1)).bind fun v2 => if v2 ≤ 0 then ((cl h1 12 a0 (f_M_byTable h1 a0 a1)).bind fun h3 => (cl h3 12 a0 (f_M_harming h3 a0)).bind fun v4 => (cl h3 12 a0 (f_M_good h3 a0 v4)).bind fun v5 => some (v5.1, v5.2)) else ((cl h1 12 a0 (f_M_refused h1 a0 v2)).bind fun v6 => some (v6.1, v6.2))
set_option maxRecDepth 20000 in
theorem PM_M_harmBy {l : Launch} {G : Cx} {h : PH} {a0 : Option Nat} {a1 : Int32} {z : (Int32 × PH)} (hz : f_M_harmBy h a0 a1 = some z) : PM l G 6 0 0 Y_M_harmBy [.inr (.inr a0), .inl a1] h (some (.inl z.1), z.2) := by
  refine PM.of (Y := Y_M_harmBy) (cv := (fun z : (Int32 × PH) => (((some (.inl z.1), z.2) : Option PV × PH)))) (by decide) (L0 := [some (.inr (.inr a0)), some (.inl a1), none]) 1 rfl (Nat.le_of_ble_eq_true rfl) ?_ hz
  unfold f_M_harmBy
  refine PJ.aload_n (pc := 0) d_M_harmBy_0 rfl ?_
  refine PJ.iconst (pc := 1) (v := 0) d_M_harmBy_1 (by decide) ?_
  refine PJ.putI (pc := 2) ps_M_46 d_M_harmBy_2 (fun h1 => ?_)
  refine PJ.aload_n (pc := 5) d_M_harmBy_5 rfl ?_
  refine PJ.iload_n (pc := 6) d_M_harmBy_6 rfl ?_
  refine PJ.cVpI (pc := 7) cs_M_450 (fun z hz => PM_M_refusesTable hz) (pj_fitb rfl) rfl rfl (Nat.le_of_ble_eq_true rfl) d_M_harmBy_7 (fun v2 => ?_)
  refine PJ.istore_n (pc := 10) (L1 := [some (.inr (.inr a0)), some (.inl a1), some (.inl v2)]) d_M_harmBy_10 (Nat.le_of_ble_eq_true rfl) rfl rfl ?_
  refine PJ.iload_n (pc := 11) d_M_harmBy_11 rfl ?_
  refine PJ.if_le (pc := 12) (tgt := 21) d_M_harmBy_12 (by decide) (fun _ => ?_) (fun _ => ?_)
  · refine PJ.aload_n (pc := 21) d_M_harmBy_21 rfl ?_
    refine PJ.iload_n (pc := 22) d_M_harmBy_22 rfl ?_
    refine PJ.cVV (pc := 23) cs_M_453 (fun z hz => PM_M_byTable hz) (pj_fitb rfl) rfl rfl (Nat.le_of_ble_eq_true rfl) d_M_harmBy_23 (fun h3 => ?_)
    refine PJ.aload_n (pc := 26) d_M_harmBy_26 rfl ?_
    refine PJ.aload_n (pc := 27) d_M_harmBy_27 rfl ?_
    refine PJ.cVpI (pc := 28) cs_M_447 (fun z hz => PM_M_harming hz) (pj_fitb rfl) rfl rfl (Nat.le_of_ble_eq_true rfl) d_M_harmBy_28 (fun v4 => ?_)
    refine PJ.cVI (pc := 31) cs_M_58 (fun z hz => PM_M_good hz) (pj_fitb rfl) rfl rfl (Nat.le_of_ble_eq_true rfl) d_M_harmBy_31 (fun v5 => ?_)
    exact PJ.iret (pc := 34) d_M_harmBy_34 rfl (Nat.le_of_ble_eq_true rfl) (Nat.le_of_ble_eq_true rfl)
  · refine PJ.aload_n (pc := 15) d_M_harmBy_15 rfl ?_
    refine PJ.iload_n (pc := 16) d_M_harmBy_16 rfl ?_
    refine PJ.cVI (pc := 17) cs_M_52 (fun z hz => PM_M_refused hz) (pj_fitb rfl) rfl rfl (Nat.le_of_ble_eq_true rfl) d_M_harmBy_17 (fun v6 => ?_)
    exact PJ.iret (pc := 20) d_M_harmBy_20 rfl (Nat.le_of_ble_eq_true rfl) (Nat.le_of_ble_eq_true rfl)
theorem d_M_bestTable_0 : decode Y_M_bestTable.2.1 0 = .ok (.aload_n 0, 1) := by decide +kernel
theorem d_M_bestTable_1 : decode Y_M_bestTable.2.1 1 = .ok (.iconst 0, 1) := by decide +kernel
theorem d_M_bestTable_2 : decode Y_M_bestTable.2.1 2 = .ok (.putfield 46, 3) := by decide +kernel
theorem d_M_bestTable_5 : decode Y_M_bestTable.2.1 5 = .ok (.aload_n 0, 1) := by decide +kernel
theorem d_M_bestTable_6 : decode Y_M_bestTable.2.1 6 = .ok (.getfield 341, 3) := by decide +kernel
theorem d_M_bestTable_9 : decode Y_M_bestTable.2.1 9 = .ok (.ifnonnull 9, 3) := by decide +kernel
theorem d_M_bestTable_12 : decode Y_M_bestTable.2.1 12 = .ok (.aload_n 0, 1) := by decide +kernel
theorem d_M_bestTable_13 : decode Y_M_bestTable.2.1 13 = .ok (.iconst 1, 1) := by decide +kernel
theorem d_M_bestTable_14 : decode Y_M_bestTable.2.1 14 = .ok (.invokevirtual 52, 3) := by decide +kernel
theorem d_M_bestTable_17 : decode Y_M_bestTable.2.1 17 = .ok (.ireturn, 1) := by decide +kernel
theorem d_M_bestTable_18 : decode Y_M_bestTable.2.1 18 = .ok (.iconst 0, 1) := by decide +kernel
theorem d_M_bestTable_19 : decode Y_M_bestTable.2.1 19 = .ok (.istore_n 1, 1) := by decide +kernel
theorem d_M_bestTable_20 : decode Y_M_bestTable.2.1 20 = .ok (.iconst (-1), 1) := by decide +kernel
theorem d_M_bestTable_21 : decode Y_M_bestTable.2.1 21 = .ok (.istore_n 2, 1) := by decide +kernel
theorem d_M_bestTable_22 : decode Y_M_bestTable.2.1 22 = .ok (.iconst 0, 1) := by decide +kernel
theorem d_M_bestTable_23 : decode Y_M_bestTable.2.1 23 = .ok (.istore_n 3, 1) := by decide +kernel
theorem d_M_bestTable_24 : decode Y_M_bestTable.2.1 24 = .ok (.iconst 0, 1) := by decide +kernel
theorem d_M_bestTable_25 : decode Y_M_bestTable.2.1 25 = .ok (.istore 4, 2) := by decide +kernel
theorem d_M_bestTable_27 : decode Y_M_bestTable.2.1 27 = .ok (.iload 4, 2) := by decide +kernel
theorem d_M_bestTable_29 : decode Y_M_bestTable.2.1 29 = .ok (.bipush 9, 2) := by decide +kernel
theorem d_M_bestTable_31 : decode Y_M_bestTable.2.1 31 = .ok (.if_icmp .gt 57, 3) := by decide +kernel
theorem d_M_bestTable_34 : decode Y_M_bestTable.2.1 34 = .ok (.aload_n 0, 1) := by decide +kernel
theorem d_M_bestTable_35 : decode Y_M_bestTable.2.1 35 = .ok (.iload 4, 2) := by decide +kernel
theorem d_M_bestTable_37 : decode Y_M_bestTable.2.1 37 = .ok (.invokevirtual 453, 3) := by decide +kernel
theorem d_M_bestTable_40 : decode Y_M_bestTable.2.1 40 = .ok (.aload_n 0, 1) := by decide +kernel
theorem d_M_bestTable_41 : decode Y_M_bestTable.2.1 41 = .ok (.invokevirtual 444, 3) := by decide +kernel
theorem d_M_bestTable_44 : decode Y_M_bestTable.2.1 44 = .ok (.istore 5, 2) := by decide +kernel
theorem d_M_bestTable_46 : decode Y_M_bestTable.2.1 46 = .ok (.aload_n 0, 1) := by decide +kernel
theorem d_M_bestTable_47 : decode Y_M_bestTable.2.1 47 = .ok (.invokevirtual 447, 3) := by decide +kernel
theorem d_M_bestTable_50 : decode Y_M_bestTable.2.1 50 = .ok (.istore 6, 2) := by decide +kernel
theorem d_M_bestTable_52 : decode Y_M_bestTable.2.1 52 = .ok (.iload 5, 2) := by decide +kernel
theorem d_M_bestTable_54 : decode Y_M_bestTable.2.1 54 = .ok (.iload_n 2, 1) := by decide +kernel
theorem d_M_bestTable_55 : decode Y_M_bestTable.2.1 55 = .ok (.if_icmp .lt 27, 3) := by decide +kernel
theorem d_M_bestTable_58 : decode Y_M_bestTable.2.1 58 = .ok (.iload 5, 2) := by decide +kernel
theorem d_M_bestTable_60 : decode Y_M_bestTable.2.1 60 = .ok (.iload_n 2, 1) := by decide +kernel
theorem d_M_bestTable_61 : decode Y_M_bestTable.2.1 61 = .ok (.if_icmp .ne 12, 3) := by decide +kernel
theorem d_M_bestTable_64 : decode Y_M_bestTable.2.1 64 = .ok (.iload 6, 2) := by decide +kernel
theorem d_M_bestTable_66 : decode Y_M_bestTable.2.1 66 = .ok (.iload_n 3, 1) := by decide +kernel
theorem d_M_bestTable_67 : decode Y_M_bestTable.2.1 67 = .ok (.if_icmp .lt 6, 3) := by decide +kernel
theorem d_M_bestTable_70 : decode Y_M_bestTable.2.1 70 = .ok (.goto 12, 3) := by decide +kernel
theorem d_M_bestTable_73 : decode Y_M_bestTable.2.1 73 = .ok (.iload 4, 2) := by decide +kernel
theorem d_M_bestTable_75 : decode Y_M_bestTable.2.1 75 = .ok (.istore_n 1, 1) := by decide +kernel
theorem d_M_bestTable_76 : decode Y_M_bestTable.2.1 76 = .ok (.iload 5, 2) := by decide +kernel
theorem d_M_bestTable_78 : decode Y_M_bestTable.2.1 78 = .ok (.istore_n 2, 1) := by decide +kernel
theorem d_M_bestTable_79 : decode Y_M_bestTable.2.1 79 = .ok (.iload 6, 2) := by decide +kernel
theorem d_M_bestTable_81 : decode Y_M_bestTable.2.1 81 = .ok (.istore_n 3, 1) := by decide +kernel
theorem d_M_bestTable_82 : decode Y_M_bestTable.2.1 82 = .ok (.iinc 4 1, 3) := by decide +kernel
theorem d_M_bestTable_85 : decode Y_M_bestTable.2.1 85 = .ok (.goto (-58), 3) := by decide +kernel
theorem d_M_bestTable_88 : decode Y_M_bestTable.2.1 88 = .ok (.aload_n 0, 1) := by decide +kernel
theorem d_M_bestTable_89 : decode Y_M_bestTable.2.1 89 = .ok (.iload_n 1, 1) := by decide +kernel
theorem d_M_bestTable_90 : decode Y_M_bestTable.2.1 90 = .ok (.invokevirtual 58, 3) := by decide +kernel
theorem d_M_bestTable_93 : decode Y_M_bestTable.2.1 93 = .ok (.ireturn, 1) := by decide +kernel
def f_M_bestTable (h : PH) (a0 : Option Nat) : Option (Int32 × PH) := (sF h 12 a0 0 (.inl (0 : Int32))).bind fun h1 => (gR h1 12 a0 3).bind fun v2 => if v2 = none then ((cl h1 12 a0 (f_M_refused h1 a0 (1 : Int32))).bind fun v9 => some (v9.1, v9.2)) else ((pj_it (X := Int32 × PH) (fun s3 : Int32 × Int32 × Int32 × Int32 × PH => if (9 : Int32) < s3.2.2.2.1 then (some (.inr (s3.1, s3.2.2.2.2))) else ((cl s3.2.2.2.2 12 a0 (f_M_byTable s3.2.2.2.2 a0 s3.2.2.2.1)).bind fun h5 => (cl h5 12 a0 (f_M_raising h5 a0)).bind fun v6 => (cl h5 12 a0 (f_M_harming h5 a0)).bind fun v7 => if v6 < s3.2.1 then (some (.inl (s3.1, s3.2.1, s3.2.2.1, (s3.2.2.2.1 + (1 : Int32)), h5))) else (if ¬ v6 = s3.2.1 then (some (.inl (s3.2.2.2.1, v6, v7, (s3.2.2.2.1 + (1 : Int32)), h5))) else (if v7 < s3.2.2.1 then (some (.inl (s3.2.2.2.1, v6, v7, (s3.2.2.2.1 + (1 : Int32)), h5))) else (some (.inl (s3.1, s3.2.1, s3.2.2.1, (s3.2.2.2.1 + (1 : Int32)), h5))))))) FU ((0 : Int32), (-1 : Int32), (0 : Int32), (0 : Int32), h1)).bind fun x4 => (cl x4.2 12 a0 (f_M_good x4.2 a0 x4.1)).bind fun v8 => some (v8.1, v8.2))
set_option maxRecDepth 20000 in
theorem PM_M_bestTable {l : Launch} {G : Cx} {h : PH} {a0 : Option Nat} {z : (Int32 × PH)} (hz : f_M_bestTable h a0 = some z) : PM l G 6 0 0 Y_M_bestTable [.inr (.inr a0)] h (some (.inl z.1), z.2) := by
  refine PM.of (Y := Y_M_bestTable) (cv := (fun z : (Int32 × PH) => (((some (.inl z.1), z.2) : Option PV × PH)))) (by decide) (L0 := [some (.inr (.inr a0)), none, none, none, none, none, none]) 6 rfl (Nat.le_of_ble_eq_true rfl) ?_ hz
  unfold f_M_bestTable
  refine PJ.aload_n (pc := 0) d_M_bestTable_0 rfl ?_
  refine PJ.iconst (pc := 1) (v := 0) d_M_bestTable_1 (by decide) ?_
  refine PJ.putI (pc := 2) ps_M_46 d_M_bestTable_2 (fun h1 => ?_)
  refine PJ.aload_n (pc := 5) d_M_bestTable_5 rfl ?_
  refine PJ.getR (pc := 6) fs_M_341 d_M_bestTable_6 (fun v2 => ?_)
  refine PJ.ifnonnull (pc := 9) (tgt := 18) d_M_bestTable_9 (by decide) (fun _ => ?_) (fun _ => ?_)
  · refine PJ.iconst (pc := 18) (v := 0) d_M_bestTable_18 (by decide) ?_
    refine PJ.istore_n (pc := 19) (L1 := [some (.inr (.inr a0)), some (.inl (0 : Int32)), none, none, none, none, none]) d_M_bestTable_19 (Nat.le_of_ble_eq_true rfl) rfl rfl ?_
    refine PJ.iconst (pc := 20) (v := -1) d_M_bestTable_20 (by decide) ?_
    refine PJ.istore_n (pc := 21) (L1 := [some (.inr (.inr a0)), some (.inl (0 : Int32)), some (.inl (-1 : Int32)), none, none, none, none]) d_M_bestTable_21 (Nat.le_of_ble_eq_true rfl) rfl rfl ?_
    refine PJ.iconst (pc := 22) (v := 0) d_M_bestTable_22 (by decide) ?_
    refine PJ.istore_n (pc := 23) (L1 := [some (.inr (.inr a0)), some (.inl (0 : Int32)), some (.inl (-1 : Int32)), some (.inl (0 : Int32)), none, none, none]) d_M_bestTable_23 (Nat.le_of_ble_eq_true rfl) rfl rfl ?_
    refine PJ.iconst (pc := 24) (v := 0) d_M_bestTable_24 (by decide) ?_
    refine PJ.istore (pc := 25) (L1 := [some (.inr (.inr a0)), some (.inl (0 : Int32)), some (.inl (-1 : Int32)), some (.inl (0 : Int32)), some (.inl (0 : Int32)), none, none]) d_M_bestTable_25 (Nat.le_of_ble_eq_true rfl) rfl rfl ?_
    refine PJ.bind (fun x4 : Int32 × PH => ((88 : Nat), ([some (.inr (.inr a0)), some (.inl x4.1), none, none, none, none, none] : List (Option PV)), ([] : List PV), (x4.2 : PH), (0 : Nat), (0 : Nat))) (PJ.it (E := (fun s3 : Int32 × Int32 × Int32 × Int32 × PH => ((27 : Nat), ([some (.inr (.inr a0)), some (.inl s3.1), some (.inl s3.2.1), some (.inl s3.2.2.1), some (.inl s3.2.2.2.1), none, none] : List (Option PV)), ([] : List PV), (s3.2.2.2.2 : PH), (0 : Nat), (0 : Nat)))) (F := (fun x4 : Int32 × PH => ((88 : Nat), ([some (.inr (.inr a0)), some (.inl x4.1), none, none, none, none, none] : List (Option PV)), ([] : List PV), (x4.2 : PH), (0 : Nat), (0 : Nat)))) (fun s3 => ?_) FU ((0 : Int32), (-1 : Int32), (0 : Int32), (0 : Int32), h1)) (fun x4 => ?_)
    · show PJ l G (pj_rm 6 0 0) Y_M_bestTable 27 [some (.inr (.inr a0)), some (.inl s3.1), some (.inl s3.2.1), some (.inl s3.2.2.1), some (.inl s3.2.2.2.1), none, none] [] s3.2.2.2.2 0 0 _ _
      refine PJ.iload (pc := 27) d_M_bestTable_27 rfl ?_
      refine PJ.bipush (pc := 29) (v := 9) d_M_bestTable_29 (by decide) ?_
      refine PJ.icmp_gt (pc := 31) (tgt := 88) d_M_bestTable_31 (by decide) (fun _ => ?_) (fun _ => ?_)
      · refine PJ.mk (L1 := [some (.inr (.inr a0)), some (.inl s3.1), none, none, none, none, none]) [true, true, false, false, false, false, false] rfl ?_
        exact PJ.done rfl
      · refine PJ.aload_n (pc := 34) d_M_bestTable_34 rfl ?_
        refine PJ.iload (pc := 35) d_M_bestTable_35 rfl ?_
        refine PJ.cVV (pc := 37) cs_M_453 (fun z hz => PM_M_byTable hz) (pj_fitb rfl) rfl rfl (Nat.le_of_ble_eq_true rfl) d_M_bestTable_37 (fun h5 => ?_)
        refine PJ.aload_n (pc := 40) d_M_bestTable_40 rfl ?_
        refine PJ.cVpI (pc := 41) cs_M_444 (fun z hz => PM_M_raising hz) (pj_fitb rfl) rfl rfl (Nat.le_of_ble_eq_true rfl) d_M_bestTable_41 (fun v6 => ?_)
        refine PJ.istore (pc := 44) (L1 := [some (.inr (.inr a0)), some (.inl s3.1), some (.inl s3.2.1), some (.inl s3.2.2.1), some (.inl s3.2.2.2.1), some (.inl v6), none]) d_M_bestTable_44 (Nat.le_of_ble_eq_true rfl) rfl rfl ?_
        refine PJ.aload_n (pc := 46) d_M_bestTable_46 rfl ?_
        refine PJ.cVpI (pc := 47) cs_M_447 (fun z hz => PM_M_harming hz) (pj_fitb rfl) rfl rfl (Nat.le_of_ble_eq_true rfl) d_M_bestTable_47 (fun v7 => ?_)
        refine PJ.istore (pc := 50) (L1 := [some (.inr (.inr a0)), some (.inl s3.1), some (.inl s3.2.1), some (.inl s3.2.2.1), some (.inl s3.2.2.2.1), some (.inl v6), some (.inl v7)]) d_M_bestTable_50 (Nat.le_of_ble_eq_true rfl) rfl rfl ?_
        refine PJ.iload (pc := 52) d_M_bestTable_52 rfl ?_
        refine PJ.iload_n (pc := 54) d_M_bestTable_54 rfl ?_
        refine PJ.icmp_lt (pc := 55) (tgt := 82) d_M_bestTable_55 (by decide) (fun _ => ?_) (fun _ => ?_)
        · refine PJ.iinc (pc := 82) (v := 1) (L1 := [some (.inr (.inr a0)), some (.inl s3.1), some (.inl s3.2.1), some (.inl s3.2.2.1), some (.inl (s3.2.2.2.1 + (1 : Int32))), some (.inl v6), some (.inl v7)]) d_M_bestTable_82 rfl (by decide) (Nat.le_of_ble_eq_true rfl) rfl rfl ?_
          refine PJ.goto (pc := 85) (tgt := 27) d_M_bestTable_85 (by decide) ?_
          refine PJ.mk (L1 := [some (.inr (.inr a0)), some (.inl s3.1), some (.inl s3.2.1), some (.inl s3.2.2.1), some (.inl (s3.2.2.2.1 + (1 : Int32))), none, none]) [true, true, true, true, true, false, false] rfl ?_
          exact PJ.done rfl
        · refine PJ.iload (pc := 58) d_M_bestTable_58 rfl ?_
          refine PJ.iload_n (pc := 60) d_M_bestTable_60 rfl ?_
          refine PJ.icmp_ne (pc := 61) (tgt := 73) d_M_bestTable_61 (by decide) (fun _ => ?_) (fun _ => ?_)
          · refine PJ.iload (pc := 73) d_M_bestTable_73 rfl ?_
            refine PJ.istore_n (pc := 75) (L1 := [some (.inr (.inr a0)), some (.inl s3.2.2.2.1), some (.inl s3.2.1), some (.inl s3.2.2.1), some (.inl s3.2.2.2.1), some (.inl v6), some (.inl v7)]) d_M_bestTable_75 (Nat.le_of_ble_eq_true rfl) rfl rfl ?_
            refine PJ.iload (pc := 76) d_M_bestTable_76 rfl ?_
            refine PJ.istore_n (pc := 78) (L1 := [some (.inr (.inr a0)), some (.inl s3.2.2.2.1), some (.inl v6), some (.inl s3.2.2.1), some (.inl s3.2.2.2.1), some (.inl v6), some (.inl v7)]) d_M_bestTable_78 (Nat.le_of_ble_eq_true rfl) rfl rfl ?_
            refine PJ.iload (pc := 79) d_M_bestTable_79 rfl ?_
            refine PJ.istore_n (pc := 81) (L1 := [some (.inr (.inr a0)), some (.inl s3.2.2.2.1), some (.inl v6), some (.inl v7), some (.inl s3.2.2.2.1), some (.inl v6), some (.inl v7)]) d_M_bestTable_81 (Nat.le_of_ble_eq_true rfl) rfl rfl ?_
            refine PJ.iinc (pc := 82) (v := 1) (L1 := [some (.inr (.inr a0)), some (.inl s3.2.2.2.1), some (.inl v6), some (.inl v7), some (.inl (s3.2.2.2.1 + (1 : Int32))), some (.inl v6), some (.inl v7)]) d_M_bestTable_82 rfl (by decide) (Nat.le_of_ble_eq_true rfl) rfl rfl ?_
            refine PJ.goto (pc := 85) (tgt := 27) d_M_bestTable_85 (by decide) ?_
            refine PJ.mk (L1 := [some (.inr (.inr a0)), some (.inl s3.2.2.2.1), some (.inl v6), some (.inl v7), some (.inl (s3.2.2.2.1 + (1 : Int32))), none, none]) [true, true, true, true, true, false, false] rfl ?_
            exact PJ.done rfl
          · refine PJ.iload (pc := 64) d_M_bestTable_64 rfl ?_
            refine PJ.iload_n (pc := 66) d_M_bestTable_66 rfl ?_
            refine PJ.icmp_lt (pc := 67) (tgt := 73) d_M_bestTable_67 (by decide) (fun _ => ?_) (fun _ => ?_)
            · refine PJ.iload (pc := 73) d_M_bestTable_73 rfl ?_
              refine PJ.istore_n (pc := 75) (L1 := [some (.inr (.inr a0)), some (.inl s3.2.2.2.1), some (.inl s3.2.1), some (.inl s3.2.2.1), some (.inl s3.2.2.2.1), some (.inl v6), some (.inl v7)]) d_M_bestTable_75 (Nat.le_of_ble_eq_true rfl) rfl rfl ?_
              refine PJ.iload (pc := 76) d_M_bestTable_76 rfl ?_
              refine PJ.istore_n (pc := 78) (L1 := [some (.inr (.inr a0)), some (.inl s3.2.2.2.1), some (.inl v6), some (.inl s3.2.2.1), some (.inl s3.2.2.2.1), some (.inl v6), some (.inl v7)]) d_M_bestTable_78 (Nat.le_of_ble_eq_true rfl) rfl rfl ?_
              refine PJ.iload (pc := 79) d_M_bestTable_79 rfl ?_
              refine PJ.istore_n (pc := 81) (L1 := [some (.inr (.inr a0)), some (.inl s3.2.2.2.1), some (.inl v6), some (.inl v7), some (.inl s3.2.2.2.1), some (.inl v6), some (.inl v7)]) d_M_bestTable_81 (Nat.le_of_ble_eq_true rfl) rfl rfl ?_
              refine PJ.iinc (pc := 82) (v := 1) (L1 := [some (.inr (.inr a0)), some (.inl s3.2.2.2.1), some (.inl v6), some (.inl v7), some (.inl (s3.2.2.2.1 + (1 : Int32))), some (.inl v6), some (.inl v7)]) d_M_bestTable_82 rfl (by decide) (Nat.le_of_ble_eq_true rfl) rfl rfl ?_
              refine PJ.goto (pc := 85) (tgt := 27) d_M_bestTable_85 (by decide) ?_
              refine PJ.mk (L1 := [some (.inr (.inr a0)), some (.inl s3.2.2.2.1), some (.inl v6), some (.inl v7), some (.inl (s3.2.2.2.1 + (1 : Int32))), none, none]) [true, true, true, true, true, false, false] rfl ?_
              exact PJ.done rfl
            · refine PJ.goto (pc := 70) (tgt := 82) d_M_bestTable_70 (by decide) ?_
              refine PJ.iinc (pc := 82) (v := 1) (L1 := [some (.inr (.inr a0)), some (.inl s3.1), some (.inl s3.2.1), some (.inl s3.2.2.1), some (.inl (s3.2.2.2.1 + (1 : Int32))), some (.inl v6), some (.inl v7)]) d_M_bestTable_82 rfl (by decide) (Nat.le_of_ble_eq_true rfl) rfl rfl ?_
              refine PJ.goto (pc := 85) (tgt := 27) d_M_bestTable_85 (by decide) ?_
              refine PJ.mk (L1 := [some (.inr (.inr a0)), some (.inl s3.1), some (.inl s3.2.1), some (.inl s3.2.2.1), some (.inl (s3.2.2.2.1 + (1 : Int32))), none, none]) [true, true, true, true, true, false, false] rfl ?_
              exact PJ.done rfl
    · show PJ l G (pj_rm 6 0 0) Y_M_bestTable 88 [some (.inr (.inr a0)), some (.inl x4.1), none, none, none, none, none] [] x4.2 0 0 _ _
      refine PJ.aload_n (pc := 88) d_M_bestTable_88 rfl ?_
      refine PJ.iload_n (pc := 89) d_M_bestTable_89 rfl ?_
      refine PJ.cVI (pc := 90) cs_M_58 (fun z hz => PM_M_good hz) (pj_fitb rfl) rfl rfl (Nat.le_of_ble_eq_true rfl) d_M_bestTable_90 (fun v8 => ?_)
      exact PJ.iret (pc := 93) d_M_bestTable_93 rfl (Nat.le_of_ble_eq_true rfl) (Nat.le_of_ble_eq_true rfl)
  · refine PJ.aload_n (pc := 12) d_M_bestTable_12 rfl ?_
    refine PJ.iconst (pc := 13) (v := 1) d_M_bestTable_13 (by decide) ?_
    refine PJ.cVI (pc := 14) cs_M_52 (fun z hz => PM_M_refused hz) (pj_fitb rfl) rfl rfl (Nat.le_of_ble_eq_true rfl) d_M_bestTable_14 (fun v9 => ?_)
    exact PJ.iret (pc := 17) d_M_bestTable_17 rfl (Nat.le_of_ble_eq_true rfl) (Nat.le_of_ble_eq_true rfl)
theorem d_M_refusesThird_0 : decode Y_M_refusesThird.2.1 0 = .ok (.aload_n 0, 1) := by decide +kernel
theorem d_M_refusesThird_1 : decode Y_M_refusesThird.2.1 1 = .ok (.getfield 341, 3) := by decide +kernel
theorem d_M_refusesThird_4 : decode Y_M_refusesThird.2.1 4 = .ok (.ifnonnull 7, 3) := by decide +kernel
theorem d_M_refusesThird_7 : decode Y_M_refusesThird.2.1 7 = .ok (.iconst 1, 1) := by decide +kernel
theorem d_M_refusesThird_8 : decode Y_M_refusesThird.2.1 8 = .ok (.goto 17, 3) := by decide +kernel
theorem d_M_refusesThird_11 : decode Y_M_refusesThird.2.1 11 = .ok (.iload_n 1, 1) := by decide +kernel
theorem d_M_refusesThird_12 : decode Y_M_refusesThird.2.1 12 = .ok (.iconst 1, 1) := by decide +kernel
theorem d_M_refusesThird_13 : decode Y_M_refusesThird.2.1 13 = .ok (.iconst 4, 1) := by decide +kernel
theorem d_M_refusesThird_14 : decode Y_M_refusesThird.2.1 14 = .ok (.invokestatic 127, 3) := by decide +kernel
theorem d_M_refusesThird_17 : decode Y_M_refusesThird.2.1 17 = .ok (.ifCond .eq 7, 3) := by decide +kernel
theorem d_M_refusesThird_20 : decode Y_M_refusesThird.2.1 20 = .ok (.iconst 0, 1) := by decide +kernel
theorem d_M_refusesThird_21 : decode Y_M_refusesThird.2.1 21 = .ok (.goto 4, 3) := by decide +kernel
theorem d_M_refusesThird_24 : decode Y_M_refusesThird.2.1 24 = .ok (.iconst 2, 1) := by decide +kernel
theorem d_M_refusesThird_25 : decode Y_M_refusesThird.2.1 25 = .ok (.ireturn, 1) := by decide +kernel
def f_M_refusesThird (h : PH) (a0 : Option Nat) (a1 : Int32) : Option Int32 := (gR h 12 a0 3).bind fun v1 => if v1 = none then (some (1 : Int32)) else ((f_M_in h a1 (1 : Int32) (4 : Int32)).bind fun v2 => if v2 = 0 then (some (2 : Int32)) else (some (0 : Int32)))
set_option maxRecDepth 20000 in
theorem PM_M_refusesThird {l : Launch} {G : Cx} {h : PH} {a0 : Option Nat} {a1 : Int32} {z : Int32} (hz : f_M_refusesThird h a0 a1 = some z) : PM l G 2 0 0 Y_M_refusesThird [.inr (.inr a0), .inl a1] h (some (.inl z), h) := by
  refine PM.of (Y := Y_M_refusesThird) (cv := (fun z : Int32 => (((some (.inl z), h) : Option PV × PH)))) (by decide) (L0 := [some (.inr (.inr a0)), some (.inl a1)]) 0 rfl (Nat.le_of_ble_eq_true rfl) ?_ hz
  unfold f_M_refusesThird
  refine PJ.aload_n (pc := 0) d_M_refusesThird_0 rfl ?_
  refine PJ.getR (pc := 1) fs_M_341 d_M_refusesThird_1 (fun v1 => ?_)
  refine PJ.ifnonnull (pc := 4) (tgt := 11) d_M_refusesThird_4 (by decide) (fun _ => ?_) (fun _ => ?_)
  · refine PJ.iload_n (pc := 11) d_M_refusesThird_11 rfl ?_
    refine PJ.iconst (pc := 12) (v := 1) d_M_refusesThird_12 (by decide) ?_
    refine PJ.iconst (pc := 13) (v := 4) d_M_refusesThird_13 (by decide) ?_
    refine PJ.cSpI (pc := 14) cs_M_127 (fun z hz => PM_M_in hz) (pj_fitb rfl) rfl rfl (Nat.le_of_ble_eq_true rfl) d_M_refusesThird_14 (fun v2 => ?_)
    refine PJ.if_eq (pc := 17) (tgt := 24) d_M_refusesThird_17 (by decide) (fun _ => ?_) (fun _ => ?_)
    · refine PJ.iconst (pc := 24) (v := 2) d_M_refusesThird_24 (by decide) ?_
      exact PJ.iretp (pc := 25) d_M_refusesThird_25 rfl (Nat.le_of_ble_eq_true rfl) (Nat.le_of_ble_eq_true rfl)
    · refine PJ.iconst (pc := 20) (v := 0) d_M_refusesThird_20 (by decide) ?_
      refine PJ.goto (pc := 21) (tgt := 25) d_M_refusesThird_21 (by decide) ?_
      exact PJ.iretp (pc := 25) d_M_refusesThird_25 rfl (Nat.le_of_ble_eq_true rfl) (Nat.le_of_ble_eq_true rfl)
  · refine PJ.iconst (pc := 7) (v := 1) d_M_refusesThird_7 (by decide) ?_
    refine PJ.goto (pc := 8) (tgt := 25) d_M_refusesThird_8 (by decide) ?_
    exact PJ.iretp (pc := 25) d_M_refusesThird_25 rfl (Nat.le_of_ble_eq_true rfl) (Nat.le_of_ble_eq_true rfl)
theorem d_M_byThird_0 : decode Y_M_byThird.2.1 0 = .ok (.aload_n 0, 1) := by decide +kernel
theorem d_M_byThird_1 : decode Y_M_byThird.2.1 1 = .ok (.invokevirtual 375, 3) := by decide +kernel
theorem d_M_byThird_4 : decode Y_M_byThird.2.1 4 = .ok (.aload_n 0, 1) := by decide +kernel
theorem d_M_byThird_5 : decode Y_M_byThird.2.1 5 = .ok (.iload_n 1, 1) := by decide +kernel
theorem d_M_byThird_6 : decode Y_M_byThird.2.1 6 = .ok (.putfield 350, 3) := by decide +kernel
theorem d_M_byThird_9 : decode Y_M_byThird.2.1 9 = .ok (.return_, 1) := by decide +kernel
def f_M_byThird (h : PH) (a0 : Option Nat) (a1 : Int32) : Option PH := (cl h 12 a0 (f_M_asTold h a0)).bind fun h1 => (sF h1 12 a0 22 (.inl a1)).bind fun h2 => some h2
set_option maxRecDepth 20000 in
theorem PM_M_byThird {l : Launch} {G : Cx} {h : PH} {a0 : Option Nat} {a1 : Int32} {z : PH} (hz : f_M_byThird h a0 a1 = some z) : PM l G 2 0 0 Y_M_byThird [.inr (.inr a0), .inl a1] h (none, z) := by
  refine PM.of (Y := Y_M_byThird) (cv := (fun z : PH => (((none, z) : Option PV × PH)))) (by decide) (L0 := [some (.inr (.inr a0)), some (.inl a1)]) 0 rfl (Nat.le_of_ble_eq_true rfl) ?_ hz
  unfold f_M_byThird
  refine PJ.aload_n (pc := 0) d_M_byThird_0 rfl ?_
  refine PJ.cVV (pc := 1) cs_M_375 (fun z hz => PM_M_asTold hz) (pj_fitb rfl) rfl rfl (Nat.le_of_ble_eq_true rfl) d_M_byThird_1 (fun h1 => ?_)
  refine PJ.aload_n (pc := 4) d_M_byThird_4 rfl ?_
  refine PJ.iload_n (pc := 5) d_M_byThird_5 rfl ?_
  refine PJ.putI (pc := 6) ps_M_350 d_M_byThird_6 (fun h2 => ?_)
  exact PJ.vret (pc := 9) d_M_byThird_9 rfl (Nat.le_of_ble_eq_true rfl) (Nat.le_of_ble_eq_true rfl)
