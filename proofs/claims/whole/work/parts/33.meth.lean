-- sites and methods: meth
abbrev Y_M_taxIn : MI := (⟨"WaverTaxModel", "taxIn", "([III)I"⟩, prog_13_method_54_code, 5, (some .int))
abbrev Y_M_tax : MI := (⟨"WaverTaxModel", "tax", "(II)I"⟩, prog_13_method_60_code, 3, (some .int))
abbrev Y_M_choosesIn : MI := (⟨"WaverTaxModel", "choosesIn", "([II)I"⟩, prog_13_method_56_code, 7, (some .int))
abbrev Y_M_chooses : MI := (⟨"WaverTaxModel", "chooses", "(I)I"⟩, prog_13_method_61_code, 2, (some .int))
abbrev Y_M_wavering : MI := (⟨"WaverTaxModel", "wavering", "()I"⟩, prog_13_method_62_code, 3, (some .int))
abbrev Y_M_waverers : MI := (⟨"WaverTaxModel", "waverers", "()I"⟩, prog_13_method_63_code, 1, (some .int))
abbrev Y_M_holding : MI := (⟨"WaverTaxModel", "holding", "(I)I"⟩, prog_13_method_64_code, 4, (some .int))
abbrev Y_M_holders : MI := (⟨"WaverTaxModel", "holders", "(I)I"⟩, prog_13_method_65_code, 2, (some .int))
abbrev Y_M_bits : MI := (⟨"WaverTaxModel", "bits", "(I)I"⟩, prog_13_method_11_code, 3, (some .int))
abbrev Y_M_fashion : MI := (⟨"WaverTaxModel", "fashion", "()I"⟩, prog_13_method_66_code, 3, (some .int))
abbrev Y_M_came : MI := (⟨"WaverTaxModel", "came", "(I)I"⟩, prog_13_method_67_code, 2, (some .int))
abbrev Y_M_paid : MI := (⟨"WaverTaxModel", "paid", "()I"⟩, prog_13_method_68_code, 3, (some .int))
abbrev Y_M_farthest : MI := (⟨"WaverTaxModel", "farthest", "()I"⟩, prog_13_method_69_code, 5, (some .int))
abbrev Y_M_refusesPlan : MI := (⟨"WaverTaxModel", "refusesPlan", "(II)I"⟩, prog_13_method_79_code, 3, (some .int))
abbrev Y_M_never : MI := (⟨"WaverTaxModel", "never", "(I)J"⟩, prog_13_method_5_code, 2, (some .long))
abbrev Y_M_state : MI := (⟨"WaverTaxModel", "state", "(IIII)I"⟩, prog_13_method_70_code, 4, (some .int))
abbrev Y_M_ago : MI := (⟨"WaverTaxModel", "ago", "(III)I"⟩, prog_13_method_73_code, 4, (some .int))
theorem cm_M_taxBy : (Cond.code Y_M_taxBy.1 Y_M_taxBy.2.1 Y_M_taxBy.2.2.1 Y_M_taxBy.2.2.2 ∈ pj_ws) ∧ (Cond.initialized Y_M_taxBy.1.cls ∈ pj_ws) ∧ (Y_M_taxBy.1.cls ≠ "java/lang/invoke/MethodHandle" ∧ Y_M_taxBy.1.cls ≠ "java/lang/invoke/VarHandle" ∧ (parseMethodDescriptor Y_M_taxBy.1.desc).map (fun d => d.parameters.length) = some 5) ∧ (Cond.instanceMethod Y_M_taxBy.1 ∈ pj_ws) ∧ (Cond.selects Y_M_taxBy.1.cls Y_M_taxBy.1 Y_M_taxBy.1 ∈ pj_ws) := ⟨pj_mem 1821 (by decide +kernel) rfl, pj_mem 141 (by decide +kernel) rfl, ⟨by decide +kernel, by decide +kernel, by decide +kernel⟩, pj_mem 1820 (by decide +kernel) rfl, pj_mem 85 (by decide +kernel) rfl⟩
theorem cm_M_taxIn : (Cond.code Y_M_taxIn.1 Y_M_taxIn.2.1 Y_M_taxIn.2.2.1 Y_M_taxIn.2.2.2 ∈ pj_ws) ∧ (Cond.initialized Y_M_taxIn.1.cls ∈ pj_ws) ∧ (Y_M_taxIn.1.cls ≠ "java/lang/invoke/MethodHandle" ∧ Y_M_taxIn.1.cls ≠ "java/lang/invoke/VarHandle" ∧ (parseMethodDescriptor Y_M_taxIn.1.desc).map (fun d => d.parameters.length) = some 3) ∧ (Cond.instanceMethod Y_M_taxIn.1 ∈ pj_ws) ∧ (Cond.selects Y_M_taxIn.1.cls Y_M_taxIn.1 Y_M_taxIn.1 ∈ pj_ws) := ⟨pj_mem 1817 (by decide +kernel) rfl, pj_mem 141 (by decide +kernel) rfl, ⟨by decide +kernel, by decide +kernel, by decide +kernel⟩, pj_mem 1816 (by decide +kernel) rfl, pj_mem 84 (by decide +kernel) rfl⟩
theorem cm_M_asTold : (Cond.code Y_M_asTold.1 Y_M_asTold.2.1 Y_M_asTold.2.2.1 Y_M_asTold.2.2.2 ∈ pj_ws) ∧ (Cond.initialized Y_M_asTold.1.cls ∈ pj_ws) ∧ (Y_M_asTold.1.cls ≠ "java/lang/invoke/MethodHandle" ∧ Y_M_asTold.1.cls ≠ "java/lang/invoke/VarHandle" ∧ (parseMethodDescriptor Y_M_asTold.1.desc).map (fun d => d.parameters.length) = some 0) ∧ (Cond.instanceMethod Y_M_asTold.1 ∈ pj_ws) ∧ (Cond.selects Y_M_asTold.1.cls Y_M_asTold.1 Y_M_asTold.1 ∈ pj_ws) := ⟨pj_mem 1813 (by decide +kernel) rfl, pj_mem 141 (by decide +kernel) rfl, ⟨by decide +kernel, by decide +kernel, by decide +kernel⟩, pj_mem 1812 (by decide +kernel) rfl, pj_mem 83 (by decide +kernel) rfl⟩
theorem cm_M_choosesIn : (Cond.code Y_M_choosesIn.1 Y_M_choosesIn.2.1 Y_M_choosesIn.2.2.1 Y_M_choosesIn.2.2.2 ∈ pj_ws) ∧ (Cond.initialized Y_M_choosesIn.1.cls ∈ pj_ws) ∧ (Y_M_choosesIn.1.cls ≠ "java/lang/invoke/MethodHandle" ∧ Y_M_choosesIn.1.cls ≠ "java/lang/invoke/VarHandle" ∧ (parseMethodDescriptor Y_M_choosesIn.1.desc).map (fun d => d.parameters.length) = some 2) ∧ (Cond.instanceMethod Y_M_choosesIn.1 ∈ pj_ws) ∧ (Cond.selects Y_M_choosesIn.1.cls Y_M_choosesIn.1 Y_M_choosesIn.1 ∈ pj_ws) := ⟨pj_mem 1829 (by decide +kernel) rfl, pj_mem 141 (by decide +kernel) rfl, ⟨by decide +kernel, by decide +kernel, by decide +kernel⟩, pj_mem 1828 (by decide +kernel) rfl, pj_mem 86 (by decide +kernel) rfl⟩
theorem cm_M_wavering : (Cond.code Y_M_wavering.1 Y_M_wavering.2.1 Y_M_wavering.2.2.1 Y_M_wavering.2.2.2 ∈ pj_ws) ∧ (Cond.initialized Y_M_wavering.1.cls ∈ pj_ws) ∧ (Y_M_wavering.1.cls ≠ "java/lang/invoke/MethodHandle" ∧ Y_M_wavering.1.cls ≠ "java/lang/invoke/VarHandle" ∧ (parseMethodDescriptor Y_M_wavering.1.desc).map (fun d => d.parameters.length) = some 0) ∧ (Cond.instanceMethod Y_M_wavering.1 ∈ pj_ws) ∧ (Cond.selects Y_M_wavering.1.cls Y_M_wavering.1 Y_M_wavering.1 ∈ pj_ws) := ⟨pj_mem 1837 (by decide +kernel) rfl, pj_mem 141 (by decide +kernel) rfl, ⟨by decide +kernel, by decide +kernel, by decide +kernel⟩, pj_mem 1836 (by decide +kernel) rfl, pj_mem 87 (by decide +kernel) rfl⟩
theorem cm_M_holding : (Cond.code Y_M_holding.1 Y_M_holding.2.1 Y_M_holding.2.2.1 Y_M_holding.2.2.2 ∈ pj_ws) ∧ (Cond.initialized Y_M_holding.1.cls ∈ pj_ws) ∧ (Y_M_holding.1.cls ≠ "java/lang/invoke/MethodHandle" ∧ Y_M_holding.1.cls ≠ "java/lang/invoke/VarHandle" ∧ (parseMethodDescriptor Y_M_holding.1.desc).map (fun d => d.parameters.length) = some 1) ∧ (Cond.instanceMethod Y_M_holding.1 ∈ pj_ws) ∧ (Cond.selects Y_M_holding.1.cls Y_M_holding.1 Y_M_holding.1 ∈ pj_ws) := ⟨pj_mem 1845 (by decide +kernel) rfl, pj_mem 141 (by decide +kernel) rfl, ⟨by decide +kernel, by decide +kernel, by decide +kernel⟩, pj_mem 1844 (by decide +kernel) rfl, pj_mem 88 (by decide +kernel) rfl⟩
theorem cm_M_bits : (Cond.code Y_M_bits.1 Y_M_bits.2.1 Y_M_bits.2.2.1 Y_M_bits.2.2.2 ∈ pj_ws) ∧ (Cond.initialized Y_M_bits.1.cls ∈ pj_ws) ∧ (Y_M_bits.1.cls ≠ "java/lang/invoke/MethodHandle" ∧ Y_M_bits.1.cls ≠ "java/lang/invoke/VarHandle" ∧ (parseMethodDescriptor Y_M_bits.1.desc).map (fun d => d.parameters.length) = some 1) ∧ (Cond.static Y_M_bits.1 ∈ pj_ws) := ⟨pj_mem 1852 (by decide +kernel) rfl, pj_mem 141 (by decide +kernel) rfl, ⟨by decide +kernel, by decide +kernel, by decide +kernel⟩, pj_mem 1851 (by decide +kernel) rfl⟩
theorem cs_M_355 : pj_cV "WaverTaxModel" 355 Y_M_taxBy 5 12 := ⟨⟨cm_M_taxBy.1, cm_M_taxBy.2.1, cm_M_taxBy.2.2.1, Or.inl (pj_mem 1818 (by decide +kernel) rfl)⟩, by decide, cm_M_taxBy.2.2.2.1, cm_M_taxBy.2.2.2.2, ⟨_, rfl, rfl⟩⟩
theorem cs_M_365 : pj_cV "WaverTaxModel" 365 Y_M_taxIn 3 12 := ⟨⟨cm_M_taxIn.1, cm_M_taxIn.2.1, cm_M_taxIn.2.2.1, Or.inl (pj_mem 1814 (by decide +kernel) rfl)⟩, by decide, cm_M_taxIn.2.2.2.1, cm_M_taxIn.2.2.2.2, ⟨_, rfl, rfl⟩⟩
theorem cs_M_375 : pj_cV "WaverTaxModel" 375 Y_M_asTold 0 12 := ⟨⟨cm_M_asTold.1, cm_M_asTold.2.1, cm_M_asTold.2.2.1, Or.inl (pj_mem 1810 (by decide +kernel) rfl)⟩, by decide, cm_M_asTold.2.2.2.1, cm_M_asTold.2.2.2.2, ⟨_, rfl, rfl⟩⟩
theorem cs_M_378 : pj_cV "WaverTaxModel" 378 Y_M_choosesIn 2 12 := ⟨⟨cm_M_choosesIn.1, cm_M_choosesIn.2.1, cm_M_choosesIn.2.2.1, Or.inl (pj_mem 1826 (by decide +kernel) rfl)⟩, by decide, cm_M_choosesIn.2.2.2.1, cm_M_choosesIn.2.2.2.2, ⟨_, rfl, rfl⟩⟩
theorem cs_M_382 : pj_cV "WaverTaxModel" 382 Y_M_wavering 0 12 := ⟨⟨cm_M_wavering.1, cm_M_wavering.2.1, cm_M_wavering.2.2.1, Or.inl (pj_mem 1834 (by decide +kernel) rfl)⟩, by decide, cm_M_wavering.2.2.2.1, cm_M_wavering.2.2.2.2, ⟨_, rfl, rfl⟩⟩
theorem cs_M_385 : pj_cV "WaverTaxModel" 385 Y_M_holding 1 12 := ⟨⟨cm_M_holding.1, cm_M_holding.2.1, cm_M_holding.2.2.1, Or.inl (pj_mem 1842 (by decide +kernel) rfl)⟩, by decide, cm_M_holding.2.2.2.1, cm_M_holding.2.2.2.2, ⟨_, rfl, rfl⟩⟩
theorem cs_M_388 : pj_cS "WaverTaxModel" 388 Y_M_bits 1 := ⟨⟨cm_M_bits.1, cm_M_bits.2.1, cm_M_bits.2.2.1, Or.inl (pj_mem 1850 (by decide +kernel) rfl)⟩, cm_M_bits.2.2.2⟩
theorem wd_1877 : (Jvm.Cond.constantLong "WaverTaxModel" (56 : Nat) (-9223372036854775808 : Int64)) ∈ pj_ws := pj_mem 1877 (by decide +kernel) rfl
theorem d_M_taxIn_0 : decode Y_M_taxIn.2.1 0 = .ok (.aload_n 1, 1) := by decide +kernel
theorem d_M_taxIn_1 : decode Y_M_taxIn.2.1 1 = .ok (.bipush 15, 2) := by decide +kernel
theorem d_M_taxIn_3 : decode Y_M_taxIn.2.1 3 = .ok (.iload_n 2, 1) := by decide +kernel
theorem d_M_taxIn_4 : decode Y_M_taxIn.2.1 4 = .ok (.iadd, 1) := by decide +kernel
theorem d_M_taxIn_5 : decode Y_M_taxIn.2.1 5 = .ok (.iaload, 1) := by decide +kernel
theorem d_M_taxIn_6 : decode Y_M_taxIn.2.1 6 = .ok (.bipush (-2), 2) := by decide +kernel
theorem d_M_taxIn_8 : decode Y_M_taxIn.2.1 8 = .ok (.if_icmp .ne 7, 3) := by decide +kernel
theorem d_M_taxIn_11 : decode Y_M_taxIn.2.1 11 = .ok (.iconst (-1), 1) := by decide +kernel
theorem d_M_taxIn_12 : decode Y_M_taxIn.2.1 12 = .ok (.goto 14, 3) := by decide +kernel
theorem d_M_taxIn_15 : decode Y_M_taxIn.2.1 15 = .ok (.aload_n 1, 1) := by decide +kernel
theorem d_M_taxIn_16 : decode Y_M_taxIn.2.1 16 = .ok (.bipush 21, 2) := by decide +kernel
theorem d_M_taxIn_18 : decode Y_M_taxIn.2.1 18 = .ok (.iaload, 1) := by decide +kernel
theorem d_M_taxIn_19 : decode Y_M_taxIn.2.1 19 = .ok (.aload_n 1, 1) := by decide +kernel
theorem d_M_taxIn_20 : decode Y_M_taxIn.2.1 20 = .ok (.bipush 15, 2) := by decide +kernel
theorem d_M_taxIn_22 : decode Y_M_taxIn.2.1 22 = .ok (.iload_n 2, 1) := by decide +kernel
theorem d_M_taxIn_23 : decode Y_M_taxIn.2.1 23 = .ok (.iadd, 1) := by decide +kernel
theorem d_M_taxIn_24 : decode Y_M_taxIn.2.1 24 = .ok (.iaload, 1) := by decide +kernel
theorem d_M_taxIn_25 : decode Y_M_taxIn.2.1 25 = .ok (.isub, 1) := by decide +kernel
theorem d_M_taxIn_26 : decode Y_M_taxIn.2.1 26 = .ok (.istore 4, 2) := by decide +kernel
theorem d_M_taxIn_28 : decode Y_M_taxIn.2.1 28 = .ok (.aload_n 0, 1) := by decide +kernel
theorem d_M_taxIn_29 : decode Y_M_taxIn.2.1 29 = .ok (.iload_n 2, 1) := by decide +kernel
theorem d_M_taxIn_30 : decode Y_M_taxIn.2.1 30 = .ok (.aload_n 1, 1) := by decide +kernel
theorem d_M_taxIn_31 : decode Y_M_taxIn.2.1 31 = .ok (.iconst 0, 1) := by decide +kernel
theorem d_M_taxIn_32 : decode Y_M_taxIn.2.1 32 = .ok (.iload_n 2, 1) := by decide +kernel
theorem d_M_taxIn_33 : decode Y_M_taxIn.2.1 33 = .ok (.iadd, 1) := by decide +kernel
theorem d_M_taxIn_34 : decode Y_M_taxIn.2.1 34 = .ok (.iaload, 1) := by decide +kernel
theorem d_M_taxIn_35 : decode Y_M_taxIn.2.1 35 = .ok (.iload_n 3, 1) := by decide +kernel
theorem d_M_taxIn_36 : decode Y_M_taxIn.2.1 36 = .ok (.aload_n 1, 1) := by decide +kernel
theorem d_M_taxIn_37 : decode Y_M_taxIn.2.1 37 = .ok (.iconst 5, 1) := by decide +kernel
theorem d_M_taxIn_38 : decode Y_M_taxIn.2.1 38 = .ok (.iload_n 2, 1) := by decide +kernel
theorem d_M_taxIn_39 : decode Y_M_taxIn.2.1 39 = .ok (.iadd, 1) := by decide +kernel
theorem d_M_taxIn_40 : decode Y_M_taxIn.2.1 40 = .ok (.iaload, 1) := by decide +kernel
theorem d_M_taxIn_41 : decode Y_M_taxIn.2.1 41 = .ok (.iload 4, 2) := by decide +kernel
theorem d_M_taxIn_43 : decode Y_M_taxIn.2.1 43 = .ok (.invokevirtual 355, 3) := by decide +kernel
theorem d_M_taxIn_46 : decode Y_M_taxIn.2.1 46 = .ok (.ireturn, 1) := by decide +kernel
def f_M_taxIn (h : PH) (a0 : Option Nat) (a1 : Option Nat) (a2 : Int32) (a3 : Int32) : Option Int32 := (aI h a1 ((15 : Int32) + a2)).bind fun v1 => (if ¬ v1 = (-2 : Int32) then ((aI h a1 (21 : Int32)).bind fun v3 => (aI h a1 ((15 : Int32) + a2)).bind fun v4 => some (v3 - v4)) else (some (-1 : Int32)) : Option (Int32)).bind fun j2 => (aI h a1 ((0 : Int32) + a2)).bind fun v5 => (aI h a1 ((5 : Int32) + a2)).bind fun v6 => (cl h 12 a0 (f_M_taxBy h a0 a2 v5 a3 v6 j2)).bind fun v7 => some v7
set_option maxRecDepth 20000 in
theorem PM_M_taxIn {l : Launch} {G : Cx} {h : PH} {a0 : Option Nat} {a1 : Option Nat} {a2 : Int32} {a3 : Int32} {z : Int32} (hz : f_M_taxIn h a0 a1 a2 a3 = some z) : PM l G 3 0 0 Y_M_taxIn [.inr (.inr a0), .inr (.inr a1), .inl a2, .inl a3] h (some (.inl z), h) := by
  refine PM.of (Y := Y_M_taxIn) (cv := (fun z : Int32 => (((some (.inl z), h) : Option PV × PH)))) (by decide) (L0 := [some (.inr (.inr a0)), some (.inr (.inr a1)), some (.inl a2), some (.inl a3), none]) 1 rfl (Nat.le_of_ble_eq_true rfl) ?_ hz
  unfold f_M_taxIn
  refine PJ.aload_n (pc := 0) d_M_taxIn_0 rfl ?_
  refine PJ.bipush (pc := 1) (v := 15) d_M_taxIn_1 (by decide) ?_
  refine PJ.iload_n (pc := 3) d_M_taxIn_3 rfl ?_
  refine PJ.iadd (pc := 4) d_M_taxIn_4 ?_
  refine PJ.iald (pc := 5) d_M_taxIn_5 (fun v1 => ?_)
  refine PJ.bipush (pc := 6) (v := -2) d_M_taxIn_6 (by decide) ?_
  refine PJ.bind (fun j2 : Int32 => ((26 : Nat), ([some (.inr (.inr a0)), some (.inr (.inr a1)), some (.inl a2), some (.inl a3), none] : List (Option PV)), ([.inl j2] : List PV), (h : PH), (0 : Nat), (0 : Nat))) ?_ (fun j2 => ?_)
  · refine PJ.icmp_ne (pc := 8) (tgt := 15) d_M_taxIn_8 (by decide) (fun _ => ?_) (fun _ => ?_)
    · refine PJ.aload_n (pc := 15) d_M_taxIn_15 rfl ?_
      refine PJ.bipush (pc := 16) (v := 21) d_M_taxIn_16 (by decide) ?_
      refine PJ.iald (pc := 18) d_M_taxIn_18 (fun v3 => ?_)
      refine PJ.aload_n (pc := 19) d_M_taxIn_19 rfl ?_
      refine PJ.bipush (pc := 20) (v := 15) d_M_taxIn_20 (by decide) ?_
      refine PJ.iload_n (pc := 22) d_M_taxIn_22 rfl ?_
      refine PJ.iadd (pc := 23) d_M_taxIn_23 ?_
      refine PJ.iald (pc := 24) d_M_taxIn_24 (fun v4 => ?_)
      refine PJ.isub (pc := 25) d_M_taxIn_25 ?_
      exact PJ.done rfl
    · refine PJ.iconst (pc := 11) (v := -1) d_M_taxIn_11 (by decide) ?_
      refine PJ.goto (pc := 12) (tgt := 26) d_M_taxIn_12 (by decide) ?_
      exact PJ.done rfl
  · show PJ l G (pj_rm 3 0 0) Y_M_taxIn 26 [some (.inr (.inr a0)), some (.inr (.inr a1)), some (.inl a2), some (.inl a3), none] [.inl j2] h 0 0 _ _
    refine PJ.istore (pc := 26) (L1 := [some (.inr (.inr a0)), some (.inr (.inr a1)), some (.inl a2), some (.inl a3), some (.inl j2)]) d_M_taxIn_26 (Nat.le_of_ble_eq_true rfl) rfl rfl ?_
    refine PJ.aload_n (pc := 28) d_M_taxIn_28 rfl ?_
    refine PJ.iload_n (pc := 29) d_M_taxIn_29 rfl ?_
    refine PJ.aload_n (pc := 30) d_M_taxIn_30 rfl ?_
    refine PJ.iconst (pc := 31) (v := 0) d_M_taxIn_31 (by decide) ?_
    refine PJ.iload_n (pc := 32) d_M_taxIn_32 rfl ?_
    refine PJ.iadd (pc := 33) d_M_taxIn_33 ?_
    refine PJ.iald (pc := 34) d_M_taxIn_34 (fun v5 => ?_)
    refine PJ.iload_n (pc := 35) d_M_taxIn_35 rfl ?_
    refine PJ.aload_n (pc := 36) d_M_taxIn_36 rfl ?_
    refine PJ.iconst (pc := 37) (v := 5) d_M_taxIn_37 (by decide) ?_
    refine PJ.iload_n (pc := 38) d_M_taxIn_38 rfl ?_
    refine PJ.iadd (pc := 39) d_M_taxIn_39 ?_
    refine PJ.iald (pc := 40) d_M_taxIn_40 (fun v6 => ?_)
    refine PJ.iload (pc := 41) d_M_taxIn_41 rfl ?_
    refine PJ.cVpI (pc := 43) cs_M_355 (fun z hz => PM_M_taxBy hz) (pj_fitb rfl) rfl rfl (Nat.le_of_ble_eq_true rfl) d_M_taxIn_43 (fun v7 => ?_)
    exact PJ.iretp (pc := 46) d_M_taxIn_46 rfl (Nat.le_of_ble_eq_true rfl) (Nat.le_of_ble_eq_true rfl)
theorem d_M_tax_0 : decode Y_M_tax.2.1 0 = .ok (.aload_n 0, 1) := by decide +kernel
theorem d_M_tax_1 : decode Y_M_tax.2.1 1 = .ok (.iconst 0, 1) := by decide +kernel
theorem d_M_tax_2 : decode Y_M_tax.2.1 2 = .ok (.putfield 46, 3) := by decide +kernel
theorem d_M_tax_5 : decode Y_M_tax.2.1 5 = .ok (.aload_n 0, 1) := by decide +kernel
theorem d_M_tax_6 : decode Y_M_tax.2.1 6 = .ok (.iload_n 1, 1) := by decide +kernel
theorem d_M_tax_7 : decode Y_M_tax.2.1 7 = .ok (.invokevirtual 369, 3) := by decide +kernel
theorem d_M_tax_10 : decode Y_M_tax.2.1 10 = .ok (.ifCond .eq 11, 3) := by decide +kernel
theorem d_M_tax_13 : decode Y_M_tax.2.1 13 = .ok (.aload_n 0, 1) := by decide +kernel
theorem d_M_tax_14 : decode Y_M_tax.2.1 14 = .ok (.iload_n 2, 1) := by decide +kernel
theorem d_M_tax_15 : decode Y_M_tax.2.1 15 = .ok (.invokevirtual 372, 3) := by decide +kernel
theorem d_M_tax_18 : decode Y_M_tax.2.1 18 = .ok (.ifCond .ne 9, 3) := by decide +kernel
theorem d_M_tax_21 : decode Y_M_tax.2.1 21 = .ok (.aload_n 0, 1) := by decide +kernel
theorem d_M_tax_22 : decode Y_M_tax.2.1 22 = .ok (.iconst 1, 1) := by decide +kernel
theorem d_M_tax_23 : decode Y_M_tax.2.1 23 = .ok (.invokevirtual 52, 3) := by decide +kernel
theorem d_M_tax_26 : decode Y_M_tax.2.1 26 = .ok (.ireturn, 1) := by decide +kernel
theorem d_M_tax_27 : decode Y_M_tax.2.1 27 = .ok (.aload_n 0, 1) := by decide +kernel
theorem d_M_tax_28 : decode Y_M_tax.2.1 28 = .ok (.invokevirtual 375, 3) := by decide +kernel
theorem d_M_tax_31 : decode Y_M_tax.2.1 31 = .ok (.aload_n 0, 1) := by decide +kernel
theorem d_M_tax_32 : decode Y_M_tax.2.1 32 = .ok (.aload_n 0, 1) := by decide +kernel
theorem d_M_tax_33 : decode Y_M_tax.2.1 33 = .ok (.aload_n 0, 1) := by decide +kernel
theorem d_M_tax_34 : decode Y_M_tax.2.1 34 = .ok (.getfield 17, 3) := by decide +kernel
theorem d_M_tax_37 : decode Y_M_tax.2.1 37 = .ok (.iload_n 1, 1) := by decide +kernel
theorem d_M_tax_38 : decode Y_M_tax.2.1 38 = .ok (.iload_n 2, 1) := by decide +kernel
theorem d_M_tax_39 : decode Y_M_tax.2.1 39 = .ok (.invokevirtual 365, 3) := by decide +kernel
theorem d_M_tax_42 : decode Y_M_tax.2.1 42 = .ok (.invokevirtual 58, 3) := by decide +kernel
theorem d_M_tax_45 : decode Y_M_tax.2.1 45 = .ok (.ireturn, 1) := by decide +kernel
def f_M_tax (h : PH) (a0 : Option Nat) (a1 : Int32) (a2 : Int32) : Option (Int32 × PH) := (sF h 12 a0 0 (.inl (0 : Int32))).bind fun h1 => (cl h1 12 a0 (f_M_isPerson h1 a0 a1)).bind fun v2 => if v2 = 0 then ((cl h1 12 a0 (f_M_refused h1 a0 (1 : Int32))).bind fun v3 => some (v3.1, v3.2)) else ((cl h1 12 a0 (f_M_isChoice h1 a0 a2)).bind fun v4 => if ¬ v4 = 0 then ((cl h1 12 a0 (f_M_asTold h1 a0)).bind fun h5 => (gR h5 12 a0 15).bind fun v6 => (cl h5 12 a0 (f_M_taxIn h5 a0 v6 a1 a2)).bind fun v7 => (cl h5 12 a0 (f_M_good h5 a0 v7)).bind fun v8 => some (v8.1, v8.2)) else ((cl h1 12 a0 (f_M_refused h1 a0 (1 : Int32))).bind fun v9 => some (v9.1, v9.2)))
set_option maxRecDepth 20000 in
theorem PM_M_tax {l : Launch} {G : Cx} {h : PH} {a0 : Option Nat} {a1 : Int32} {a2 : Int32} {z : (Int32 × PH)} (hz : f_M_tax h a0 a1 a2 = some z) : PM l G 4 0 0 Y_M_tax [.inr (.inr a0), .inl a1, .inl a2] h (some (.inl z.1), z.2) := by
  refine PM.of (Y := Y_M_tax) (cv := (fun z : (Int32 × PH) => (((some (.inl z.1), z.2) : Option PV × PH)))) (by decide) (L0 := [some (.inr (.inr a0)), some (.inl a1), some (.inl a2)]) 0 rfl (Nat.le_of_ble_eq_true rfl) ?_ hz
  unfold f_M_tax
  refine PJ.aload_n (pc := 0) d_M_tax_0 rfl ?_
  refine PJ.iconst (pc := 1) (v := 0) d_M_tax_1 (by decide) ?_
  refine PJ.putI (pc := 2) ps_M_46 d_M_tax_2 (fun h1 => ?_)
  refine PJ.aload_n (pc := 5) d_M_tax_5 rfl ?_
  refine PJ.iload_n (pc := 6) d_M_tax_6 rfl ?_
  refine PJ.cVpI (pc := 7) cs_M_369 (fun z hz => PM_M_isPerson hz) (pj_fitb rfl) rfl rfl (Nat.le_of_ble_eq_true rfl) d_M_tax_7 (fun v2 => ?_)
  refine PJ.if_eq (pc := 10) (tgt := 21) d_M_tax_10 (by decide) (fun _ => ?_) (fun _ => ?_)
  · refine PJ.aload_n (pc := 21) d_M_tax_21 rfl ?_
    refine PJ.iconst (pc := 22) (v := 1) d_M_tax_22 (by decide) ?_
    refine PJ.cVI (pc := 23) cs_M_52 (fun z hz => PM_M_refused hz) (pj_fitb rfl) rfl rfl (Nat.le_of_ble_eq_true rfl) d_M_tax_23 (fun v3 => ?_)
    exact PJ.iret (pc := 26) d_M_tax_26 rfl (Nat.le_of_ble_eq_true rfl) (Nat.le_of_ble_eq_true rfl)
  · refine PJ.aload_n (pc := 13) d_M_tax_13 rfl ?_
    refine PJ.iload_n (pc := 14) d_M_tax_14 rfl ?_
    refine PJ.cVpI (pc := 15) cs_M_372 (fun z hz => PM_M_isChoice hz) (pj_fitb rfl) rfl rfl (Nat.le_of_ble_eq_true rfl) d_M_tax_15 (fun v4 => ?_)
    refine PJ.if_ne (pc := 18) (tgt := 27) d_M_tax_18 (by decide) (fun _ => ?_) (fun _ => ?_)
    · refine PJ.aload_n (pc := 27) d_M_tax_27 rfl ?_
      refine PJ.cVV (pc := 28) cs_M_375 (fun z hz => PM_M_asTold hz) (pj_fitb rfl) rfl rfl (Nat.le_of_ble_eq_true rfl) d_M_tax_28 (fun h5 => ?_)
      refine PJ.aload_n (pc := 31) d_M_tax_31 rfl ?_
      refine PJ.aload_n (pc := 32) d_M_tax_32 rfl ?_
      refine PJ.aload_n (pc := 33) d_M_tax_33 rfl ?_
      refine PJ.getR (pc := 34) fs_M_17 d_M_tax_34 (fun v6 => ?_)
      refine PJ.iload_n (pc := 37) d_M_tax_37 rfl ?_
      refine PJ.iload_n (pc := 38) d_M_tax_38 rfl ?_
      refine PJ.cVpI (pc := 39) cs_M_365 (fun z hz => PM_M_taxIn hz) (pj_fitb rfl) rfl rfl (Nat.le_of_ble_eq_true rfl) d_M_tax_39 (fun v7 => ?_)
      refine PJ.cVI (pc := 42) cs_M_58 (fun z hz => PM_M_good hz) (pj_fitb rfl) rfl rfl (Nat.le_of_ble_eq_true rfl) d_M_tax_42 (fun v8 => ?_)
      exact PJ.iret (pc := 45) d_M_tax_45 rfl (Nat.le_of_ble_eq_true rfl) (Nat.le_of_ble_eq_true rfl)
    · refine PJ.aload_n (pc := 21) d_M_tax_21 rfl ?_
      refine PJ.iconst (pc := 22) (v := 1) d_M_tax_22 (by decide) ?_
      refine PJ.cVI (pc := 23) cs_M_52 (fun z hz => PM_M_refused hz) (pj_fitb rfl) rfl rfl (Nat.le_of_ble_eq_true rfl) d_M_tax_23 (fun v9 => ?_)
      exact PJ.iret (pc := 26) d_M_tax_26 rfl (Nat.le_of_ble_eq_true rfl) (Nat.le_of_ble_eq_true rfl)
theorem d_M_choosesIn_0 : decode Y_M_choosesIn.2.1 0 = .ok (.aload_n 1, 1) := by decide +kernel
theorem d_M_choosesIn_1 : decode Y_M_choosesIn.2.1 1 = .ok (.iconst 0, 1) := by decide +kernel
theorem d_M_choosesIn_2 : decode Y_M_choosesIn.2.1 2 = .ok (.iload_n 2, 1) := by decide +kernel
theorem d_M_choosesIn_3 : decode Y_M_choosesIn.2.1 3 = .ok (.iadd, 1) := by decide +kernel
theorem d_M_choosesIn_4 : decode Y_M_choosesIn.2.1 4 = .ok (.iaload, 1) := by decide +kernel
theorem d_M_choosesIn_5 : decode Y_M_choosesIn.2.1 5 = .ok (.istore_n 3, 1) := by decide +kernel
theorem d_M_choosesIn_6 : decode Y_M_choosesIn.2.1 6 = .ok (.aload_n 0, 1) := by decide +kernel
theorem d_M_choosesIn_7 : decode Y_M_choosesIn.2.1 7 = .ok (.iload_n 2, 1) := by decide +kernel
theorem d_M_choosesIn_8 : decode Y_M_choosesIn.2.1 8 = .ok (.iload_n 3, 1) := by decide +kernel
theorem d_M_choosesIn_9 : decode Y_M_choosesIn.2.1 9 = .ok (.aload_n 1, 1) := by decide +kernel
theorem d_M_choosesIn_10 : decode Y_M_choosesIn.2.1 10 = .ok (.bipush 20, 2) := by decide +kernel
theorem d_M_choosesIn_12 : decode Y_M_choosesIn.2.1 12 = .ok (.iaload, 1) := by decide +kernel
theorem d_M_choosesIn_13 : decode Y_M_choosesIn.2.1 13 = .ok (.invokevirtual 361, 3) := by decide +kernel
theorem d_M_choosesIn_16 : decode Y_M_choosesIn.2.1 16 = .ok (.istore 4, 2) := by decide +kernel
theorem d_M_choosesIn_18 : decode Y_M_choosesIn.2.1 18 = .ok (.iconst 0, 1) := by decide +kernel
theorem d_M_choosesIn_19 : decode Y_M_choosesIn.2.1 19 = .ok (.istore 5, 2) := by decide +kernel
theorem d_M_choosesIn_21 : decode Y_M_choosesIn.2.1 21 = .ok (.iload 5, 2) := by decide +kernel
theorem d_M_choosesIn_23 : decode Y_M_choosesIn.2.1 23 = .ok (.aload_n 0, 1) := by decide +kernel
theorem d_M_choosesIn_24 : decode Y_M_choosesIn.2.1 24 = .ok (.getfield 341, 3) := by decide +kernel
theorem d_M_choosesIn_27 : decode Y_M_choosesIn.2.1 27 = .ok (.getfield 198, 3) := by decide +kernel
theorem d_M_choosesIn_30 : decode Y_M_choosesIn.2.1 30 = .ok (.if_icmp .ge 48, 3) := by decide +kernel
theorem d_M_choosesIn_33 : decode Y_M_choosesIn.2.1 33 = .ok (.aload_n 0, 1) := by decide +kernel
theorem d_M_choosesIn_34 : decode Y_M_choosesIn.2.1 34 = .ok (.iload_n 2, 1) := by decide +kernel
theorem d_M_choosesIn_35 : decode Y_M_choosesIn.2.1 35 = .ok (.iload 5, 2) := by decide +kernel
theorem d_M_choosesIn_37 : decode Y_M_choosesIn.2.1 37 = .ok (.aload_n 1, 1) := by decide +kernel
theorem d_M_choosesIn_38 : decode Y_M_choosesIn.2.1 38 = .ok (.bipush 20, 2) := by decide +kernel
theorem d_M_choosesIn_40 : decode Y_M_choosesIn.2.1 40 = .ok (.iaload, 1) := by decide +kernel
theorem d_M_choosesIn_41 : decode Y_M_choosesIn.2.1 41 = .ok (.invokevirtual 361, 3) := by decide +kernel
theorem d_M_choosesIn_44 : decode Y_M_choosesIn.2.1 44 = .ok (.aload_n 0, 1) := by decide +kernel
theorem d_M_choosesIn_45 : decode Y_M_choosesIn.2.1 45 = .ok (.aload_n 1, 1) := by decide +kernel
theorem d_M_choosesIn_46 : decode Y_M_choosesIn.2.1 46 = .ok (.iload_n 2, 1) := by decide +kernel
theorem d_M_choosesIn_47 : decode Y_M_choosesIn.2.1 47 = .ok (.iload 5, 2) := by decide +kernel
theorem d_M_choosesIn_49 : decode Y_M_choosesIn.2.1 49 = .ok (.invokevirtual 365, 3) := by decide +kernel
theorem d_M_choosesIn_52 : decode Y_M_choosesIn.2.1 52 = .ok (.isub, 1) := by decide +kernel
theorem d_M_choosesIn_53 : decode Y_M_choosesIn.2.1 53 = .ok (.istore 6, 2) := by decide +kernel
theorem d_M_choosesIn_55 : decode Y_M_choosesIn.2.1 55 = .ok (.iload 6, 2) := by decide +kernel
theorem d_M_choosesIn_57 : decode Y_M_choosesIn.2.1 57 = .ok (.iload 4, 2) := by decide +kernel
theorem d_M_choosesIn_59 : decode Y_M_choosesIn.2.1 59 = .ok (.if_icmp .gt 6, 3) := by decide +kernel
theorem d_M_choosesIn_62 : decode Y_M_choosesIn.2.1 62 = .ok (.goto 10, 3) := by decide +kernel
theorem d_M_choosesIn_65 : decode Y_M_choosesIn.2.1 65 = .ok (.iload 6, 2) := by decide +kernel
theorem d_M_choosesIn_67 : decode Y_M_choosesIn.2.1 67 = .ok (.istore 4, 2) := by decide +kernel
theorem d_M_choosesIn_69 : decode Y_M_choosesIn.2.1 69 = .ok (.iload 5, 2) := by decide +kernel
theorem d_M_choosesIn_71 : decode Y_M_choosesIn.2.1 71 = .ok (.istore_n 3, 1) := by decide +kernel
theorem d_M_choosesIn_72 : decode Y_M_choosesIn.2.1 72 = .ok (.iinc 5 1, 3) := by decide +kernel
theorem d_M_choosesIn_75 : decode Y_M_choosesIn.2.1 75 = .ok (.goto (-54), 3) := by decide +kernel
theorem d_M_choosesIn_78 : decode Y_M_choosesIn.2.1 78 = .ok (.iload_n 3, 1) := by decide +kernel
theorem d_M_choosesIn_79 : decode Y_M_choosesIn.2.1 79 = .ok (.ireturn, 1) := by decide +kernel
def f_M_choosesIn (h : PH) (a0 : Option Nat) (a1 : Option Nat) (a2 : Int32) : Option Int32 := (aI h a1 ((0 : Int32) + a2)).bind fun v1 => (aI h a1 (20 : Int32)).bind fun v2 => (cl h 12 a0 (f_M_worthBy h a0 a2 v1 v2)).bind fun v3 => (pj_it (X := Int32) (fun s4 : Int32 × Int32 × Int32 => (gR h 12 a0 3).bind fun v6 => (gI h 11 v6 2).bind fun v7 => if v7 ≤ s4.2.2 then (some (.inr s4.1)) else ((aI h a1 (20 : Int32)).bind fun v8 => (cl h 12 a0 (f_M_worthBy h a0 a2 s4.2.2 v8)).bind fun v9 => (cl h 12 a0 (f_M_taxIn h a0 a1 a2 s4.2.2)).bind fun v10 => if s4.2.1 < (v9 - v10) then (some (.inl (s4.2.2, (v9 - v10), (s4.2.2 + (1 : Int32))))) else (some (.inl (s4.1, s4.2.1, (s4.2.2 + (1 : Int32))))))) FU (v1, v3, (0 : Int32))).bind fun x5 => some x5
set_option maxRecDepth 20000 in
theorem PM_M_choosesIn {l : Launch} {G : Cx} {h : PH} {a0 : Option Nat} {a1 : Option Nat} {a2 : Int32} {z : Int32} (hz : f_M_choosesIn h a0 a1 a2 = some z) : PM l G 4 0 0 Y_M_choosesIn [.inr (.inr a0), .inr (.inr a1), .inl a2] h (some (.inl z), h) := by
  refine PM.of (Y := Y_M_choosesIn) (cv := (fun z : Int32 => (((some (.inl z), h) : Option PV × PH)))) (by decide) (L0 := [some (.inr (.inr a0)), some (.inr (.inr a1)), some (.inl a2), none, none, none, none]) 4 rfl (Nat.le_of_ble_eq_true rfl) ?_ hz
  unfold f_M_choosesIn
  refine PJ.aload_n (pc := 0) d_M_choosesIn_0 rfl ?_
  refine PJ.iconst (pc := 1) (v := 0) d_M_choosesIn_1 (by decide) ?_
  refine PJ.iload_n (pc := 2) d_M_choosesIn_2 rfl ?_
  refine PJ.iadd (pc := 3) d_M_choosesIn_3 ?_
  refine PJ.iald (pc := 4) d_M_choosesIn_4 (fun v1 => ?_)
  refine PJ.istore_n (pc := 5) (L1 := [some (.inr (.inr a0)), some (.inr (.inr a1)), some (.inl a2), some (.inl v1), none, none, none]) d_M_choosesIn_5 (Nat.le_of_ble_eq_true rfl) rfl rfl ?_
  refine PJ.aload_n (pc := 6) d_M_choosesIn_6 rfl ?_
  refine PJ.iload_n (pc := 7) d_M_choosesIn_7 rfl ?_
  refine PJ.iload_n (pc := 8) d_M_choosesIn_8 rfl ?_
  refine PJ.aload_n (pc := 9) d_M_choosesIn_9 rfl ?_
  refine PJ.bipush (pc := 10) (v := 20) d_M_choosesIn_10 (by decide) ?_
  refine PJ.iald (pc := 12) d_M_choosesIn_12 (fun v2 => ?_)
  refine PJ.cVpI (pc := 13) cs_M_361 (fun z hz => PM_M_worthBy hz) (pj_fitb rfl) rfl rfl (Nat.le_of_ble_eq_true rfl) d_M_choosesIn_13 (fun v3 => ?_)
  refine PJ.istore (pc := 16) (L1 := [some (.inr (.inr a0)), some (.inr (.inr a1)), some (.inl a2), some (.inl v1), some (.inl v3), none, none]) d_M_choosesIn_16 (Nat.le_of_ble_eq_true rfl) rfl rfl ?_
  refine PJ.iconst (pc := 18) (v := 0) d_M_choosesIn_18 (by decide) ?_
  refine PJ.istore (pc := 19) (L1 := [some (.inr (.inr a0)), some (.inr (.inr a1)), some (.inl a2), some (.inl v1), some (.inl v3), some (.inl (0 : Int32)), none]) d_M_choosesIn_19 (Nat.le_of_ble_eq_true rfl) rfl rfl ?_
  refine PJ.bind (fun x5 : Int32 => ((78 : Nat), ([none, none, none, some (.inl x5), none, none, none] : List (Option PV)), ([] : List PV), (h : PH), (0 : Nat), (0 : Nat))) (PJ.it (E := (fun s4 : Int32 × Int32 × Int32 => ((21 : Nat), ([some (.inr (.inr a0)), some (.inr (.inr a1)), some (.inl a2), some (.inl s4.1), some (.inl s4.2.1), some (.inl s4.2.2), none] : List (Option PV)), ([] : List PV), (h : PH), (0 : Nat), (0 : Nat)))) (F := (fun x5 : Int32 => ((78 : Nat), ([none, none, none, some (.inl x5), none, none, none] : List (Option PV)), ([] : List PV), (h : PH), (0 : Nat), (0 : Nat)))) (fun s4 => ?_) FU (v1, v3, (0 : Int32))) (fun x5 => ?_)
  · show PJ l G (pj_rm 4 0 0) Y_M_choosesIn 21 [some (.inr (.inr a0)), some (.inr (.inr a1)), some (.inl a2), some (.inl s4.1), some (.inl s4.2.1), some (.inl s4.2.2), none] [] h 0 0 _ _
    refine PJ.iload (pc := 21) d_M_choosesIn_21 rfl ?_
    refine PJ.aload_n (pc := 23) d_M_choosesIn_23 rfl ?_
    refine PJ.getR (pc := 24) fs_M_341 d_M_choosesIn_24 (fun v6 => ?_)
    refine PJ.getI (pc := 27) fs_M_198 d_M_choosesIn_27 (fun v7 => ?_)
    refine PJ.icmp_ge (pc := 30) (tgt := 78) d_M_choosesIn_30 (by decide) (fun _ => ?_) (fun _ => ?_)
    · refine PJ.mk (L1 := [none, none, none, some (.inl s4.1), none, none, none]) [false, false, false, true, false, false, false] rfl ?_
      exact PJ.done rfl
    · refine PJ.aload_n (pc := 33) d_M_choosesIn_33 rfl ?_
      refine PJ.iload_n (pc := 34) d_M_choosesIn_34 rfl ?_
      refine PJ.iload (pc := 35) d_M_choosesIn_35 rfl ?_
      refine PJ.aload_n (pc := 37) d_M_choosesIn_37 rfl ?_
      refine PJ.bipush (pc := 38) (v := 20) d_M_choosesIn_38 (by decide) ?_
      refine PJ.iald (pc := 40) d_M_choosesIn_40 (fun v8 => ?_)
      refine PJ.cVpI (pc := 41) cs_M_361 (fun z hz => PM_M_worthBy hz) (pj_fitb rfl) rfl rfl (Nat.le_of_ble_eq_true rfl) d_M_choosesIn_41 (fun v9 => ?_)
      refine PJ.aload_n (pc := 44) d_M_choosesIn_44 rfl ?_
      refine PJ.aload_n (pc := 45) d_M_choosesIn_45 rfl ?_
      refine PJ.iload_n (pc := 46) d_M_choosesIn_46 rfl ?_
      refine PJ.iload (pc := 47) d_M_choosesIn_47 rfl ?_
      refine PJ.cVpI (pc := 49) cs_M_365 (fun z hz => PM_M_taxIn hz) (pj_fitb rfl) rfl rfl (Nat.le_of_ble_eq_true rfl) d_M_choosesIn_49 (fun v10 => ?_)
      refine PJ.isub (pc := 52) d_M_choosesIn_52 ?_
      refine PJ.istore (pc := 53) (L1 := [some (.inr (.inr a0)), some (.inr (.inr a1)), some (.inl a2), some (.inl s4.1), some (.inl s4.2.1), some (.inl s4.2.2), some (.inl (v9 - v10))]) d_M_choosesIn_53 (Nat.le_of_ble_eq_true rfl) rfl rfl ?_
      refine PJ.iload (pc := 55) d_M_choosesIn_55 rfl ?_
      refine PJ.iload (pc := 57) d_M_choosesIn_57 rfl ?_
      refine PJ.icmp_gt (pc := 59) (tgt := 65) d_M_choosesIn_59 (by decide) (fun _ => ?_) (fun _ => ?_)
      · refine PJ.iload (pc := 65) d_M_choosesIn_65 rfl ?_
        refine PJ.istore (pc := 67) (L1 := [some (.inr (.inr a0)), some (.inr (.inr a1)), some (.inl a2), some (.inl s4.1), some (.inl (v9 - v10)), some (.inl s4.2.2), some (.inl (v9 - v10))]) d_M_choosesIn_67 (Nat.le_of_ble_eq_true rfl) rfl rfl ?_
        refine PJ.iload (pc := 69) d_M_choosesIn_69 rfl ?_
        refine PJ.istore_n (pc := 71) (L1 := [some (.inr (.inr a0)), some (.inr (.inr a1)), some (.inl a2), some (.inl s4.2.2), some (.inl (v9 - v10)), some (.inl s4.2.2), some (.inl (v9 - v10))]) d_M_choosesIn_71 (Nat.le_of_ble_eq_true rfl) rfl rfl ?_
        refine PJ.iinc (pc := 72) (v := 1) (L1 := [some (.inr (.inr a0)), some (.inr (.inr a1)), some (.inl a2), some (.inl s4.2.2), some (.inl (v9 - v10)), some (.inl (s4.2.2 + (1 : Int32))), some (.inl (v9 - v10))]) d_M_choosesIn_72 rfl (by decide) (Nat.le_of_ble_eq_true rfl) rfl rfl ?_
        refine PJ.goto (pc := 75) (tgt := 21) d_M_choosesIn_75 (by decide) ?_
        refine PJ.mk (L1 := [some (.inr (.inr a0)), some (.inr (.inr a1)), some (.inl a2), some (.inl s4.2.2), some (.inl (v9 - v10)), some (.inl (s4.2.2 + (1 : Int32))), none]) [true, true, true, true, true, true, false] rfl ?_
        exact PJ.done rfl
      · refine PJ.goto (pc := 62) (tgt := 72) d_M_choosesIn_62 (by decide) ?_
        refine PJ.iinc (pc := 72) (v := 1) (L1 := [some (.inr (.inr a0)), some (.inr (.inr a1)), some (.inl a2), some (.inl s4.1), some (.inl s4.2.1), some (.inl (s4.2.2 + (1 : Int32))), some (.inl (v9 - v10))]) d_M_choosesIn_72 rfl (by decide) (Nat.le_of_ble_eq_true rfl) rfl rfl ?_
        refine PJ.goto (pc := 75) (tgt := 21) d_M_choosesIn_75 (by decide) ?_
        refine PJ.mk (L1 := [some (.inr (.inr a0)), some (.inr (.inr a1)), some (.inl a2), some (.inl s4.1), some (.inl s4.2.1), some (.inl (s4.2.2 + (1 : Int32))), none]) [true, true, true, true, true, true, false] rfl ?_
        exact PJ.done rfl
  · show PJ l G (pj_rm 4 0 0) Y_M_choosesIn 78 [none, none, none, some (.inl x5), none, none, none] [] h 0 0 _ _
    refine PJ.iload_n (pc := 78) d_M_choosesIn_78 rfl ?_
    exact PJ.iretp (pc := 79) d_M_choosesIn_79 rfl (Nat.le_of_ble_eq_true rfl) (Nat.le_of_ble_eq_true rfl)
theorem d_M_chooses_0 : decode Y_M_chooses.2.1 0 = .ok (.aload_n 0, 1) := by decide +kernel
theorem d_M_chooses_1 : decode Y_M_chooses.2.1 1 = .ok (.iconst 0, 1) := by decide +kernel
theorem d_M_chooses_2 : decode Y_M_chooses.2.1 2 = .ok (.putfield 46, 3) := by decide +kernel
theorem d_M_chooses_5 : decode Y_M_chooses.2.1 5 = .ok (.aload_n 0, 1) := by decide +kernel
theorem d_M_chooses_6 : decode Y_M_chooses.2.1 6 = .ok (.iload_n 1, 1) := by decide +kernel
theorem d_M_chooses_7 : decode Y_M_chooses.2.1 7 = .ok (.invokevirtual 369, 3) := by decide +kernel
theorem d_M_chooses_10 : decode Y_M_chooses.2.1 10 = .ok (.ifCond .ne 9, 3) := by decide +kernel
theorem d_M_chooses_13 : decode Y_M_chooses.2.1 13 = .ok (.aload_n 0, 1) := by decide +kernel
theorem d_M_chooses_14 : decode Y_M_chooses.2.1 14 = .ok (.iconst 1, 1) := by decide +kernel
theorem d_M_chooses_15 : decode Y_M_chooses.2.1 15 = .ok (.invokevirtual 52, 3) := by decide +kernel
theorem d_M_chooses_18 : decode Y_M_chooses.2.1 18 = .ok (.ireturn, 1) := by decide +kernel
theorem d_M_chooses_19 : decode Y_M_chooses.2.1 19 = .ok (.aload_n 0, 1) := by decide +kernel
theorem d_M_chooses_20 : decode Y_M_chooses.2.1 20 = .ok (.invokevirtual 375, 3) := by decide +kernel
theorem d_M_chooses_23 : decode Y_M_chooses.2.1 23 = .ok (.aload_n 0, 1) := by decide +kernel
theorem d_M_chooses_24 : decode Y_M_chooses.2.1 24 = .ok (.aload_n 0, 1) := by decide +kernel
theorem d_M_chooses_25 : decode Y_M_chooses.2.1 25 = .ok (.aload_n 0, 1) := by decide +kernel
theorem d_M_chooses_26 : decode Y_M_chooses.2.1 26 = .ok (.getfield 17, 3) := by decide +kernel
theorem d_M_chooses_29 : decode Y_M_chooses.2.1 29 = .ok (.iload_n 1, 1) := by decide +kernel
theorem d_M_chooses_30 : decode Y_M_chooses.2.1 30 = .ok (.invokevirtual 378, 3) := by decide +kernel
theorem d_M_chooses_33 : decode Y_M_chooses.2.1 33 = .ok (.invokevirtual 58, 3) := by decide +kernel
theorem d_M_chooses_36 : decode Y_M_chooses.2.1 36 = .ok (.ireturn, 1) := by decide +kernel
def f_M_chooses (h : PH) (a0 : Option Nat) (a1 : Int32) : Option (Int32 × PH) := (sF h 12 a0 0 (.inl (0 : Int32))).bind fun h1 => (cl h1 12 a0 (f_M_isPerson h1 a0 a1)).bind fun v2 => if ¬ v2 = 0 then ((cl h1 12 a0 (f_M_asTold h1 a0)).bind fun h3 => (gR h3 12 a0 15).bind fun v4 => (cl h3 12 a0 (f_M_choosesIn h3 a0 v4 a1)).bind fun v5 => (cl h3 12 a0 (f_M_good h3 a0 v5)).bind fun v6 => some (v6.1, v6.2)) else ((cl h1 12 a0 (f_M_refused h1 a0 (1 : Int32))).bind fun v7 => some (v7.1, v7.2))
set_option maxRecDepth 20000 in
theorem PM_M_chooses {l : Launch} {G : Cx} {h : PH} {a0 : Option Nat} {a1 : Int32} {z : (Int32 × PH)} (hz : f_M_chooses h a0 a1 = some z) : PM l G 5 0 0 Y_M_chooses [.inr (.inr a0), .inl a1] h (some (.inl z.1), z.2) := by
  refine PM.of (Y := Y_M_chooses) (cv := (fun z : (Int32 × PH) => (((some (.inl z.1), z.2) : Option PV × PH)))) (by decide) (L0 := [some (.inr (.inr a0)), some (.inl a1)]) 0 rfl (Nat.le_of_ble_eq_true rfl) ?_ hz
  unfold f_M_chooses
  refine PJ.aload_n (pc := 0) d_M_chooses_0 rfl ?_
  refine PJ.iconst (pc := 1) (v := 0) d_M_chooses_1 (by decide) ?_
  refine PJ.putI (pc := 2) ps_M_46 d_M_chooses_2 (fun h1 => ?_)
  refine PJ.aload_n (pc := 5) d_M_chooses_5 rfl ?_
  refine PJ.iload_n (pc := 6) d_M_chooses_6 rfl ?_
  refine PJ.cVpI (pc := 7) cs_M_369 (fun z hz => PM_M_isPerson hz) (pj_fitb rfl) rfl rfl (Nat.le_of_ble_eq_true rfl) d_M_chooses_7 (fun v2 => ?_)
  refine PJ.if_ne (pc := 10) (tgt := 19) d_M_chooses_10 (by decide) (fun _ => ?_) (fun _ => ?_)
  · refine PJ.aload_n (pc := 19) d_M_chooses_19 rfl ?_
    refine PJ.cVV (pc := 20) cs_M_375 (fun z hz => PM_M_asTold hz) (pj_fitb rfl) rfl rfl (Nat.le_of_ble_eq_true rfl) d_M_chooses_20 (fun h3 => ?_)
    refine PJ.aload_n (pc := 23) d_M_chooses_23 rfl ?_
    refine PJ.aload_n (pc := 24) d_M_chooses_24 rfl ?_
    refine PJ.aload_n (pc := 25) d_M_chooses_25 rfl ?_
    refine PJ.getR (pc := 26) fs_M_17 d_M_chooses_26 (fun v4 => ?_)
    refine PJ.iload_n (pc := 29) d_M_chooses_29 rfl ?_
    refine PJ.cVpI (pc := 30) cs_M_378 (fun z hz => PM_M_choosesIn hz) (pj_fitb rfl) rfl rfl (Nat.le_of_ble_eq_true rfl) d_M_chooses_30 (fun v5 => ?_)
    refine PJ.cVI (pc := 33) cs_M_58 (fun z hz => PM_M_good hz) (pj_fitb rfl) rfl rfl (Nat.le_of_ble_eq_true rfl) d_M_chooses_33 (fun v6 => ?_)
    exact PJ.iret (pc := 36) d_M_chooses_36 rfl (Nat.le_of_ble_eq_true rfl) (Nat.le_of_ble_eq_true rfl)
  · refine PJ.aload_n (pc := 13) d_M_chooses_13 rfl ?_
    refine PJ.iconst (pc := 14) (v := 1) d_M_chooses_14 (by decide) ?_
    refine PJ.cVI (pc := 15) cs_M_52 (fun z hz => PM_M_refused hz) (pj_fitb rfl) rfl rfl (Nat.le_of_ble_eq_true rfl) d_M_chooses_15 (fun v7 => ?_)
    exact PJ.iret (pc := 18) d_M_chooses_18 rfl (Nat.le_of_ble_eq_true rfl) (Nat.le_of_ble_eq_true rfl)
theorem d_M_wavering_0 : decode Y_M_wavering.2.1 0 = .ok (.iconst 0, 1) := by decide +kernel
theorem d_M_wavering_1 : decode Y_M_wavering.2.1 1 = .ok (.istore_n 1, 1) := by decide +kernel
theorem d_M_wavering_2 : decode Y_M_wavering.2.1 2 = .ok (.iconst 0, 1) := by decide +kernel
theorem d_M_wavering_3 : decode Y_M_wavering.2.1 3 = .ok (.istore_n 2, 1) := by decide +kernel
theorem d_M_wavering_4 : decode Y_M_wavering.2.1 4 = .ok (.iload_n 2, 1) := by decide +kernel
theorem d_M_wavering_5 : decode Y_M_wavering.2.1 5 = .ok (.aload_n 0, 1) := by decide +kernel
theorem d_M_wavering_6 : decode Y_M_wavering.2.1 6 = .ok (.getfield 341, 3) := by decide +kernel
theorem d_M_wavering_9 : decode Y_M_wavering.2.1 9 = .ok (.getfield 255, 3) := by decide +kernel
theorem d_M_wavering_12 : decode Y_M_wavering.2.1 12 = .ok (.if_icmp .ge 39, 3) := by decide +kernel
theorem d_M_wavering_15 : decode Y_M_wavering.2.1 15 = .ok (.iload_n 1, 1) := by decide +kernel
theorem d_M_wavering_16 : decode Y_M_wavering.2.1 16 = .ok (.aload_n 0, 1) := by decide +kernel
theorem d_M_wavering_17 : decode Y_M_wavering.2.1 17 = .ok (.aload_n 0, 1) := by decide +kernel
theorem d_M_wavering_18 : decode Y_M_wavering.2.1 18 = .ok (.getfield 17, 3) := by decide +kernel
theorem d_M_wavering_21 : decode Y_M_wavering.2.1 21 = .ok (.iload_n 2, 1) := by decide +kernel
theorem d_M_wavering_22 : decode Y_M_wavering.2.1 22 = .ok (.invokevirtual 378, 3) := by decide +kernel
theorem d_M_wavering_25 : decode Y_M_wavering.2.1 25 = .ok (.aload_n 0, 1) := by decide +kernel
theorem d_M_wavering_26 : decode Y_M_wavering.2.1 26 = .ok (.getfield 17, 3) := by decide +kernel
theorem d_M_wavering_29 : decode Y_M_wavering.2.1 29 = .ok (.iconst 0, 1) := by decide +kernel
theorem d_M_wavering_30 : decode Y_M_wavering.2.1 30 = .ok (.iload_n 2, 1) := by decide +kernel
theorem d_M_wavering_31 : decode Y_M_wavering.2.1 31 = .ok (.iadd, 1) := by decide +kernel
theorem d_M_wavering_32 : decode Y_M_wavering.2.1 32 = .ok (.iaload, 1) := by decide +kernel
theorem d_M_wavering_33 : decode Y_M_wavering.2.1 33 = .ok (.if_icmp .eq 9, 3) := by decide +kernel
theorem d_M_wavering_36 : decode Y_M_wavering.2.1 36 = .ok (.iconst 1, 1) := by decide +kernel
theorem d_M_wavering_37 : decode Y_M_wavering.2.1 37 = .ok (.iload_n 2, 1) := by decide +kernel
theorem d_M_wavering_38 : decode Y_M_wavering.2.1 38 = .ok (.ishl, 1) := by decide +kernel
theorem d_M_wavering_39 : decode Y_M_wavering.2.1 39 = .ok (.goto 4, 3) := by decide +kernel
theorem d_M_wavering_42 : decode Y_M_wavering.2.1 42 = .ok (.iconst 0, 1) := by decide +kernel
theorem d_M_wavering_43 : decode Y_M_wavering.2.1 43 = .ok (.ior, 1) := by decide +kernel
theorem d_M_wavering_44 : decode Y_M_wavering.2.1 44 = .ok (.istore_n 1, 1) := by decide +kernel
theorem d_M_wavering_45 : decode Y_M_wavering.2.1 45 = .ok (.iinc 2 1, 3) := by decide +kernel
theorem d_M_wavering_48 : decode Y_M_wavering.2.1 48 = .ok (.goto (-44), 3) := by decide +kernel
theorem d_M_wavering_51 : decode Y_M_wavering.2.1 51 = .ok (.iload_n 1, 1) := by decide +kernel
theorem d_M_wavering_52 : decode Y_M_wavering.2.1 52 = .ok (.ireturn, 1) := by decide +kernel
def f_M_wavering (h : PH) (a0 : Option Nat) : Option Int32 := (pj_it (X := Int32) (fun s1 : Int32 × Int32 => (gR h 12 a0 3).bind fun v3 => (gI h 11 v3 3).bind fun v4 => if v4 ≤ s1.2 then (some (.inr s1.1)) else ((gR h 12 a0 15).bind fun v5 => (cl h 12 a0 (f_M_choosesIn h a0 v5 s1.2)).bind fun v6 => (gR h 12 a0 15).bind fun v7 => (aI h v7 ((0 : Int32) + s1.2)).bind fun v8 => (if v6 = v8 then (some (0 : Int32)) else (some ((1 : Int32) <<< (s1.2 &&& 31))) : Option (Int32)).bind fun j9 => some (.inl ((s1.1 ||| j9), (s1.2 + (1 : Int32)))))) FU ((0 : Int32), (0 : Int32))).bind fun x2 => some x2
set_option maxRecDepth 20000 in
theorem PM_M_wavering {l : Launch} {G : Cx} {h : PH} {a0 : Option Nat} {z : Int32} (hz : f_M_wavering h a0 = some z) : PM l G 5 0 0 Y_M_wavering [.inr (.inr a0)] h (some (.inl z), h) := by
  refine PM.of (Y := Y_M_wavering) (cv := (fun z : Int32 => (((some (.inl z), h) : Option PV × PH)))) (by decide) (L0 := [some (.inr (.inr a0)), none, none]) 2 rfl (Nat.le_of_ble_eq_true rfl) ?_ hz
  unfold f_M_wavering
  refine PJ.iconst (pc := 0) (v := 0) d_M_wavering_0 (by decide) ?_
  refine PJ.istore_n (pc := 1) (L1 := [some (.inr (.inr a0)), some (.inl (0 : Int32)), none]) d_M_wavering_1 (Nat.le_of_ble_eq_true rfl) rfl rfl ?_
  refine PJ.iconst (pc := 2) (v := 0) d_M_wavering_2 (by decide) ?_
  refine PJ.istore_n (pc := 3) (L1 := [some (.inr (.inr a0)), some (.inl (0 : Int32)), some (.inl (0 : Int32))]) d_M_wavering_3 (Nat.le_of_ble_eq_true rfl) rfl rfl ?_
  refine PJ.bind (fun x2 : Int32 => ((51 : Nat), ([none, some (.inl x2), none] : List (Option PV)), ([] : List PV), (h : PH), (0 : Nat), (0 : Nat))) (PJ.it (E := (fun s1 : Int32 × Int32 => ((4 : Nat), ([some (.inr (.inr a0)), some (.inl s1.1), some (.inl s1.2)] : List (Option PV)), ([] : List PV), (h : PH), (0 : Nat), (0 : Nat)))) (F := (fun x2 : Int32 => ((51 : Nat), ([none, some (.inl x2), none] : List (Option PV)), ([] : List PV), (h : PH), (0 : Nat), (0 : Nat)))) (fun s1 => ?_) FU ((0 : Int32), (0 : Int32))) (fun x2 => ?_)
  · show PJ l G (pj_rm 5 0 0) Y_M_wavering 4 [some (.inr (.inr a0)), some (.inl s1.1), some (.inl s1.2)] [] h 0 0 _ _
    refine PJ.iload_n (pc := 4) d_M_wavering_4 rfl ?_
    refine PJ.aload_n (pc := 5) d_M_wavering_5 rfl ?_
    refine PJ.getR (pc := 6) fs_M_341 d_M_wavering_6 (fun v3 => ?_)
    refine PJ.getI (pc := 9) fs_M_255 d_M_wavering_9 (fun v4 => ?_)
    refine PJ.icmp_ge (pc := 12) (tgt := 51) d_M_wavering_12 (by decide) (fun _ => ?_) (fun _ => ?_)
    · refine PJ.mk (L1 := [none, some (.inl s1.1), none]) [false, true, false] rfl ?_
      exact PJ.done rfl
    · refine PJ.iload_n (pc := 15) d_M_wavering_15 rfl ?_
      refine PJ.aload_n (pc := 16) d_M_wavering_16 rfl ?_
      refine PJ.aload_n (pc := 17) d_M_wavering_17 rfl ?_
      refine PJ.getR (pc := 18) fs_M_17 d_M_wavering_18 (fun v5 => ?_)
      refine PJ.iload_n (pc := 21) d_M_wavering_21 rfl ?_
      refine PJ.cVpI (pc := 22) cs_M_378 (fun z hz => PM_M_choosesIn hz) (pj_fitb rfl) rfl rfl (Nat.le_of_ble_eq_true rfl) d_M_wavering_22 (fun v6 => ?_)
      refine PJ.aload_n (pc := 25) d_M_wavering_25 rfl ?_
      refine PJ.getR (pc := 26) fs_M_17 d_M_wavering_26 (fun v7 => ?_)
      refine PJ.iconst (pc := 29) (v := 0) d_M_wavering_29 (by decide) ?_
      refine PJ.iload_n (pc := 30) d_M_wavering_30 rfl ?_
      refine PJ.iadd (pc := 31) d_M_wavering_31 ?_
      refine PJ.iald (pc := 32) d_M_wavering_32 (fun v8 => ?_)
      refine PJ.bind (fun j9 : Int32 => ((43 : Nat), ([some (.inr (.inr a0)), none, some (.inl s1.2)] : List (Option PV)), ([.inl j9, .inl s1.1] : List PV), (h : PH), (0 : Nat), (0 : Nat))) ?_ (fun j9 => ?_)
      · refine PJ.icmp_eq (pc := 33) (tgt := 42) d_M_wavering_33 (by decide) (fun _ => ?_) (fun _ => ?_)
        · refine PJ.iconst (pc := 42) (v := 0) d_M_wavering_42 (by decide) ?_
          refine PJ.mk (L1 := [some (.inr (.inr a0)), none, some (.inl s1.2)]) [true, false, true] rfl ?_
          exact PJ.done rfl
        · refine PJ.iconst (pc := 36) (v := 1) d_M_wavering_36 (by decide) ?_
          refine PJ.iload_n (pc := 37) d_M_wavering_37 rfl ?_
          refine PJ.ishl (pc := 38) d_M_wavering_38 ?_
          refine PJ.goto (pc := 39) (tgt := 43) d_M_wavering_39 (by decide) ?_
          refine PJ.mk (L1 := [some (.inr (.inr a0)), none, some (.inl s1.2)]) [true, false, true] rfl ?_
          exact PJ.done rfl
      · show PJ l G (pj_rm 5 0 0) Y_M_wavering 43 [some (.inr (.inr a0)), none, some (.inl s1.2)] [.inl j9, .inl s1.1] h 0 0 _ _
        refine PJ.ior (pc := 43) d_M_wavering_43 ?_
        refine PJ.istore_n (pc := 44) (L1 := [some (.inr (.inr a0)), some (.inl (s1.1 ||| j9)), some (.inl s1.2)]) d_M_wavering_44 (Nat.le_of_ble_eq_true rfl) rfl rfl ?_
        refine PJ.iinc (pc := 45) (v := 1) (L1 := [some (.inr (.inr a0)), some (.inl (s1.1 ||| j9)), some (.inl (s1.2 + (1 : Int32)))]) d_M_wavering_45 rfl (by decide) (Nat.le_of_ble_eq_true rfl) rfl rfl ?_
        refine PJ.goto (pc := 48) (tgt := 4) d_M_wavering_48 (by decide) ?_
        exact PJ.done rfl
  · show PJ l G (pj_rm 5 0 0) Y_M_wavering 51 [none, some (.inl x2), none] [] h 0 0 _ _
    refine PJ.iload_n (pc := 51) d_M_wavering_51 rfl ?_
    exact PJ.iretp (pc := 52) d_M_wavering_52 rfl (Nat.le_of_ble_eq_true rfl) (Nat.le_of_ble_eq_true rfl)
theorem d_M_waverers_0 : decode Y_M_waverers.2.1 0 = .ok (.aload_n 0, 1) := by decide +kernel
theorem d_M_waverers_1 : decode Y_M_waverers.2.1 1 = .ok (.iconst 0, 1) := by decide +kernel
theorem d_M_waverers_2 : decode Y_M_waverers.2.1 2 = .ok (.putfield 46, 3) := by decide +kernel
theorem d_M_waverers_5 : decode Y_M_waverers.2.1 5 = .ok (.aload_n 0, 1) := by decide +kernel
theorem d_M_waverers_6 : decode Y_M_waverers.2.1 6 = .ok (.getfield 341, 3) := by decide +kernel
theorem d_M_waverers_9 : decode Y_M_waverers.2.1 9 = .ok (.ifnonnull 9, 3) := by decide +kernel
theorem d_M_waverers_12 : decode Y_M_waverers.2.1 12 = .ok (.aload_n 0, 1) := by decide +kernel
theorem d_M_waverers_13 : decode Y_M_waverers.2.1 13 = .ok (.iconst 1, 1) := by decide +kernel
theorem d_M_waverers_14 : decode Y_M_waverers.2.1 14 = .ok (.invokevirtual 52, 3) := by decide +kernel
theorem d_M_waverers_17 : decode Y_M_waverers.2.1 17 = .ok (.ireturn, 1) := by decide +kernel
theorem d_M_waverers_18 : decode Y_M_waverers.2.1 18 = .ok (.aload_n 0, 1) := by decide +kernel
theorem d_M_waverers_19 : decode Y_M_waverers.2.1 19 = .ok (.invokevirtual 375, 3) := by decide +kernel
theorem d_M_waverers_22 : decode Y_M_waverers.2.1 22 = .ok (.aload_n 0, 1) := by decide +kernel
theorem d_M_waverers_23 : decode Y_M_waverers.2.1 23 = .ok (.aload_n 0, 1) := by decide +kernel
theorem d_M_waverers_24 : decode Y_M_waverers.2.1 24 = .ok (.invokevirtual 382, 3) := by decide +kernel
theorem d_M_waverers_27 : decode Y_M_waverers.2.1 27 = .ok (.invokevirtual 58, 3) := by decide +kernel
theorem d_M_waverers_30 : decode Y_M_waverers.2.1 30 = .ok (.ireturn, 1) := by decide +kernel
def f_M_waverers (h : PH) (a0 : Option Nat) : Option (Int32 × PH) := (sF h 12 a0 0 (.inl (0 : Int32))).bind fun h1 => (gR h1 12 a0 3).bind fun v2 => if v2 = none then ((cl h1 12 a0 (f_M_refused h1 a0 (1 : Int32))).bind fun v6 => some (v6.1, v6.2)) else ((cl h1 12 a0 (f_M_asTold h1 a0)).bind fun h3 => (cl h3 12 a0 (f_M_wavering h3 a0)).bind fun v4 => (cl h3 12 a0 (f_M_good h3 a0 v4)).bind fun v5 => some (v5.1, v5.2))
set_option maxRecDepth 20000 in
theorem PM_M_waverers {l : Launch} {G : Cx} {h : PH} {a0 : Option Nat} {z : (Int32 × PH)} (hz : f_M_waverers h a0 = some z) : PM l G 6 0 0 Y_M_waverers [.inr (.inr a0)] h (some (.inl z.1), z.2) := by
  refine PM.of (Y := Y_M_waverers) (cv := (fun z : (Int32 × PH) => (((some (.inl z.1), z.2) : Option PV × PH)))) (by decide) (L0 := [some (.inr (.inr a0))]) 0 rfl (Nat.le_of_ble_eq_true rfl) ?_ hz
  unfold f_M_waverers
  refine PJ.aload_n (pc := 0) d_M_waverers_0 rfl ?_
  refine PJ.iconst (pc := 1) (v := 0) d_M_waverers_1 (by decide) ?_
  refine PJ.putI (pc := 2) ps_M_46 d_M_waverers_2 (fun h1 => ?_)
  refine PJ.aload_n (pc := 5) d_M_waverers_5 rfl ?_
  refine PJ.getR (pc := 6) fs_M_341 d_M_waverers_6 (fun v2 => ?_)
  refine PJ.ifnonnull (pc := 9) (tgt := 18) d_M_waverers_9 (by decide) (fun _ => ?_) (fun _ => ?_)
  · refine PJ.aload_n (pc := 18) d_M_waverers_18 rfl ?_
    refine PJ.cVV (pc := 19) cs_M_375 (fun z hz => PM_M_asTold hz) (pj_fitb rfl) rfl rfl (Nat.le_of_ble_eq_true rfl) d_M_waverers_19 (fun h3 => ?_)
    refine PJ.aload_n (pc := 22) d_M_waverers_22 rfl ?_
    refine PJ.aload_n (pc := 23) d_M_waverers_23 rfl ?_
    refine PJ.cVpI (pc := 24) cs_M_382 (fun z hz => PM_M_wavering hz) (pj_fitb rfl) rfl rfl (Nat.le_of_ble_eq_true rfl) d_M_waverers_24 (fun v4 => ?_)
    refine PJ.cVI (pc := 27) cs_M_58 (fun z hz => PM_M_good hz) (pj_fitb rfl) rfl rfl (Nat.le_of_ble_eq_true rfl) d_M_waverers_27 (fun v5 => ?_)
    exact PJ.iret (pc := 30) d_M_waverers_30 rfl (Nat.le_of_ble_eq_true rfl) (Nat.le_of_ble_eq_true rfl)
  · refine PJ.aload_n (pc := 12) d_M_waverers_12 rfl ?_
    refine PJ.iconst (pc := 13) (v := 1) d_M_waverers_13 (by decide) ?_
    refine PJ.cVI (pc := 14) cs_M_52 (fun z hz => PM_M_refused hz) (pj_fitb rfl) rfl rfl (Nat.le_of_ble_eq_true rfl) d_M_waverers_14 (fun v6 => ?_)
    exact PJ.iret (pc := 17) d_M_waverers_17 rfl (Nat.le_of_ble_eq_true rfl) (Nat.le_of_ble_eq_true rfl)
theorem d_M_holding_0 : decode Y_M_holding.2.1 0 = .ok (.iconst 0, 1) := by decide +kernel
theorem d_M_holding_1 : decode Y_M_holding.2.1 1 = .ok (.istore_n 2, 1) := by decide +kernel
theorem d_M_holding_2 : decode Y_M_holding.2.1 2 = .ok (.iconst 0, 1) := by decide +kernel
theorem d_M_holding_3 : decode Y_M_holding.2.1 3 = .ok (.istore_n 3, 1) := by decide +kernel
theorem d_M_holding_4 : decode Y_M_holding.2.1 4 = .ok (.iload_n 3, 1) := by decide +kernel
theorem d_M_holding_5 : decode Y_M_holding.2.1 5 = .ok (.aload_n 0, 1) := by decide +kernel
theorem d_M_holding_6 : decode Y_M_holding.2.1 6 = .ok (.getfield 341, 3) := by decide +kernel
theorem d_M_holding_9 : decode Y_M_holding.2.1 9 = .ok (.getfield 255, 3) := by decide +kernel
theorem d_M_holding_12 : decode Y_M_holding.2.1 12 = .ok (.if_icmp .ge 31, 3) := by decide +kernel
theorem d_M_holding_15 : decode Y_M_holding.2.1 15 = .ok (.iload_n 2, 1) := by decide +kernel
theorem d_M_holding_16 : decode Y_M_holding.2.1 16 = .ok (.aload_n 0, 1) := by decide +kernel
theorem d_M_holding_17 : decode Y_M_holding.2.1 17 = .ok (.getfield 17, 3) := by decide +kernel
theorem d_M_holding_20 : decode Y_M_holding.2.1 20 = .ok (.iconst 0, 1) := by decide +kernel
theorem d_M_holding_21 : decode Y_M_holding.2.1 21 = .ok (.iload_n 3, 1) := by decide +kernel
theorem d_M_holding_22 : decode Y_M_holding.2.1 22 = .ok (.iadd, 1) := by decide +kernel
theorem d_M_holding_23 : decode Y_M_holding.2.1 23 = .ok (.iaload, 1) := by decide +kernel
theorem d_M_holding_24 : decode Y_M_holding.2.1 24 = .ok (.iload_n 1, 1) := by decide +kernel
theorem d_M_holding_25 : decode Y_M_holding.2.1 25 = .ok (.if_icmp .ne 9, 3) := by decide +kernel
theorem d_M_holding_28 : decode Y_M_holding.2.1 28 = .ok (.iconst 1, 1) := by decide +kernel
theorem d_M_holding_29 : decode Y_M_holding.2.1 29 = .ok (.iload_n 3, 1) := by decide +kernel
theorem d_M_holding_30 : decode Y_M_holding.2.1 30 = .ok (.ishl, 1) := by decide +kernel
theorem d_M_holding_31 : decode Y_M_holding.2.1 31 = .ok (.goto 4, 3) := by decide +kernel
theorem d_M_holding_34 : decode Y_M_holding.2.1 34 = .ok (.iconst 0, 1) := by decide +kernel
theorem d_M_holding_35 : decode Y_M_holding.2.1 35 = .ok (.ior, 1) := by decide +kernel
theorem d_M_holding_36 : decode Y_M_holding.2.1 36 = .ok (.istore_n 2, 1) := by decide +kernel
theorem d_M_holding_37 : decode Y_M_holding.2.1 37 = .ok (.iinc 3 1, 3) := by decide +kernel
theorem d_M_holding_40 : decode Y_M_holding.2.1 40 = .ok (.goto (-36), 3) := by decide +kernel
theorem d_M_holding_43 : decode Y_M_holding.2.1 43 = .ok (.iload_n 2, 1) := by decide +kernel
theorem d_M_holding_44 : decode Y_M_holding.2.1 44 = .ok (.ireturn, 1) := by decide +kernel
def f_M_holding (h : PH) (a0 : Option Nat) (a1 : Int32) : Option Int32 := (pj_it (X := Int32) (fun s1 : Int32 × Int32 => (gR h 12 a0 3).bind fun v3 => (gI h 11 v3 3).bind fun v4 => if v4 ≤ s1.2 then (some (.inr s1.1)) else ((gR h 12 a0 15).bind fun v5 => (aI h v5 ((0 : Int32) + s1.2)).bind fun v6 => (if ¬ v6 = a1 then (some (0 : Int32)) else (some ((1 : Int32) <<< (s1.2 &&& 31))) : Option (Int32)).bind fun j7 => some (.inl ((s1.1 ||| j7), (s1.2 + (1 : Int32)))))) FU ((0 : Int32), (0 : Int32))).bind fun x2 => some x2
set_option maxRecDepth 20000 in
theorem PM_M_holding {l : Launch} {G : Cx} {h : PH} {a0 : Option Nat} {a1 : Int32} {z : Int32} (hz : f_M_holding h a0 a1 = some z) : PM l G 1 0 0 Y_M_holding [.inr (.inr a0), .inl a1] h (some (.inl z), h) := by
  refine PM.of (Y := Y_M_holding) (cv := (fun z : Int32 => (((some (.inl z), h) : Option PV × PH)))) (by decide) (L0 := [some (.inr (.inr a0)), some (.inl a1), none, none]) 2 rfl (Nat.le_of_ble_eq_true rfl) ?_ hz
  unfold f_M_holding
  refine PJ.iconst (pc := 0) (v := 0) d_M_holding_0 (by decide) ?_
  refine PJ.istore_n (pc := 1) (L1 := [some (.inr (.inr a0)), some (.inl a1), some (.inl (0 : Int32)), none]) d_M_holding_1 (Nat.le_of_ble_eq_true rfl) rfl rfl ?_
  refine PJ.iconst (pc := 2) (v := 0) d_M_holding_2 (by decide) ?_
  refine PJ.istore_n (pc := 3) (L1 := [some (.inr (.inr a0)), some (.inl a1), some (.inl (0 : Int32)), some (.inl (0 : Int32))]) d_M_holding_3 (Nat.le_of_ble_eq_true rfl) rfl rfl ?_
  refine PJ.bind (fun x2 : Int32 => ((43 : Nat), ([none, none, some (.inl x2), none] : List (Option PV)), ([] : List PV), (h : PH), (0 : Nat), (0 : Nat))) (PJ.it (E := (fun s1 : Int32 × Int32 => ((4 : Nat), ([some (.inr (.inr a0)), some (.inl a1), some (.inl s1.1), some (.inl s1.2)] : List (Option PV)), ([] : List PV), (h : PH), (0 : Nat), (0 : Nat)))) (F := (fun x2 : Int32 => ((43 : Nat), ([none, none, some (.inl x2), none] : List (Option PV)), ([] : List PV), (h : PH), (0 : Nat), (0 : Nat)))) (fun s1 => ?_) FU ((0 : Int32), (0 : Int32))) (fun x2 => ?_)
  · show PJ l G (pj_rm 1 0 0) Y_M_holding 4 [some (.inr (.inr a0)), some (.inl a1), some (.inl s1.1), some (.inl s1.2)] [] h 0 0 _ _
    refine PJ.iload_n (pc := 4) d_M_holding_4 rfl ?_
    refine PJ.aload_n (pc := 5) d_M_holding_5 rfl ?_
    refine PJ.getR (pc := 6) fs_M_341 d_M_holding_6 (fun v3 => ?_)
    refine PJ.getI (pc := 9) fs_M_255 d_M_holding_9 (fun v4 => ?_)
    refine PJ.icmp_ge (pc := 12) (tgt := 43) d_M_holding_12 (by decide) (fun _ => ?_) (fun _ => ?_)
    · refine PJ.mk (L1 := [none, none, some (.inl s1.1), none]) [false, false, true, false] rfl ?_
      exact PJ.done rfl
    · refine PJ.iload_n (pc := 15) d_M_holding_15 rfl ?_
      refine PJ.aload_n (pc := 16) d_M_holding_16 rfl ?_
      refine PJ.getR (pc := 17) fs_M_17 d_M_holding_17 (fun v5 => ?_)
      refine PJ.iconst (pc := 20) (v := 0) d_M_holding_20 (by decide) ?_
      refine PJ.iload_n (pc := 21) d_M_holding_21 rfl ?_
      refine PJ.iadd (pc := 22) d_M_holding_22 ?_
      refine PJ.iald (pc := 23) d_M_holding_23 (fun v6 => ?_)
      refine PJ.iload_n (pc := 24) d_M_holding_24 rfl ?_
      refine PJ.bind (fun j7 : Int32 => ((35 : Nat), ([some (.inr (.inr a0)), some (.inl a1), none, some (.inl s1.2)] : List (Option PV)), ([.inl j7, .inl s1.1] : List PV), (h : PH), (0 : Nat), (0 : Nat))) ?_ (fun j7 => ?_)
      · refine PJ.icmp_ne (pc := 25) (tgt := 34) d_M_holding_25 (by decide) (fun _ => ?_) (fun _ => ?_)
        · refine PJ.iconst (pc := 34) (v := 0) d_M_holding_34 (by decide) ?_
          refine PJ.mk (L1 := [some (.inr (.inr a0)), some (.inl a1), none, some (.inl s1.2)]) [true, true, false, true] rfl ?_
          exact PJ.done rfl
        · refine PJ.iconst (pc := 28) (v := 1) d_M_holding_28 (by decide) ?_
          refine PJ.iload_n (pc := 29) d_M_holding_29 rfl ?_
          refine PJ.ishl (pc := 30) d_M_holding_30 ?_
          refine PJ.goto (pc := 31) (tgt := 35) d_M_holding_31 (by decide) ?_
          refine PJ.mk (L1 := [some (.inr (.inr a0)), some (.inl a1), none, some (.inl s1.2)]) [true, true, false, true] rfl ?_
          exact PJ.done rfl
      · show PJ l G (pj_rm 1 0 0) Y_M_holding 35 [some (.inr (.inr a0)), some (.inl a1), none, some (.inl s1.2)] [.inl j7, .inl s1.1] h 0 0 _ _
        refine PJ.ior (pc := 35) d_M_holding_35 ?_
        refine PJ.istore_n (pc := 36) (L1 := [some (.inr (.inr a0)), some (.inl a1), some (.inl (s1.1 ||| j7)), some (.inl s1.2)]) d_M_holding_36 (Nat.le_of_ble_eq_true rfl) rfl rfl ?_
        refine PJ.iinc (pc := 37) (v := 1) (L1 := [some (.inr (.inr a0)), some (.inl a1), some (.inl (s1.1 ||| j7)), some (.inl (s1.2 + (1 : Int32)))]) d_M_holding_37 rfl (by decide) (Nat.le_of_ble_eq_true rfl) rfl rfl ?_
        refine PJ.goto (pc := 40) (tgt := 4) d_M_holding_40 (by decide) ?_
        exact PJ.done rfl
  · show PJ l G (pj_rm 1 0 0) Y_M_holding 43 [none, none, some (.inl x2), none] [] h 0 0 _ _
    refine PJ.iload_n (pc := 43) d_M_holding_43 rfl ?_
    exact PJ.iretp (pc := 44) d_M_holding_44 rfl (Nat.le_of_ble_eq_true rfl) (Nat.le_of_ble_eq_true rfl)
theorem d_M_holders_0 : decode Y_M_holders.2.1 0 = .ok (.aload_n 0, 1) := by decide +kernel
theorem d_M_holders_1 : decode Y_M_holders.2.1 1 = .ok (.iconst 0, 1) := by decide +kernel
theorem d_M_holders_2 : decode Y_M_holders.2.1 2 = .ok (.putfield 46, 3) := by decide +kernel
theorem d_M_holders_5 : decode Y_M_holders.2.1 5 = .ok (.aload_n 0, 1) := by decide +kernel
theorem d_M_holders_6 : decode Y_M_holders.2.1 6 = .ok (.iload_n 1, 1) := by decide +kernel
theorem d_M_holders_7 : decode Y_M_holders.2.1 7 = .ok (.invokevirtual 372, 3) := by decide +kernel
theorem d_M_holders_10 : decode Y_M_holders.2.1 10 = .ok (.ifCond .eq 15, 3) := by decide +kernel
theorem d_M_holders_13 : decode Y_M_holders.2.1 13 = .ok (.aload_n 0, 1) := by decide +kernel
theorem d_M_holders_14 : decode Y_M_holders.2.1 14 = .ok (.aload_n 0, 1) := by decide +kernel
theorem d_M_holders_15 : decode Y_M_holders.2.1 15 = .ok (.iload_n 1, 1) := by decide +kernel
theorem d_M_holders_16 : decode Y_M_holders.2.1 16 = .ok (.invokevirtual 385, 3) := by decide +kernel
theorem d_M_holders_19 : decode Y_M_holders.2.1 19 = .ok (.invokevirtual 58, 3) := by decide +kernel
theorem d_M_holders_22 : decode Y_M_holders.2.1 22 = .ok (.goto 8, 3) := by decide +kernel
theorem d_M_holders_25 : decode Y_M_holders.2.1 25 = .ok (.aload_n 0, 1) := by decide +kernel
theorem d_M_holders_26 : decode Y_M_holders.2.1 26 = .ok (.iconst 1, 1) := by decide +kernel
theorem d_M_holders_27 : decode Y_M_holders.2.1 27 = .ok (.invokevirtual 52, 3) := by decide +kernel
theorem d_M_holders_30 : decode Y_M_holders.2.1 30 = .ok (.ireturn, 1) := by decide +kernel
def f_M_holders (h : PH) (a0 : Option Nat) (a1 : Int32) : Option (Int32 × PH) := (sF h 12 a0 0 (.inl (0 : Int32))).bind fun h1 => (cl h1 12 a0 (f_M_isChoice h1 a0 a1)).bind fun v2 => if v2 = 0 then ((cl h1 12 a0 (f_M_refused h1 a0 (1 : Int32))).bind fun v3 => some (v3.1, v3.2)) else ((cl h1 12 a0 (f_M_holding h1 a0 a1)).bind fun v4 => (cl h1 12 a0 (f_M_good h1 a0 v4)).bind fun v5 => some (v5.1, v5.2))
set_option maxRecDepth 20000 in
theorem PM_M_holders {l : Launch} {G : Cx} {h : PH} {a0 : Option Nat} {a1 : Int32} {z : (Int32 × PH)} (hz : f_M_holders h a0 a1 = some z) : PM l G 2 0 0 Y_M_holders [.inr (.inr a0), .inl a1] h (some (.inl z.1), z.2) := by
  refine PM.of (Y := Y_M_holders) (cv := (fun z : (Int32 × PH) => (((some (.inl z.1), z.2) : Option PV × PH)))) (by decide) (L0 := [some (.inr (.inr a0)), some (.inl a1)]) 0 rfl (Nat.le_of_ble_eq_true rfl) ?_ hz
  unfold f_M_holders
  refine PJ.aload_n (pc := 0) d_M_holders_0 rfl ?_
  refine PJ.iconst (pc := 1) (v := 0) d_M_holders_1 (by decide) ?_
  refine PJ.putI (pc := 2) ps_M_46 d_M_holders_2 (fun h1 => ?_)
  refine PJ.aload_n (pc := 5) d_M_holders_5 rfl ?_
  refine PJ.iload_n (pc := 6) d_M_holders_6 rfl ?_
  refine PJ.cVpI (pc := 7) cs_M_372 (fun z hz => PM_M_isChoice hz) (pj_fitb rfl) rfl rfl (Nat.le_of_ble_eq_true rfl) d_M_holders_7 (fun v2 => ?_)
  refine PJ.if_eq (pc := 10) (tgt := 25) d_M_holders_10 (by decide) (fun _ => ?_) (fun _ => ?_)
  · refine PJ.aload_n (pc := 25) d_M_holders_25 rfl ?_
    refine PJ.iconst (pc := 26) (v := 1) d_M_holders_26 (by decide) ?_
    refine PJ.cVI (pc := 27) cs_M_52 (fun z hz => PM_M_refused hz) (pj_fitb rfl) rfl rfl (Nat.le_of_ble_eq_true rfl) d_M_holders_27 (fun v3 => ?_)
    exact PJ.iret (pc := 30) d_M_holders_30 rfl (Nat.le_of_ble_eq_true rfl) (Nat.le_of_ble_eq_true rfl)
  · refine PJ.aload_n (pc := 13) d_M_holders_13 rfl ?_
    refine PJ.aload_n (pc := 14) d_M_holders_14 rfl ?_
    refine PJ.iload_n (pc := 15) d_M_holders_15 rfl ?_
    refine PJ.cVpI (pc := 16) cs_M_385 (fun z hz => PM_M_holding hz) (pj_fitb rfl) rfl rfl (Nat.le_of_ble_eq_true rfl) d_M_holders_16 (fun v4 => ?_)
    refine PJ.cVI (pc := 19) cs_M_58 (fun z hz => PM_M_good hz) (pj_fitb rfl) rfl rfl (Nat.le_of_ble_eq_true rfl) d_M_holders_19 (fun v5 => ?_)
    refine PJ.goto (pc := 22) (tgt := 30) d_M_holders_22 (by decide) ?_
    exact PJ.iret (pc := 30) d_M_holders_30 rfl (Nat.le_of_ble_eq_true rfl) (Nat.le_of_ble_eq_true rfl)
theorem d_M_bits_0 : decode Y_M_bits.2.1 0 = .ok (.iconst 0, 1) := by decide +kernel
theorem d_M_bits_1 : decode Y_M_bits.2.1 1 = .ok (.istore_n 1, 1) := by decide +kernel
theorem d_M_bits_2 : decode Y_M_bits.2.1 2 = .ok (.iload_n 0, 1) := by decide +kernel
theorem d_M_bits_3 : decode Y_M_bits.2.1 3 = .ok (.istore_n 2, 1) := by decide +kernel
theorem d_M_bits_4 : decode Y_M_bits.2.1 4 = .ok (.iload_n 2, 1) := by decide +kernel
theorem d_M_bits_5 : decode Y_M_bits.2.1 5 = .ok (.ifCond .eq 15, 3) := by decide +kernel
theorem d_M_bits_8 : decode Y_M_bits.2.1 8 = .ok (.iinc 1 1, 3) := by decide +kernel
theorem d_M_bits_11 : decode Y_M_bits.2.1 11 = .ok (.iload_n 2, 1) := by decide +kernel
theorem d_M_bits_12 : decode Y_M_bits.2.1 12 = .ok (.iload_n 2, 1) := by decide +kernel
theorem d_M_bits_13 : decode Y_M_bits.2.1 13 = .ok (.iconst 1, 1) := by decide +kernel
theorem d_M_bits_14 : decode Y_M_bits.2.1 14 = .ok (.isub, 1) := by decide +kernel
theorem d_M_bits_15 : decode Y_M_bits.2.1 15 = .ok (.iand, 1) := by decide +kernel
theorem d_M_bits_16 : decode Y_M_bits.2.1 16 = .ok (.istore_n 2, 1) := by decide +kernel
theorem d_M_bits_17 : decode Y_M_bits.2.1 17 = .ok (.goto (-13), 3) := by decide +kernel
theorem d_M_bits_20 : decode Y_M_bits.2.1 20 = .ok (.iload_n 1, 1) := by decide +kernel
theorem d_M_bits_21 : decode Y_M_bits.2.1 21 = .ok (.ireturn, 1) := by decide +kernel
def f_M_bits (h : PH) (a0 : Int32) : Option Int32 := (pj_it (X := Int32) (fun s1 : Int32 × Int32 => if s1.2 = 0 then (some (.inr s1.1)) else (some (.inl ((s1.1 + (1 : Int32)), (s1.2 &&& (s1.2 - (1 : Int32))))))) FU ((0 : Int32), a0)).bind fun x2 => some x2
set_option maxRecDepth 20000 in
theorem PM_M_bits {l : Launch} {G : Cx} {h : PH} {a0 : Int32} {z : Int32} (hz : f_M_bits h a0 = some z) : PM l G 1 0 0 Y_M_bits [.inl a0] h (some (.inl z), h) := by
  refine PM.of (Y := Y_M_bits) (cv := (fun z : Int32 => (((some (.inl z), h) : Option PV × PH)))) (by decide) (L0 := [some (.inl a0), none, none]) 2 rfl (Nat.le_of_ble_eq_true rfl) ?_ hz
  unfold f_M_bits
  refine PJ.iconst (pc := 0) (v := 0) d_M_bits_0 (by decide) ?_
  refine PJ.istore_n (pc := 1) (L1 := [some (.inl a0), some (.inl (0 : Int32)), none]) d_M_bits_1 (Nat.le_of_ble_eq_true rfl) rfl rfl ?_
  refine PJ.iload_n (pc := 2) d_M_bits_2 rfl ?_
  refine PJ.istore_n (pc := 3) (L1 := [some (.inl a0), some (.inl (0 : Int32)), some (.inl a0)]) d_M_bits_3 (Nat.le_of_ble_eq_true rfl) rfl rfl ?_
  refine PJ.mk (L1 := [none, some (.inl (0 : Int32)), some (.inl a0)]) [false, true, true] rfl ?_
  refine PJ.bind (fun x2 : Int32 => ((20 : Nat), ([none, some (.inl x2), none] : List (Option PV)), ([] : List PV), (h : PH), (0 : Nat), (0 : Nat))) (PJ.it (E := (fun s1 : Int32 × Int32 => ((4 : Nat), ([none, some (.inl s1.1), some (.inl s1.2)] : List (Option PV)), ([] : List PV), (h : PH), (0 : Nat), (0 : Nat)))) (F := (fun x2 : Int32 => ((20 : Nat), ([none, some (.inl x2), none] : List (Option PV)), ([] : List PV), (h : PH), (0 : Nat), (0 : Nat)))) (fun s1 => ?_) FU ((0 : Int32), a0)) (fun x2 => ?_)
  · show PJ l G (pj_rm 1 0 0) Y_M_bits 4 [none, some (.inl s1.1), some (.inl s1.2)] [] h 0 0 _ _
    refine PJ.iload_n (pc := 4) d_M_bits_4 rfl ?_
    refine PJ.if_eq (pc := 5) (tgt := 20) d_M_bits_5 (by decide) (fun _ => ?_) (fun _ => ?_)
    · refine PJ.mk (L1 := [none, some (.inl s1.1), none]) [false, true, false] rfl ?_
      exact PJ.done rfl
    · refine PJ.iinc (pc := 8) (v := 1) (L1 := [none, some (.inl (s1.1 + (1 : Int32))), some (.inl s1.2)]) d_M_bits_8 rfl (by decide) (Nat.le_of_ble_eq_true rfl) rfl rfl ?_
      refine PJ.iload_n (pc := 11) d_M_bits_11 rfl ?_
      refine PJ.iload_n (pc := 12) d_M_bits_12 rfl ?_
      refine PJ.iconst (pc := 13) (v := 1) d_M_bits_13 (by decide) ?_
      refine PJ.isub (pc := 14) d_M_bits_14 ?_
      refine PJ.iand (pc := 15) d_M_bits_15 ?_
      refine PJ.istore_n (pc := 16) (L1 := [none, some (.inl (s1.1 + (1 : Int32))), some (.inl (s1.2 &&& (s1.2 - (1 : Int32))))]) d_M_bits_16 (Nat.le_of_ble_eq_true rfl) rfl rfl ?_
      refine PJ.goto (pc := 17) (tgt := 4) d_M_bits_17 (by decide) ?_
      exact PJ.done rfl
  · show PJ l G (pj_rm 1 0 0) Y_M_bits 20 [none, some (.inl x2), none] [] h 0 0 _ _
    refine PJ.iload_n (pc := 20) d_M_bits_20 rfl ?_
    exact PJ.iretp (pc := 21) d_M_bits_21 rfl (Nat.le_of_ble_eq_true rfl) (Nat.le_of_ble_eq_true rfl)
theorem d_M_fashion_0 : decode Y_M_fashion.2.1 0 = .ok (.aload_n 0, 1) := by decide +kernel
theorem d_M_fashion_1 : decode Y_M_fashion.2.1 1 = .ok (.iconst 0, 1) := by decide +kernel
theorem d_M_fashion_2 : decode Y_M_fashion.2.1 2 = .ok (.putfield 46, 3) := by decide +kernel
theorem d_M_fashion_5 : decode Y_M_fashion.2.1 5 = .ok (.aload_n 0, 1) := by decide +kernel
theorem d_M_fashion_6 : decode Y_M_fashion.2.1 6 = .ok (.getfield 341, 3) := by decide +kernel
theorem d_M_fashion_9 : decode Y_M_fashion.2.1 9 = .ok (.ifnonnull 9, 3) := by decide +kernel
theorem d_M_fashion_12 : decode Y_M_fashion.2.1 12 = .ok (.aload_n 0, 1) := by decide +kernel
theorem d_M_fashion_13 : decode Y_M_fashion.2.1 13 = .ok (.iconst 1, 1) := by decide +kernel
theorem d_M_fashion_14 : decode Y_M_fashion.2.1 14 = .ok (.invokevirtual 52, 3) := by decide +kernel
theorem d_M_fashion_17 : decode Y_M_fashion.2.1 17 = .ok (.ireturn, 1) := by decide +kernel
theorem d_M_fashion_18 : decode Y_M_fashion.2.1 18 = .ok (.iconst 0, 1) := by decide +kernel
theorem d_M_fashion_19 : decode Y_M_fashion.2.1 19 = .ok (.istore_n 1, 1) := by decide +kernel
theorem d_M_fashion_20 : decode Y_M_fashion.2.1 20 = .ok (.iconst 1, 1) := by decide +kernel
theorem d_M_fashion_21 : decode Y_M_fashion.2.1 21 = .ok (.istore_n 2, 1) := by decide +kernel
theorem d_M_fashion_22 : decode Y_M_fashion.2.1 22 = .ok (.iload_n 2, 1) := by decide +kernel
theorem d_M_fashion_23 : decode Y_M_fashion.2.1 23 = .ok (.aload_n 0, 1) := by decide +kernel
theorem d_M_fashion_24 : decode Y_M_fashion.2.1 24 = .ok (.getfield 341, 3) := by decide +kernel
theorem d_M_fashion_27 : decode Y_M_fashion.2.1 27 = .ok (.getfield 198, 3) := by decide +kernel
theorem d_M_fashion_30 : decode Y_M_fashion.2.1 30 = .ok (.if_icmp .ge 30, 3) := by decide +kernel
theorem d_M_fashion_33 : decode Y_M_fashion.2.1 33 = .ok (.aload_n 0, 1) := by decide +kernel
theorem d_M_fashion_34 : decode Y_M_fashion.2.1 34 = .ok (.iload_n 2, 1) := by decide +kernel
theorem d_M_fashion_35 : decode Y_M_fashion.2.1 35 = .ok (.invokevirtual 385, 3) := by decide +kernel
theorem d_M_fashion_38 : decode Y_M_fashion.2.1 38 = .ok (.invokestatic 388, 3) := by decide +kernel
theorem d_M_fashion_41 : decode Y_M_fashion.2.1 41 = .ok (.aload_n 0, 1) := by decide +kernel
theorem d_M_fashion_42 : decode Y_M_fashion.2.1 42 = .ok (.iload_n 1, 1) := by decide +kernel
theorem d_M_fashion_43 : decode Y_M_fashion.2.1 43 = .ok (.invokevirtual 385, 3) := by decide +kernel
theorem d_M_fashion_46 : decode Y_M_fashion.2.1 46 = .ok (.invokestatic 388, 3) := by decide +kernel
theorem d_M_fashion_49 : decode Y_M_fashion.2.1 49 = .ok (.if_icmp .le 5, 3) := by decide +kernel
theorem d_M_fashion_52 : decode Y_M_fashion.2.1 52 = .ok (.iload_n 2, 1) := by decide +kernel
theorem d_M_fashion_53 : decode Y_M_fashion.2.1 53 = .ok (.istore_n 1, 1) := by decide +kernel
theorem d_M_fashion_54 : decode Y_M_fashion.2.1 54 = .ok (.iinc 2 1, 3) := by decide +kernel
theorem d_M_fashion_57 : decode Y_M_fashion.2.1 57 = .ok (.goto (-35), 3) := by decide +kernel
theorem d_M_fashion_60 : decode Y_M_fashion.2.1 60 = .ok (.aload_n 0, 1) := by decide +kernel
theorem d_M_fashion_61 : decode Y_M_fashion.2.1 61 = .ok (.iload_n 1, 1) := by decide +kernel
theorem d_M_fashion_62 : decode Y_M_fashion.2.1 62 = .ok (.invokevirtual 58, 3) := by decide +kernel
theorem d_M_fashion_65 : decode Y_M_fashion.2.1 65 = .ok (.ireturn, 1) := by decide +kernel
def f_M_fashion (h : PH) (a0 : Option Nat) : Option (Int32 × PH) := (sF h 12 a0 0 (.inl (0 : Int32))).bind fun h1 => (gR h1 12 a0 3).bind fun v2 => if v2 = none then ((cl h1 12 a0 (f_M_refused h1 a0 (1 : Int32))).bind fun v12 => some (v12.1, v12.2)) else ((pj_it (X := Int32) (fun s3 : Int32 × Int32 => (gR h1 12 a0 3).bind fun v5 => (gI h1 11 v5 2).bind fun v6 => if v6 ≤ s3.2 then (some (.inr s3.1)) else ((cl h1 12 a0 (f_M_holding h1 a0 s3.2)).bind fun v7 => (f_M_bits h1 v7).bind fun v8 => (cl h1 12 a0 (f_M_holding h1 a0 s3.1)).bind fun v9 => (f_M_bits h1 v9).bind fun v10 => if v8 ≤ v10 then (some (.inl (s3.1, (s3.2 + (1 : Int32))))) else (some (.inl (s3.2, (s3.2 + (1 : Int32))))))) FU ((0 : Int32), (1 : Int32))).bind fun x4 => (cl h1 12 a0 (f_M_good h1 a0 x4)).bind fun v11 => some (v11.1, v11.2))
set_option maxRecDepth 20000 in
theorem PM_M_fashion {l : Launch} {G : Cx} {h : PH} {a0 : Option Nat} {z : (Int32 × PH)} (hz : f_M_fashion h a0 = some z) : PM l G 2 0 0 Y_M_fashion [.inr (.inr a0)] h (some (.inl z.1), z.2) := by
  refine PM.of (Y := Y_M_fashion) (cv := (fun z : (Int32 × PH) => (((some (.inl z.1), z.2) : Option PV × PH)))) (by decide) (L0 := [some (.inr (.inr a0)), none, none]) 2 rfl (Nat.le_of_ble_eq_true rfl) ?_ hz
  unfold f_M_fashion
  refine PJ.aload_n (pc := 0) d_M_fashion_0 rfl ?_
  refine PJ.iconst (pc := 1) (v := 0) d_M_fashion_1 (by decide) ?_
  refine PJ.putI (pc := 2) ps_M_46 d_M_fashion_2 (fun h1 => ?_)
  refine PJ.aload_n (pc := 5) d_M_fashion_5 rfl ?_
  refine PJ.getR (pc := 6) fs_M_341 d_M_fashion_6 (fun v2 => ?_)
  refine PJ.ifnonnull (pc := 9) (tgt := 18) d_M_fashion_9 (by decide) (fun _ => ?_) (fun _ => ?_)
  · refine PJ.iconst (pc := 18) (v := 0) d_M_fashion_18 (by decide) ?_
    refine PJ.istore_n (pc := 19) (L1 := [some (.inr (.inr a0)), some (.inl (0 : Int32)), none]) d_M_fashion_19 (Nat.le_of_ble_eq_true rfl) rfl rfl ?_
    refine PJ.iconst (pc := 20) (v := 1) d_M_fashion_20 (by decide) ?_
    refine PJ.istore_n (pc := 21) (L1 := [some (.inr (.inr a0)), some (.inl (0 : Int32)), some (.inl (1 : Int32))]) d_M_fashion_21 (Nat.le_of_ble_eq_true rfl) rfl rfl ?_
    refine PJ.bind (fun x4 : Int32 => ((60 : Nat), ([some (.inr (.inr a0)), some (.inl x4), none] : List (Option PV)), ([] : List PV), (h1 : PH), (0 : Nat), (0 : Nat))) (PJ.it (E := (fun s3 : Int32 × Int32 => ((22 : Nat), ([some (.inr (.inr a0)), some (.inl s3.1), some (.inl s3.2)] : List (Option PV)), ([] : List PV), (h1 : PH), (0 : Nat), (0 : Nat)))) (F := (fun x4 : Int32 => ((60 : Nat), ([some (.inr (.inr a0)), some (.inl x4), none] : List (Option PV)), ([] : List PV), (h1 : PH), (0 : Nat), (0 : Nat)))) (fun s3 => ?_) FU ((0 : Int32), (1 : Int32))) (fun x4 => ?_)
    · show PJ l G (pj_rm 2 0 0) Y_M_fashion 22 [some (.inr (.inr a0)), some (.inl s3.1), some (.inl s3.2)] [] h1 0 0 _ _
      refine PJ.iload_n (pc := 22) d_M_fashion_22 rfl ?_
      refine PJ.aload_n (pc := 23) d_M_fashion_23 rfl ?_
      refine PJ.getR (pc := 24) fs_M_341 d_M_fashion_24 (fun v5 => ?_)
      refine PJ.getI (pc := 27) fs_M_198 d_M_fashion_27 (fun v6 => ?_)
      refine PJ.icmp_ge (pc := 30) (tgt := 60) d_M_fashion_30 (by decide) (fun _ => ?_) (fun _ => ?_)
      · refine PJ.mk (L1 := [some (.inr (.inr a0)), some (.inl s3.1), none]) [true, true, false] rfl ?_
        exact PJ.done rfl
      · refine PJ.aload_n (pc := 33) d_M_fashion_33 rfl ?_
        refine PJ.iload_n (pc := 34) d_M_fashion_34 rfl ?_
        refine PJ.cVpI (pc := 35) cs_M_385 (fun z hz => PM_M_holding hz) (pj_fitb rfl) rfl rfl (Nat.le_of_ble_eq_true rfl) d_M_fashion_35 (fun v7 => ?_)
        refine PJ.cSpI (pc := 38) cs_M_388 (fun z hz => PM_M_bits hz) (pj_fitb rfl) rfl rfl (Nat.le_of_ble_eq_true rfl) d_M_fashion_38 (fun v8 => ?_)
        refine PJ.aload_n (pc := 41) d_M_fashion_41 rfl ?_
        refine PJ.iload_n (pc := 42) d_M_fashion_42 rfl ?_
        refine PJ.cVpI (pc := 43) cs_M_385 (fun z hz => PM_M_holding hz) (pj_fitb rfl) rfl rfl (Nat.le_of_ble_eq_true rfl) d_M_fashion_43 (fun v9 => ?_)
        refine PJ.cSpI (pc := 46) cs_M_388 (fun z hz => PM_M_bits hz) (pj_fitb rfl) rfl rfl (Nat.le_of_ble_eq_true rfl) d_M_fashion_46 (fun v10 => ?_)
        refine PJ.icmp_le (pc := 49) (tgt := 54) d_M_fashion_49 (by decide) (fun _ => ?_) (fun _ => ?_)
        · refine PJ.iinc (pc := 54) (v := 1) (L1 := [some (.inr (.inr a0)), some (.inl s3.1), some (.inl (s3.2 + (1 : Int32)))]) d_M_fashion_54 rfl (by decide) (Nat.le_of_ble_eq_true rfl) rfl rfl ?_
          refine PJ.goto (pc := 57) (tgt := 22) d_M_fashion_57 (by decide) ?_
          exact PJ.done rfl
        · refine PJ.iload_n (pc := 52) d_M_fashion_52 rfl ?_
          refine PJ.istore_n (pc := 53) (L1 := [some (.inr (.inr a0)), some (.inl s3.2), some (.inl s3.2)]) d_M_fashion_53 (Nat.le_of_ble_eq_true rfl) rfl rfl ?_
          refine PJ.iinc (pc := 54) (v := 1) (L1 := [some (.inr (.inr a0)), some (.inl s3.2), some (.inl (s3.2 + (1 : Int32)))]) d_M_fashion_54 rfl (by decide) (Nat.le_of_ble_eq_true rfl) rfl rfl ?_
          refine PJ.goto (pc := 57) (tgt := 22) d_M_fashion_57 (by decide) ?_
          exact PJ.done rfl
    · show PJ l G (pj_rm 2 0 0) Y_M_fashion 60 [some (.inr (.inr a0)), some (.inl x4), none] [] h1 0 0 _ _
      refine PJ.aload_n (pc := 60) d_M_fashion_60 rfl ?_
      refine PJ.iload_n (pc := 61) d_M_fashion_61 rfl ?_
      refine PJ.cVI (pc := 62) cs_M_58 (fun z hz => PM_M_good hz) (pj_fitb rfl) rfl rfl (Nat.le_of_ble_eq_true rfl) d_M_fashion_62 (fun v11 => ?_)
      exact PJ.iret (pc := 65) d_M_fashion_65 rfl (Nat.le_of_ble_eq_true rfl) (Nat.le_of_ble_eq_true rfl)
  · refine PJ.aload_n (pc := 12) d_M_fashion_12 rfl ?_
    refine PJ.iconst (pc := 13) (v := 1) d_M_fashion_13 (by decide) ?_
    refine PJ.cVI (pc := 14) cs_M_52 (fun z hz => PM_M_refused hz) (pj_fitb rfl) rfl rfl (Nat.le_of_ble_eq_true rfl) d_M_fashion_14 (fun v12 => ?_)
    exact PJ.iret (pc := 17) d_M_fashion_17 rfl (Nat.le_of_ble_eq_true rfl) (Nat.le_of_ble_eq_true rfl)
theorem d_M_came_0 : decode Y_M_came.2.1 0 = .ok (.aload_n 0, 1) := by decide +kernel
theorem d_M_came_1 : decode Y_M_came.2.1 1 = .ok (.iconst 0, 1) := by decide +kernel
theorem d_M_came_2 : decode Y_M_came.2.1 2 = .ok (.putfield 46, 3) := by decide +kernel
theorem d_M_came_5 : decode Y_M_came.2.1 5 = .ok (.aload_n 0, 1) := by decide +kernel
theorem d_M_came_6 : decode Y_M_came.2.1 6 = .ok (.getfield 341, 3) := by decide +kernel
theorem d_M_came_9 : decode Y_M_came.2.1 9 = .ok (.ifnull 18, 3) := by decide +kernel
theorem d_M_came_12 : decode Y_M_came.2.1 12 = .ok (.iload_n 1, 1) := by decide +kernel
theorem d_M_came_13 : decode Y_M_came.2.1 13 = .ok (.ifCond .lt 14, 3) := by decide +kernel
theorem d_M_came_16 : decode Y_M_came.2.1 16 = .ok (.iload_n 1, 1) := by decide +kernel
theorem d_M_came_17 : decode Y_M_came.2.1 17 = .ok (.aload_n 0, 1) := by decide +kernel
theorem d_M_came_18 : decode Y_M_came.2.1 18 = .ok (.getfield 341, 3) := by decide +kernel
theorem d_M_came_21 : decode Y_M_came.2.1 21 = .ok (.getfield 280, 3) := by decide +kernel
theorem d_M_came_24 : decode Y_M_came.2.1 24 = .ok (.if_icmp .lt 9, 3) := by decide +kernel
theorem d_M_came_27 : decode Y_M_came.2.1 27 = .ok (.aload_n 0, 1) := by decide +kernel
theorem d_M_came_28 : decode Y_M_came.2.1 28 = .ok (.iconst 1, 1) := by decide +kernel
theorem d_M_came_29 : decode Y_M_came.2.1 29 = .ok (.invokevirtual 52, 3) := by decide +kernel
theorem d_M_came_32 : decode Y_M_came.2.1 32 = .ok (.ireturn, 1) := by decide +kernel
theorem d_M_came_33 : decode Y_M_came.2.1 33 = .ok (.aload_n 0, 1) := by decide +kernel
theorem d_M_came_34 : decode Y_M_came.2.1 34 = .ok (.aload_n 0, 1) := by decide +kernel
theorem d_M_came_35 : decode Y_M_came.2.1 35 = .ok (.getfield 17, 3) := by decide +kernel
theorem d_M_came_38 : decode Y_M_came.2.1 38 = .ok (.bipush 20, 2) := by decide +kernel
theorem d_M_came_40 : decode Y_M_came.2.1 40 = .ok (.iaload, 1) := by decide +kernel
theorem d_M_came_41 : decode Y_M_came.2.1 41 = .ok (.iload_n 1, 1) := by decide +kernel
theorem d_M_came_42 : decode Y_M_came.2.1 42 = .ok (.invokestatic 330, 3) := by decide +kernel
theorem d_M_came_45 : decode Y_M_came.2.1 45 = .ok (.ifCond .eq 7, 3) := by decide +kernel
theorem d_M_came_48 : decode Y_M_came.2.1 48 = .ok (.iconst 1, 1) := by decide +kernel
theorem d_M_came_49 : decode Y_M_came.2.1 49 = .ok (.goto 4, 3) := by decide +kernel
theorem d_M_came_52 : decode Y_M_came.2.1 52 = .ok (.iconst 0, 1) := by decide +kernel
theorem d_M_came_53 : decode Y_M_came.2.1 53 = .ok (.invokevirtual 58, 3) := by decide +kernel
theorem d_M_came_56 : decode Y_M_came.2.1 56 = .ok (.ireturn, 1) := by decide +kernel
def f_M_came (h : PH) (a0 : Option Nat) (a1 : Int32) : Option (Int32 × PH) := (sF h 12 a0 0 (.inl (0 : Int32))).bind fun h1 => (gR h1 12 a0 3).bind fun v2 => if v2 = none then ((cl h1 12 a0 (f_M_refused h1 a0 (1 : Int32))).bind fun v3 => some (v3.1, v3.2)) else (if a1 < 0 then ((cl h1 12 a0 (f_M_refused h1 a0 (1 : Int32))).bind fun v4 => some (v4.1, v4.2)) else ((gR h1 12 a0 3).bind fun v5 => (gI h1 11 v5 5).bind fun v6 => if a1 < v6 then ((gR h1 12 a0 15).bind fun v7 => (aI h1 v7 (20 : Int32)).bind fun v8 => (f_M_bit h1 v8 a1).bind fun v9 => (if v9 = 0 then (some (0 : Int32)) else (some (1 : Int32)) : Option (Int32)).bind fun j10 => (cl h1 12 a0 (f_M_good h1 a0 j10)).bind fun v11 => some (v11.1, v11.2)) else ((cl h1 12 a0 (f_M_refused h1 a0 (1 : Int32))).bind fun v12 => some (v12.1, v12.2))))
set_option maxRecDepth 20000 in
theorem PM_M_came {l : Launch} {G : Cx} {h : PH} {a0 : Option Nat} {a1 : Int32} {z : (Int32 × PH)} (hz : f_M_came h a0 a1 = some z) : PM l G 2 0 0 Y_M_came [.inr (.inr a0), .inl a1] h (some (.inl z.1), z.2) := by
  refine PM.of (Y := Y_M_came) (cv := (fun z : (Int32 × PH) => (((some (.inl z.1), z.2) : Option PV × PH)))) (by decide) (L0 := [some (.inr (.inr a0)), some (.inl a1)]) 0 rfl (Nat.le_of_ble_eq_true rfl) ?_ hz
  unfold f_M_came
  refine PJ.aload_n (pc := 0) d_M_came_0 rfl ?_
  refine PJ.iconst (pc := 1) (v := 0) d_M_came_1 (by decide) ?_
  refine PJ.putI (pc := 2) ps_M_46 d_M_came_2 (fun h1 => ?_)
  refine PJ.aload_n (pc := 5) d_M_came_5 rfl ?_
  refine PJ.getR (pc := 6) fs_M_341 d_M_came_6 (fun v2 => ?_)
  refine PJ.ifnull (pc := 9) (tgt := 27) d_M_came_9 (by decide) (fun _ => ?_) (fun _ => ?_)
  · refine PJ.aload_n (pc := 27) d_M_came_27 rfl ?_
    refine PJ.iconst (pc := 28) (v := 1) d_M_came_28 (by decide) ?_
    refine PJ.cVI (pc := 29) cs_M_52 (fun z hz => PM_M_refused hz) (pj_fitb rfl) rfl rfl (Nat.le_of_ble_eq_true rfl) d_M_came_29 (fun v3 => ?_)
    exact PJ.iret (pc := 32) d_M_came_32 rfl (Nat.le_of_ble_eq_true rfl) (Nat.le_of_ble_eq_true rfl)
  · refine PJ.iload_n (pc := 12) d_M_came_12 rfl ?_
    refine PJ.if_lt (pc := 13) (tgt := 27) d_M_came_13 (by decide) (fun _ => ?_) (fun _ => ?_)
    · refine PJ.aload_n (pc := 27) d_M_came_27 rfl ?_
      refine PJ.iconst (pc := 28) (v := 1) d_M_came_28 (by decide) ?_
      refine PJ.cVI (pc := 29) cs_M_52 (fun z hz => PM_M_refused hz) (pj_fitb rfl) rfl rfl (Nat.le_of_ble_eq_true rfl) d_M_came_29 (fun v4 => ?_)
      exact PJ.iret (pc := 32) d_M_came_32 rfl (Nat.le_of_ble_eq_true rfl) (Nat.le_of_ble_eq_true rfl)
    · refine PJ.iload_n (pc := 16) d_M_came_16 rfl ?_
      refine PJ.aload_n (pc := 17) d_M_came_17 rfl ?_
      refine PJ.getR (pc := 18) fs_M_341 d_M_came_18 (fun v5 => ?_)
      refine PJ.getI (pc := 21) fs_M_280 d_M_came_21 (fun v6 => ?_)
      refine PJ.icmp_lt (pc := 24) (tgt := 33) d_M_came_24 (by decide) (fun _ => ?_) (fun _ => ?_)
      · refine PJ.aload_n (pc := 33) d_M_came_33 rfl ?_
        refine PJ.aload_n (pc := 34) d_M_came_34 rfl ?_
        refine PJ.getR (pc := 35) fs_M_17 d_M_came_35 (fun v7 => ?_)
        refine PJ.bipush (pc := 38) (v := 20) d_M_came_38 (by decide) ?_
        refine PJ.iald (pc := 40) d_M_came_40 (fun v8 => ?_)
        refine PJ.iload_n (pc := 41) d_M_came_41 rfl ?_
        refine PJ.cSpI (pc := 42) cs_M_330 (fun z hz => PM_M_bit hz) (pj_fitb rfl) rfl rfl (Nat.le_of_ble_eq_true rfl) d_M_came_42 (fun v9 => ?_)
        refine PJ.bind (fun j10 : Int32 => ((53 : Nat), ([none, none] : List (Option PV)), ([.inl j10, .inr (.inr a0)] : List PV), (h1 : PH), (0 : Nat), (0 : Nat))) ?_ (fun j10 => ?_)
        · refine PJ.if_eq (pc := 45) (tgt := 52) d_M_came_45 (by decide) (fun _ => ?_) (fun _ => ?_)
          · refine PJ.iconst (pc := 52) (v := 0) d_M_came_52 (by decide) ?_
            refine PJ.mk (L1 := [none, none]) [false, false] rfl ?_
            exact PJ.done rfl
          · refine PJ.iconst (pc := 48) (v := 1) d_M_came_48 (by decide) ?_
            refine PJ.goto (pc := 49) (tgt := 53) d_M_came_49 (by decide) ?_
            refine PJ.mk (L1 := [none, none]) [false, false] rfl ?_
            exact PJ.done rfl
        · show PJ l G (pj_rm 2 0 0) Y_M_came 53 [none, none] [.inl j10, .inr (.inr a0)] h1 0 0 _ _
          refine PJ.cVI (pc := 53) cs_M_58 (fun z hz => PM_M_good hz) (pj_fitb rfl) rfl rfl (Nat.le_of_ble_eq_true rfl) d_M_came_53 (fun v11 => ?_)
          exact PJ.iret (pc := 56) d_M_came_56 rfl (Nat.le_of_ble_eq_true rfl) (Nat.le_of_ble_eq_true rfl)
      · refine PJ.aload_n (pc := 27) d_M_came_27 rfl ?_
        refine PJ.iconst (pc := 28) (v := 1) d_M_came_28 (by decide) ?_
        refine PJ.cVI (pc := 29) cs_M_52 (fun z hz => PM_M_refused hz) (pj_fitb rfl) rfl rfl (Nat.le_of_ble_eq_true rfl) d_M_came_29 (fun v12 => ?_)
        exact PJ.iret (pc := 32) d_M_came_32 rfl (Nat.le_of_ble_eq_true rfl) (Nat.le_of_ble_eq_true rfl)
theorem d_M_paid_0 : decode Y_M_paid.2.1 0 = .ok (.aload_n 0, 1) := by decide +kernel
theorem d_M_paid_1 : decode Y_M_paid.2.1 1 = .ok (.iconst 0, 1) := by decide +kernel
theorem d_M_paid_2 : decode Y_M_paid.2.1 2 = .ok (.putfield 46, 3) := by decide +kernel
theorem d_M_paid_5 : decode Y_M_paid.2.1 5 = .ok (.aload_n 0, 1) := by decide +kernel
theorem d_M_paid_6 : decode Y_M_paid.2.1 6 = .ok (.getfield 341, 3) := by decide +kernel
theorem d_M_paid_9 : decode Y_M_paid.2.1 9 = .ok (.ifnonnull 9, 3) := by decide +kernel
theorem d_M_paid_12 : decode Y_M_paid.2.1 12 = .ok (.aload_n 0, 1) := by decide +kernel
theorem d_M_paid_13 : decode Y_M_paid.2.1 13 = .ok (.iconst 1, 1) := by decide +kernel
theorem d_M_paid_14 : decode Y_M_paid.2.1 14 = .ok (.invokevirtual 52, 3) := by decide +kernel
theorem d_M_paid_17 : decode Y_M_paid.2.1 17 = .ok (.ireturn, 1) := by decide +kernel
theorem d_M_paid_18 : decode Y_M_paid.2.1 18 = .ok (.iconst 0, 1) := by decide +kernel
theorem d_M_paid_19 : decode Y_M_paid.2.1 19 = .ok (.istore_n 1, 1) := by decide +kernel
theorem d_M_paid_20 : decode Y_M_paid.2.1 20 = .ok (.iconst 0, 1) := by decide +kernel
theorem d_M_paid_21 : decode Y_M_paid.2.1 21 = .ok (.istore_n 2, 1) := by decide +kernel
theorem d_M_paid_22 : decode Y_M_paid.2.1 22 = .ok (.iload_n 2, 1) := by decide +kernel
theorem d_M_paid_23 : decode Y_M_paid.2.1 23 = .ok (.aload_n 0, 1) := by decide +kernel
theorem d_M_paid_24 : decode Y_M_paid.2.1 24 = .ok (.getfield 341, 3) := by decide +kernel
theorem d_M_paid_27 : decode Y_M_paid.2.1 27 = .ok (.getfield 255, 3) := by decide +kernel
theorem d_M_paid_30 : decode Y_M_paid.2.1 30 = .ok (.if_icmp .ge 21, 3) := by decide +kernel
theorem d_M_paid_33 : decode Y_M_paid.2.1 33 = .ok (.iload_n 1, 1) := by decide +kernel
theorem d_M_paid_34 : decode Y_M_paid.2.1 34 = .ok (.aload_n 0, 1) := by decide +kernel
theorem d_M_paid_35 : decode Y_M_paid.2.1 35 = .ok (.getfield 17, 3) := by decide +kernel
theorem d_M_paid_38 : decode Y_M_paid.2.1 38 = .ok (.bipush 10, 2) := by decide +kernel
theorem d_M_paid_40 : decode Y_M_paid.2.1 40 = .ok (.iload_n 2, 1) := by decide +kernel
theorem d_M_paid_41 : decode Y_M_paid.2.1 41 = .ok (.iadd, 1) := by decide +kernel
theorem d_M_paid_42 : decode Y_M_paid.2.1 42 = .ok (.iaload, 1) := by decide +kernel
theorem d_M_paid_43 : decode Y_M_paid.2.1 43 = .ok (.iadd, 1) := by decide +kernel
theorem d_M_paid_44 : decode Y_M_paid.2.1 44 = .ok (.istore_n 1, 1) := by decide +kernel
theorem d_M_paid_45 : decode Y_M_paid.2.1 45 = .ok (.iinc 2 1, 3) := by decide +kernel
theorem d_M_paid_48 : decode Y_M_paid.2.1 48 = .ok (.goto (-26), 3) := by decide +kernel
theorem d_M_paid_51 : decode Y_M_paid.2.1 51 = .ok (.aload_n 0, 1) := by decide +kernel
theorem d_M_paid_52 : decode Y_M_paid.2.1 52 = .ok (.iload_n 1, 1) := by decide +kernel
theorem d_M_paid_53 : decode Y_M_paid.2.1 53 = .ok (.invokevirtual 58, 3) := by decide +kernel
theorem d_M_paid_56 : decode Y_M_paid.2.1 56 = .ok (.ireturn, 1) := by decide +kernel
def f_M_paid (h : PH) (a0 : Option Nat) : Option (Int32 × PH) := (sF h 12 a0 0 (.inl (0 : Int32))).bind fun h1 => (gR h1 12 a0 3).bind fun v2 => if v2 = none then ((cl h1 12 a0 (f_M_refused h1 a0 (1 : Int32))).bind fun v10 => some (v10.1, v10.2)) else ((pj_it (X := Int32) (fun s3 : Int32 × Int32 => (gR h1 12 a0 3).bind fun v5 => (gI h1 11 v5 3).bind fun v6 => if v6 ≤ s3.2 then (some (.inr s3.1)) else ((gR h1 12 a0 15).bind fun v7 => (aI h1 v7 ((10 : Int32) + s3.2)).bind fun v8 => some (.inl ((s3.1 + v8), (s3.2 + (1 : Int32)))))) FU ((0 : Int32), (0 : Int32))).bind fun x4 => (cl h1 12 a0 (f_M_good h1 a0 x4)).bind fun v9 => some (v9.1, v9.2))
set_option maxRecDepth 20000 in
theorem PM_M_paid {l : Launch} {G : Cx} {h : PH} {a0 : Option Nat} {z : (Int32 × PH)} (hz : f_M_paid h a0 = some z) : PM l G 2 0 0 Y_M_paid [.inr (.inr a0)] h (some (.inl z.1), z.2) := by
  refine PM.of (Y := Y_M_paid) (cv := (fun z : (Int32 × PH) => (((some (.inl z.1), z.2) : Option PV × PH)))) (by decide) (L0 := [some (.inr (.inr a0)), none, none]) 2 rfl (Nat.le_of_ble_eq_true rfl) ?_ hz
  unfold f_M_paid
  refine PJ.aload_n (pc := 0) d_M_paid_0 rfl ?_
  refine PJ.iconst (pc := 1) (v := 0) d_M_paid_1 (by decide) ?_
  refine PJ.putI (pc := 2) ps_M_46 d_M_paid_2 (fun h1 => ?_)
  refine PJ.aload_n (pc := 5) d_M_paid_5 rfl ?_
  refine PJ.getR (pc := 6) fs_M_341 d_M_paid_6 (fun v2 => ?_)
  refine PJ.ifnonnull (pc := 9) (tgt := 18) d_M_paid_9 (by decide) (fun _ => ?_) (fun _ => ?_)
  · refine PJ.iconst (pc := 18) (v := 0) d_M_paid_18 (by decide) ?_
    refine PJ.istore_n (pc := 19) (L1 := [some (.inr (.inr a0)), some (.inl (0 : Int32)), none]) d_M_paid_19 (Nat.le_of_ble_eq_true rfl) rfl rfl ?_
    refine PJ.iconst (pc := 20) (v := 0) d_M_paid_20 (by decide) ?_
    refine PJ.istore_n (pc := 21) (L1 := [some (.inr (.inr a0)), some (.inl (0 : Int32)), some (.inl (0 : Int32))]) d_M_paid_21 (Nat.le_of_ble_eq_true rfl) rfl rfl ?_
    refine PJ.bind (fun x4 : Int32 => ((51 : Nat), ([some (.inr (.inr a0)), some (.inl x4), none] : List (Option PV)), ([] : List PV), (h1 : PH), (0 : Nat), (0 : Nat))) (PJ.it (E := (fun s3 : Int32 × Int32 => ((22 : Nat), ([some (.inr (.inr a0)), some (.inl s3.1), some (.inl s3.2)] : List (Option PV)), ([] : List PV), (h1 : PH), (0 : Nat), (0 : Nat)))) (F := (fun x4 : Int32 => ((51 : Nat), ([some (.inr (.inr a0)), some (.inl x4), none] : List (Option PV)), ([] : List PV), (h1 : PH), (0 : Nat), (0 : Nat)))) (fun s3 => ?_) FU ((0 : Int32), (0 : Int32))) (fun x4 => ?_)
    · show PJ l G (pj_rm 2 0 0) Y_M_paid 22 [some (.inr (.inr a0)), some (.inl s3.1), some (.inl s3.2)] [] h1 0 0 _ _
      refine PJ.iload_n (pc := 22) d_M_paid_22 rfl ?_
      refine PJ.aload_n (pc := 23) d_M_paid_23 rfl ?_
      refine PJ.getR (pc := 24) fs_M_341 d_M_paid_24 (fun v5 => ?_)
      refine PJ.getI (pc := 27) fs_M_255 d_M_paid_27 (fun v6 => ?_)
      refine PJ.icmp_ge (pc := 30) (tgt := 51) d_M_paid_30 (by decide) (fun _ => ?_) (fun _ => ?_)
      · refine PJ.mk (L1 := [some (.inr (.inr a0)), some (.inl s3.1), none]) [true, true, false] rfl ?_
        exact PJ.done rfl
      · refine PJ.iload_n (pc := 33) d_M_paid_33 rfl ?_
        refine PJ.aload_n (pc := 34) d_M_paid_34 rfl ?_
        refine PJ.getR (pc := 35) fs_M_17 d_M_paid_35 (fun v7 => ?_)
        refine PJ.bipush (pc := 38) (v := 10) d_M_paid_38 (by decide) ?_
        refine PJ.iload_n (pc := 40) d_M_paid_40 rfl ?_
        refine PJ.iadd (pc := 41) d_M_paid_41 ?_
        refine PJ.iald (pc := 42) d_M_paid_42 (fun v8 => ?_)
        refine PJ.iadd (pc := 43) d_M_paid_43 ?_
        refine PJ.istore_n (pc := 44) (L1 := [some (.inr (.inr a0)), some (.inl (s3.1 + v8)), some (.inl s3.2)]) d_M_paid_44 (Nat.le_of_ble_eq_true rfl) rfl rfl ?_
        refine PJ.iinc (pc := 45) (v := 1) (L1 := [some (.inr (.inr a0)), some (.inl (s3.1 + v8)), some (.inl (s3.2 + (1 : Int32)))]) d_M_paid_45 rfl (by decide) (Nat.le_of_ble_eq_true rfl) rfl rfl ?_
        refine PJ.goto (pc := 48) (tgt := 22) d_M_paid_48 (by decide) ?_
        exact PJ.done rfl
    · show PJ l G (pj_rm 2 0 0) Y_M_paid 51 [some (.inr (.inr a0)), some (.inl x4), none] [] h1 0 0 _ _
      refine PJ.aload_n (pc := 51) d_M_paid_51 rfl ?_
      refine PJ.iload_n (pc := 52) d_M_paid_52 rfl ?_
      refine PJ.cVI (pc := 53) cs_M_58 (fun z hz => PM_M_good hz) (pj_fitb rfl) rfl rfl (Nat.le_of_ble_eq_true rfl) d_M_paid_53 (fun v9 => ?_)
      exact PJ.iret (pc := 56) d_M_paid_56 rfl (Nat.le_of_ble_eq_true rfl) (Nat.le_of_ble_eq_true rfl)
  · refine PJ.aload_n (pc := 12) d_M_paid_12 rfl ?_
    refine PJ.iconst (pc := 13) (v := 1) d_M_paid_13 (by decide) ?_
    refine PJ.cVI (pc := 14) cs_M_52 (fun z hz => PM_M_refused hz) (pj_fitb rfl) rfl rfl (Nat.le_of_ble_eq_true rfl) d_M_paid_14 (fun v10 => ?_)
    exact PJ.iret (pc := 17) d_M_paid_17 rfl (Nat.le_of_ble_eq_true rfl) (Nat.le_of_ble_eq_true rfl)
theorem d_M_farthest_0 : decode Y_M_farthest.2.1 0 = .ok (.aload_n 0, 1) := by decide +kernel
theorem d_M_farthest_1 : decode Y_M_farthest.2.1 1 = .ok (.iconst 0, 1) := by decide +kernel
theorem d_M_farthest_2 : decode Y_M_farthest.2.1 2 = .ok (.putfield 46, 3) := by decide +kernel
theorem d_M_farthest_5 : decode Y_M_farthest.2.1 5 = .ok (.aload_n 0, 1) := by decide +kernel
theorem d_M_farthest_6 : decode Y_M_farthest.2.1 6 = .ok (.getfield 341, 3) := by decide +kernel
theorem d_M_farthest_9 : decode Y_M_farthest.2.1 9 = .ok (.ifnonnull 9, 3) := by decide +kernel
theorem d_M_farthest_12 : decode Y_M_farthest.2.1 12 = .ok (.aload_n 0, 1) := by decide +kernel
theorem d_M_farthest_13 : decode Y_M_farthest.2.1 13 = .ok (.iconst 1, 1) := by decide +kernel
theorem d_M_farthest_14 : decode Y_M_farthest.2.1 14 = .ok (.invokevirtual 52, 3) := by decide +kernel
theorem d_M_farthest_17 : decode Y_M_farthest.2.1 17 = .ok (.ireturn, 1) := by decide +kernel
theorem d_M_farthest_18 : decode Y_M_farthest.2.1 18 = .ok (.bipush (-2), 2) := by decide +kernel
theorem d_M_farthest_20 : decode Y_M_farthest.2.1 20 = .ok (.istore_n 1, 1) := by decide +kernel
theorem d_M_farthest_21 : decode Y_M_farthest.2.1 21 = .ok (.iconst 0, 1) := by decide +kernel
theorem d_M_farthest_22 : decode Y_M_farthest.2.1 22 = .ok (.istore_n 2, 1) := by decide +kernel
theorem d_M_farthest_23 : decode Y_M_farthest.2.1 23 = .ok (.iconst 0, 1) := by decide +kernel
theorem d_M_farthest_24 : decode Y_M_farthest.2.1 24 = .ok (.istore_n 3, 1) := by decide +kernel
theorem d_M_farthest_25 : decode Y_M_farthest.2.1 25 = .ok (.iload_n 3, 1) := by decide +kernel
theorem d_M_farthest_26 : decode Y_M_farthest.2.1 26 = .ok (.aload_n 0, 1) := by decide +kernel
theorem d_M_farthest_27 : decode Y_M_farthest.2.1 27 = .ok (.getfield 341, 3) := by decide +kernel
theorem d_M_farthest_30 : decode Y_M_farthest.2.1 30 = .ok (.getfield 198, 3) := by decide +kernel
theorem d_M_farthest_33 : decode Y_M_farthest.2.1 33 = .ok (.if_icmp .ge 68, 3) := by decide +kernel
theorem d_M_farthest_36 : decode Y_M_farthest.2.1 36 = .ok (.iload_n 3, 1) := by decide +kernel
theorem d_M_farthest_37 : decode Y_M_farthest.2.1 37 = .ok (.iconst 1, 1) := by decide +kernel
theorem d_M_farthest_38 : decode Y_M_farthest.2.1 38 = .ok (.iadd, 1) := by decide +kernel
theorem d_M_farthest_39 : decode Y_M_farthest.2.1 39 = .ok (.istore 4, 2) := by decide +kernel
theorem d_M_farthest_41 : decode Y_M_farthest.2.1 41 = .ok (.iload 4, 2) := by decide +kernel
theorem d_M_farthest_43 : decode Y_M_farthest.2.1 43 = .ok (.aload_n 0, 1) := by decide +kernel
theorem d_M_farthest_44 : decode Y_M_farthest.2.1 44 = .ok (.getfield 341, 3) := by decide +kernel
theorem d_M_farthest_47 : decode Y_M_farthest.2.1 47 = .ok (.getfield 198, 3) := by decide +kernel
theorem d_M_farthest_50 : decode Y_M_farthest.2.1 50 = .ok (.if_icmp .ge 45, 3) := by decide +kernel
theorem d_M_farthest_53 : decode Y_M_farthest.2.1 53 = .ok (.aload_n 0, 1) := by decide +kernel
theorem d_M_farthest_54 : decode Y_M_farthest.2.1 54 = .ok (.getfield 341, 3) := by decide +kernel
theorem d_M_farthest_57 : decode Y_M_farthest.2.1 57 = .ok (.iload_n 3, 1) := by decide +kernel
theorem d_M_farthest_58 : decode Y_M_farthest.2.1 58 = .ok (.iload 4, 2) := by decide +kernel
theorem d_M_farthest_60 : decode Y_M_farthest.2.1 60 = .ok (.invokevirtual 353, 3) := by decide +kernel
theorem d_M_farthest_63 : decode Y_M_farthest.2.1 63 = .ok (.iload_n 2, 1) := by decide +kernel
theorem d_M_farthest_64 : decode Y_M_farthest.2.1 64 = .ok (.if_icmp .gt 6, 3) := by decide +kernel
theorem d_M_farthest_67 : decode Y_M_farthest.2.1 67 = .ok (.goto 22, 3) := by decide +kernel
theorem d_M_farthest_70 : decode Y_M_farthest.2.1 70 = .ok (.aload_n 0, 1) := by decide +kernel
theorem d_M_farthest_71 : decode Y_M_farthest.2.1 71 = .ok (.getfield 341, 3) := by decide +kernel
theorem d_M_farthest_74 : decode Y_M_farthest.2.1 74 = .ok (.iload_n 3, 1) := by decide +kernel
theorem d_M_farthest_75 : decode Y_M_farthest.2.1 75 = .ok (.iload 4, 2) := by decide +kernel
theorem d_M_farthest_77 : decode Y_M_farthest.2.1 77 = .ok (.invokevirtual 353, 3) := by decide +kernel
theorem d_M_farthest_80 : decode Y_M_farthest.2.1 80 = .ok (.istore_n 2, 1) := by decide +kernel
theorem d_M_farthest_81 : decode Y_M_farthest.2.1 81 = .ok (.bipush 10, 2) := by decide +kernel
theorem d_M_farthest_83 : decode Y_M_farthest.2.1 83 = .ok (.iload_n 3, 1) := by decide +kernel
theorem d_M_farthest_84 : decode Y_M_farthest.2.1 84 = .ok (.imul, 1) := by decide +kernel
theorem d_M_farthest_85 : decode Y_M_farthest.2.1 85 = .ok (.iload 4, 2) := by decide +kernel
theorem d_M_farthest_87 : decode Y_M_farthest.2.1 87 = .ok (.iadd, 1) := by decide +kernel
theorem d_M_farthest_88 : decode Y_M_farthest.2.1 88 = .ok (.istore_n 1, 1) := by decide +kernel
theorem d_M_farthest_89 : decode Y_M_farthest.2.1 89 = .ok (.iinc 4 1, 3) := by decide +kernel
theorem d_M_farthest_92 : decode Y_M_farthest.2.1 92 = .ok (.goto (-51), 3) := by decide +kernel
theorem d_M_farthest_95 : decode Y_M_farthest.2.1 95 = .ok (.iinc 3 1, 3) := by decide +kernel
theorem d_M_farthest_98 : decode Y_M_farthest.2.1 98 = .ok (.goto (-73), 3) := by decide +kernel
theorem d_M_farthest_101 : decode Y_M_farthest.2.1 101 = .ok (.aload_n 0, 1) := by decide +kernel
theorem d_M_farthest_102 : decode Y_M_farthest.2.1 102 = .ok (.iload_n 1, 1) := by decide +kernel
theorem d_M_farthest_103 : decode Y_M_farthest.2.1 103 = .ok (.invokevirtual 58, 3) := by decide +kernel
theorem d_M_farthest_106 : decode Y_M_farthest.2.1 106 = .ok (.ireturn, 1) := by decide +kernel
def f_M_farthest (h : PH) (a0 : Option Nat) : Option (Int32 × PH) := (sF h 12 a0 0 (.inl (0 : Int32))).bind fun h1 => (gR h1 12 a0 3).bind fun v2 => if v2 = none then ((cl h1 12 a0 (f_M_refused h1 a0 (1 : Int32))).bind fun v16 => some (v16.1, v16.2)) else ((pj_it (X := Int32) (fun s3 : Int32 × Int32 × Int32 => (gR h1 12 a0 3).bind fun v5 => (gI h1 11 v5 2).bind fun v6 => if v6 ≤ s3.2.2 then (some (.inr s3.1)) else ((pj_it (X := Int32 × Int32) (fun s7 : Int32 × Int32 × Int32 => (gR h1 12 a0 3).bind fun v9 => (gI h1 11 v9 2).bind fun v10 => if v10 ≤ s7.2.2 then (some (.inr (s7.1, s7.2.1))) else ((gR h1 12 a0 3).bind fun v11 => (cl h1 11 v11 (f_ML_far h1 v11 s3.2.2 s7.2.2)).bind fun v12 => if s7.2.1 < v12 then ((gR h1 12 a0 3).bind fun v13 => (cl h1 11 v13 (f_ML_far h1 v13 s3.2.2 s7.2.2)).bind fun v14 => some (.inl ((((10 : Int32) * s3.2.2) + s7.2.2), v14, (s7.2.2 + (1 : Int32))))) else (some (.inl (s7.1, s7.2.1, (s7.2.2 + (1 : Int32))))))) FU (s3.1, s3.2.1, (s3.2.2 + (1 : Int32)))).bind fun x8 => some (.inl (x8.1, x8.2, (s3.2.2 + (1 : Int32)))))) FU ((-2 : Int32), (0 : Int32), (0 : Int32))).bind fun x4 => (cl h1 12 a0 (f_M_good h1 a0 x4)).bind fun v15 => some (v15.1, v15.2))
set_option maxRecDepth 20000 in
theorem PM_M_farthest {l : Launch} {G : Cx} {h : PH} {a0 : Option Nat} {z : (Int32 × PH)} (hz : f_M_farthest h a0 = some z) : PM l G 2 0 0 Y_M_farthest [.inr (.inr a0)] h (some (.inl z.1), z.2) := by
  refine PM.of (Y := Y_M_farthest) (cv := (fun z : (Int32 × PH) => (((some (.inl z.1), z.2) : Option PV × PH)))) (by decide) (L0 := [some (.inr (.inr a0)), none, none, none, none]) 4 rfl (Nat.le_of_ble_eq_true rfl) ?_ hz
  unfold f_M_farthest
  refine PJ.aload_n (pc := 0) d_M_farthest_0 rfl ?_
  refine PJ.iconst (pc := 1) (v := 0) d_M_farthest_1 (by decide) ?_
  refine PJ.putI (pc := 2) ps_M_46 d_M_farthest_2 (fun h1 => ?_)
  refine PJ.aload_n (pc := 5) d_M_farthest_5 rfl ?_
  refine PJ.getR (pc := 6) fs_M_341 d_M_farthest_6 (fun v2 => ?_)
  refine PJ.ifnonnull (pc := 9) (tgt := 18) d_M_farthest_9 (by decide) (fun _ => ?_) (fun _ => ?_)
  · refine PJ.bipush (pc := 18) (v := -2) d_M_farthest_18 (by decide) ?_
    refine PJ.istore_n (pc := 20) (L1 := [some (.inr (.inr a0)), some (.inl (-2 : Int32)), none, none, none]) d_M_farthest_20 (Nat.le_of_ble_eq_true rfl) rfl rfl ?_
    refine PJ.iconst (pc := 21) (v := 0) d_M_farthest_21 (by decide) ?_
    refine PJ.istore_n (pc := 22) (L1 := [some (.inr (.inr a0)), some (.inl (-2 : Int32)), some (.inl (0 : Int32)), none, none]) d_M_farthest_22 (Nat.le_of_ble_eq_true rfl) rfl rfl ?_
    refine PJ.iconst (pc := 23) (v := 0) d_M_farthest_23 (by decide) ?_
    refine PJ.istore_n (pc := 24) (L1 := [some (.inr (.inr a0)), some (.inl (-2 : Int32)), some (.inl (0 : Int32)), some (.inl (0 : Int32)), none]) d_M_farthest_24 (Nat.le_of_ble_eq_true rfl) rfl rfl ?_
    refine PJ.bind (fun x4 : Int32 => ((101 : Nat), ([some (.inr (.inr a0)), some (.inl x4), none, none, none] : List (Option PV)), ([] : List PV), (h1 : PH), (0 : Nat), (0 : Nat))) (PJ.it (E := (fun s3 : Int32 × Int32 × Int32 => ((25 : Nat), ([some (.inr (.inr a0)), some (.inl s3.1), some (.inl s3.2.1), some (.inl s3.2.2), none] : List (Option PV)), ([] : List PV), (h1 : PH), (0 : Nat), (0 : Nat)))) (F := (fun x4 : Int32 => ((101 : Nat), ([some (.inr (.inr a0)), some (.inl x4), none, none, none] : List (Option PV)), ([] : List PV), (h1 : PH), (0 : Nat), (0 : Nat)))) (fun s3 => ?_) FU ((-2 : Int32), (0 : Int32), (0 : Int32))) (fun x4 => ?_)
    · show PJ l G (pj_rm 2 0 0) Y_M_farthest 25 [some (.inr (.inr a0)), some (.inl s3.1), some (.inl s3.2.1), some (.inl s3.2.2), none] [] h1 0 0 _ _
      refine PJ.iload_n (pc := 25) d_M_farthest_25 rfl ?_
      refine PJ.aload_n (pc := 26) d_M_farthest_26 rfl ?_
      refine PJ.getR (pc := 27) fs_M_341 d_M_farthest_27 (fun v5 => ?_)
      refine PJ.getI (pc := 30) fs_M_198 d_M_farthest_30 (fun v6 => ?_)
      refine PJ.icmp_ge (pc := 33) (tgt := 101) d_M_farthest_33 (by decide) (fun _ => ?_) (fun _ => ?_)
      · refine PJ.mk (L1 := [some (.inr (.inr a0)), some (.inl s3.1), none, none, none]) [true, true, false, false, false] rfl ?_
        exact PJ.done rfl
      · refine PJ.iload_n (pc := 36) d_M_farthest_36 rfl ?_
        refine PJ.iconst (pc := 37) (v := 1) d_M_farthest_37 (by decide) ?_
        refine PJ.iadd (pc := 38) d_M_farthest_38 ?_
        refine PJ.istore (pc := 39) (L1 := [some (.inr (.inr a0)), some (.inl s3.1), some (.inl s3.2.1), some (.inl s3.2.2), some (.inl (s3.2.2 + (1 : Int32)))]) d_M_farthest_39 (Nat.le_of_ble_eq_true rfl) rfl rfl ?_
        refine PJ.bind (fun x8 : Int32 × Int32 => ((95 : Nat), ([some (.inr (.inr a0)), some (.inl x8.1), some (.inl x8.2), some (.inl s3.2.2), none] : List (Option PV)), ([] : List PV), (h1 : PH), (0 : Nat), (0 : Nat))) (PJ.it (E := (fun s7 : Int32 × Int32 × Int32 => ((41 : Nat), ([some (.inr (.inr a0)), some (.inl s7.1), some (.inl s7.2.1), some (.inl s3.2.2), some (.inl s7.2.2)] : List (Option PV)), ([] : List PV), (h1 : PH), (0 : Nat), (0 : Nat)))) (F := (fun x8 : Int32 × Int32 => ((95 : Nat), ([some (.inr (.inr a0)), some (.inl x8.1), some (.inl x8.2), some (.inl s3.2.2), none] : List (Option PV)), ([] : List PV), (h1 : PH), (0 : Nat), (0 : Nat)))) (fun s7 => ?_) FU (s3.1, s3.2.1, (s3.2.2 + (1 : Int32)))) (fun x8 => ?_)
        · show PJ l G (pj_rm 2 0 0) Y_M_farthest 41 [some (.inr (.inr a0)), some (.inl s7.1), some (.inl s7.2.1), some (.inl s3.2.2), some (.inl s7.2.2)] [] h1 0 0 _ _
          refine PJ.iload (pc := 41) d_M_farthest_41 rfl ?_
          refine PJ.aload_n (pc := 43) d_M_farthest_43 rfl ?_
          refine PJ.getR (pc := 44) fs_M_341 d_M_farthest_44 (fun v9 => ?_)
          refine PJ.getI (pc := 47) fs_M_198 d_M_farthest_47 (fun v10 => ?_)
          refine PJ.icmp_ge (pc := 50) (tgt := 95) d_M_farthest_50 (by decide) (fun _ => ?_) (fun _ => ?_)
          · refine PJ.mk (L1 := [some (.inr (.inr a0)), some (.inl s7.1), some (.inl s7.2.1), some (.inl s3.2.2), none]) [true, true, true, true, false] rfl ?_
            exact PJ.done rfl
          · refine PJ.aload_n (pc := 53) d_M_farthest_53 rfl ?_
            refine PJ.getR (pc := 54) fs_M_341 d_M_farthest_54 (fun v11 => ?_)
            refine PJ.iload_n (pc := 57) d_M_farthest_57 rfl ?_
            refine PJ.iload (pc := 58) d_M_farthest_58 rfl ?_
            refine PJ.cVpI (pc := 60) cs_M_353 (fun z hz => PM_ML_far hz) (pj_fitb rfl) rfl rfl (Nat.le_of_ble_eq_true rfl) d_M_farthest_60 (fun v12 => ?_)
            refine PJ.iload_n (pc := 63) d_M_farthest_63 rfl ?_
            refine PJ.icmp_gt (pc := 64) (tgt := 70) d_M_farthest_64 (by decide) (fun _ => ?_) (fun _ => ?_)
            · refine PJ.aload_n (pc := 70) d_M_farthest_70 rfl ?_
              refine PJ.getR (pc := 71) fs_M_341 d_M_farthest_71 (fun v13 => ?_)
              refine PJ.iload_n (pc := 74) d_M_farthest_74 rfl ?_
              refine PJ.iload (pc := 75) d_M_farthest_75 rfl ?_
              refine PJ.cVpI (pc := 77) cs_M_353 (fun z hz => PM_ML_far hz) (pj_fitb rfl) rfl rfl (Nat.le_of_ble_eq_true rfl) d_M_farthest_77 (fun v14 => ?_)
              refine PJ.istore_n (pc := 80) (L1 := [some (.inr (.inr a0)), some (.inl s7.1), some (.inl v14), some (.inl s3.2.2), some (.inl s7.2.2)]) d_M_farthest_80 (Nat.le_of_ble_eq_true rfl) rfl rfl ?_
              refine PJ.bipush (pc := 81) (v := 10) d_M_farthest_81 (by decide) ?_
              refine PJ.iload_n (pc := 83) d_M_farthest_83 rfl ?_
              refine PJ.imul (pc := 84) d_M_farthest_84 ?_
              refine PJ.iload (pc := 85) d_M_farthest_85 rfl ?_
              refine PJ.iadd (pc := 87) d_M_farthest_87 ?_
              refine PJ.istore_n (pc := 88) (L1 := [some (.inr (.inr a0)), some (.inl (((10 : Int32) * s3.2.2) + s7.2.2)), some (.inl v14), some (.inl s3.2.2), some (.inl s7.2.2)]) d_M_farthest_88 (Nat.le_of_ble_eq_true rfl) rfl rfl ?_
              refine PJ.iinc (pc := 89) (v := 1) (L1 := [some (.inr (.inr a0)), some (.inl (((10 : Int32) * s3.2.2) + s7.2.2)), some (.inl v14), some (.inl s3.2.2), some (.inl (s7.2.2 + (1 : Int32)))]) d_M_farthest_89 rfl (by decide) (Nat.le_of_ble_eq_true rfl) rfl rfl ?_
              refine PJ.goto (pc := 92) (tgt := 41) d_M_farthest_92 (by decide) ?_
              exact PJ.done rfl
            · refine PJ.goto (pc := 67) (tgt := 89) d_M_farthest_67 (by decide) ?_
              refine PJ.iinc (pc := 89) (v := 1) (L1 := [some (.inr (.inr a0)), some (.inl s7.1), some (.inl s7.2.1), some (.inl s3.2.2), some (.inl (s7.2.2 + (1 : Int32)))]) d_M_farthest_89 rfl (by decide) (Nat.le_of_ble_eq_true rfl) rfl rfl ?_
              refine PJ.goto (pc := 92) (tgt := 41) d_M_farthest_92 (by decide) ?_
              exact PJ.done rfl
        · show PJ l G (pj_rm 2 0 0) Y_M_farthest 95 [some (.inr (.inr a0)), some (.inl x8.1), some (.inl x8.2), some (.inl s3.2.2), none] [] h1 0 0 _ _
          refine PJ.iinc (pc := 95) (v := 1) (L1 := [some (.inr (.inr a0)), some (.inl x8.1), some (.inl x8.2), some (.inl (s3.2.2 + (1 : Int32))), none]) d_M_farthest_95 rfl (by decide) (Nat.le_of_ble_eq_true rfl) rfl rfl ?_
          refine PJ.goto (pc := 98) (tgt := 25) d_M_farthest_98 (by decide) ?_
          exact PJ.done rfl
    · show PJ l G (pj_rm 2 0 0) Y_M_farthest 101 [some (.inr (.inr a0)), some (.inl x4), none, none, none] [] h1 0 0 _ _
      refine PJ.aload_n (pc := 101) d_M_farthest_101 rfl ?_
      refine PJ.iload_n (pc := 102) d_M_farthest_102 rfl ?_
      refine PJ.cVI (pc := 103) cs_M_58 (fun z hz => PM_M_good hz) (pj_fitb rfl) rfl rfl (Nat.le_of_ble_eq_true rfl) d_M_farthest_103 (fun v15 => ?_)
      exact PJ.iret (pc := 106) d_M_farthest_106 rfl (Nat.le_of_ble_eq_true rfl) (Nat.le_of_ble_eq_true rfl)
  · refine PJ.aload_n (pc := 12) d_M_farthest_12 rfl ?_
    refine PJ.iconst (pc := 13) (v := 1) d_M_farthest_13 (by decide) ?_
    refine PJ.cVI (pc := 14) cs_M_52 (fun z hz => PM_M_refused hz) (pj_fitb rfl) rfl rfl (Nat.le_of_ble_eq_true rfl) d_M_farthest_14 (fun v16 => ?_)
    exact PJ.iret (pc := 17) d_M_farthest_17 rfl (Nat.le_of_ble_eq_true rfl) (Nat.le_of_ble_eq_true rfl)
theorem d_M_refusesPlan_0 : decode Y_M_refusesPlan.2.1 0 = .ok (.aload_n 0, 1) := by decide +kernel
theorem d_M_refusesPlan_1 : decode Y_M_refusesPlan.2.1 1 = .ok (.iload_n 1, 1) := by decide +kernel
theorem d_M_refusesPlan_2 : decode Y_M_refusesPlan.2.1 2 = .ok (.invokevirtual 369, 3) := by decide +kernel
theorem d_M_refusesPlan_5 : decode Y_M_refusesPlan.2.1 5 = .ok (.ifCond .ne 7, 3) := by decide +kernel
theorem d_M_refusesPlan_8 : decode Y_M_refusesPlan.2.1 8 = .ok (.iconst 1, 1) := by decide +kernel
theorem d_M_refusesPlan_9 : decode Y_M_refusesPlan.2.1 9 = .ok (.goto 17, 3) := by decide +kernel
theorem d_M_refusesPlan_12 : decode Y_M_refusesPlan.2.1 12 = .ok (.iload_n 2, 1) := by decide +kernel
theorem d_M_refusesPlan_13 : decode Y_M_refusesPlan.2.1 13 = .ok (.iconst 1, 1) := by decide +kernel
theorem d_M_refusesPlan_14 : decode Y_M_refusesPlan.2.1 14 = .ok (.iconst 4, 1) := by decide +kernel
theorem d_M_refusesPlan_15 : decode Y_M_refusesPlan.2.1 15 = .ok (.invokestatic 127, 3) := by decide +kernel
theorem d_M_refusesPlan_18 : decode Y_M_refusesPlan.2.1 18 = .ok (.ifCond .eq 7, 3) := by decide +kernel
theorem d_M_refusesPlan_21 : decode Y_M_refusesPlan.2.1 21 = .ok (.iconst 0, 1) := by decide +kernel
theorem d_M_refusesPlan_22 : decode Y_M_refusesPlan.2.1 22 = .ok (.goto 4, 3) := by decide +kernel
theorem d_M_refusesPlan_25 : decode Y_M_refusesPlan.2.1 25 = .ok (.iconst 2, 1) := by decide +kernel
theorem d_M_refusesPlan_26 : decode Y_M_refusesPlan.2.1 26 = .ok (.ireturn, 1) := by decide +kernel
def f_M_refusesPlan (h : PH) (a0 : Option Nat) (a1 : Int32) (a2 : Int32) : Option Int32 := (cl h 12 a0 (f_M_isPerson h a0 a1)).bind fun v1 => if ¬ v1 = 0 then ((f_M_in h a2 (1 : Int32) (4 : Int32)).bind fun v2 => if v2 = 0 then (some (2 : Int32)) else (some (0 : Int32))) else (some (1 : Int32))
set_option maxRecDepth 20000 in
theorem PM_M_refusesPlan {l : Launch} {G : Cx} {h : PH} {a0 : Option Nat} {a1 : Int32} {a2 : Int32} {z : Int32} (hz : f_M_refusesPlan h a0 a1 a2 = some z) : PM l G 2 0 0 Y_M_refusesPlan [.inr (.inr a0), .inl a1, .inl a2] h (some (.inl z), h) := by
  refine PM.of (Y := Y_M_refusesPlan) (cv := (fun z : Int32 => (((some (.inl z), h) : Option PV × PH)))) (by decide) (L0 := [some (.inr (.inr a0)), some (.inl a1), some (.inl a2)]) 0 rfl (Nat.le_of_ble_eq_true rfl) ?_ hz
  unfold f_M_refusesPlan
  refine PJ.aload_n (pc := 0) d_M_refusesPlan_0 rfl ?_
  refine PJ.iload_n (pc := 1) d_M_refusesPlan_1 rfl ?_
  refine PJ.cVpI (pc := 2) cs_M_369 (fun z hz => PM_M_isPerson hz) (pj_fitb rfl) rfl rfl (Nat.le_of_ble_eq_true rfl) d_M_refusesPlan_2 (fun v1 => ?_)
  refine PJ.if_ne (pc := 5) (tgt := 12) d_M_refusesPlan_5 (by decide) (fun _ => ?_) (fun _ => ?_)
  · refine PJ.iload_n (pc := 12) d_M_refusesPlan_12 rfl ?_
    refine PJ.iconst (pc := 13) (v := 1) d_M_refusesPlan_13 (by decide) ?_
    refine PJ.iconst (pc := 14) (v := 4) d_M_refusesPlan_14 (by decide) ?_
    refine PJ.cSpI (pc := 15) cs_M_127 (fun z hz => PM_M_in hz) (pj_fitb rfl) rfl rfl (Nat.le_of_ble_eq_true rfl) d_M_refusesPlan_15 (fun v2 => ?_)
    refine PJ.if_eq (pc := 18) (tgt := 25) d_M_refusesPlan_18 (by decide) (fun _ => ?_) (fun _ => ?_)
    · refine PJ.iconst (pc := 25) (v := 2) d_M_refusesPlan_25 (by decide) ?_
      exact PJ.iretp (pc := 26) d_M_refusesPlan_26 rfl (Nat.le_of_ble_eq_true rfl) (Nat.le_of_ble_eq_true rfl)
    · refine PJ.iconst (pc := 21) (v := 0) d_M_refusesPlan_21 (by decide) ?_
      refine PJ.goto (pc := 22) (tgt := 26) d_M_refusesPlan_22 (by decide) ?_
      exact PJ.iretp (pc := 26) d_M_refusesPlan_26 rfl (Nat.le_of_ble_eq_true rfl) (Nat.le_of_ble_eq_true rfl)
  · refine PJ.iconst (pc := 8) (v := 1) d_M_refusesPlan_8 (by decide) ?_
    refine PJ.goto (pc := 9) (tgt := 26) d_M_refusesPlan_9 (by decide) ?_
    exact PJ.iretp (pc := 26) d_M_refusesPlan_26 rfl (Nat.le_of_ble_eq_true rfl) (Nat.le_of_ble_eq_true rfl)
theorem d_M_never_0 : decode Y_M_never.2.1 0 = .ok (.aload_n 0, 1) := by decide +kernel
theorem d_M_never_1 : decode Y_M_never.2.1 1 = .ok (.iload_n 1, 1) := by decide +kernel
theorem d_M_never_2 : decode Y_M_never.2.1 2 = .ok (.invokevirtual 52, 3) := by decide +kernel
theorem d_M_never_5 : decode Y_M_never.2.1 5 = .ok (.pop, 1) := by decide +kernel
theorem d_M_never_6 : decode Y_M_never.2.1 6 = .ok (.ldc2_w 56, 3) := by decide +kernel
theorem d_M_never_9 : decode Y_M_never.2.1 9 = .ok (.lreturn, 1) := by decide +kernel
def f_M_never (h : PH) (a0 : Option Nat) (a1 : Int32) : Option (Int64 × PH) := (cl h 12 a0 (f_M_refused h a0 a1)).bind fun v1 => some ((-9223372036854775808 : Int64), v1.2)
set_option maxRecDepth 20000 in
theorem PM_M_never {l : Launch} {G : Cx} {h : PH} {a0 : Option Nat} {a1 : Int32} {z : (Int64 × PH)} (hz : f_M_never h a0 a1 = some z) : PM l G 2 0 0 Y_M_never [.inr (.inr a0), .inl a1] h (some (.inr (.inl z.1)), z.2) := by
  refine PM.of (Y := Y_M_never) (cv := (fun z : (Int64 × PH) => (((some (.inr (.inl z.1)), z.2) : Option PV × PH)))) (by decide) (L0 := [some (.inr (.inr a0)), some (.inl a1)]) 0 rfl (Nat.le_of_ble_eq_true rfl) ?_ hz
  unfold f_M_never
  refine PJ.aload_n (pc := 0) d_M_never_0 rfl ?_
  refine PJ.iload_n (pc := 1) d_M_never_1 rfl ?_
  refine PJ.cVI (pc := 2) cs_M_52 (fun z hz => PM_M_refused hz) (pj_fitb rfl) rfl rfl (Nat.le_of_ble_eq_true rfl) d_M_never_2 (fun v1 => ?_)
  refine PJ.pop (pc := 5) d_M_never_5 rfl ?_
  refine PJ.ldc2 (pc := 6) (v := -9223372036854775808) d_M_never_6 wd_1877 ?_
  exact PJ.lret (pc := 9) d_M_never_9 rfl (Nat.le_of_ble_eq_true rfl) (Nat.le_of_ble_eq_true rfl)
theorem d_M_state_0 : decode Y_M_state.2.1 0 = .ok (.iload_n 0, 1) := by decide +kernel
theorem d_M_state_1 : decode Y_M_state.2.1 1 = .ok (.iconst 3, 1) := by decide +kernel
theorem d_M_state_2 : decode Y_M_state.2.1 2 = .ok (.imul, 1) := by decide +kernel
theorem d_M_state_3 : decode Y_M_state.2.1 3 = .ok (.iload_n 1, 1) := by decide +kernel
theorem d_M_state_4 : decode Y_M_state.2.1 4 = .ok (.iadd, 1) := by decide +kernel
theorem d_M_state_5 : decode Y_M_state.2.1 5 = .ok (.iconst 5, 1) := by decide +kernel
theorem d_M_state_6 : decode Y_M_state.2.1 6 = .ok (.imul, 1) := by decide +kernel
theorem d_M_state_7 : decode Y_M_state.2.1 7 = .ok (.iload_n 2, 1) := by decide +kernel
theorem d_M_state_8 : decode Y_M_state.2.1 8 = .ok (.iadd, 1) := by decide +kernel
theorem d_M_state_9 : decode Y_M_state.2.1 9 = .ok (.bipush 16, 2) := by decide +kernel
theorem d_M_state_11 : decode Y_M_state.2.1 11 = .ok (.imul, 1) := by decide +kernel
theorem d_M_state_12 : decode Y_M_state.2.1 12 = .ok (.iload_n 3, 1) := by decide +kernel
theorem d_M_state_13 : decode Y_M_state.2.1 13 = .ok (.iadd, 1) := by decide +kernel
theorem d_M_state_14 : decode Y_M_state.2.1 14 = .ok (.ireturn, 1) := by decide +kernel
def f_M_state (h : PH) (a0 : Int32) (a1 : Int32) (a2 : Int32) (a3 : Int32) : Option Int32 := some ((((((a0 * (3 : Int32)) + a1) * (5 : Int32)) + a2) * (16 : Int32)) + a3)
set_option maxRecDepth 20000 in
theorem PM_M_state {l : Launch} {G : Cx} {h : PH} {a0 : Int32} {a1 : Int32} {a2 : Int32} {a3 : Int32} {z : Int32} (hz : f_M_state h a0 a1 a2 a3 = some z) : PM l G 1 0 0 Y_M_state [.inl a0, .inl a1, .inl a2, .inl a3] h (some (.inl z), h) := by
  refine PM.of (Y := Y_M_state) (cv := (fun z : Int32 => (((some (.inl z), h) : Option PV × PH)))) (by decide) (L0 := [some (.inl a0), some (.inl a1), some (.inl a2), some (.inl a3)]) 0 rfl (Nat.le_of_ble_eq_true rfl) ?_ hz
  unfold f_M_state
  refine PJ.iload_n (pc := 0) d_M_state_0 rfl ?_
  refine PJ.iconst (pc := 1) (v := 3) d_M_state_1 (by decide) ?_
  refine PJ.imul (pc := 2) d_M_state_2 ?_
  refine PJ.iload_n (pc := 3) d_M_state_3 rfl ?_
  refine PJ.iadd (pc := 4) d_M_state_4 ?_
  refine PJ.iconst (pc := 5) (v := 5) d_M_state_5 (by decide) ?_
  refine PJ.imul (pc := 6) d_M_state_6 ?_
  refine PJ.iload_n (pc := 7) d_M_state_7 rfl ?_
  refine PJ.iadd (pc := 8) d_M_state_8 ?_
  refine PJ.bipush (pc := 9) (v := 16) d_M_state_9 (by decide) ?_
  refine PJ.imul (pc := 11) d_M_state_11 ?_
  refine PJ.iload_n (pc := 12) d_M_state_12 rfl ?_
  refine PJ.iadd (pc := 13) d_M_state_13 ?_
  exact PJ.iretp (pc := 14) d_M_state_14 rfl (Nat.le_of_ble_eq_true rfl) (Nat.le_of_ble_eq_true rfl)
theorem d_M_ago_0 : decode Y_M_ago.2.1 0 = .ok (.iload_n 2, 1) := by decide +kernel
theorem d_M_ago_1 : decode Y_M_ago.2.1 1 = .ok (.ifCond .le 9, 3) := by decide +kernel
theorem d_M_ago_4 : decode Y_M_ago.2.1 4 = .ok (.iload_n 3, 1) := by decide +kernel
theorem d_M_ago_5 : decode Y_M_ago.2.1 5 = .ok (.iload_n 2, 1) := by decide +kernel
theorem d_M_ago_6 : decode Y_M_ago.2.1 6 = .ok (.iconst 1, 1) := by decide +kernel
theorem d_M_ago_7 : decode Y_M_ago.2.1 7 = .ok (.isub, 1) := by decide +kernel
theorem d_M_ago_8 : decode Y_M_ago.2.1 8 = .ok (.isub, 1) := by decide +kernel
theorem d_M_ago_9 : decode Y_M_ago.2.1 9 = .ok (.ireturn, 1) := by decide +kernel
theorem d_M_ago_10 : decode Y_M_ago.2.1 10 = .ok (.aload_n 0, 1) := by decide +kernel
theorem d_M_ago_11 : decode Y_M_ago.2.1 11 = .ok (.getfield 17, 3) := by decide +kernel
theorem d_M_ago_14 : decode Y_M_ago.2.1 14 = .ok (.bipush 15, 2) := by decide +kernel
theorem d_M_ago_16 : decode Y_M_ago.2.1 16 = .ok (.iload_n 1, 1) := by decide +kernel
theorem d_M_ago_17 : decode Y_M_ago.2.1 17 = .ok (.iadd, 1) := by decide +kernel
theorem d_M_ago_18 : decode Y_M_ago.2.1 18 = .ok (.iaload, 1) := by decide +kernel
theorem d_M_ago_19 : decode Y_M_ago.2.1 19 = .ok (.bipush (-2), 2) := by decide +kernel
theorem d_M_ago_21 : decode Y_M_ago.2.1 21 = .ok (.if_icmp .ne 7, 3) := by decide +kernel
theorem d_M_ago_24 : decode Y_M_ago.2.1 24 = .ok (.iconst (-1), 1) := by decide +kernel
theorem d_M_ago_25 : decode Y_M_ago.2.1 25 = .ok (.goto 22, 3) := by decide +kernel
theorem d_M_ago_28 : decode Y_M_ago.2.1 28 = .ok (.aload_n 0, 1) := by decide +kernel
theorem d_M_ago_29 : decode Y_M_ago.2.1 29 = .ok (.getfield 17, 3) := by decide +kernel
theorem d_M_ago_32 : decode Y_M_ago.2.1 32 = .ok (.bipush 21, 2) := by decide +kernel
theorem d_M_ago_34 : decode Y_M_ago.2.1 34 = .ok (.iaload, 1) := by decide +kernel
theorem d_M_ago_35 : decode Y_M_ago.2.1 35 = .ok (.iload_n 3, 1) := by decide +kernel
theorem d_M_ago_36 : decode Y_M_ago.2.1 36 = .ok (.iadd, 1) := by decide +kernel
theorem d_M_ago_37 : decode Y_M_ago.2.1 37 = .ok (.aload_n 0, 1) := by decide +kernel
theorem d_M_ago_38 : decode Y_M_ago.2.1 38 = .ok (.getfield 17, 3) := by decide +kernel
theorem d_M_ago_41 : decode Y_M_ago.2.1 41 = .ok (.bipush 15, 2) := by decide +kernel
theorem d_M_ago_43 : decode Y_M_ago.2.1 43 = .ok (.iload_n 1, 1) := by decide +kernel
theorem d_M_ago_44 : decode Y_M_ago.2.1 44 = .ok (.iadd, 1) := by decide +kernel
theorem d_M_ago_45 : decode Y_M_ago.2.1 45 = .ok (.iaload, 1) := by decide +kernel
theorem d_M_ago_46 : decode Y_M_ago.2.1 46 = .ok (.isub, 1) := by decide +kernel
theorem d_M_ago_47 : decode Y_M_ago.2.1 47 = .ok (.ireturn, 1) := by decide +kernel
def f_M_ago (h : PH) (a0 : Option Nat) (a1 : Int32) (a2 : Int32) (a3 : Int32) : Option Int32 := if a2 ≤ 0 then ((gR h 12 a0 15).bind fun v1 => (aI h v1 ((15 : Int32) + a1)).bind fun v2 => if ¬ v2 = (-2 : Int32) then ((gR h 12 a0 15).bind fun v3 => (aI h v3 (21 : Int32)).bind fun v4 => (gR h 12 a0 15).bind fun v5 => (aI h v5 ((15 : Int32) + a1)).bind fun v6 => some ((v4 + a3) - v6)) else (some (-1 : Int32))) else (some (a3 - (a2 - (1 : Int32))))
set_option maxRecDepth 20000 in
theorem PM_M_ago {l : Launch} {G : Cx} {h : PH} {a0 : Option Nat} {a1 : Int32} {a2 : Int32} {a3 : Int32} {z : Int32} (hz : f_M_ago h a0 a1 a2 a3 = some z) : PM l G 1 0 0 Y_M_ago [.inr (.inr a0), .inl a1, .inl a2, .inl a3] h (some (.inl z), h) := by
  refine PM.of (Y := Y_M_ago) (cv := (fun z : Int32 => (((some (.inl z), h) : Option PV × PH)))) (by decide) (L0 := [some (.inr (.inr a0)), some (.inl a1), some (.inl a2), some (.inl a3)]) 0 rfl (Nat.le_of_ble_eq_true rfl) ?_ hz
  unfold f_M_ago
  refine PJ.iload_n (pc := 0) d_M_ago_0 rfl ?_
  refine PJ.if_le (pc := 1) (tgt := 10) d_M_ago_1 (by decide) (fun _ => ?_) (fun _ => ?_)
  · refine PJ.aload_n (pc := 10) d_M_ago_10 rfl ?_
    refine PJ.getR (pc := 11) fs_M_17 d_M_ago_11 (fun v1 => ?_)
    refine PJ.bipush (pc := 14) (v := 15) d_M_ago_14 (by decide) ?_
    refine PJ.iload_n (pc := 16) d_M_ago_16 rfl ?_
    refine PJ.iadd (pc := 17) d_M_ago_17 ?_
    refine PJ.iald (pc := 18) d_M_ago_18 (fun v2 => ?_)
    refine PJ.bipush (pc := 19) (v := -2) d_M_ago_19 (by decide) ?_
    refine PJ.icmp_ne (pc := 21) (tgt := 28) d_M_ago_21 (by decide) (fun _ => ?_) (fun _ => ?_)
    · refine PJ.aload_n (pc := 28) d_M_ago_28 rfl ?_
      refine PJ.getR (pc := 29) fs_M_17 d_M_ago_29 (fun v3 => ?_)
      refine PJ.bipush (pc := 32) (v := 21) d_M_ago_32 (by decide) ?_
      refine PJ.iald (pc := 34) d_M_ago_34 (fun v4 => ?_)
      refine PJ.iload_n (pc := 35) d_M_ago_35 rfl ?_
      refine PJ.iadd (pc := 36) d_M_ago_36 ?_
      refine PJ.aload_n (pc := 37) d_M_ago_37 rfl ?_
      refine PJ.getR (pc := 38) fs_M_17 d_M_ago_38 (fun v5 => ?_)
      refine PJ.bipush (pc := 41) (v := 15) d_M_ago_41 (by decide) ?_
      refine PJ.iload_n (pc := 43) d_M_ago_43 rfl ?_
      refine PJ.iadd (pc := 44) d_M_ago_44 ?_
      refine PJ.iald (pc := 45) d_M_ago_45 (fun v6 => ?_)
      refine PJ.isub (pc := 46) d_M_ago_46 ?_
      exact PJ.iretp (pc := 47) d_M_ago_47 rfl (Nat.le_of_ble_eq_true rfl) (Nat.le_of_ble_eq_true rfl)
    · refine PJ.iconst (pc := 24) (v := -1) d_M_ago_24 (by decide) ?_
      refine PJ.goto (pc := 25) (tgt := 47) d_M_ago_25 (by decide) ?_
      exact PJ.iretp (pc := 47) d_M_ago_47 rfl (Nat.le_of_ble_eq_true rfl) (Nat.le_of_ble_eq_true rfl)
  · refine PJ.iload_n (pc := 4) d_M_ago_4 rfl ?_
    refine PJ.iload_n (pc := 5) d_M_ago_5 rfl ?_
    refine PJ.iconst (pc := 6) (v := 1) d_M_ago_6 (by decide) ?_
    refine PJ.isub (pc := 7) d_M_ago_7 ?_
    refine PJ.isub (pc := 8) d_M_ago_8 ?_
    exact PJ.iretp (pc := 9) d_M_ago_9 rfl (Nat.le_of_ble_eq_true rfl) (Nat.le_of_ble_eq_true rfl)
