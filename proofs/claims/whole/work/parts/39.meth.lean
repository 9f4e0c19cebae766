-- sites and methods: meth
abbrev Y_M_hours : MI := (⟨"WaverTaxModel", "hours", "(I)I"⟩, prog_13_method_134_code, 4, (some .int))
abbrev Y_M_denied : MI := (⟨"WaverTaxModel", "denied", "(I)Z"⟩, prog_13_method_6_code, 2, (some .boolean))
abbrev Y_M_granted : MI := (⟨"WaverTaxModel", "granted", "()Z"⟩, prog_13_method_8_code, 1, (some .boolean))
abbrev Y_M_seed : MI := (⟨"WaverTaxModel", "seed", "(I)Z"⟩, prog_13_method_135_code, 2, (some .boolean))
abbrev Y_M_undo : MI := (⟨"WaverTaxModel", "undo", "()Z"⟩, prog_13_method_136_code, 2, (some .boolean))
abbrev Y_M_mark : MI := (⟨"WaverTaxModel", "mark", "()I"⟩, prog_13_method_137_code, 2, (some .int))
abbrev Y_M_back : MI := (⟨"WaverTaxModel", "back", "(I)Z"⟩, prog_13_method_138_code, 3, (some .boolean))
abbrev Y_M_led : MI := (⟨"WaverTaxModel", "led", "(I)I"⟩, prog_13_method_139_code, 4, (some .int))
abbrev Y_M_size : MI := (⟨"WaverTaxModel", "size", "(I)I"⟩, prog_13_method_140_code, 2, (some .int))
abbrev Y_M_trouble : MI := (⟨"WaverTaxModel", "trouble", "()I"⟩, prog_13_method_141_code, 1, (some .int))
theorem cm_M_denied : (Cond.code Y_M_denied.1 Y_M_denied.2.1 Y_M_denied.2.2.1 Y_M_denied.2.2.2 ∈ pj_ws) ∧ (Cond.initialized Y_M_denied.1.cls ∈ pj_ws) ∧ (Y_M_denied.1.cls ≠ "java/lang/invoke/MethodHandle" ∧ Y_M_denied.1.cls ≠ "java/lang/invoke/VarHandle" ∧ (parseMethodDescriptor Y_M_denied.1.desc).map (fun d => d.parameters.length) = some 1) ∧ (Cond.instanceMethod Y_M_denied.1 ∈ pj_ws) ∧ (Cond.selects Y_M_denied.1.cls Y_M_denied.1 Y_M_denied.1 ∈ pj_ws) := ⟨pj_mem 2163 (by decide +kernel) rfl, pj_mem 141 (by decide +kernel) rfl, ⟨by decide +kernel, by decide +kernel, by decide +kernel⟩, pj_mem 2162 (by decide +kernel) rfl, pj_mem 127 (by decide +kernel) rfl⟩
theorem cm_M_granted : (Cond.code Y_M_granted.1 Y_M_granted.2.1 Y_M_granted.2.2.1 Y_M_granted.2.2.2 ∈ pj_ws) ∧ (Cond.initialized Y_M_granted.1.cls ∈ pj_ws) ∧ (Y_M_granted.1.cls ≠ "java/lang/invoke/MethodHandle" ∧ Y_M_granted.1.cls ≠ "java/lang/invoke/VarHandle" ∧ (parseMethodDescriptor Y_M_granted.1.desc).map (fun d => d.parameters.length) = some 0) ∧ (Cond.instanceMethod Y_M_granted.1 ∈ pj_ws) ∧ (Cond.selects Y_M_granted.1.cls Y_M_granted.1 Y_M_granted.1 ∈ pj_ws) := ⟨pj_mem 2167 (by decide +kernel) rfl, pj_mem 141 (by decide +kernel) rfl, ⟨by decide +kernel, by decide +kernel, by decide +kernel⟩, pj_mem 2166 (by decide +kernel) rfl, pj_mem 128 (by decide +kernel) rfl⟩
theorem cs_M_544 : pj_cV "WaverTaxModel" 544 Y_M_denied 1 12 := ⟨⟨cm_M_denied.1, cm_M_denied.2.1, cm_M_denied.2.2.1, Or.inl (pj_mem 2160 (by decide +kernel) rfl)⟩, by decide, cm_M_denied.2.2.2.1, cm_M_denied.2.2.2.2, ⟨_, rfl, rfl⟩⟩
theorem cs_M_547 : pj_cV "WaverTaxModel" 547 Y_M_granted 0 12 := ⟨⟨cm_M_granted.1, cm_M_granted.2.1, cm_M_granted.2.2.1, Or.inl (pj_mem 2164 (by decide +kernel) rfl)⟩, by decide, cm_M_granted.2.2.2.1, cm_M_granted.2.2.2.2, ⟨_, rfl, rfl⟩⟩
theorem fs_M_27 : pj_fs "WaverTaxModel" 12 18 27 (.array (.int)) := ⟨_, _, _, _, cd_12, by decide, rfl, Or.inl (pj_mem 1405 (by decide +kernel) rfl)⟩
theorem fs_M_347 : pj_fs "WaverTaxModel" 12 20 347 (.int) := ⟨_, _, _, _, cd_12, by decide, rfl, Or.inl (pj_mem 1407 (by decide +kernel) rfl)⟩
theorem fs_M_49 : pj_fs "WaverTaxModel" 12 1 49 (.int) := ⟨_, _, _, _, cd_12, by decide, rfl, Or.inl (pj_mem 1388 (by decide +kernel) rfl)⟩
theorem d_M_hours_0 : decode Y_M_hours.2.1 0 = .ok (.aload_n 0, 1) := by decide +kernel
theorem d_M_hours_1 : decode Y_M_hours.2.1 1 = .ok (.iconst 0, 1) := by decide +kernel
theorem d_M_hours_2 : decode Y_M_hours.2.1 2 = .ok (.putfield 46, 3) := by decide +kernel
theorem d_M_hours_5 : decode Y_M_hours.2.1 5 = .ok (.aload_n 0, 1) := by decide +kernel
theorem d_M_hours_6 : decode Y_M_hours.2.1 6 = .ok (.getfield 341, 3) := by decide +kernel
theorem d_M_hours_9 : decode Y_M_hours.2.1 9 = .ok (.ifnonnull 9, 3) := by decide +kernel
theorem d_M_hours_12 : decode Y_M_hours.2.1 12 = .ok (.aload_n 0, 1) := by decide +kernel
theorem d_M_hours_13 : decode Y_M_hours.2.1 13 = .ok (.iconst 1, 1) := by decide +kernel
theorem d_M_hours_14 : decode Y_M_hours.2.1 14 = .ok (.invokevirtual 52, 3) := by decide +kernel
theorem d_M_hours_17 : decode Y_M_hours.2.1 17 = .ok (.ireturn, 1) := by decide +kernel
theorem d_M_hours_18 : decode Y_M_hours.2.1 18 = .ok (.iload_n 1, 1) := by decide +kernel
theorem d_M_hours_19 : decode Y_M_hours.2.1 19 = .ok (.iconst 1, 1) := by decide +kernel
theorem d_M_hours_20 : decode Y_M_hours.2.1 20 = .ok (.bipush 24, 2) := by decide +kernel
theorem d_M_hours_22 : decode Y_M_hours.2.1 22 = .ok (.invokestatic 127, 3) := by decide +kernel
theorem d_M_hours_25 : decode Y_M_hours.2.1 25 = .ok (.ifCond .ne 9, 3) := by decide +kernel
theorem d_M_hours_28 : decode Y_M_hours.2.1 28 = .ok (.aload_n 0, 1) := by decide +kernel
theorem d_M_hours_29 : decode Y_M_hours.2.1 29 = .ok (.iconst 2, 1) := by decide +kernel
theorem d_M_hours_30 : decode Y_M_hours.2.1 30 = .ok (.invokevirtual 52, 3) := by decide +kernel
theorem d_M_hours_33 : decode Y_M_hours.2.1 33 = .ok (.ireturn, 1) := by decide +kernel
theorem d_M_hours_34 : decode Y_M_hours.2.1 34 = .ok (.aload_n 0, 1) := by decide +kernel
theorem d_M_hours_35 : decode Y_M_hours.2.1 35 = .ok (.getfield 17, 3) := by decide +kernel
theorem d_M_hours_38 : decode Y_M_hours.2.1 38 = .ok (.bipush 21, 2) := by decide +kernel
theorem d_M_hours_40 : decode Y_M_hours.2.1 40 = .ok (.iaload, 1) := by decide +kernel
theorem d_M_hours_41 : decode Y_M_hours.2.1 41 = .ok (.sipush 999, 3) := by decide +kernel
theorem d_M_hours_44 : decode Y_M_hours.2.1 44 = .ok (.iload_n 1, 1) := by decide +kernel
theorem d_M_hours_45 : decode Y_M_hours.2.1 45 = .ok (.isub, 1) := by decide +kernel
theorem d_M_hours_46 : decode Y_M_hours.2.1 46 = .ok (.if_icmp .le 9, 3) := by decide +kernel
theorem d_M_hours_49 : decode Y_M_hours.2.1 49 = .ok (.aload_n 0, 1) := by decide +kernel
theorem d_M_hours_50 : decode Y_M_hours.2.1 50 = .ok (.iconst 3, 1) := by decide +kernel
theorem d_M_hours_51 : decode Y_M_hours.2.1 51 = .ok (.invokevirtual 52, 3) := by decide +kernel
theorem d_M_hours_54 : decode Y_M_hours.2.1 54 = .ok (.ireturn, 1) := by decide +kernel
theorem d_M_hours_55 : decode Y_M_hours.2.1 55 = .ok (.aload_n 0, 1) := by decide +kernel
theorem d_M_hours_56 : decode Y_M_hours.2.1 56 = .ok (.invokevirtual 541, 3) := by decide +kernel
theorem d_M_hours_59 : decode Y_M_hours.2.1 59 = .ok (.iconst 0, 1) := by decide +kernel
theorem d_M_hours_60 : decode Y_M_hours.2.1 60 = .ok (.istore_n 2, 1) := by decide +kernel
theorem d_M_hours_61 : decode Y_M_hours.2.1 61 = .ok (.iconst 0, 1) := by decide +kernel
theorem d_M_hours_62 : decode Y_M_hours.2.1 62 = .ok (.istore_n 3, 1) := by decide +kernel
theorem d_M_hours_63 : decode Y_M_hours.2.1 63 = .ok (.iload_n 3, 1) := by decide +kernel
theorem d_M_hours_64 : decode Y_M_hours.2.1 64 = .ok (.iload_n 1, 1) := by decide +kernel
theorem d_M_hours_65 : decode Y_M_hours.2.1 65 = .ok (.if_icmp .ge 20, 3) := by decide +kernel
theorem d_M_hours_68 : decode Y_M_hours.2.1 68 = .ok (.iload_n 2, 1) := by decide +kernel
theorem d_M_hours_69 : decode Y_M_hours.2.1 69 = .ok (.aload_n 0, 1) := by decide +kernel
theorem d_M_hours_70 : decode Y_M_hours.2.1 70 = .ok (.aload_n 0, 1) := by decide +kernel
theorem d_M_hours_71 : decode Y_M_hours.2.1 71 = .ok (.getfield 17, 3) := by decide +kernel
theorem d_M_hours_74 : decode Y_M_hours.2.1 74 = .ok (.invokevirtual 529, 3) := by decide +kernel
theorem d_M_hours_77 : decode Y_M_hours.2.1 77 = .ok (.iadd, 1) := by decide +kernel
theorem d_M_hours_78 : decode Y_M_hours.2.1 78 = .ok (.istore_n 2, 1) := by decide +kernel
theorem d_M_hours_79 : decode Y_M_hours.2.1 79 = .ok (.iinc 3 1, 3) := by decide +kernel
theorem d_M_hours_82 : decode Y_M_hours.2.1 82 = .ok (.goto (-19), 3) := by decide +kernel
theorem d_M_hours_85 : decode Y_M_hours.2.1 85 = .ok (.aload_n 0, 1) := by decide +kernel
theorem d_M_hours_86 : decode Y_M_hours.2.1 86 = .ok (.iload_n 2, 1) := by decide +kernel
theorem d_M_hours_87 : decode Y_M_hours.2.1 87 = .ok (.invokevirtual 58, 3) := by decide +kernel
theorem d_M_hours_90 : decode Y_M_hours.2.1 90 = .ok (.ireturn, 1) := by decide +kernel
def f_M_hours (h : PH) (a0 : Option Nat) (a1 : Int32) : Option (Int32 × PH) := (sF h 12 a0 0 (.inl (0 : Int32))).bind fun h1 => (gR h1 12 a0 3).bind fun v2 => if v2 = none then ((cl h1 12 a0 (f_M_refused h1 a0 (1 : Int32))).bind fun v14 => some (v14.1, v14.2)) else ((f_M_in h1 a1 (1 : Int32) (24 : Int32)).bind fun v3 => if ¬ v3 = 0 then ((gR h1 12 a0 15).bind fun v4 => (aI h1 v4 (21 : Int32)).bind fun v5 => if v5 ≤ ((999 : Int32) - a1) then ((cl h1 12 a0 (f_M_remembers h1 a0)).bind fun h6 => (pj_it (X := Int32 × PH) (fun s7 : Int32 × Int32 × PH => if a1 ≤ s7.2.1 then (some (.inr (s7.1, s7.2.2))) else ((gR s7.2.2 12 a0 15).bind fun v9 => (cl s7.2.2 12 a0 (f_M_nextHour s7.2.2 a0 v9)).bind fun v10 => some (.inl ((s7.1 + v10.1), (s7.2.1 + (1 : Int32)), v10.2)))) FU ((0 : Int32), (0 : Int32), h6)).bind fun x8 => (cl x8.2 12 a0 (f_M_good x8.2 a0 x8.1)).bind fun v11 => some (v11.1, v11.2)) else ((cl h1 12 a0 (f_M_refused h1 a0 (3 : Int32))).bind fun v12 => some (v12.1, v12.2))) else ((cl h1 12 a0 (f_M_refused h1 a0 (2 : Int32))).bind fun v13 => some (v13.1, v13.2)))
set_option maxRecDepth 20000 in
theorem PM_M_hours {l : Launch} {G : Cx} {h : PH} {a0 : Option Nat} {a1 : Int32} {z : (Int32 × PH)} (hz : f_M_hours h a0 a1 = some z) : PM l G 2 0 0 Y_M_hours [.inr (.inr a0), .inl a1] h (some (.inl z.1), z.2) := by
  refine PM.of (Y := Y_M_hours) (cv := (fun z : (Int32 × PH) => (((some (.inl z.1), z.2) : Option PV × PH)))) (by decide) (L0 := [some (.inr (.inr a0)), some (.inl a1), none, none]) 2 rfl (Nat.le_of_ble_eq_true rfl) ?_ hz
  unfold f_M_hours
  refine PJ.aload_n (pc := 0) d_M_hours_0 rfl ?_
  refine PJ.iconst (pc := 1) (v := 0) d_M_hours_1 (by decide) ?_
  refine PJ.putI (pc := 2) ps_M_46 d_M_hours_2 (fun h1 => ?_)
  refine PJ.aload_n (pc := 5) d_M_hours_5 rfl ?_
  refine PJ.getR (pc := 6) fs_M_341 d_M_hours_6 (fun v2 => ?_)
  refine PJ.ifnonnull (pc := 9) (tgt := 18) d_M_hours_9 (by decide) (fun _ => ?_) (fun _ => ?_)
  · refine PJ.iload_n (pc := 18) d_M_hours_18 rfl ?_
    refine PJ.iconst (pc := 19) (v := 1) d_M_hours_19 (by decide) ?_
    refine PJ.bipush (pc := 20) (v := 24) d_M_hours_20 (by decide) ?_
    refine PJ.cSpI (pc := 22) cs_M_127 (fun z hz => PM_M_in hz) (pj_fitb rfl) rfl rfl (Nat.le_of_ble_eq_true rfl) d_M_hours_22 (fun v3 => ?_)
    refine PJ.if_ne (pc := 25) (tgt := 34) d_M_hours_25 (by decide) (fun _ => ?_) (fun _ => ?_)
    · refine PJ.aload_n (pc := 34) d_M_hours_34 rfl ?_
      refine PJ.getR (pc := 35) fs_M_17 d_M_hours_35 (fun v4 => ?_)
      refine PJ.bipush (pc := 38) (v := 21) d_M_hours_38 (by decide) ?_
      refine PJ.iald (pc := 40) d_M_hours_40 (fun v5 => ?_)
      refine PJ.sipush (pc := 41) (v := 999) d_M_hours_41 (by decide) ?_
      refine PJ.iload_n (pc := 44) d_M_hours_44 rfl ?_
      refine PJ.isub (pc := 45) d_M_hours_45 ?_
      refine PJ.icmp_le (pc := 46) (tgt := 55) d_M_hours_46 (by decide) (fun _ => ?_) (fun _ => ?_)
      · refine PJ.aload_n (pc := 55) d_M_hours_55 rfl ?_
        refine PJ.cVV (pc := 56) cs_M_541 (fun z hz => PM_M_remembers hz) (pj_fitb rfl) rfl rfl (Nat.le_of_ble_eq_true rfl) d_M_hours_56 (fun h6 => ?_)
        refine PJ.iconst (pc := 59) (v := 0) d_M_hours_59 (by decide) ?_
        refine PJ.istore_n (pc := 60) (L1 := [some (.inr (.inr a0)), some (.inl a1), some (.inl (0 : Int32)), none]) d_M_hours_60 (Nat.le_of_ble_eq_true rfl) rfl rfl ?_
        refine PJ.iconst (pc := 61) (v := 0) d_M_hours_61 (by decide) ?_
        refine PJ.istore_n (pc := 62) (L1 := [some (.inr (.inr a0)), some (.inl a1), some (.inl (0 : Int32)), some (.inl (0 : Int32))]) d_M_hours_62 (Nat.le_of_ble_eq_true rfl) rfl rfl ?_
        refine PJ.bind (fun x8 : Int32 × PH => ((85 : Nat), ([some (.inr (.inr a0)), none, some (.inl x8.1), none] : List (Option PV)), ([] : List PV), (x8.2 : PH), (0 : Nat), (0 : Nat))) (PJ.it (E := (fun s7 : Int32 × Int32 × PH => ((63 : Nat), ([some (.inr (.inr a0)), some (.inl a1), some (.inl s7.1), some (.inl s7.2.1)] : List (Option PV)), ([] : List PV), (s7.2.2 : PH), (0 : Nat), (0 : Nat)))) (F := (fun x8 : Int32 × PH => ((85 : Nat), ([some (.inr (.inr a0)), none, some (.inl x8.1), none] : List (Option PV)), ([] : List PV), (x8.2 : PH), (0 : Nat), (0 : Nat)))) (fun s7 => ?_) FU ((0 : Int32), (0 : Int32), h6)) (fun x8 => ?_)
        · show PJ l G (pj_rm 2 0 0) Y_M_hours 63 [some (.inr (.inr a0)), some (.inl a1), some (.inl s7.1), some (.inl s7.2.1)] [] s7.2.2 0 0 _ _
          refine PJ.iload_n (pc := 63) d_M_hours_63 rfl ?_
          refine PJ.iload_n (pc := 64) d_M_hours_64 rfl ?_
          refine PJ.icmp_ge (pc := 65) (tgt := 85) d_M_hours_65 (by decide) (fun _ => ?_) (fun _ => ?_)
          · refine PJ.mk (L1 := [some (.inr (.inr a0)), none, some (.inl s7.1), none]) [true, false, true, false] rfl ?_
            exact PJ.done rfl
          · refine PJ.iload_n (pc := 68) d_M_hours_68 rfl ?_
            refine PJ.aload_n (pc := 69) d_M_hours_69 rfl ?_
            refine PJ.aload_n (pc := 70) d_M_hours_70 rfl ?_
            refine PJ.getR (pc := 71) fs_M_17 d_M_hours_71 (fun v9 => ?_)
            refine PJ.cVI (pc := 74) cs_M_529 (fun z hz => PM_M_nextHour hz) (pj_fitb rfl) rfl rfl (Nat.le_of_ble_eq_true rfl) d_M_hours_74 (fun v10 => ?_)
            refine PJ.iadd (pc := 77) d_M_hours_77 ?_
            refine PJ.istore_n (pc := 78) (L1 := [some (.inr (.inr a0)), some (.inl a1), some (.inl (s7.1 + v10.1)), some (.inl s7.2.1)]) d_M_hours_78 (Nat.le_of_ble_eq_true rfl) rfl rfl ?_
            refine PJ.iinc (pc := 79) (v := 1) (L1 := [some (.inr (.inr a0)), some (.inl a1), some (.inl (s7.1 + v10.1)), some (.inl (s7.2.1 + (1 : Int32)))]) d_M_hours_79 rfl (by decide) (Nat.le_of_ble_eq_true rfl) rfl rfl ?_
            refine PJ.goto (pc := 82) (tgt := 63) d_M_hours_82 (by decide) ?_
            exact PJ.done rfl
        · show PJ l G (pj_rm 2 0 0) Y_M_hours 85 [some (.inr (.inr a0)), none, some (.inl x8.1), none] [] x8.2 0 0 _ _
          refine PJ.aload_n (pc := 85) d_M_hours_85 rfl ?_
          refine PJ.iload_n (pc := 86) d_M_hours_86 rfl ?_
          refine PJ.cVI (pc := 87) cs_M_58 (fun z hz => PM_M_good hz) (pj_fitb rfl) rfl rfl (Nat.le_of_ble_eq_true rfl) d_M_hours_87 (fun v11 => ?_)
          exact PJ.iret (pc := 90) d_M_hours_90 rfl (Nat.le_of_ble_eq_true rfl) (Nat.le_of_ble_eq_true rfl)
      · refine PJ.aload_n (pc := 49) d_M_hours_49 rfl ?_
        refine PJ.iconst (pc := 50) (v := 3) d_M_hours_50 (by decide) ?_
        refine PJ.cVI (pc := 51) cs_M_52 (fun z hz => PM_M_refused hz) (pj_fitb rfl) rfl rfl (Nat.le_of_ble_eq_true rfl) d_M_hours_51 (fun v12 => ?_)
        exact PJ.iret (pc := 54) d_M_hours_54 rfl (Nat.le_of_ble_eq_true rfl) (Nat.le_of_ble_eq_true rfl)
    · refine PJ.aload_n (pc := 28) d_M_hours_28 rfl ?_
      refine PJ.iconst (pc := 29) (v := 2) d_M_hours_29 (by decide) ?_
      refine PJ.cVI (pc := 30) cs_M_52 (fun z hz => PM_M_refused hz) (pj_fitb rfl) rfl rfl (Nat.le_of_ble_eq_true rfl) d_M_hours_30 (fun v13 => ?_)
      exact PJ.iret (pc := 33) d_M_hours_33 rfl (Nat.le_of_ble_eq_true rfl) (Nat.le_of_ble_eq_true rfl)
  · refine PJ.aload_n (pc := 12) d_M_hours_12 rfl ?_
    refine PJ.iconst (pc := 13) (v := 1) d_M_hours_13 (by decide) ?_
    refine PJ.cVI (pc := 14) cs_M_52 (fun z hz => PM_M_refused hz) (pj_fitb rfl) rfl rfl (Nat.le_of_ble_eq_true rfl) d_M_hours_14 (fun v14 => ?_)
    exact PJ.iret (pc := 17) d_M_hours_17 rfl (Nat.le_of_ble_eq_true rfl) (Nat.le_of_ble_eq_true rfl)
theorem d_M_denied_0 : decode Y_M_denied.2.1 0 = .ok (.aload_n 0, 1) := by decide +kernel
theorem d_M_denied_1 : decode Y_M_denied.2.1 1 = .ok (.iload_n 1, 1) := by decide +kernel
theorem d_M_denied_2 : decode Y_M_denied.2.1 2 = .ok (.invokevirtual 52, 3) := by decide +kernel
theorem d_M_denied_5 : decode Y_M_denied.2.1 5 = .ok (.pop, 1) := by decide +kernel
theorem d_M_denied_6 : decode Y_M_denied.2.1 6 = .ok (.iconst 0, 1) := by decide +kernel
theorem d_M_denied_7 : decode Y_M_denied.2.1 7 = .ok (.ireturn, 1) := by decide +kernel
def f_M_denied (h : PH) (a0 : Option Nat) (a1 : Int32) : Option (Int32 × PH) := (cl h 12 a0 (f_M_refused h a0 a1)).bind fun v1 => some ((0 : Int32), v1.2)
set_option maxRecDepth 20000 in
theorem PM_M_denied {l : Launch} {G : Cx} {h : PH} {a0 : Option Nat} {a1 : Int32} {z : (Int32 × PH)} (hz : f_M_denied h a0 a1 = some z) : PM l G 2 0 0 Y_M_denied [.inr (.inr a0), .inl a1] h (some (.inl z.1), z.2) := by
  refine PM.of (Y := Y_M_denied) (cv := (fun z : (Int32 × PH) => (((some (.inl z.1), z.2) : Option PV × PH)))) (by decide) (L0 := [some (.inr (.inr a0)), some (.inl a1)]) 0 rfl (Nat.le_of_ble_eq_true rfl) ?_ hz
  unfold f_M_denied
  refine PJ.aload_n (pc := 0) d_M_denied_0 rfl ?_
  refine PJ.iload_n (pc := 1) d_M_denied_1 rfl ?_
  refine PJ.cVI (pc := 2) cs_M_52 (fun z hz => PM_M_refused hz) (pj_fitb rfl) rfl rfl (Nat.le_of_ble_eq_true rfl) d_M_denied_2 (fun v1 => ?_)
  refine PJ.pop (pc := 5) d_M_denied_5 rfl ?_
  refine PJ.iconst (pc := 6) (v := 0) d_M_denied_6 (by decide) ?_
  exact PJ.zret (pc := 7) d_M_denied_7 rfl rfl (Nat.le_of_ble_eq_true rfl) (Nat.le_of_ble_eq_true rfl)
theorem d_M_granted_0 : decode Y_M_granted.2.1 0 = .ok (.aload_n 0, 1) := by decide +kernel
theorem d_M_granted_1 : decode Y_M_granted.2.1 1 = .ok (.iconst 0, 1) := by decide +kernel
theorem d_M_granted_2 : decode Y_M_granted.2.1 2 = .ok (.invokevirtual 58, 3) := by decide +kernel
theorem d_M_granted_5 : decode Y_M_granted.2.1 5 = .ok (.pop, 1) := by decide +kernel
theorem d_M_granted_6 : decode Y_M_granted.2.1 6 = .ok (.iconst 1, 1) := by decide +kernel
theorem d_M_granted_7 : decode Y_M_granted.2.1 7 = .ok (.ireturn, 1) := by decide +kernel
def f_M_granted (h : PH) (a0 : Option Nat) : Option (Int32 × PH) := (cl h 12 a0 (f_M_good h a0 (0 : Int32))).bind fun v1 => some ((1 : Int32), v1.2)
set_option maxRecDepth 20000 in
theorem PM_M_granted {l : Launch} {G : Cx} {h : PH} {a0 : Option Nat} {z : (Int32 × PH)} (hz : f_M_granted h a0 = some z) : PM l G 2 0 0 Y_M_granted [.inr (.inr a0)] h (some (.inl z.1), z.2) := by
  refine PM.of (Y := Y_M_granted) (cv := (fun z : (Int32 × PH) => (((some (.inl z.1), z.2) : Option PV × PH)))) (by decide) (L0 := [some (.inr (.inr a0))]) 0 rfl (Nat.le_of_ble_eq_true rfl) ?_ hz
  unfold f_M_granted
  refine PJ.aload_n (pc := 0) d_M_granted_0 rfl ?_
  refine PJ.iconst (pc := 1) (v := 0) d_M_granted_1 (by decide) ?_
  refine PJ.cVI (pc := 2) cs_M_58 (fun z hz => PM_M_good hz) (pj_fitb rfl) rfl rfl (Nat.le_of_ble_eq_true rfl) d_M_granted_2 (fun v1 => ?_)
  refine PJ.pop (pc := 5) d_M_granted_5 rfl ?_
  refine PJ.iconst (pc := 6) (v := 1) d_M_granted_6 (by decide) ?_
  exact PJ.zret (pc := 7) d_M_granted_7 rfl rfl (Nat.le_of_ble_eq_true rfl) (Nat.le_of_ble_eq_true rfl)
theorem d_M_seed_0 : decode Y_M_seed.2.1 0 = .ok (.aload_n 0, 1) := by decide +kernel
theorem d_M_seed_1 : decode Y_M_seed.2.1 1 = .ok (.iconst 0, 1) := by decide +kernel
theorem d_M_seed_2 : decode Y_M_seed.2.1 2 = .ok (.putfield 46, 3) := by decide +kernel
theorem d_M_seed_5 : decode Y_M_seed.2.1 5 = .ok (.aload_n 0, 1) := by decide +kernel
theorem d_M_seed_6 : decode Y_M_seed.2.1 6 = .ok (.getfield 341, 3) := by decide +kernel
theorem d_M_seed_9 : decode Y_M_seed.2.1 9 = .ok (.ifnonnull 9, 3) := by decide +kernel
theorem d_M_seed_12 : decode Y_M_seed.2.1 12 = .ok (.aload_n 0, 1) := by decide +kernel
theorem d_M_seed_13 : decode Y_M_seed.2.1 13 = .ok (.iconst 1, 1) := by decide +kernel
theorem d_M_seed_14 : decode Y_M_seed.2.1 14 = .ok (.invokevirtual 544, 3) := by decide +kernel
theorem d_M_seed_17 : decode Y_M_seed.2.1 17 = .ok (.ireturn, 1) := by decide +kernel
theorem d_M_seed_18 : decode Y_M_seed.2.1 18 = .ok (.iload_n 1, 1) := by decide +kernel
theorem d_M_seed_19 : decode Y_M_seed.2.1 19 = .ok (.iconst 0, 1) := by decide +kernel
theorem d_M_seed_20 : decode Y_M_seed.2.1 20 = .ok (.ldc_w 533, 3) := by decide +kernel
theorem d_M_seed_23 : decode Y_M_seed.2.1 23 = .ok (.invokestatic 127, 3) := by decide +kernel
theorem d_M_seed_26 : decode Y_M_seed.2.1 26 = .ok (.ifCond .ne 9, 3) := by decide +kernel
theorem d_M_seed_29 : decode Y_M_seed.2.1 29 = .ok (.aload_n 0, 1) := by decide +kernel
theorem d_M_seed_30 : decode Y_M_seed.2.1 30 = .ok (.iconst 2, 1) := by decide +kernel
theorem d_M_seed_31 : decode Y_M_seed.2.1 31 = .ok (.invokevirtual 544, 3) := by decide +kernel
theorem d_M_seed_34 : decode Y_M_seed.2.1 34 = .ok (.ireturn, 1) := by decide +kernel
theorem d_M_seed_35 : decode Y_M_seed.2.1 35 = .ok (.aload_n 0, 1) := by decide +kernel
theorem d_M_seed_36 : decode Y_M_seed.2.1 36 = .ok (.getfield 17, 3) := by decide +kernel
theorem d_M_seed_39 : decode Y_M_seed.2.1 39 = .ok (.bipush 22, 2) := by decide +kernel
theorem d_M_seed_41 : decode Y_M_seed.2.1 41 = .ok (.iload_n 1, 1) := by decide +kernel
theorem d_M_seed_42 : decode Y_M_seed.2.1 42 = .ok (.iastore, 1) := by decide +kernel
theorem d_M_seed_43 : decode Y_M_seed.2.1 43 = .ok (.aload_n 0, 1) := by decide +kernel
theorem d_M_seed_44 : decode Y_M_seed.2.1 44 = .ok (.invokevirtual 547, 3) := by decide +kernel
theorem d_M_seed_47 : decode Y_M_seed.2.1 47 = .ok (.ireturn, 1) := by decide +kernel
def f_M_seed (h : PH) (a0 : Option Nat) (a1 : Int32) : Option (Int32 × PH) := (sF h 12 a0 0 (.inl (0 : Int32))).bind fun h1 => (gR h1 12 a0 3).bind fun v2 => if v2 = none then ((cl h1 12 a0 (f_M_denied h1 a0 (1 : Int32))).bind fun v8 => rZ v8.1 v8.2) else ((f_M_in h1 a1 (0 : Int32) (65536 : Int32)).bind fun v3 => if ¬ v3 = 0 then ((gR h1 12 a0 15).bind fun v4 => (sA h1 50 v4 (22 : Int32) (.inl a1)).bind fun h5 => (cl h5 12 a0 (f_M_granted h5 a0)).bind fun v6 => rZ v6.1 v6.2) else ((cl h1 12 a0 (f_M_denied h1 a0 (2 : Int32))).bind fun v7 => rZ v7.1 v7.2))
set_option maxRecDepth 20000 in
theorem PM_M_seed {l : Launch} {G : Cx} {h : PH} {a0 : Option Nat} {a1 : Int32} {z : (Int32 × PH)} (hz : f_M_seed h a0 a1 = some z) : PM l G 3 0 0 Y_M_seed [.inr (.inr a0), .inl a1] h (some (.inl z.1), z.2) := by
  refine PM.of (Y := Y_M_seed) (cv := (fun z : (Int32 × PH) => (((some (.inl z.1), z.2) : Option PV × PH)))) (by decide) (L0 := [some (.inr (.inr a0)), some (.inl a1)]) 0 rfl (Nat.le_of_ble_eq_true rfl) ?_ hz
  unfold f_M_seed
  refine PJ.aload_n (pc := 0) d_M_seed_0 rfl ?_
  refine PJ.iconst (pc := 1) (v := 0) d_M_seed_1 (by decide) ?_
  refine PJ.putI (pc := 2) ps_M_46 d_M_seed_2 (fun h1 => ?_)
  refine PJ.aload_n (pc := 5) d_M_seed_5 rfl ?_
  refine PJ.getR (pc := 6) fs_M_341 d_M_seed_6 (fun v2 => ?_)
  refine PJ.ifnonnull (pc := 9) (tgt := 18) d_M_seed_9 (by decide) (fun _ => ?_) (fun _ => ?_)
  · refine PJ.iload_n (pc := 18) d_M_seed_18 rfl ?_
    refine PJ.iconst (pc := 19) (v := 0) d_M_seed_19 (by decide) ?_
    refine PJ.ldcw (pc := 20) (v := 65536) d_M_seed_20 wd_2116 ?_
    refine PJ.cSpI (pc := 23) cs_M_127 (fun z hz => PM_M_in hz) (pj_fitb rfl) rfl rfl (Nat.le_of_ble_eq_true rfl) d_M_seed_23 (fun v3 => ?_)
    refine PJ.if_ne (pc := 26) (tgt := 35) d_M_seed_26 (by decide) (fun _ => ?_) (fun _ => ?_)
    · refine PJ.aload_n (pc := 35) d_M_seed_35 rfl ?_
      refine PJ.getR (pc := 36) fs_M_17 d_M_seed_36 (fun v4 => ?_)
      refine PJ.bipush (pc := 39) (v := 22) d_M_seed_39 (by decide) ?_
      refine PJ.iload_n (pc := 41) d_M_seed_41 rfl ?_
      refine PJ.iast (pc := 42) d_M_seed_42 (fun h5 => ?_)
      refine PJ.aload_n (pc := 43) d_M_seed_43 rfl ?_
      refine PJ.cVI (pc := 44) cs_M_547 (fun z hz => PM_M_granted hz) (pj_fitb rfl) rfl rfl (Nat.le_of_ble_eq_true rfl) d_M_seed_44 (fun v6 => ?_)
      exact PJ.zretC (pc := 47) d_M_seed_47 rfl (Nat.le_of_ble_eq_true rfl) (Nat.le_of_ble_eq_true rfl)
    · refine PJ.aload_n (pc := 29) d_M_seed_29 rfl ?_
      refine PJ.iconst (pc := 30) (v := 2) d_M_seed_30 (by decide) ?_
      refine PJ.cVI (pc := 31) cs_M_544 (fun z hz => PM_M_denied hz) (pj_fitb rfl) rfl rfl (Nat.le_of_ble_eq_true rfl) d_M_seed_31 (fun v7 => ?_)
      exact PJ.zretC (pc := 34) d_M_seed_34 rfl (Nat.le_of_ble_eq_true rfl) (Nat.le_of_ble_eq_true rfl)
  · refine PJ.aload_n (pc := 12) d_M_seed_12 rfl ?_
    refine PJ.iconst (pc := 13) (v := 1) d_M_seed_13 (by decide) ?_
    refine PJ.cVI (pc := 14) cs_M_544 (fun z hz => PM_M_denied hz) (pj_fitb rfl) rfl rfl (Nat.le_of_ble_eq_true rfl) d_M_seed_14 (fun v8 => ?_)
    exact PJ.zretC (pc := 17) d_M_seed_17 rfl (Nat.le_of_ble_eq_true rfl) (Nat.le_of_ble_eq_true rfl)
theorem d_M_undo_0 : decode Y_M_undo.2.1 0 = .ok (.aload_n 0, 1) := by decide +kernel
theorem d_M_undo_1 : decode Y_M_undo.2.1 1 = .ok (.iconst 0, 1) := by decide +kernel
theorem d_M_undo_2 : decode Y_M_undo.2.1 2 = .ok (.putfield 46, 3) := by decide +kernel
theorem d_M_undo_5 : decode Y_M_undo.2.1 5 = .ok (.aload_n 0, 1) := by decide +kernel
theorem d_M_undo_6 : decode Y_M_undo.2.1 6 = .ok (.getfield 341, 3) := by decide +kernel
theorem d_M_undo_9 : decode Y_M_undo.2.1 9 = .ok (.ifnull 10, 3) := by decide +kernel
theorem d_M_undo_12 : decode Y_M_undo.2.1 12 = .ok (.aload_n 0, 1) := by decide +kernel
theorem d_M_undo_13 : decode Y_M_undo.2.1 13 = .ok (.getfield 344, 3) := by decide +kernel
theorem d_M_undo_16 : decode Y_M_undo.2.1 16 = .ok (.ifCond .ne 10, 3) := by decide +kernel
theorem d_M_undo_19 : decode Y_M_undo.2.1 19 = .ok (.aload_n 0, 1) := by decide +kernel
theorem d_M_undo_20 : decode Y_M_undo.2.1 20 = .ok (.bipush 6, 2) := by decide +kernel
theorem d_M_undo_22 : decode Y_M_undo.2.1 22 = .ok (.invokevirtual 544, 3) := by decide +kernel
theorem d_M_undo_25 : decode Y_M_undo.2.1 25 = .ok (.ireturn, 1) := by decide +kernel
theorem d_M_undo_26 : decode Y_M_undo.2.1 26 = .ok (.aload_n 0, 1) := by decide +kernel
theorem d_M_undo_27 : decode Y_M_undo.2.1 27 = .ok (.dup, 1) := by decide +kernel
theorem d_M_undo_28 : decode Y_M_undo.2.1 28 = .ok (.getfield 344, 3) := by decide +kernel
theorem d_M_undo_31 : decode Y_M_undo.2.1 31 = .ok (.iconst 1, 1) := by decide +kernel
theorem d_M_undo_32 : decode Y_M_undo.2.1 32 = .ok (.isub, 1) := by decide +kernel
theorem d_M_undo_33 : decode Y_M_undo.2.1 33 = .ok (.putfield 344, 3) := by decide +kernel
theorem d_M_undo_36 : decode Y_M_undo.2.1 36 = .ok (.iconst 0, 1) := by decide +kernel
theorem d_M_undo_37 : decode Y_M_undo.2.1 37 = .ok (.istore_n 1, 1) := by decide +kernel
theorem d_M_undo_38 : decode Y_M_undo.2.1 38 = .ok (.iload_n 1, 1) := by decide +kernel
theorem d_M_undo_39 : decode Y_M_undo.2.1 39 = .ok (.bipush 23, 2) := by decide +kernel
theorem d_M_undo_41 : decode Y_M_undo.2.1 41 = .ok (.if_icmp .ge 29, 3) := by decide +kernel
theorem d_M_undo_44 : decode Y_M_undo.2.1 44 = .ok (.aload_n 0, 1) := by decide +kernel
theorem d_M_undo_45 : decode Y_M_undo.2.1 45 = .ok (.getfield 17, 3) := by decide +kernel
theorem d_M_undo_48 : decode Y_M_undo.2.1 48 = .ok (.iload_n 1, 1) := by decide +kernel
theorem d_M_undo_49 : decode Y_M_undo.2.1 49 = .ok (.aload_n 0, 1) := by decide +kernel
theorem d_M_undo_50 : decode Y_M_undo.2.1 50 = .ok (.getfield 24, 3) := by decide +kernel
theorem d_M_undo_53 : decode Y_M_undo.2.1 53 = .ok (.bipush 23, 2) := by decide +kernel
theorem d_M_undo_55 : decode Y_M_undo.2.1 55 = .ok (.aload_n 0, 1) := by decide +kernel
theorem d_M_undo_56 : decode Y_M_undo.2.1 56 = .ok (.getfield 344, 3) := by decide +kernel
theorem d_M_undo_59 : decode Y_M_undo.2.1 59 = .ok (.imul, 1) := by decide +kernel
theorem d_M_undo_60 : decode Y_M_undo.2.1 60 = .ok (.iload_n 1, 1) := by decide +kernel
theorem d_M_undo_61 : decode Y_M_undo.2.1 61 = .ok (.iadd, 1) := by decide +kernel
theorem d_M_undo_62 : decode Y_M_undo.2.1 62 = .ok (.iaload, 1) := by decide +kernel
theorem d_M_undo_63 : decode Y_M_undo.2.1 63 = .ok (.iastore, 1) := by decide +kernel
theorem d_M_undo_64 : decode Y_M_undo.2.1 64 = .ok (.iinc 1 1, 3) := by decide +kernel
theorem d_M_undo_67 : decode Y_M_undo.2.1 67 = .ok (.goto (-29), 3) := by decide +kernel
theorem d_M_undo_70 : decode Y_M_undo.2.1 70 = .ok (.aload_n 0, 1) := by decide +kernel
theorem d_M_undo_71 : decode Y_M_undo.2.1 71 = .ok (.invokevirtual 547, 3) := by decide +kernel
theorem d_M_undo_74 : decode Y_M_undo.2.1 74 = .ok (.ireturn, 1) := by decide +kernel
def f_M_undo (h : PH) (a0 : Option Nat) : Option (Int32 × PH) := (sF h 12 a0 0 (.inl (0 : Int32))).bind fun h1 => (gR h1 12 a0 3).bind fun v2 => if v2 = none then ((cl h1 12 a0 (f_M_denied h1 a0 (6 : Int32))).bind fun v3 => rZ v3.1 v3.2) else ((gI h1 12 a0 19).bind fun v4 => if ¬ v4 = 0 then ((gI h1 12 a0 19).bind fun v5 => (sF h1 12 a0 19 (.inl (v5 - (1 : Int32)))).bind fun h6 => (pj_it (X := PH) (fun s7 : Int32 × PH => if (23 : Int32) ≤ s7.1 then (some (.inr s7.2)) else ((gR s7.2 12 a0 15).bind fun v9 => (gR s7.2 12 a0 17).bind fun v10 => (gI s7.2 12 a0 19).bind fun v11 => (aI s7.2 v10 (((23 : Int32) * v11) + s7.1)).bind fun v12 => (sA s7.2 50 v9 s7.1 (.inl v12)).bind fun h13 => some (.inl ((s7.1 + (1 : Int32)), h13)))) FU ((0 : Int32), h6)).bind fun x8 => (cl x8 12 a0 (f_M_granted x8 a0)).bind fun v14 => rZ v14.1 v14.2) else ((cl h1 12 a0 (f_M_denied h1 a0 (6 : Int32))).bind fun v15 => rZ v15.1 v15.2))
set_option maxRecDepth 20000 in
theorem PM_M_undo {l : Launch} {G : Cx} {h : PH} {a0 : Option Nat} {z : (Int32 × PH)} (hz : f_M_undo h a0 = some z) : PM l G 3 0 0 Y_M_undo [.inr (.inr a0)] h (some (.inl z.1), z.2) := by
  refine PM.of (Y := Y_M_undo) (cv := (fun z : (Int32 × PH) => (((some (.inl z.1), z.2) : Option PV × PH)))) (by decide) (L0 := [some (.inr (.inr a0)), none]) 1 rfl (Nat.le_of_ble_eq_true rfl) ?_ hz
  unfold f_M_undo
  refine PJ.aload_n (pc := 0) d_M_undo_0 rfl ?_
  refine PJ.iconst (pc := 1) (v := 0) d_M_undo_1 (by decide) ?_
  refine PJ.putI (pc := 2) ps_M_46 d_M_undo_2 (fun h1 => ?_)
  refine PJ.aload_n (pc := 5) d_M_undo_5 rfl ?_
  refine PJ.getR (pc := 6) fs_M_341 d_M_undo_6 (fun v2 => ?_)
  refine PJ.ifnull (pc := 9) (tgt := 19) d_M_undo_9 (by decide) (fun _ => ?_) (fun _ => ?_)
  · refine PJ.aload_n (pc := 19) d_M_undo_19 rfl ?_
    refine PJ.bipush (pc := 20) (v := 6) d_M_undo_20 (by decide) ?_
    refine PJ.cVI (pc := 22) cs_M_544 (fun z hz => PM_M_denied hz) (pj_fitb rfl) rfl rfl (Nat.le_of_ble_eq_true rfl) d_M_undo_22 (fun v3 => ?_)
    exact PJ.zretC (pc := 25) d_M_undo_25 rfl (Nat.le_of_ble_eq_true rfl) (Nat.le_of_ble_eq_true rfl)
  · refine PJ.aload_n (pc := 12) d_M_undo_12 rfl ?_
    refine PJ.getI (pc := 13) fs_M_344 d_M_undo_13 (fun v4 => ?_)
    refine PJ.if_ne (pc := 16) (tgt := 26) d_M_undo_16 (by decide) (fun _ => ?_) (fun _ => ?_)
    · refine PJ.aload_n (pc := 26) d_M_undo_26 rfl ?_
      refine PJ.dup (pc := 27) d_M_undo_27 rfl ?_
      refine PJ.getI (pc := 28) fs_M_344 d_M_undo_28 (fun v5 => ?_)
      refine PJ.iconst (pc := 31) (v := 1) d_M_undo_31 (by decide) ?_
      refine PJ.isub (pc := 32) d_M_undo_32 ?_
      refine PJ.putI (pc := 33) ps_M_344 d_M_undo_33 (fun h6 => ?_)
      refine PJ.iconst (pc := 36) (v := 0) d_M_undo_36 (by decide) ?_
      refine PJ.istore_n (pc := 37) (L1 := [some (.inr (.inr a0)), some (.inl (0 : Int32))]) d_M_undo_37 (Nat.le_of_ble_eq_true rfl) rfl rfl ?_
      refine PJ.bind (fun x8 : PH => ((70 : Nat), ([some (.inr (.inr a0)), none] : List (Option PV)), ([] : List PV), (x8 : PH), (0 : Nat), (0 : Nat))) (PJ.it (E := (fun s7 : Int32 × PH => ((38 : Nat), ([some (.inr (.inr a0)), some (.inl s7.1)] : List (Option PV)), ([] : List PV), (s7.2 : PH), (0 : Nat), (0 : Nat)))) (F := (fun x8 : PH => ((70 : Nat), ([some (.inr (.inr a0)), none] : List (Option PV)), ([] : List PV), (x8 : PH), (0 : Nat), (0 : Nat)))) (fun s7 => ?_) FU ((0 : Int32), h6)) (fun x8 => ?_)
      · show PJ l G (pj_rm 3 0 0) Y_M_undo 38 [some (.inr (.inr a0)), some (.inl s7.1)] [] s7.2 0 0 _ _
        refine PJ.iload_n (pc := 38) d_M_undo_38 rfl ?_
        refine PJ.bipush (pc := 39) (v := 23) d_M_undo_39 (by decide) ?_
        refine PJ.icmp_ge (pc := 41) (tgt := 70) d_M_undo_41 (by decide) (fun _ => ?_) (fun _ => ?_)
        · refine PJ.mk (L1 := [some (.inr (.inr a0)), none]) [true, false] rfl ?_
          exact PJ.done rfl
        · refine PJ.aload_n (pc := 44) d_M_undo_44 rfl ?_
          refine PJ.getR (pc := 45) fs_M_17 d_M_undo_45 (fun v9 => ?_)
          refine PJ.iload_n (pc := 48) d_M_undo_48 rfl ?_
          refine PJ.aload_n (pc := 49) d_M_undo_49 rfl ?_
          refine PJ.getR (pc := 50) fs_M_24 d_M_undo_50 (fun v10 => ?_)
          refine PJ.bipush (pc := 53) (v := 23) d_M_undo_53 (by decide) ?_
          refine PJ.aload_n (pc := 55) d_M_undo_55 rfl ?_
          refine PJ.getI (pc := 56) fs_M_344 d_M_undo_56 (fun v11 => ?_)
          refine PJ.imul (pc := 59) d_M_undo_59 ?_
          refine PJ.iload_n (pc := 60) d_M_undo_60 rfl ?_
          refine PJ.iadd (pc := 61) d_M_undo_61 ?_
          refine PJ.iald (pc := 62) d_M_undo_62 (fun v12 => ?_)
          refine PJ.iast (pc := 63) d_M_undo_63 (fun h13 => ?_)
          refine PJ.iinc (pc := 64) (v := 1) (L1 := [some (.inr (.inr a0)), some (.inl (s7.1 + (1 : Int32)))]) d_M_undo_64 rfl (by decide) (Nat.le_of_ble_eq_true rfl) rfl rfl ?_
          refine PJ.goto (pc := 67) (tgt := 38) d_M_undo_67 (by decide) ?_
          exact PJ.done rfl
      · show PJ l G (pj_rm 3 0 0) Y_M_undo 70 [some (.inr (.inr a0)), none] [] x8 0 0 _ _
        refine PJ.aload_n (pc := 70) d_M_undo_70 rfl ?_
        refine PJ.cVI (pc := 71) cs_M_547 (fun z hz => PM_M_granted hz) (pj_fitb rfl) rfl rfl (Nat.le_of_ble_eq_true rfl) d_M_undo_71 (fun v14 => ?_)
        exact PJ.zretC (pc := 74) d_M_undo_74 rfl (Nat.le_of_ble_eq_true rfl) (Nat.le_of_ble_eq_true rfl)
    · refine PJ.aload_n (pc := 19) d_M_undo_19 rfl ?_
      refine PJ.bipush (pc := 20) (v := 6) d_M_undo_20 (by decide) ?_
      refine PJ.cVI (pc := 22) cs_M_544 (fun z hz => PM_M_denied hz) (pj_fitb rfl) rfl rfl (Nat.le_of_ble_eq_true rfl) d_M_undo_22 (fun v15 => ?_)
      exact PJ.zretC (pc := 25) d_M_undo_25 rfl (Nat.le_of_ble_eq_true rfl) (Nat.le_of_ble_eq_true rfl)
theorem d_M_mark_0 : decode Y_M_mark.2.1 0 = .ok (.aload_n 0, 1) := by decide +kernel
theorem d_M_mark_1 : decode Y_M_mark.2.1 1 = .ok (.iconst 0, 1) := by decide +kernel
theorem d_M_mark_2 : decode Y_M_mark.2.1 2 = .ok (.putfield 46, 3) := by decide +kernel
theorem d_M_mark_5 : decode Y_M_mark.2.1 5 = .ok (.aload_n 0, 1) := by decide +kernel
theorem d_M_mark_6 : decode Y_M_mark.2.1 6 = .ok (.getfield 341, 3) := by decide +kernel
theorem d_M_mark_9 : decode Y_M_mark.2.1 9 = .ok (.ifnonnull 9, 3) := by decide +kernel
theorem d_M_mark_12 : decode Y_M_mark.2.1 12 = .ok (.aload_n 0, 1) := by decide +kernel
theorem d_M_mark_13 : decode Y_M_mark.2.1 13 = .ok (.iconst 1, 1) := by decide +kernel
theorem d_M_mark_14 : decode Y_M_mark.2.1 14 = .ok (.invokevirtual 52, 3) := by decide +kernel
theorem d_M_mark_17 : decode Y_M_mark.2.1 17 = .ok (.ireturn, 1) := by decide +kernel
theorem d_M_mark_18 : decode Y_M_mark.2.1 18 = .ok (.aload_n 0, 1) := by decide +kernel
theorem d_M_mark_19 : decode Y_M_mark.2.1 19 = .ok (.getfield 347, 3) := by decide +kernel
theorem d_M_mark_22 : decode Y_M_mark.2.1 22 = .ok (.iconst 3, 1) := by decide +kernel
theorem d_M_mark_23 : decode Y_M_mark.2.1 23 = .ok (.if_icmp .ne 9, 3) := by decide +kernel
theorem d_M_mark_26 : decode Y_M_mark.2.1 26 = .ok (.aload_n 0, 1) := by decide +kernel
theorem d_M_mark_27 : decode Y_M_mark.2.1 27 = .ok (.iconst 3, 1) := by decide +kernel
theorem d_M_mark_28 : decode Y_M_mark.2.1 28 = .ok (.invokevirtual 52, 3) := by decide +kernel
theorem d_M_mark_31 : decode Y_M_mark.2.1 31 = .ok (.ireturn, 1) := by decide +kernel
theorem d_M_mark_32 : decode Y_M_mark.2.1 32 = .ok (.iconst 0, 1) := by decide +kernel
theorem d_M_mark_33 : decode Y_M_mark.2.1 33 = .ok (.istore_n 1, 1) := by decide +kernel
theorem d_M_mark_34 : decode Y_M_mark.2.1 34 = .ok (.iload_n 1, 1) := by decide +kernel
theorem d_M_mark_35 : decode Y_M_mark.2.1 35 = .ok (.bipush 23, 2) := by decide +kernel
theorem d_M_mark_37 : decode Y_M_mark.2.1 37 = .ok (.if_icmp .ge 29, 3) := by decide +kernel
theorem d_M_mark_40 : decode Y_M_mark.2.1 40 = .ok (.aload_n 0, 1) := by decide +kernel
theorem d_M_mark_41 : decode Y_M_mark.2.1 41 = .ok (.getfield 27, 3) := by decide +kernel
theorem d_M_mark_44 : decode Y_M_mark.2.1 44 = .ok (.bipush 23, 2) := by decide +kernel
theorem d_M_mark_46 : decode Y_M_mark.2.1 46 = .ok (.aload_n 0, 1) := by decide +kernel
theorem d_M_mark_47 : decode Y_M_mark.2.1 47 = .ok (.getfield 347, 3) := by decide +kernel
theorem d_M_mark_50 : decode Y_M_mark.2.1 50 = .ok (.imul, 1) := by decide +kernel
theorem d_M_mark_51 : decode Y_M_mark.2.1 51 = .ok (.iload_n 1, 1) := by decide +kernel
theorem d_M_mark_52 : decode Y_M_mark.2.1 52 = .ok (.iadd, 1) := by decide +kernel
theorem d_M_mark_53 : decode Y_M_mark.2.1 53 = .ok (.aload_n 0, 1) := by decide +kernel
theorem d_M_mark_54 : decode Y_M_mark.2.1 54 = .ok (.getfield 17, 3) := by decide +kernel
theorem d_M_mark_57 : decode Y_M_mark.2.1 57 = .ok (.iload_n 1, 1) := by decide +kernel
theorem d_M_mark_58 : decode Y_M_mark.2.1 58 = .ok (.iaload, 1) := by decide +kernel
theorem d_M_mark_59 : decode Y_M_mark.2.1 59 = .ok (.iastore, 1) := by decide +kernel
theorem d_M_mark_60 : decode Y_M_mark.2.1 60 = .ok (.iinc 1 1, 3) := by decide +kernel
theorem d_M_mark_63 : decode Y_M_mark.2.1 63 = .ok (.goto (-29), 3) := by decide +kernel
theorem d_M_mark_66 : decode Y_M_mark.2.1 66 = .ok (.aload_n 0, 1) := by decide +kernel
theorem d_M_mark_67 : decode Y_M_mark.2.1 67 = .ok (.dup, 1) := by decide +kernel
theorem d_M_mark_68 : decode Y_M_mark.2.1 68 = .ok (.getfield 347, 3) := by decide +kernel
theorem d_M_mark_71 : decode Y_M_mark.2.1 71 = .ok (.iconst 1, 1) := by decide +kernel
theorem d_M_mark_72 : decode Y_M_mark.2.1 72 = .ok (.iadd, 1) := by decide +kernel
theorem d_M_mark_73 : decode Y_M_mark.2.1 73 = .ok (.putfield 347, 3) := by decide +kernel
theorem d_M_mark_76 : decode Y_M_mark.2.1 76 = .ok (.aload_n 0, 1) := by decide +kernel
theorem d_M_mark_77 : decode Y_M_mark.2.1 77 = .ok (.aload_n 0, 1) := by decide +kernel
theorem d_M_mark_78 : decode Y_M_mark.2.1 78 = .ok (.getfield 347, 3) := by decide +kernel
theorem d_M_mark_81 : decode Y_M_mark.2.1 81 = .ok (.iconst 1, 1) := by decide +kernel
theorem d_M_mark_82 : decode Y_M_mark.2.1 82 = .ok (.isub, 1) := by decide +kernel
theorem d_M_mark_83 : decode Y_M_mark.2.1 83 = .ok (.invokevirtual 58, 3) := by decide +kernel
theorem d_M_mark_86 : decode Y_M_mark.2.1 86 = .ok (.ireturn, 1) := by decide +kernel
def f_M_mark (h : PH) (a0 : Option Nat) : Option (Int32 × PH) := (sF h 12 a0 0 (.inl (0 : Int32))).bind fun h1 => (gR h1 12 a0 3).bind fun v2 => if v2 = none then ((cl h1 12 a0 (f_M_refused h1 a0 (1 : Int32))).bind fun v16 => some (v16.1, v16.2)) else ((gI h1 12 a0 20).bind fun v3 => if ¬ v3 = (3 : Int32) then ((pj_it (X := PH) (fun s4 : Int32 × PH => if (23 : Int32) ≤ s4.1 then (some (.inr s4.2)) else ((gR s4.2 12 a0 18).bind fun v6 => (gI s4.2 12 a0 20).bind fun v7 => (gR s4.2 12 a0 15).bind fun v8 => (aI s4.2 v8 s4.1).bind fun v9 => (sA s4.2 50 v6 (((23 : Int32) * v7) + s4.1) (.inl v9)).bind fun h10 => some (.inl ((s4.1 + (1 : Int32)), h10)))) FU ((0 : Int32), h1)).bind fun x5 => (gI x5 12 a0 20).bind fun v11 => (sF x5 12 a0 20 (.inl (v11 + (1 : Int32)))).bind fun h12 => (gI h12 12 a0 20).bind fun v13 => (cl h12 12 a0 (f_M_good h12 a0 (v13 - (1 : Int32)))).bind fun v14 => some (v14.1, v14.2)) else ((cl h1 12 a0 (f_M_refused h1 a0 (3 : Int32))).bind fun v15 => some (v15.1, v15.2)))
set_option maxRecDepth 20000 in
theorem PM_M_mark {l : Launch} {G : Cx} {h : PH} {a0 : Option Nat} {z : (Int32 × PH)} (hz : f_M_mark h a0 = some z) : PM l G 2 0 0 Y_M_mark [.inr (.inr a0)] h (some (.inl z.1), z.2) := by
  refine PM.of (Y := Y_M_mark) (cv := (fun z : (Int32 × PH) => (((some (.inl z.1), z.2) : Option PV × PH)))) (by decide) (L0 := [some (.inr (.inr a0)), none]) 1 rfl (Nat.le_of_ble_eq_true rfl) ?_ hz
  unfold f_M_mark
  refine PJ.aload_n (pc := 0) d_M_mark_0 rfl ?_
  refine PJ.iconst (pc := 1) (v := 0) d_M_mark_1 (by decide) ?_
  refine PJ.putI (pc := 2) ps_M_46 d_M_mark_2 (fun h1 => ?_)
  refine PJ.aload_n (pc := 5) d_M_mark_5 rfl ?_
  refine PJ.getR (pc := 6) fs_M_341 d_M_mark_6 (fun v2 => ?_)
  refine PJ.ifnonnull (pc := 9) (tgt := 18) d_M_mark_9 (by decide) (fun _ => ?_) (fun _ => ?_)
  · refine PJ.aload_n (pc := 18) d_M_mark_18 rfl ?_
    refine PJ.getI (pc := 19) fs_M_347 d_M_mark_19 (fun v3 => ?_)
    refine PJ.iconst (pc := 22) (v := 3) d_M_mark_22 (by decide) ?_
    refine PJ.icmp_ne (pc := 23) (tgt := 32) d_M_mark_23 (by decide) (fun _ => ?_) (fun _ => ?_)
    · refine PJ.iconst (pc := 32) (v := 0) d_M_mark_32 (by decide) ?_
      refine PJ.istore_n (pc := 33) (L1 := [some (.inr (.inr a0)), some (.inl (0 : Int32))]) d_M_mark_33 (Nat.le_of_ble_eq_true rfl) rfl rfl ?_
      refine PJ.bind (fun x5 : PH => ((66 : Nat), ([some (.inr (.inr a0)), none] : List (Option PV)), ([] : List PV), (x5 : PH), (0 : Nat), (0 : Nat))) (PJ.it (E := (fun s4 : Int32 × PH => ((34 : Nat), ([some (.inr (.inr a0)), some (.inl s4.1)] : List (Option PV)), ([] : List PV), (s4.2 : PH), (0 : Nat), (0 : Nat)))) (F := (fun x5 : PH => ((66 : Nat), ([some (.inr (.inr a0)), none] : List (Option PV)), ([] : List PV), (x5 : PH), (0 : Nat), (0 : Nat)))) (fun s4 => ?_) FU ((0 : Int32), h1)) (fun x5 => ?_)
      · show PJ l G (pj_rm 2 0 0) Y_M_mark 34 [some (.inr (.inr a0)), some (.inl s4.1)] [] s4.2 0 0 _ _
        refine PJ.iload_n (pc := 34) d_M_mark_34 rfl ?_
        refine PJ.bipush (pc := 35) (v := 23) d_M_mark_35 (by decide) ?_
        refine PJ.icmp_ge (pc := 37) (tgt := 66) d_M_mark_37 (by decide) (fun _ => ?_) (fun _ => ?_)
        · refine PJ.mk (L1 := [some (.inr (.inr a0)), none]) [true, false] rfl ?_
          exact PJ.done rfl
        · refine PJ.aload_n (pc := 40) d_M_mark_40 rfl ?_
          refine PJ.getR (pc := 41) fs_M_27 d_M_mark_41 (fun v6 => ?_)
          refine PJ.bipush (pc := 44) (v := 23) d_M_mark_44 (by decide) ?_
          refine PJ.aload_n (pc := 46) d_M_mark_46 rfl ?_
          refine PJ.getI (pc := 47) fs_M_347 d_M_mark_47 (fun v7 => ?_)
          refine PJ.imul (pc := 50) d_M_mark_50 ?_
          refine PJ.iload_n (pc := 51) d_M_mark_51 rfl ?_
          refine PJ.iadd (pc := 52) d_M_mark_52 ?_
          refine PJ.aload_n (pc := 53) d_M_mark_53 rfl ?_
          refine PJ.getR (pc := 54) fs_M_17 d_M_mark_54 (fun v8 => ?_)
          refine PJ.iload_n (pc := 57) d_M_mark_57 rfl ?_
          refine PJ.iald (pc := 58) d_M_mark_58 (fun v9 => ?_)
          refine PJ.iast (pc := 59) d_M_mark_59 (fun h10 => ?_)
          refine PJ.iinc (pc := 60) (v := 1) (L1 := [some (.inr (.inr a0)), some (.inl (s4.1 + (1 : Int32)))]) d_M_mark_60 rfl (by decide) (Nat.le_of_ble_eq_true rfl) rfl rfl ?_
          refine PJ.goto (pc := 63) (tgt := 34) d_M_mark_63 (by decide) ?_
          exact PJ.done rfl
      · show PJ l G (pj_rm 2 0 0) Y_M_mark 66 [some (.inr (.inr a0)), none] [] x5 0 0 _ _
        refine PJ.aload_n (pc := 66) d_M_mark_66 rfl ?_
        refine PJ.dup (pc := 67) d_M_mark_67 rfl ?_
        refine PJ.getI (pc := 68) fs_M_347 d_M_mark_68 (fun v11 => ?_)
        refine PJ.iconst (pc := 71) (v := 1) d_M_mark_71 (by decide) ?_
        refine PJ.iadd (pc := 72) d_M_mark_72 ?_
        refine PJ.putI (pc := 73) ps_M_347 d_M_mark_73 (fun h12 => ?_)
        refine PJ.aload_n (pc := 76) d_M_mark_76 rfl ?_
        refine PJ.aload_n (pc := 77) d_M_mark_77 rfl ?_
        refine PJ.getI (pc := 78) fs_M_347 d_M_mark_78 (fun v13 => ?_)
        refine PJ.iconst (pc := 81) (v := 1) d_M_mark_81 (by decide) ?_
        refine PJ.isub (pc := 82) d_M_mark_82 ?_
        refine PJ.cVI (pc := 83) cs_M_58 (fun z hz => PM_M_good hz) (pj_fitb rfl) rfl rfl (Nat.le_of_ble_eq_true rfl) d_M_mark_83 (fun v14 => ?_)
        exact PJ.iret (pc := 86) d_M_mark_86 rfl (Nat.le_of_ble_eq_true rfl) (Nat.le_of_ble_eq_true rfl)
    · refine PJ.aload_n (pc := 26) d_M_mark_26 rfl ?_
      refine PJ.iconst (pc := 27) (v := 3) d_M_mark_27 (by decide) ?_
      refine PJ.cVI (pc := 28) cs_M_52 (fun z hz => PM_M_refused hz) (pj_fitb rfl) rfl rfl (Nat.le_of_ble_eq_true rfl) d_M_mark_28 (fun v15 => ?_)
      exact PJ.iret (pc := 31) d_M_mark_31 rfl (Nat.le_of_ble_eq_true rfl) (Nat.le_of_ble_eq_true rfl)
  · refine PJ.aload_n (pc := 12) d_M_mark_12 rfl ?_
    refine PJ.iconst (pc := 13) (v := 1) d_M_mark_13 (by decide) ?_
    refine PJ.cVI (pc := 14) cs_M_52 (fun z hz => PM_M_refused hz) (pj_fitb rfl) rfl rfl (Nat.le_of_ble_eq_true rfl) d_M_mark_14 (fun v16 => ?_)
    exact PJ.iret (pc := 17) d_M_mark_17 rfl (Nat.le_of_ble_eq_true rfl) (Nat.le_of_ble_eq_true rfl)
theorem d_M_back_0 : decode Y_M_back.2.1 0 = .ok (.aload_n 0, 1) := by decide +kernel
theorem d_M_back_1 : decode Y_M_back.2.1 1 = .ok (.iconst 0, 1) := by decide +kernel
theorem d_M_back_2 : decode Y_M_back.2.1 2 = .ok (.putfield 46, 3) := by decide +kernel
theorem d_M_back_5 : decode Y_M_back.2.1 5 = .ok (.aload_n 0, 1) := by decide +kernel
theorem d_M_back_6 : decode Y_M_back.2.1 6 = .ok (.getfield 341, 3) := by decide +kernel
theorem d_M_back_9 : decode Y_M_back.2.1 9 = .ok (.ifnull 15, 3) := by decide +kernel
theorem d_M_back_12 : decode Y_M_back.2.1 12 = .ok (.iload_n 1, 1) := by decide +kernel
theorem d_M_back_13 : decode Y_M_back.2.1 13 = .ok (.ifCond .lt 11, 3) := by decide +kernel
theorem d_M_back_16 : decode Y_M_back.2.1 16 = .ok (.iload_n 1, 1) := by decide +kernel
theorem d_M_back_17 : decode Y_M_back.2.1 17 = .ok (.aload_n 0, 1) := by decide +kernel
theorem d_M_back_18 : decode Y_M_back.2.1 18 = .ok (.getfield 347, 3) := by decide +kernel
theorem d_M_back_21 : decode Y_M_back.2.1 21 = .ok (.if_icmp .lt 9, 3) := by decide +kernel
theorem d_M_back_24 : decode Y_M_back.2.1 24 = .ok (.aload_n 0, 1) := by decide +kernel
theorem d_M_back_25 : decode Y_M_back.2.1 25 = .ok (.iconst 1, 1) := by decide +kernel
theorem d_M_back_26 : decode Y_M_back.2.1 26 = .ok (.invokevirtual 544, 3) := by decide +kernel
theorem d_M_back_29 : decode Y_M_back.2.1 29 = .ok (.ireturn, 1) := by decide +kernel
theorem d_M_back_30 : decode Y_M_back.2.1 30 = .ok (.iconst 0, 1) := by decide +kernel
theorem d_M_back_31 : decode Y_M_back.2.1 31 = .ok (.istore_n 2, 1) := by decide +kernel
theorem d_M_back_32 : decode Y_M_back.2.1 32 = .ok (.iload_n 2, 1) := by decide +kernel
theorem d_M_back_33 : decode Y_M_back.2.1 33 = .ok (.bipush 23, 2) := by decide +kernel
theorem d_M_back_35 : decode Y_M_back.2.1 35 = .ok (.if_icmp .ge 26, 3) := by decide +kernel
theorem d_M_back_38 : decode Y_M_back.2.1 38 = .ok (.aload_n 0, 1) := by decide +kernel
theorem d_M_back_39 : decode Y_M_back.2.1 39 = .ok (.getfield 17, 3) := by decide +kernel
theorem d_M_back_42 : decode Y_M_back.2.1 42 = .ok (.iload_n 2, 1) := by decide +kernel
theorem d_M_back_43 : decode Y_M_back.2.1 43 = .ok (.aload_n 0, 1) := by decide +kernel
theorem d_M_back_44 : decode Y_M_back.2.1 44 = .ok (.getfield 27, 3) := by decide +kernel
theorem d_M_back_47 : decode Y_M_back.2.1 47 = .ok (.bipush 23, 2) := by decide +kernel
theorem d_M_back_49 : decode Y_M_back.2.1 49 = .ok (.iload_n 1, 1) := by decide +kernel
theorem d_M_back_50 : decode Y_M_back.2.1 50 = .ok (.imul, 1) := by decide +kernel
theorem d_M_back_51 : decode Y_M_back.2.1 51 = .ok (.iload_n 2, 1) := by decide +kernel
theorem d_M_back_52 : decode Y_M_back.2.1 52 = .ok (.iadd, 1) := by decide +kernel
theorem d_M_back_53 : decode Y_M_back.2.1 53 = .ok (.iaload, 1) := by decide +kernel
theorem d_M_back_54 : decode Y_M_back.2.1 54 = .ok (.iastore, 1) := by decide +kernel
theorem d_M_back_55 : decode Y_M_back.2.1 55 = .ok (.iinc 2 1, 3) := by decide +kernel
theorem d_M_back_58 : decode Y_M_back.2.1 58 = .ok (.goto (-26), 3) := by decide +kernel
theorem d_M_back_61 : decode Y_M_back.2.1 61 = .ok (.aload_n 0, 1) := by decide +kernel
theorem d_M_back_62 : decode Y_M_back.2.1 62 = .ok (.iconst 0, 1) := by decide +kernel
theorem d_M_back_63 : decode Y_M_back.2.1 63 = .ok (.putfield 344, 3) := by decide +kernel
theorem d_M_back_66 : decode Y_M_back.2.1 66 = .ok (.aload_n 0, 1) := by decide +kernel
theorem d_M_back_67 : decode Y_M_back.2.1 67 = .ok (.invokevirtual 547, 3) := by decide +kernel
theorem d_M_back_70 : decode Y_M_back.2.1 70 = .ok (.ireturn, 1) := by decide +kernel
def f_M_back (h : PH) (a0 : Option Nat) (a1 : Int32) : Option (Int32 × PH) := (sF h 12 a0 0 (.inl (0 : Int32))).bind fun h1 => (gR h1 12 a0 3).bind fun v2 => if v2 = none then ((cl h1 12 a0 (f_M_denied h1 a0 (1 : Int32))).bind fun v3 => rZ v3.1 v3.2) else (if a1 < 0 then ((cl h1 12 a0 (f_M_denied h1 a0 (1 : Int32))).bind fun v4 => rZ v4.1 v4.2) else ((gI h1 12 a0 20).bind fun v5 => if a1 < v5 then ((pj_it (X := PH) (fun s6 : Int32 × PH => if (23 : Int32) ≤ s6.1 then (some (.inr s6.2)) else ((gR s6.2 12 a0 15).bind fun v8 => (gR s6.2 12 a0 18).bind fun v9 => (aI s6.2 v9 (((23 : Int32) * a1) + s6.1)).bind fun v10 => (sA s6.2 50 v8 s6.1 (.inl v10)).bind fun h11 => some (.inl ((s6.1 + (1 : Int32)), h11)))) FU ((0 : Int32), h1)).bind fun x7 => (sF x7 12 a0 19 (.inl (0 : Int32))).bind fun h12 => (cl h12 12 a0 (f_M_granted h12 a0)).bind fun v13 => rZ v13.1 v13.2) else ((cl h1 12 a0 (f_M_denied h1 a0 (1 : Int32))).bind fun v14 => rZ v14.1 v14.2)))
set_option maxRecDepth 20000 in
theorem PM_M_back {l : Launch} {G : Cx} {h : PH} {a0 : Option Nat} {a1 : Int32} {z : (Int32 × PH)} (hz : f_M_back h a0 a1 = some z) : PM l G 3 0 0 Y_M_back [.inr (.inr a0), .inl a1] h (some (.inl z.1), z.2) := by
  refine PM.of (Y := Y_M_back) (cv := (fun z : (Int32 × PH) => (((some (.inl z.1), z.2) : Option PV × PH)))) (by decide) (L0 := [some (.inr (.inr a0)), some (.inl a1), none]) 1 rfl (Nat.le_of_ble_eq_true rfl) ?_ hz
  unfold f_M_back
  refine PJ.aload_n (pc := 0) d_M_back_0 rfl ?_
  refine PJ.iconst (pc := 1) (v := 0) d_M_back_1 (by decide) ?_
  refine PJ.putI (pc := 2) ps_M_46 d_M_back_2 (fun h1 => ?_)
  refine PJ.aload_n (pc := 5) d_M_back_5 rfl ?_
  refine PJ.getR (pc := 6) fs_M_341 d_M_back_6 (fun v2 => ?_)
  refine PJ.ifnull (pc := 9) (tgt := 24) d_M_back_9 (by decide) (fun _ => ?_) (fun _ => ?_)
  · refine PJ.aload_n (pc := 24) d_M_back_24 rfl ?_
    refine PJ.iconst (pc := 25) (v := 1) d_M_back_25 (by decide) ?_
    refine PJ.cVI (pc := 26) cs_M_544 (fun z hz => PM_M_denied hz) (pj_fitb rfl) rfl rfl (Nat.le_of_ble_eq_true rfl) d_M_back_26 (fun v3 => ?_)
    exact PJ.zretC (pc := 29) d_M_back_29 rfl (Nat.le_of_ble_eq_true rfl) (Nat.le_of_ble_eq_true rfl)
  · refine PJ.iload_n (pc := 12) d_M_back_12 rfl ?_
    refine PJ.if_lt (pc := 13) (tgt := 24) d_M_back_13 (by decide) (fun _ => ?_) (fun _ => ?_)
    · refine PJ.aload_n (pc := 24) d_M_back_24 rfl ?_
      refine PJ.iconst (pc := 25) (v := 1) d_M_back_25 (by decide) ?_
      refine PJ.cVI (pc := 26) cs_M_544 (fun z hz => PM_M_denied hz) (pj_fitb rfl) rfl rfl (Nat.le_of_ble_eq_true rfl) d_M_back_26 (fun v4 => ?_)
      exact PJ.zretC (pc := 29) d_M_back_29 rfl (Nat.le_of_ble_eq_true rfl) (Nat.le_of_ble_eq_true rfl)
    · refine PJ.iload_n (pc := 16) d_M_back_16 rfl ?_
      refine PJ.aload_n (pc := 17) d_M_back_17 rfl ?_
      refine PJ.getI (pc := 18) fs_M_347 d_M_back_18 (fun v5 => ?_)
      refine PJ.icmp_lt (pc := 21) (tgt := 30) d_M_back_21 (by decide) (fun _ => ?_) (fun _ => ?_)
      · refine PJ.iconst (pc := 30) (v := 0) d_M_back_30 (by decide) ?_
        refine PJ.istore_n (pc := 31) (L1 := [some (.inr (.inr a0)), some (.inl a1), some (.inl (0 : Int32))]) d_M_back_31 (Nat.le_of_ble_eq_true rfl) rfl rfl ?_
        refine PJ.bind (fun x7 : PH => ((61 : Nat), ([some (.inr (.inr a0)), none, none] : List (Option PV)), ([] : List PV), (x7 : PH), (0 : Nat), (0 : Nat))) (PJ.it (E := (fun s6 : Int32 × PH => ((32 : Nat), ([some (.inr (.inr a0)), some (.inl a1), some (.inl s6.1)] : List (Option PV)), ([] : List PV), (s6.2 : PH), (0 : Nat), (0 : Nat)))) (F := (fun x7 : PH => ((61 : Nat), ([some (.inr (.inr a0)), none, none] : List (Option PV)), ([] : List PV), (x7 : PH), (0 : Nat), (0 : Nat)))) (fun s6 => ?_) FU ((0 : Int32), h1)) (fun x7 => ?_)
        · show PJ l G (pj_rm 3 0 0) Y_M_back 32 [some (.inr (.inr a0)), some (.inl a1), some (.inl s6.1)] [] s6.2 0 0 _ _
          refine PJ.iload_n (pc := 32) d_M_back_32 rfl ?_
          refine PJ.bipush (pc := 33) (v := 23) d_M_back_33 (by decide) ?_
          refine PJ.icmp_ge (pc := 35) (tgt := 61) d_M_back_35 (by decide) (fun _ => ?_) (fun _ => ?_)
          · refine PJ.mk (L1 := [some (.inr (.inr a0)), none, none]) [true, false, false] rfl ?_
            exact PJ.done rfl
          · refine PJ.aload_n (pc := 38) d_M_back_38 rfl ?_
            refine PJ.getR (pc := 39) fs_M_17 d_M_back_39 (fun v8 => ?_)
            refine PJ.iload_n (pc := 42) d_M_back_42 rfl ?_
            refine PJ.aload_n (pc := 43) d_M_back_43 rfl ?_
            refine PJ.getR (pc := 44) fs_M_27 d_M_back_44 (fun v9 => ?_)
            refine PJ.bipush (pc := 47) (v := 23) d_M_back_47 (by decide) ?_
            refine PJ.iload_n (pc := 49) d_M_back_49 rfl ?_
            refine PJ.imul (pc := 50) d_M_back_50 ?_
            refine PJ.iload_n (pc := 51) d_M_back_51 rfl ?_
            refine PJ.iadd (pc := 52) d_M_back_52 ?_
            refine PJ.iald (pc := 53) d_M_back_53 (fun v10 => ?_)
            refine PJ.iast (pc := 54) d_M_back_54 (fun h11 => ?_)
            refine PJ.iinc (pc := 55) (v := 1) (L1 := [some (.inr (.inr a0)), some (.inl a1), some (.inl (s6.1 + (1 : Int32)))]) d_M_back_55 rfl (by decide) (Nat.le_of_ble_eq_true rfl) rfl rfl ?_
            refine PJ.goto (pc := 58) (tgt := 32) d_M_back_58 (by decide) ?_
            exact PJ.done rfl
        · show PJ l G (pj_rm 3 0 0) Y_M_back 61 [some (.inr (.inr a0)), none, none] [] x7 0 0 _ _
          refine PJ.aload_n (pc := 61) d_M_back_61 rfl ?_
          refine PJ.iconst (pc := 62) (v := 0) d_M_back_62 (by decide) ?_
          refine PJ.putI (pc := 63) ps_M_344 d_M_back_63 (fun h12 => ?_)
          refine PJ.aload_n (pc := 66) d_M_back_66 rfl ?_
          refine PJ.cVI (pc := 67) cs_M_547 (fun z hz => PM_M_granted hz) (pj_fitb rfl) rfl rfl (Nat.le_of_ble_eq_true rfl) d_M_back_67 (fun v13 => ?_)
          exact PJ.zretC (pc := 70) d_M_back_70 rfl (Nat.le_of_ble_eq_true rfl) (Nat.le_of_ble_eq_true rfl)
      · refine PJ.aload_n (pc := 24) d_M_back_24 rfl ?_
        refine PJ.iconst (pc := 25) (v := 1) d_M_back_25 (by decide) ?_
        refine PJ.cVI (pc := 26) cs_M_544 (fun z hz => PM_M_denied hz) (pj_fitb rfl) rfl rfl (Nat.le_of_ble_eq_true rfl) d_M_back_26 (fun v14 => ?_)
        exact PJ.zretC (pc := 29) d_M_back_29 rfl (Nat.le_of_ble_eq_true rfl) (Nat.le_of_ble_eq_true rfl)
theorem d_M_led_0 : decode Y_M_led.2.1 0 = .ok (.aload_n 0, 1) := by decide +kernel
theorem d_M_led_1 : decode Y_M_led.2.1 1 = .ok (.iconst 0, 1) := by decide +kernel
theorem d_M_led_2 : decode Y_M_led.2.1 2 = .ok (.putfield 46, 3) := by decide +kernel
theorem d_M_led_5 : decode Y_M_led.2.1 5 = .ok (.iconst 0, 1) := by decide +kernel
theorem d_M_led_6 : decode Y_M_led.2.1 6 = .ok (.istore_n 2, 1) := by decide +kernel
theorem d_M_led_7 : decode Y_M_led.2.1 7 = .ok (.iconst 0, 1) := by decide +kernel
theorem d_M_led_8 : decode Y_M_led.2.1 8 = .ok (.istore_n 3, 1) := by decide +kernel
theorem d_M_led_9 : decode Y_M_led.2.1 9 = .ok (.aload_n 0, 1) := by decide +kernel
theorem d_M_led_10 : decode Y_M_led.2.1 10 = .ok (.getfield 341, 3) := by decide +kernel
theorem d_M_led_13 : decode Y_M_led.2.1 13 = .ok (.ifnull 53, 3) := by decide +kernel
theorem d_M_led_16 : decode Y_M_led.2.1 16 = .ok (.iload_n 3, 1) := by decide +kernel
theorem d_M_led_17 : decode Y_M_led.2.1 17 = .ok (.aload_n 0, 1) := by decide +kernel
theorem d_M_led_18 : decode Y_M_led.2.1 18 = .ok (.getfield 341, 3) := by decide +kernel
theorem d_M_led_21 : decode Y_M_led.2.1 21 = .ok (.getfield 255, 3) := by decide +kernel
theorem d_M_led_24 : decode Y_M_led.2.1 24 = .ok (.if_icmp .ge 42, 3) := by decide +kernel
theorem d_M_led_27 : decode Y_M_led.2.1 27 = .ok (.aload_n 0, 1) := by decide +kernel
theorem d_M_led_28 : decode Y_M_led.2.1 28 = .ok (.getfield 17, 3) := by decide +kernel
theorem d_M_led_31 : decode Y_M_led.2.1 31 = .ok (.iconst 0, 1) := by decide +kernel
theorem d_M_led_32 : decode Y_M_led.2.1 32 = .ok (.iload_n 3, 1) := by decide +kernel
theorem d_M_led_33 : decode Y_M_led.2.1 33 = .ok (.iadd, 1) := by decide +kernel
theorem d_M_led_34 : decode Y_M_led.2.1 34 = .ok (.iaload, 1) := by decide +kernel
theorem d_M_led_35 : decode Y_M_led.2.1 35 = .ok (.aload_n 0, 1) := by decide +kernel
theorem d_M_led_36 : decode Y_M_led.2.1 36 = .ok (.getfield 341, 3) := by decide +kernel
theorem d_M_led_39 : decode Y_M_led.2.1 39 = .ok (.getfield 270, 3) := by decide +kernel
theorem d_M_led_42 : decode Y_M_led.2.1 42 = .ok (.iload_n 3, 1) := by decide +kernel
theorem d_M_led_43 : decode Y_M_led.2.1 43 = .ok (.iaload, 1) := by decide +kernel
theorem d_M_led_44 : decode Y_M_led.2.1 44 = .ok (.if_icmp .eq 6, 3) := by decide +kernel
theorem d_M_led_47 : decode Y_M_led.2.1 47 = .ok (.goto 13, 3) := by decide +kernel
theorem d_M_led_50 : decode Y_M_led.2.1 50 = .ok (.iload_n 2, 1) := by decide +kernel
theorem d_M_led_51 : decode Y_M_led.2.1 51 = .ok (.iload_n 1, 1) := by decide +kernel
theorem d_M_led_52 : decode Y_M_led.2.1 52 = .ok (.if_icmp .ne 5, 3) := by decide +kernel
theorem d_M_led_55 : decode Y_M_led.2.1 55 = .ok (.iload_n 3, 1) := by decide +kernel
theorem d_M_led_56 : decode Y_M_led.2.1 56 = .ok (.ireturn, 1) := by decide +kernel
theorem d_M_led_57 : decode Y_M_led.2.1 57 = .ok (.iinc 2 1, 3) := by decide +kernel
theorem d_M_led_60 : decode Y_M_led.2.1 60 = .ok (.iinc 3 1, 3) := by decide +kernel
theorem d_M_led_63 : decode Y_M_led.2.1 63 = .ok (.goto (-54), 3) := by decide +kernel
theorem d_M_led_66 : decode Y_M_led.2.1 66 = .ok (.aload_n 0, 1) := by decide +kernel
theorem d_M_led_67 : decode Y_M_led.2.1 67 = .ok (.iconst 1, 1) := by decide +kernel
theorem d_M_led_68 : decode Y_M_led.2.1 68 = .ok (.putfield 46, 3) := by decide +kernel
theorem d_M_led_71 : decode Y_M_led.2.1 71 = .ok (.iconst 0, 1) := by decide +kernel
theorem d_M_led_72 : decode Y_M_led.2.1 72 = .ok (.ireturn, 1) := by decide +kernel
def f_M_led (h : PH) (a0 : Option Nat) (a1 : Int32) : Option (Int32 × PH) := (sF h 12 a0 0 (.inl (0 : Int32))).bind fun h1 => (pj_it (X := (Unit) ⊕ (Int32)) (fun s2 : Int32 × Int32 => (gR h1 12 a0 3).bind fun v4 => if v4 = none then (some (.inr (.inl ()))) else ((gR h1 12 a0 3).bind fun v5 => (gI h1 11 v5 3).bind fun v6 => if v6 ≤ s2.2 then (some (.inr (.inl ()))) else ((gR h1 12 a0 15).bind fun v7 => (aI h1 v7 ((0 : Int32) + s2.2)).bind fun v8 => (gR h1 12 a0 3).bind fun v9 => (gR h1 11 v9 12).bind fun v10 => (aI h1 v10 s2.2).bind fun v11 => if v8 = v11 then (if ¬ s2.1 = a1 then (some (.inl ((s2.1 + (1 : Int32)), (s2.2 + (1 : Int32))))) else (some (.inr (.inr s2.2)))) else (some (.inl (s2.1, (s2.2 + (1 : Int32)))))))) FU ((0 : Int32), (0 : Int32))).bind fun x3 => match x3 with | (.inl yx3_0) => (sF h1 12 a0 0 (.inl (1 : Int32))).bind fun h12 => some ((0 : Int32), h12) | (.inr yx3_1) => some (yx3_1, h1)
set_option maxRecDepth 20000 in
theorem PM_M_led {l : Launch} {G : Cx} {h : PH} {a0 : Option Nat} {a1 : Int32} {z : (Int32 × PH)} (hz : f_M_led h a0 a1 = some z) : PM l G 1 0 0 Y_M_led [.inr (.inr a0), .inl a1] h (some (.inl z.1), z.2) := by
  refine PM.of (Y := Y_M_led) (cv := (fun z : (Int32 × PH) => (((some (.inl z.1), z.2) : Option PV × PH)))) (by decide) (L0 := [some (.inr (.inr a0)), some (.inl a1), none, none]) 2 rfl (Nat.le_of_ble_eq_true rfl) ?_ hz
  unfold f_M_led
  refine PJ.aload_n (pc := 0) d_M_led_0 rfl ?_
  refine PJ.iconst (pc := 1) (v := 0) d_M_led_1 (by decide) ?_
  refine PJ.putI (pc := 2) ps_M_46 d_M_led_2 (fun h1 => ?_)
  refine PJ.iconst (pc := 5) (v := 0) d_M_led_5 (by decide) ?_
  refine PJ.istore_n (pc := 6) (L1 := [some (.inr (.inr a0)), some (.inl a1), some (.inl (0 : Int32)), none]) d_M_led_6 (Nat.le_of_ble_eq_true rfl) rfl rfl ?_
  refine PJ.iconst (pc := 7) (v := 0) d_M_led_7 (by decide) ?_
  refine PJ.istore_n (pc := 8) (L1 := [some (.inr (.inr a0)), some (.inl a1), some (.inl (0 : Int32)), some (.inl (0 : Int32))]) d_M_led_8 (Nat.le_of_ble_eq_true rfl) rfl rfl ?_
  refine PJ.bind (fun x3 : (Unit) ⊕ (Int32) => match x3 with | (.inl y0) => ((66 : Nat), ([some (.inr (.inr a0)), none, none, none] : List (Option PV)), ([] : List PV), (h1 : PH), (0 : Nat), (0 : Nat)) | (.inr y1) => ((55 : Nat), ([none, none, none, some (.inl y1)] : List (Option PV)), ([] : List PV), (h1 : PH), (0 : Nat), (0 : Nat))) (PJ.it (E := (fun s2 : Int32 × Int32 => ((9 : Nat), ([some (.inr (.inr a0)), some (.inl a1), some (.inl s2.1), some (.inl s2.2)] : List (Option PV)), ([] : List PV), (h1 : PH), (0 : Nat), (0 : Nat)))) (F := (fun x3 : (Unit) ⊕ (Int32) => match x3 with | (.inl y0) => ((66 : Nat), ([some (.inr (.inr a0)), none, none, none] : List (Option PV)), ([] : List PV), (h1 : PH), (0 : Nat), (0 : Nat)) | (.inr y1) => ((55 : Nat), ([none, none, none, some (.inl y1)] : List (Option PV)), ([] : List PV), (h1 : PH), (0 : Nat), (0 : Nat)))) (fun s2 => ?_) FU ((0 : Int32), (0 : Int32))) (fun x3 => ?_)
  · show PJ l G (pj_rm 1 0 0) Y_M_led 9 [some (.inr (.inr a0)), some (.inl a1), some (.inl s2.1), some (.inl s2.2)] [] h1 0 0 _ _
    refine PJ.aload_n (pc := 9) d_M_led_9 rfl ?_
    refine PJ.getR (pc := 10) fs_M_341 d_M_led_10 (fun v4 => ?_)
    refine PJ.ifnull (pc := 13) (tgt := 66) d_M_led_13 (by decide) (fun _ => ?_) (fun _ => ?_)
    · refine PJ.mk (L1 := [some (.inr (.inr a0)), none, none, none]) [true, false, false, false] rfl ?_
      exact PJ.done rfl
    · refine PJ.iload_n (pc := 16) d_M_led_16 rfl ?_
      refine PJ.aload_n (pc := 17) d_M_led_17 rfl ?_
      refine PJ.getR (pc := 18) fs_M_341 d_M_led_18 (fun v5 => ?_)
      refine PJ.getI (pc := 21) fs_M_255 d_M_led_21 (fun v6 => ?_)
      refine PJ.icmp_ge (pc := 24) (tgt := 66) d_M_led_24 (by decide) (fun _ => ?_) (fun _ => ?_)
      · refine PJ.mk (L1 := [some (.inr (.inr a0)), none, none, none]) [true, false, false, false] rfl ?_
        exact PJ.done rfl
      · refine PJ.aload_n (pc := 27) d_M_led_27 rfl ?_
        refine PJ.getR (pc := 28) fs_M_17 d_M_led_28 (fun v7 => ?_)
        refine PJ.iconst (pc := 31) (v := 0) d_M_led_31 (by decide) ?_
        refine PJ.iload_n (pc := 32) d_M_led_32 rfl ?_
        refine PJ.iadd (pc := 33) d_M_led_33 ?_
        refine PJ.iald (pc := 34) d_M_led_34 (fun v8 => ?_)
        refine PJ.aload_n (pc := 35) d_M_led_35 rfl ?_
        refine PJ.getR (pc := 36) fs_M_341 d_M_led_36 (fun v9 => ?_)
        refine PJ.getR (pc := 39) fs_M_270 d_M_led_39 (fun v10 => ?_)
        refine PJ.iload_n (pc := 42) d_M_led_42 rfl ?_
        refine PJ.iald (pc := 43) d_M_led_43 (fun v11 => ?_)
        refine PJ.icmp_eq (pc := 44) (tgt := 50) d_M_led_44 (by decide) (fun _ => ?_) (fun _ => ?_)
        · refine PJ.iload_n (pc := 50) d_M_led_50 rfl ?_
          refine PJ.iload_n (pc := 51) d_M_led_51 rfl ?_
          refine PJ.icmp_ne (pc := 52) (tgt := 57) d_M_led_52 (by decide) (fun _ => ?_) (fun _ => ?_)
          · refine PJ.iinc (pc := 57) (v := 1) (L1 := [some (.inr (.inr a0)), some (.inl a1), some (.inl (s2.1 + (1 : Int32))), some (.inl s2.2)]) d_M_led_57 rfl (by decide) (Nat.le_of_ble_eq_true rfl) rfl rfl ?_
            refine PJ.iinc (pc := 60) (v := 1) (L1 := [some (.inr (.inr a0)), some (.inl a1), some (.inl (s2.1 + (1 : Int32))), some (.inl (s2.2 + (1 : Int32)))]) d_M_led_60 rfl (by decide) (Nat.le_of_ble_eq_true rfl) rfl rfl ?_
            refine PJ.goto (pc := 63) (tgt := 9) d_M_led_63 (by decide) ?_
            exact PJ.done rfl
          · refine PJ.mk (L1 := [none, none, none, some (.inl s2.2)]) [false, false, false, true] rfl ?_
            exact PJ.done rfl
        · refine PJ.goto (pc := 47) (tgt := 60) d_M_led_47 (by decide) ?_
          refine PJ.iinc (pc := 60) (v := 1) (L1 := [some (.inr (.inr a0)), some (.inl a1), some (.inl s2.1), some (.inl (s2.2 + (1 : Int32)))]) d_M_led_60 rfl (by decide) (Nat.le_of_ble_eq_true rfl) rfl rfl ?_
          refine PJ.goto (pc := 63) (tgt := 9) d_M_led_63 (by decide) ?_
          exact PJ.done rfl
  · rcases x3 with yx3_0 | yx3_1
    · show PJ l G (pj_rm 1 0 0) Y_M_led 66 [some (.inr (.inr a0)), none, none, none] [] h1 0 0 _ _
      refine PJ.aload_n (pc := 66) d_M_led_66 rfl ?_
      refine PJ.iconst (pc := 67) (v := 1) d_M_led_67 (by decide) ?_
      refine PJ.putI (pc := 68) ps_M_46 d_M_led_68 (fun h12 => ?_)
      refine PJ.iconst (pc := 71) (v := 0) d_M_led_71 (by decide) ?_
      exact PJ.iret (pc := 72) d_M_led_72 rfl (Nat.le_of_ble_eq_true rfl) (Nat.le_of_ble_eq_true rfl)
    · show PJ l G (pj_rm 1 0 0) Y_M_led 55 [none, none, none, some (.inl yx3_1)] [] h1 0 0 _ _
      refine PJ.iload_n (pc := 55) d_M_led_55 rfl ?_
      exact PJ.iret (pc := 56) d_M_led_56 rfl (Nat.le_of_ble_eq_true rfl) (Nat.le_of_ble_eq_true rfl)
theorem d_M_size_0 : decode Y_M_size.2.1 0 = .ok (.aload_n 0, 1) := by decide +kernel
theorem d_M_size_1 : decode Y_M_size.2.1 1 = .ok (.iconst 0, 1) := by decide +kernel
theorem d_M_size_2 : decode Y_M_size.2.1 2 = .ok (.putfield 46, 3) := by decide +kernel
theorem d_M_size_5 : decode Y_M_size.2.1 5 = .ok (.iload_n 1, 1) := by decide +kernel
theorem d_M_size_6 : decode Y_M_size.2.1 6 = .ok (.bipush 13, 2) := by decide +kernel
theorem d_M_size_8 : decode Y_M_size.2.1 8 = .ok (.if_icmp .ne 8, 3) := by decide +kernel
theorem d_M_size_11 : decode Y_M_size.2.1 11 = .ok (.aload_n 0, 1) := by decide +kernel
theorem d_M_size_12 : decode Y_M_size.2.1 12 = .ok (.getfield 334, 3) := by decide +kernel
theorem d_M_size_15 : decode Y_M_size.2.1 15 = .ok (.ireturn, 1) := by decide +kernel
theorem d_M_size_16 : decode Y_M_size.2.1 16 = .ok (.iload_n 1, 1) := by decide +kernel
theorem d_M_size_17 : decode Y_M_size.2.1 17 = .ok (.iconst 0, 1) := by decide +kernel
theorem d_M_size_18 : decode Y_M_size.2.1 18 = .ok (.bipush 12, 2) := by decide +kernel
theorem d_M_size_20 : decode Y_M_size.2.1 20 = .ok (.invokestatic 127, 3) := by decide +kernel
theorem d_M_size_23 : decode Y_M_size.2.1 23 = .ok (.ifCond .ne 5, 3) := by decide +kernel
theorem d_M_size_26 : decode Y_M_size.2.1 26 = .ok (.iconst (-1), 1) := by decide +kernel
theorem d_M_size_27 : decode Y_M_size.2.1 27 = .ok (.ireturn, 1) := by decide +kernel
theorem d_M_size_28 : decode Y_M_size.2.1 28 = .ok (.aload_n 0, 1) := by decide +kernel
theorem d_M_size_29 : decode Y_M_size.2.1 29 = .ok (.getfield 341, 3) := by decide +kernel
theorem d_M_size_32 : decode Y_M_size.2.1 32 = .ok (.ifnonnull 5, 3) := by decide +kernel
theorem d_M_size_35 : decode Y_M_size.2.1 35 = .ok (.iconst 0, 1) := by decide +kernel
theorem d_M_size_36 : decode Y_M_size.2.1 36 = .ok (.ireturn, 1) := by decide +kernel
theorem d_M_size_37 : decode Y_M_size.2.1 37 = .ok (.iload_n 1, 1) := by decide +kernel
theorem d_M_size_38 : decode Y_M_size.2.1 38 = .ok (.tableswitch 155 0 11 #[62, 70, 78, 86, 94, 102, 110, 118, 126, 134, 142, 150], 62) := by decide +kernel
theorem d_M_size_100 : decode Y_M_size.2.1 100 = .ok (.aload_n 0, 1) := by decide +kernel
theorem d_M_size_101 : decode Y_M_size.2.1 101 = .ok (.getfield 341, 3) := by decide +kernel
theorem d_M_size_104 : decode Y_M_size.2.1 104 = .ok (.getfield 164, 3) := by decide +kernel
theorem d_M_size_107 : decode Y_M_size.2.1 107 = .ok (.ireturn, 1) := by decide +kernel
theorem d_M_size_108 : decode Y_M_size.2.1 108 = .ok (.aload_n 0, 1) := by decide +kernel
theorem d_M_size_109 : decode Y_M_size.2.1 109 = .ok (.getfield 341, 3) := by decide +kernel
theorem d_M_size_112 : decode Y_M_size.2.1 112 = .ok (.getfield 235, 3) := by decide +kernel
theorem d_M_size_115 : decode Y_M_size.2.1 115 = .ok (.ireturn, 1) := by decide +kernel
theorem d_M_size_116 : decode Y_M_size.2.1 116 = .ok (.aload_n 0, 1) := by decide +kernel
theorem d_M_size_117 : decode Y_M_size.2.1 117 = .ok (.getfield 341, 3) := by decide +kernel
theorem d_M_size_120 : decode Y_M_size.2.1 120 = .ok (.getfield 198, 3) := by decide +kernel
theorem d_M_size_123 : decode Y_M_size.2.1 123 = .ok (.ireturn, 1) := by decide +kernel
theorem d_M_size_124 : decode Y_M_size.2.1 124 = .ok (.aload_n 0, 1) := by decide +kernel
theorem d_M_size_125 : decode Y_M_size.2.1 125 = .ok (.getfield 341, 3) := by decide +kernel
theorem d_M_size_128 : decode Y_M_size.2.1 128 = .ok (.getfield 255, 3) := by decide +kernel
theorem d_M_size_131 : decode Y_M_size.2.1 131 = .ok (.ireturn, 1) := by decide +kernel
theorem d_M_size_132 : decode Y_M_size.2.1 132 = .ok (.aload_n 0, 1) := by decide +kernel
theorem d_M_size_133 : decode Y_M_size.2.1 133 = .ok (.getfield 341, 3) := by decide +kernel
theorem d_M_size_136 : decode Y_M_size.2.1 136 = .ok (.getfield 273, 3) := by decide +kernel
theorem d_M_size_139 : decode Y_M_size.2.1 139 = .ok (.ireturn, 1) := by decide +kernel
theorem d_M_size_140 : decode Y_M_size.2.1 140 = .ok (.aload_n 0, 1) := by decide +kernel
theorem d_M_size_141 : decode Y_M_size.2.1 141 = .ok (.getfield 341, 3) := by decide +kernel
theorem d_M_size_144 : decode Y_M_size.2.1 144 = .ok (.getfield 280, 3) := by decide +kernel
theorem d_M_size_147 : decode Y_M_size.2.1 147 = .ok (.ireturn, 1) := by decide +kernel
theorem d_M_size_148 : decode Y_M_size.2.1 148 = .ok (.aload_n 0, 1) := by decide +kernel
theorem d_M_size_149 : decode Y_M_size.2.1 149 = .ok (.getfield 341, 3) := by decide +kernel
theorem d_M_size_152 : decode Y_M_size.2.1 152 = .ok (.getfield 302, 3) := by decide +kernel
theorem d_M_size_155 : decode Y_M_size.2.1 155 = .ok (.ireturn, 1) := by decide +kernel
theorem d_M_size_156 : decode Y_M_size.2.1 156 = .ok (.aload_n 0, 1) := by decide +kernel
theorem d_M_size_157 : decode Y_M_size.2.1 157 = .ok (.getfield 341, 3) := by decide +kernel
theorem d_M_size_160 : decode Y_M_size.2.1 160 = .ok (.getfield 318, 3) := by decide +kernel
theorem d_M_size_163 : decode Y_M_size.2.1 163 = .ok (.ireturn, 1) := by decide +kernel
theorem d_M_size_164 : decode Y_M_size.2.1 164 = .ok (.aload_n 0, 1) := by decide +kernel
theorem d_M_size_165 : decode Y_M_size.2.1 165 = .ok (.getfield 341, 3) := by decide +kernel
theorem d_M_size_168 : decode Y_M_size.2.1 168 = .ok (.getfield 327, 3) := by decide +kernel
theorem d_M_size_171 : decode Y_M_size.2.1 171 = .ok (.ireturn, 1) := by decide +kernel
theorem d_M_size_172 : decode Y_M_size.2.1 172 = .ok (.aload_n 0, 1) := by decide +kernel
theorem d_M_size_173 : decode Y_M_size.2.1 173 = .ok (.getfield 17, 3) := by decide +kernel
theorem d_M_size_176 : decode Y_M_size.2.1 176 = .ok (.bipush 21, 2) := by decide +kernel
theorem d_M_size_178 : decode Y_M_size.2.1 178 = .ok (.iaload, 1) := by decide +kernel
theorem d_M_size_179 : decode Y_M_size.2.1 179 = .ok (.ireturn, 1) := by decide +kernel
theorem d_M_size_180 : decode Y_M_size.2.1 180 = .ok (.aload_n 0, 1) := by decide +kernel
theorem d_M_size_181 : decode Y_M_size.2.1 181 = .ok (.getfield 17, 3) := by decide +kernel
theorem d_M_size_184 : decode Y_M_size.2.1 184 = .ok (.bipush 22, 2) := by decide +kernel
theorem d_M_size_186 : decode Y_M_size.2.1 186 = .ok (.iaload, 1) := by decide +kernel
theorem d_M_size_187 : decode Y_M_size.2.1 187 = .ok (.ireturn, 1) := by decide +kernel
theorem d_M_size_188 : decode Y_M_size.2.1 188 = .ok (.aload_n 0, 1) := by decide +kernel
theorem d_M_size_189 : decode Y_M_size.2.1 189 = .ok (.getfield 344, 3) := by decide +kernel
theorem d_M_size_192 : decode Y_M_size.2.1 192 = .ok (.ireturn, 1) := by decide +kernel
theorem d_M_size_193 : decode Y_M_size.2.1 193 = .ok (.aload_n 0, 1) := by decide +kernel
theorem d_M_size_194 : decode Y_M_size.2.1 194 = .ok (.getfield 347, 3) := by decide +kernel
theorem d_M_size_197 : decode Y_M_size.2.1 197 = .ok (.ireturn, 1) := by decide +kernel
def f_M_size (h : PH) (a0 : Option Nat) (a1 : Int32) : Option (Int32 × PH) := (sF h 12 a0 0 (.inl (0 : Int32))).bind fun h1 => if ¬ a1 = (13 : Int32) then ((f_M_in h1 a1 (0 : Int32) (12 : Int32)).bind fun v2 => if ¬ v2 = 0 then ((gR h1 12 a0 3).bind fun v3 => if v3 = none then (some ((0 : Int32), h1)) else (if a1.toInt < 0 ∨ 11 < a1.toInt then ((gI h1 12 a0 20).bind fun v4 => some (v4, h1)) else (if a1 = (0 : Int32) then ((gR h1 12 a0 3).bind fun v5 => (gI h1 11 v5 0).bind fun v6 => some (v6, h1)) else (if a1 = (1 : Int32) then ((gR h1 12 a0 3).bind fun v7 => (gI h1 11 v7 1).bind fun v8 => some (v8, h1)) else (if a1 = (2 : Int32) then ((gR h1 12 a0 3).bind fun v9 => (gI h1 11 v9 2).bind fun v10 => some (v10, h1)) else (if a1 = (3 : Int32) then ((gR h1 12 a0 3).bind fun v11 => (gI h1 11 v11 3).bind fun v12 => some (v12, h1)) else (if a1 = (4 : Int32) then ((gR h1 12 a0 3).bind fun v13 => (gI h1 11 v13 4).bind fun v14 => some (v14, h1)) else (if a1 = (5 : Int32) then ((gR h1 12 a0 3).bind fun v15 => (gI h1 11 v15 5).bind fun v16 => some (v16, h1)) else (if a1 = (6 : Int32) then ((gR h1 12 a0 3).bind fun v17 => (gI h1 11 v17 6).bind fun v18 => some (v18, h1)) else (if a1 = (7 : Int32) then ((gR h1 12 a0 3).bind fun v19 => (gI h1 11 v19 7).bind fun v20 => some (v20, h1)) else (if a1 = (8 : Int32) then ((gR h1 12 a0 3).bind fun v21 => (gI h1 11 v21 8).bind fun v22 => some (v22, h1)) else (if a1 = (9 : Int32) then ((gR h1 12 a0 15).bind fun v23 => (aI h1 v23 (21 : Int32)).bind fun v24 => some (v24, h1)) else (if a1 = (10 : Int32) then ((gR h1 12 a0 15).bind fun v25 => (aI h1 v25 (22 : Int32)).bind fun v26 => some (v26, h1)) else (if a1 = (11 : Int32) then ((gI h1 12 a0 19).bind fun v27 => some (v27, h1)) else (none))))))))))))))) else (some ((-1 : Int32), h1))) else ((gI h1 12 a0 6).bind fun v28 => some (v28, h1))
set_option maxRecDepth 20000 in
theorem PM_M_size {l : Launch} {G : Cx} {h : PH} {a0 : Option Nat} {a1 : Int32} {z : (Int32 × PH)} (hz : f_M_size h a0 a1 = some z) : PM l G 2 0 0 Y_M_size [.inr (.inr a0), .inl a1] h (some (.inl z.1), z.2) := by
  refine PM.of (Y := Y_M_size) (cv := (fun z : (Int32 × PH) => (((some (.inl z.1), z.2) : Option PV × PH)))) (by decide) (L0 := [some (.inr (.inr a0)), some (.inl a1)]) 0 rfl (Nat.le_of_ble_eq_true rfl) ?_ hz
  unfold f_M_size
  refine PJ.aload_n (pc := 0) d_M_size_0 rfl ?_
  refine PJ.iconst (pc := 1) (v := 0) d_M_size_1 (by decide) ?_
  refine PJ.putI (pc := 2) ps_M_46 d_M_size_2 (fun h1 => ?_)
  refine PJ.iload_n (pc := 5) d_M_size_5 rfl ?_
  refine PJ.bipush (pc := 6) (v := 13) d_M_size_6 (by decide) ?_
  refine PJ.icmp_ne (pc := 8) (tgt := 16) d_M_size_8 (by decide) (fun _ => ?_) (fun _ => ?_)
  · refine PJ.iload_n (pc := 16) d_M_size_16 rfl ?_
    refine PJ.iconst (pc := 17) (v := 0) d_M_size_17 (by decide) ?_
    refine PJ.bipush (pc := 18) (v := 12) d_M_size_18 (by decide) ?_
    refine PJ.cSpI (pc := 20) cs_M_127 (fun z hz => PM_M_in hz) (pj_fitb rfl) rfl rfl (Nat.le_of_ble_eq_true rfl) d_M_size_20 (fun v2 => ?_)
    refine PJ.if_ne (pc := 23) (tgt := 28) d_M_size_23 (by decide) (fun _ => ?_) (fun _ => ?_)
    · refine PJ.aload_n (pc := 28) d_M_size_28 rfl ?_
      refine PJ.getR (pc := 29) fs_M_341 d_M_size_29 (fun v3 => ?_)
      refine PJ.ifnonnull (pc := 32) (tgt := 37) d_M_size_32 (by decide) (fun _ => ?_) (fun _ => ?_)
      · refine PJ.iload_n (pc := 37) d_M_size_37 rfl ?_
        refine PJ.swo (pc := 38) (tgt := 193) d_M_size_38 (by decide) (fun _ => ?_) (fun _ => ?_)
        · refine PJ.aload_n (pc := 193) d_M_size_193 rfl ?_
          refine PJ.getI (pc := 194) fs_M_347 d_M_size_194 (fun v4 => ?_)
          exact PJ.iret (pc := 197) d_M_size_197 rfl (Nat.le_of_ble_eq_true rfl) (Nat.le_of_ble_eq_true rfl)
        · refine PJ.swc (pc := 38) (tgt := 100) (off := 62) (0 : Int32) d_M_size_38 (by decide +kernel) (by decide +kernel) (by decide +kernel) (by decide) (fun _ => ?_) (fun _ => ?_)
          · refine PJ.aload_n (pc := 100) d_M_size_100 rfl ?_
            refine PJ.getR (pc := 101) fs_M_341 d_M_size_101 (fun v5 => ?_)
            refine PJ.getI (pc := 104) fs_M_164 d_M_size_104 (fun v6 => ?_)
            exact PJ.iret (pc := 107) d_M_size_107 rfl (Nat.le_of_ble_eq_true rfl) (Nat.le_of_ble_eq_true rfl)
          · refine PJ.swc (pc := 38) (tgt := 108) (off := 70) (1 : Int32) d_M_size_38 (by decide +kernel) (by decide +kernel) (by decide +kernel) (by decide) (fun _ => ?_) (fun _ => ?_)
            · refine PJ.aload_n (pc := 108) d_M_size_108 rfl ?_
              refine PJ.getR (pc := 109) fs_M_341 d_M_size_109 (fun v7 => ?_)
              refine PJ.getI (pc := 112) fs_M_235 d_M_size_112 (fun v8 => ?_)
              exact PJ.iret (pc := 115) d_M_size_115 rfl (Nat.le_of_ble_eq_true rfl) (Nat.le_of_ble_eq_true rfl)
            · refine PJ.swc (pc := 38) (tgt := 116) (off := 78) (2 : Int32) d_M_size_38 (by decide +kernel) (by decide +kernel) (by decide +kernel) (by decide) (fun _ => ?_) (fun _ => ?_)
              · refine PJ.aload_n (pc := 116) d_M_size_116 rfl ?_
                refine PJ.getR (pc := 117) fs_M_341 d_M_size_117 (fun v9 => ?_)
                refine PJ.getI (pc := 120) fs_M_198 d_M_size_120 (fun v10 => ?_)
                exact PJ.iret (pc := 123) d_M_size_123 rfl (Nat.le_of_ble_eq_true rfl) (Nat.le_of_ble_eq_true rfl)
              · refine PJ.swc (pc := 38) (tgt := 124) (off := 86) (3 : Int32) d_M_size_38 (by decide +kernel) (by decide +kernel) (by decide +kernel) (by decide) (fun _ => ?_) (fun _ => ?_)
                · refine PJ.aload_n (pc := 124) d_M_size_124 rfl ?_
                  refine PJ.getR (pc := 125) fs_M_341 d_M_size_125 (fun v11 => ?_)
                  refine PJ.getI (pc := 128) fs_M_255 d_M_size_128 (fun v12 => ?_)
                  exact PJ.iret (pc := 131) d_M_size_131 rfl (Nat.le_of_ble_eq_true rfl) (Nat.le_of_ble_eq_true rfl)
                · refine PJ.swc (pc := 38) (tgt := 132) (off := 94) (4 : Int32) d_M_size_38 (by decide +kernel) (by decide +kernel) (by decide +kernel) (by decide) (fun _ => ?_) (fun _ => ?_)
                  · refine PJ.aload_n (pc := 132) d_M_size_132 rfl ?_
                    refine PJ.getR (pc := 133) fs_M_341 d_M_size_133 (fun v13 => ?_)
                    refine PJ.getI (pc := 136) fs_M_273 d_M_size_136 (fun v14 => ?_)
                    exact PJ.iret (pc := 139) d_M_size_139 rfl (Nat.le_of_ble_eq_true rfl) (Nat.le_of_ble_eq_true rfl)
                  · refine PJ.swc (pc := 38) (tgt := 140) (off := 102) (5 : Int32) d_M_size_38 (by decide +kernel) (by decide +kernel) (by decide +kernel) (by decide) (fun _ => ?_) (fun _ => ?_)
                    · refine PJ.aload_n (pc := 140) d_M_size_140 rfl ?_
                      refine PJ.getR (pc := 141) fs_M_341 d_M_size_141 (fun v15 => ?_)
                      refine PJ.getI (pc := 144) fs_M_280 d_M_size_144 (fun v16 => ?_)
                      exact PJ.iret (pc := 147) d_M_size_147 rfl (Nat.le_of_ble_eq_true rfl) (Nat.le_of_ble_eq_true rfl)
                    · refine PJ.swc (pc := 38) (tgt := 148) (off := 110) (6 : Int32) d_M_size_38 (by decide +kernel) (by decide +kernel) (by decide +kernel) (by decide) (fun _ => ?_) (fun _ => ?_)
                      · refine PJ.aload_n (pc := 148) d_M_size_148 rfl ?_
                        refine PJ.getR (pc := 149) fs_M_341 d_M_size_149 (fun v17 => ?_)
                        refine PJ.getI (pc := 152) fs_M_302 d_M_size_152 (fun v18 => ?_)
                        exact PJ.iret (pc := 155) d_M_size_155 rfl (Nat.le_of_ble_eq_true rfl) (Nat.le_of_ble_eq_true rfl)
                      · refine PJ.swc (pc := 38) (tgt := 156) (off := 118) (7 : Int32) d_M_size_38 (by decide +kernel) (by decide +kernel) (by decide +kernel) (by decide) (fun _ => ?_) (fun _ => ?_)
                        · refine PJ.aload_n (pc := 156) d_M_size_156 rfl ?_
                          refine PJ.getR (pc := 157) fs_M_341 d_M_size_157 (fun v19 => ?_)
                          refine PJ.getI (pc := 160) fs_M_318 d_M_size_160 (fun v20 => ?_)
                          exact PJ.iret (pc := 163) d_M_size_163 rfl (Nat.le_of_ble_eq_true rfl) (Nat.le_of_ble_eq_true rfl)
                        · refine PJ.swc (pc := 38) (tgt := 164) (off := 126) (8 : Int32) d_M_size_38 (by decide +kernel) (by decide +kernel) (by decide +kernel) (by decide) (fun _ => ?_) (fun _ => ?_)
                          · refine PJ.aload_n (pc := 164) d_M_size_164 rfl ?_
                            refine PJ.getR (pc := 165) fs_M_341 d_M_size_165 (fun v21 => ?_)
                            refine PJ.getI (pc := 168) fs_M_327 d_M_size_168 (fun v22 => ?_)
                            exact PJ.iret (pc := 171) d_M_size_171 rfl (Nat.le_of_ble_eq_true rfl) (Nat.le_of_ble_eq_true rfl)
                          · refine PJ.swc (pc := 38) (tgt := 172) (off := 134) (9 : Int32) d_M_size_38 (by decide +kernel) (by decide +kernel) (by decide +kernel) (by decide) (fun _ => ?_) (fun _ => ?_)
                            · refine PJ.aload_n (pc := 172) d_M_size_172 rfl ?_
                              refine PJ.getR (pc := 173) fs_M_17 d_M_size_173 (fun v23 => ?_)
                              refine PJ.bipush (pc := 176) (v := 21) d_M_size_176 (by decide) ?_
                              refine PJ.iald (pc := 178) d_M_size_178 (fun v24 => ?_)
                              exact PJ.iret (pc := 179) d_M_size_179 rfl (Nat.le_of_ble_eq_true rfl) (Nat.le_of_ble_eq_true rfl)
                            · refine PJ.swc (pc := 38) (tgt := 180) (off := 142) (10 : Int32) d_M_size_38 (by decide +kernel) (by decide +kernel) (by decide +kernel) (by decide) (fun _ => ?_) (fun _ => ?_)
                              · refine PJ.aload_n (pc := 180) d_M_size_180 rfl ?_
                                refine PJ.getR (pc := 181) fs_M_17 d_M_size_181 (fun v25 => ?_)
                                refine PJ.bipush (pc := 184) (v := 22) d_M_size_184 (by decide) ?_
                                refine PJ.iald (pc := 186) d_M_size_186 (fun v26 => ?_)
                                exact PJ.iret (pc := 187) d_M_size_187 rfl (Nat.le_of_ble_eq_true rfl) (Nat.le_of_ble_eq_true rfl)
                              · refine PJ.swc (pc := 38) (tgt := 188) (off := 150) (11 : Int32) d_M_size_38 (by decide +kernel) (by decide +kernel) (by decide +kernel) (by decide) (fun _ => ?_) (fun _ => ?_)
                                · refine PJ.aload_n (pc := 188) d_M_size_188 rfl ?_
                                  refine PJ.getI (pc := 189) fs_M_344 d_M_size_189 (fun v27 => ?_)
                                  exact PJ.iret (pc := 192) d_M_size_192 rfl (Nat.le_of_ble_eq_true rfl) (Nat.le_of_ble_eq_true rfl)
                                · exact PJ.nn
      · refine PJ.iconst (pc := 35) (v := 0) d_M_size_35 (by decide) ?_
        exact PJ.iret (pc := 36) d_M_size_36 rfl (Nat.le_of_ble_eq_true rfl) (Nat.le_of_ble_eq_true rfl)
    · refine PJ.iconst (pc := 26) (v := -1) d_M_size_26 (by decide) ?_
      exact PJ.iret (pc := 27) d_M_size_27 rfl (Nat.le_of_ble_eq_true rfl) (Nat.le_of_ble_eq_true rfl)
  · refine PJ.aload_n (pc := 11) d_M_size_11 rfl ?_
    refine PJ.getI (pc := 12) fs_M_334 d_M_size_12 (fun v28 => ?_)
    exact PJ.iret (pc := 15) d_M_size_15 rfl (Nat.le_of_ble_eq_true rfl) (Nat.le_of_ble_eq_true rfl)
theorem d_M_trouble_0 : decode Y_M_trouble.2.1 0 = .ok (.aload_n 0, 1) := by decide +kernel
theorem d_M_trouble_1 : decode Y_M_trouble.2.1 1 = .ok (.iconst 0, 1) := by decide +kernel
theorem d_M_trouble_2 : decode Y_M_trouble.2.1 2 = .ok (.putfield 46, 3) := by decide +kernel
theorem d_M_trouble_5 : decode Y_M_trouble.2.1 5 = .ok (.aload_n 0, 1) := by decide +kernel
theorem d_M_trouble_6 : decode Y_M_trouble.2.1 6 = .ok (.getfield 49, 3) := by decide +kernel
theorem d_M_trouble_9 : decode Y_M_trouble.2.1 9 = .ok (.ireturn, 1) := by decide +kernel
def f_M_trouble (h : PH) (a0 : Option Nat) : Option (Int32 × PH) := (sF h 12 a0 0 (.inl (0 : Int32))).bind fun h1 => (gI h1 12 a0 1).bind fun v2 => some (v2, h1)
set_option maxRecDepth 20000 in
theorem PM_M_trouble {l : Launch} {G : Cx} {h : PH} {a0 : Option Nat} {z : (Int32 × PH)} (hz : f_M_trouble h a0 = some z) : PM l G 1 0 0 Y_M_trouble [.inr (.inr a0)] h (some (.inl z.1), z.2) := by
  refine PM.of (Y := Y_M_trouble) (cv := (fun z : (Int32 × PH) => (((some (.inl z.1), z.2) : Option PV × PH)))) (by decide) (L0 := [some (.inr (.inr a0))]) 0 rfl (Nat.le_of_ble_eq_true rfl) ?_ hz
  unfold f_M_trouble
  refine PJ.aload_n (pc := 0) d_M_trouble_0 rfl ?_
  refine PJ.iconst (pc := 1) (v := 0) d_M_trouble_1 (by decide) ?_
  refine PJ.putI (pc := 2) ps_M_46 d_M_trouble_2 (fun h1 => ?_)
  refine PJ.aload_n (pc := 5) d_M_trouble_5 rfl ?_
  refine PJ.getI (pc := 6) fs_M_49 d_M_trouble_6 (fun v2 => ?_)
  exact PJ.iret (pc := 9) d_M_trouble_9 rfl (Nat.le_of_ble_eq_true rfl) (Nat.le_of_ble_eq_true rfl)
