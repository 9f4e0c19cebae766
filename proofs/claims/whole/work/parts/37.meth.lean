-- sites and methods: meth
abbrev Y_M_toAsk : MI := (⟨"WaverTaxModel", "toAsk", "()I"⟩, prog_13_method_108_code, 5, (some .int))
abbrev Y_M_ask : MI := (⟨"WaverTaxModel", "ask", "()I"⟩, prog_13_method_109_code, 1, (some .int))
abbrev Y_M_askLeaves : MI := (⟨"WaverTaxModel", "askLeaves", "()I"⟩, prog_13_method_110_code, 1, (some .int))
abbrev Y_M_liar : MI := (⟨"WaverTaxModel", "liar", "()I"⟩, prog_13_method_111_code, 2, (some .int))
abbrev Y_M_refusesInspectors : MI := (⟨"WaverTaxModel", "refusesInspectors", "(I)I"⟩, prog_13_method_114_code, 2, (some .int))
abbrev Y_M_caughtBy : MI := (⟨"WaverTaxModel", "caughtBy", "(I)I"⟩, prog_13_method_112_code, 5, (some .int))
abbrev Y_M_bestPlaces : MI := (⟨"WaverTaxModel", "bestPlaces", "(I)I"⟩, prog_13_method_113_code, 4, (some .int))
abbrev Y_M_caught : MI := (⟨"WaverTaxModel", "caught", "(I)I"⟩, prog_13_method_115_code, 3, (some .int))
abbrev Y_M_places : MI := (⟨"WaverTaxModel", "places", "(I)I"⟩, prog_13_method_116_code, 3, (some .int))
abbrev Y_M_enough : MI := (⟨"WaverTaxModel", "enough", "()I"⟩, prog_13_method_117_code, 2, (some .int))
abbrev Y_M_catches : MI := (⟨"WaverTaxModel", "catches", "(I)I"⟩, prog_13_method_118_code, 2, (some .int))
abbrev Y_M_areTwo : MI := (⟨"WaverTaxModel", "areTwo", "(II)Z"⟩, prog_13_method_119_code, 3, (some .boolean))
abbrev Y_M_lost : MI := (⟨"WaverTaxModel", "lost", "(I)I"⟩, prog_13_method_4_code, 2, (some .int))
abbrev Y_M_gets : MI := (⟨"WaverTaxModel", "gets", "(IZIZ)I"⟩, prog_13_method_120_code, 7, (some .int))
abbrev Y_M_two : MI := (⟨"WaverTaxModel", "two", "(IZIZZ)I"⟩, prog_13_method_121_code, 6, (some .int))
abbrev Y_M_isRest : MI := (⟨"WaverTaxModel", "isRest", "(III)Z"⟩, prog_13_method_122_code, 6, (some .boolean))
theorem cm_M_toAsk : (Cond.code Y_M_toAsk.1 Y_M_toAsk.2.1 Y_M_toAsk.2.2.1 Y_M_toAsk.2.2.2 ∈ pj_ws) ∧ (Cond.initialized Y_M_toAsk.1.cls ∈ pj_ws) ∧ (Y_M_toAsk.1.cls ≠ "java/lang/invoke/MethodHandle" ∧ Y_M_toAsk.1.cls ≠ "java/lang/invoke/VarHandle" ∧ (parseMethodDescriptor Y_M_toAsk.1.desc).map (fun d => d.parameters.length) = some 0) ∧ (Cond.instanceMethod Y_M_toAsk.1 ∈ pj_ws) ∧ (Cond.selects Y_M_toAsk.1.cls Y_M_toAsk.1 Y_M_toAsk.1 ∈ pj_ws) := ⟨pj_mem 2043 (by decide +kernel) rfl, pj_mem 141 (by decide +kernel) rfl, ⟨by decide +kernel, by decide +kernel, by decide +kernel⟩, pj_mem 2042 (by decide +kernel) rfl, pj_mem 113 (by decide +kernel) rfl⟩
theorem cm_M_caughtBy : (Cond.code Y_M_caughtBy.1 Y_M_caughtBy.2.1 Y_M_caughtBy.2.2.1 Y_M_caughtBy.2.2.2 ∈ pj_ws) ∧ (Cond.initialized Y_M_caughtBy.1.cls ∈ pj_ws) ∧ (Y_M_caughtBy.1.cls ≠ "java/lang/invoke/MethodHandle" ∧ Y_M_caughtBy.1.cls ≠ "java/lang/invoke/VarHandle" ∧ (parseMethodDescriptor Y_M_caughtBy.1.desc).map (fun d => d.parameters.length) = some 1) ∧ (Cond.instanceMethod Y_M_caughtBy.1 ∈ pj_ws) ∧ (Cond.selects Y_M_caughtBy.1.cls Y_M_caughtBy.1 Y_M_caughtBy.1 ∈ pj_ws) := ⟨pj_mem 2067 (by decide +kernel) rfl, pj_mem 141 (by decide +kernel) rfl, ⟨by decide +kernel, by decide +kernel, by decide +kernel⟩, pj_mem 2066 (by decide +kernel) rfl, pj_mem 116 (by decide +kernel) rfl⟩
theorem cm_M_refusesInspectors : (Cond.code Y_M_refusesInspectors.1 Y_M_refusesInspectors.2.1 Y_M_refusesInspectors.2.2.1 Y_M_refusesInspectors.2.2.2 ∈ pj_ws) ∧ (Cond.initialized Y_M_refusesInspectors.1.cls ∈ pj_ws) ∧ (Y_M_refusesInspectors.1.cls ≠ "java/lang/invoke/MethodHandle" ∧ Y_M_refusesInspectors.1.cls ≠ "java/lang/invoke/VarHandle" ∧ (parseMethodDescriptor Y_M_refusesInspectors.1.desc).map (fun d => d.parameters.length) = some 1) ∧ (Cond.instanceMethod Y_M_refusesInspectors.1 ∈ pj_ws) ∧ (Cond.selects Y_M_refusesInspectors.1.cls Y_M_refusesInspectors.1 Y_M_refusesInspectors.1 ∈ pj_ws) := ⟨pj_mem 2059 (by decide +kernel) rfl, pj_mem 141 (by decide +kernel) rfl, ⟨by decide +kernel, by decide +kernel, by decide +kernel⟩, pj_mem 2058 (by decide +kernel) rfl, pj_mem 114 (by decide +kernel) rfl⟩
theorem cm_M_bestPlaces : (Cond.code Y_M_bestPlaces.1 Y_M_bestPlaces.2.1 Y_M_bestPlaces.2.2.1 Y_M_bestPlaces.2.2.2 ∈ pj_ws) ∧ (Cond.initialized Y_M_bestPlaces.1.cls ∈ pj_ws) ∧ (Y_M_bestPlaces.1.cls ≠ "java/lang/invoke/MethodHandle" ∧ Y_M_bestPlaces.1.cls ≠ "java/lang/invoke/VarHandle" ∧ (parseMethodDescriptor Y_M_bestPlaces.1.desc).map (fun d => d.parameters.length) = some 1) ∧ (Cond.instanceMethod Y_M_bestPlaces.1 ∈ pj_ws) ∧ (Cond.selects Y_M_bestPlaces.1.cls Y_M_bestPlaces.1 Y_M_bestPlaces.1 ∈ pj_ws) := ⟨pj_mem 2063 (by decide +kernel) rfl, pj_mem 141 (by decide +kernel) rfl, ⟨by decide +kernel, by decide +kernel, by decide +kernel⟩, pj_mem 2062 (by decide +kernel) rfl, pj_mem 115 (by decide +kernel) rfl⟩
theorem cm_M_areTwo : (Cond.code Y_M_areTwo.1 Y_M_areTwo.2.1 Y_M_areTwo.2.2.1 Y_M_areTwo.2.2.2 ∈ pj_ws) ∧ (Cond.initialized Y_M_areTwo.1.cls ∈ pj_ws) ∧ (Y_M_areTwo.1.cls ≠ "java/lang/invoke/MethodHandle" ∧ Y_M_areTwo.1.cls ≠ "java/lang/invoke/VarHandle" ∧ (parseMethodDescriptor Y_M_areTwo.1.desc).map (fun d => d.parameters.length) = some 2) ∧ (Cond.instanceMethod Y_M_areTwo.1 ∈ pj_ws) ∧ (Cond.selects Y_M_areTwo.1.cls Y_M_areTwo.1 Y_M_areTwo.1 ∈ pj_ws) := ⟨pj_mem 2087 (by decide +kernel) rfl, pj_mem 141 (by decide +kernel) rfl, ⟨by decide +kernel, by decide +kernel, by decide +kernel⟩, pj_mem 2086 (by decide +kernel) rfl, pj_mem 117 (by decide +kernel) rfl⟩
theorem cm_M_lost : (Cond.code Y_M_lost.1 Y_M_lost.2.1 Y_M_lost.2.2.1 Y_M_lost.2.2.2 ∈ pj_ws) ∧ (Cond.initialized Y_M_lost.1.cls ∈ pj_ws) ∧ (Y_M_lost.1.cls ≠ "java/lang/invoke/MethodHandle" ∧ Y_M_lost.1.cls ≠ "java/lang/invoke/VarHandle" ∧ (parseMethodDescriptor Y_M_lost.1.desc).map (fun d => d.parameters.length) = some 1) ∧ (Cond.instanceMethod Y_M_lost.1 ∈ pj_ws) ∧ (Cond.selects Y_M_lost.1.cls Y_M_lost.1 Y_M_lost.1 ∈ pj_ws) := ⟨pj_mem 2091 (by decide +kernel) rfl, pj_mem 141 (by decide +kernel) rfl, ⟨by decide +kernel, by decide +kernel, by decide +kernel⟩, pj_mem 2090 (by decide +kernel) rfl, pj_mem 118 (by decide +kernel) rfl⟩
theorem cm_M_gets : (Cond.code Y_M_gets.1 Y_M_gets.2.1 Y_M_gets.2.2.1 Y_M_gets.2.2.2 ∈ pj_ws) ∧ (Cond.initialized Y_M_gets.1.cls ∈ pj_ws) ∧ (Y_M_gets.1.cls ≠ "java/lang/invoke/MethodHandle" ∧ Y_M_gets.1.cls ≠ "java/lang/invoke/VarHandle" ∧ (parseMethodDescriptor Y_M_gets.1.desc).map (fun d => d.parameters.length) = some 4) ∧ (Cond.instanceMethod Y_M_gets.1 ∈ pj_ws) ∧ (Cond.selects Y_M_gets.1.cls Y_M_gets.1 Y_M_gets.1 ∈ pj_ws) := ⟨pj_mem 2095 (by decide +kernel) rfl, pj_mem 141 (by decide +kernel) rfl, ⟨by decide +kernel, by decide +kernel, by decide +kernel⟩, pj_mem 2094 (by decide +kernel) rfl, pj_mem 119 (by decide +kernel) rfl⟩
theorem cs_M_486 : pj_cV "WaverTaxModel" 486 Y_M_toAsk 0 12 := ⟨⟨cm_M_toAsk.1, cm_M_toAsk.2.1, cm_M_toAsk.2.2.1, Or.inl (pj_mem 2040 (by decide +kernel) rfl)⟩, by decide, cm_M_toAsk.2.2.2.1, cm_M_toAsk.2.2.2.2, ⟨_, rfl, rfl⟩⟩
theorem cs_M_489 : pj_cV "WaverTaxModel" 489 Y_M_caughtBy 1 12 := ⟨⟨cm_M_caughtBy.1, cm_M_caughtBy.2.1, cm_M_caughtBy.2.2.1, Or.inl (pj_mem 2064 (by decide +kernel) rfl)⟩, by decide, cm_M_caughtBy.2.2.2.1, cm_M_caughtBy.2.2.2.2, ⟨_, rfl, rfl⟩⟩
theorem cs_M_492 : pj_cV "WaverTaxModel" 492 Y_M_refusesInspectors 1 12 := ⟨⟨cm_M_refusesInspectors.1, cm_M_refusesInspectors.2.1, cm_M_refusesInspectors.2.2.1, Or.inl (pj_mem 2056 (by decide +kernel) rfl)⟩, by decide, cm_M_refusesInspectors.2.2.2.1, cm_M_refusesInspectors.2.2.2.2, ⟨_, rfl, rfl⟩⟩
theorem cs_M_495 : pj_cV "WaverTaxModel" 495 Y_M_bestPlaces 1 12 := ⟨⟨cm_M_bestPlaces.1, cm_M_bestPlaces.2.1, cm_M_bestPlaces.2.2.1, Or.inl (pj_mem 2060 (by decide +kernel) rfl)⟩, by decide, cm_M_bestPlaces.2.2.2.1, cm_M_bestPlaces.2.2.2.2, ⟨_, rfl, rfl⟩⟩
theorem cs_M_498 : pj_cV "WaverTaxModel" 498 Y_M_areTwo 2 12 := ⟨⟨cm_M_areTwo.1, cm_M_areTwo.2.1, cm_M_areTwo.2.2.1, Or.inl (pj_mem 2084 (by decide +kernel) rfl)⟩, by decide, cm_M_areTwo.2.2.2.1, cm_M_areTwo.2.2.2.2, ⟨_, rfl, rfl⟩⟩
theorem cs_M_501 : pj_cV "WaverTaxModel" 501 Y_M_lost 1 12 := ⟨⟨cm_M_lost.1, cm_M_lost.2.1, cm_M_lost.2.2.1, Or.inl (pj_mem 2088 (by decide +kernel) rfl)⟩, by decide, cm_M_lost.2.2.2.1, cm_M_lost.2.2.2.2, ⟨_, rfl, rfl⟩⟩
theorem cs_M_504 : pj_cV "WaverTaxModel" 504 Y_M_gets 4 12 := ⟨⟨cm_M_gets.1, cm_M_gets.2.1, cm_M_gets.2.2.1, Or.inl (pj_mem 2092 (by decide +kernel) rfl)⟩, by decide, cm_M_gets.2.2.2.1, cm_M_gets.2.2.2.2, ⟨_, rfl, rfl⟩⟩
theorem fs_M_483 : pj_fs "WaverTaxModel" 12 29 483 (.int) := ⟨_, _, _, _, cd_12, by decide, rfl, Or.inl (pj_mem 1416 (by decide +kernel) rfl)⟩
theorem ps_M_483 {mn : String} : pj_ps "WaverTaxModel" mn 12 29 483 (.int) := ⟨_, _, _, _, cd_12, by decide, rfl, Or.inl ⟨rfl, Or.inl (pj_mem 1416 (by decide +kernel) rfl)⟩⟩
theorem d_M_toAsk_0 : decode Y_M_toAsk.2.1 0 = .ok (.bipush (-2), 2) := by decide +kernel
theorem d_M_toAsk_2 : decode Y_M_toAsk.2.1 2 = .ok (.istore_n 1, 1) := by decide +kernel
theorem d_M_toAsk_3 : decode Y_M_toAsk.2.1 3 = .ok (.aload_n 0, 1) := by decide +kernel
theorem d_M_toAsk_4 : decode Y_M_toAsk.2.1 4 = .ok (.bipush (-2), 2) := by decide +kernel
theorem d_M_toAsk_6 : decode Y_M_toAsk.2.1 6 = .ok (.putfield 483, 3) := by decide +kernel
theorem d_M_toAsk_9 : decode Y_M_toAsk.2.1 9 = .ok (.iconst 0, 1) := by decide +kernel
theorem d_M_toAsk_10 : decode Y_M_toAsk.2.1 10 = .ok (.istore_n 2, 1) := by decide +kernel
theorem d_M_toAsk_11 : decode Y_M_toAsk.2.1 11 = .ok (.iload_n 2, 1) := by decide +kernel
theorem d_M_toAsk_12 : decode Y_M_toAsk.2.1 12 = .ok (.aload_n 0, 1) := by decide +kernel
theorem d_M_toAsk_13 : decode Y_M_toAsk.2.1 13 = .ok (.getfield 341, 3) := by decide +kernel
theorem d_M_toAsk_16 : decode Y_M_toAsk.2.1 16 = .ok (.getfield 302, 3) := by decide +kernel
theorem d_M_toAsk_19 : decode Y_M_toAsk.2.1 19 = .ok (.if_icmp .ge 97, 3) := by decide +kernel
theorem d_M_toAsk_22 : decode Y_M_toAsk.2.1 22 = .ok (.aload_n 0, 1) := by decide +kernel
theorem d_M_toAsk_23 : decode Y_M_toAsk.2.1 23 = .ok (.aload_n 0, 1) := by decide +kernel
theorem d_M_toAsk_24 : decode Y_M_toAsk.2.1 24 = .ok (.getfield 341, 3) := by decide +kernel
theorem d_M_toAsk_27 : decode Y_M_toAsk.2.1 27 = .ok (.getfield 309, 3) := by decide +kernel
theorem d_M_toAsk_30 : decode Y_M_toAsk.2.1 30 = .ok (.iload_n 2, 1) := by decide +kernel
theorem d_M_toAsk_31 : decode Y_M_toAsk.2.1 31 = .ok (.iaload, 1) := by decide +kernel
theorem d_M_toAsk_32 : decode Y_M_toAsk.2.1 32 = .ok (.invokevirtual 474, 3) := by decide +kernel
theorem d_M_toAsk_35 : decode Y_M_toAsk.2.1 35 = .ok (.iconst 0, 1) := by decide +kernel
theorem d_M_toAsk_36 : decode Y_M_toAsk.2.1 36 = .ok (.istore_n 3, 1) := by decide +kernel
theorem d_M_toAsk_37 : decode Y_M_toAsk.2.1 37 = .ok (.iconst 0, 1) := by decide +kernel
theorem d_M_toAsk_38 : decode Y_M_toAsk.2.1 38 = .ok (.istore 4, 2) := by decide +kernel
theorem d_M_toAsk_40 : decode Y_M_toAsk.2.1 40 = .ok (.iload 4, 2) := by decide +kernel
theorem d_M_toAsk_42 : decode Y_M_toAsk.2.1 42 = .ok (.iconst 5, 1) := by decide +kernel
theorem d_M_toAsk_43 : decode Y_M_toAsk.2.1 43 = .ok (.if_icmp .ge 36, 3) := by decide +kernel
theorem d_M_toAsk_46 : decode Y_M_toAsk.2.1 46 = .ok (.aload_n 0, 1) := by decide +kernel
theorem d_M_toAsk_47 : decode Y_M_toAsk.2.1 47 = .ok (.getfield 43, 3) := by decide +kernel
theorem d_M_toAsk_50 : decode Y_M_toAsk.2.1 50 = .ok (.iconst 5, 1) := by decide +kernel
theorem d_M_toAsk_51 : decode Y_M_toAsk.2.1 51 = .ok (.iload_n 2, 1) := by decide +kernel
theorem d_M_toAsk_52 : decode Y_M_toAsk.2.1 52 = .ok (.imul, 1) := by decide +kernel
theorem d_M_toAsk_53 : decode Y_M_toAsk.2.1 53 = .ok (.iload 4, 2) := by decide +kernel
theorem d_M_toAsk_55 : decode Y_M_toAsk.2.1 55 = .ok (.iadd, 1) := by decide +kernel
theorem d_M_toAsk_56 : decode Y_M_toAsk.2.1 56 = .ok (.iaload, 1) := by decide +kernel
theorem d_M_toAsk_57 : decode Y_M_toAsk.2.1 57 = .ok (.iload_n 3, 1) := by decide +kernel
theorem d_M_toAsk_58 : decode Y_M_toAsk.2.1 58 = .ok (.if_icmp .le 15, 3) := by decide +kernel
theorem d_M_toAsk_61 : decode Y_M_toAsk.2.1 61 = .ok (.aload_n 0, 1) := by decide +kernel
theorem d_M_toAsk_62 : decode Y_M_toAsk.2.1 62 = .ok (.getfield 43, 3) := by decide +kernel
theorem d_M_toAsk_65 : decode Y_M_toAsk.2.1 65 = .ok (.iconst 5, 1) := by decide +kernel
theorem d_M_toAsk_66 : decode Y_M_toAsk.2.1 66 = .ok (.iload_n 2, 1) := by decide +kernel
theorem d_M_toAsk_67 : decode Y_M_toAsk.2.1 67 = .ok (.imul, 1) := by decide +kernel
theorem d_M_toAsk_68 : decode Y_M_toAsk.2.1 68 = .ok (.iload 4, 2) := by decide +kernel
theorem d_M_toAsk_70 : decode Y_M_toAsk.2.1 70 = .ok (.iadd, 1) := by decide +kernel
theorem d_M_toAsk_71 : decode Y_M_toAsk.2.1 71 = .ok (.iaload, 1) := by decide +kernel
theorem d_M_toAsk_72 : decode Y_M_toAsk.2.1 72 = .ok (.istore_n 3, 1) := by decide +kernel
theorem d_M_toAsk_73 : decode Y_M_toAsk.2.1 73 = .ok (.iinc 4 1, 3) := by decide +kernel
theorem d_M_toAsk_76 : decode Y_M_toAsk.2.1 76 = .ok (.goto (-36), 3) := by decide +kernel
theorem d_M_toAsk_79 : decode Y_M_toAsk.2.1 79 = .ok (.aload_n 0, 1) := by decide +kernel
theorem d_M_toAsk_80 : decode Y_M_toAsk.2.1 80 = .ok (.getfield 462, 3) := by decide +kernel
theorem d_M_toAsk_83 : decode Y_M_toAsk.2.1 83 = .ok (.ifCond .eq 27, 3) := by decide +kernel
theorem d_M_toAsk_86 : decode Y_M_toAsk.2.1 86 = .ok (.iload_n 1, 1) := by decide +kernel
theorem d_M_toAsk_87 : decode Y_M_toAsk.2.1 87 = .ok (.bipush (-2), 2) := by decide +kernel
theorem d_M_toAsk_89 : decode Y_M_toAsk.2.1 89 = .ok (.if_icmp .eq 14, 3) := by decide +kernel
theorem d_M_toAsk_92 : decode Y_M_toAsk.2.1 92 = .ok (.iload_n 3, 1) := by decide +kernel
theorem d_M_toAsk_93 : decode Y_M_toAsk.2.1 93 = .ok (.aload_n 0, 1) := by decide +kernel
theorem d_M_toAsk_94 : decode Y_M_toAsk.2.1 94 = .ok (.getfield 483, 3) := by decide +kernel
theorem d_M_toAsk_97 : decode Y_M_toAsk.2.1 97 = .ok (.if_icmp .lt 6, 3) := by decide +kernel
theorem d_M_toAsk_100 : decode Y_M_toAsk.2.1 100 = .ok (.goto 10, 3) := by decide +kernel
theorem d_M_toAsk_103 : decode Y_M_toAsk.2.1 103 = .ok (.iload_n 2, 1) := by decide +kernel
theorem d_M_toAsk_104 : decode Y_M_toAsk.2.1 104 = .ok (.istore_n 1, 1) := by decide +kernel
theorem d_M_toAsk_105 : decode Y_M_toAsk.2.1 105 = .ok (.aload_n 0, 1) := by decide +kernel
theorem d_M_toAsk_106 : decode Y_M_toAsk.2.1 106 = .ok (.iload_n 3, 1) := by decide +kernel
theorem d_M_toAsk_107 : decode Y_M_toAsk.2.1 107 = .ok (.putfield 483, 3) := by decide +kernel
theorem d_M_toAsk_110 : decode Y_M_toAsk.2.1 110 = .ok (.iinc 2 1, 3) := by decide +kernel
theorem d_M_toAsk_113 : decode Y_M_toAsk.2.1 113 = .ok (.goto (-102), 3) := by decide +kernel
theorem d_M_toAsk_116 : decode Y_M_toAsk.2.1 116 = .ok (.iload_n 1, 1) := by decide +kernel
theorem d_M_toAsk_117 : decode Y_M_toAsk.2.1 117 = .ok (.ireturn, 1) := by decide +kernel
def f_M_toAsk (h : PH) (a0 : Option Nat) : Option (Int32 × PH) := (sF h 12 a0 29 (.inl (-2 : Int32))).bind fun h1 => (pj_it (X := Int32 × PH) (fun s2 : Int32 × Int32 × PH => (gR s2.2.2 12 a0 3).bind fun v4 => (gI s2.2.2 11 v4 6).bind fun v5 => if v5 ≤ s2.2.1 then (some (.inr (s2.1, s2.2.2))) else ((gR s2.2.2 12 a0 3).bind fun v6 => (gR s2.2.2 11 v6 19).bind fun v7 => (aI s2.2.2 v7 s2.2.1).bind fun v8 => (cl s2.2.2 12 a0 (f_M_rowsOf s2.2.2 a0 v8)).bind fun h9 => (pj_it (X := Int32) (fun s10 : Int32 × Int32 => if (5 : Int32) ≤ s10.2 then (some (.inr s10.1)) else ((gR h9 12 a0 27).bind fun v12 => (aI h9 v12 (((5 : Int32) * s2.2.1) + s10.2)).bind fun v13 => if v13 ≤ s10.1 then (some (.inl (s10.1, (s10.2 + (1 : Int32))))) else ((gR h9 12 a0 27).bind fun v14 => (aI h9 v14 (((5 : Int32) * s2.2.1) + s10.2)).bind fun v15 => some (.inl (v15, (s10.2 + (1 : Int32))))))) FU ((0 : Int32), (0 : Int32))).bind fun x11 => (gI h9 12 a0 28).bind fun v16 => if v16 = 0 then (some (.inl (s2.1, (s2.2.1 + (1 : Int32)), h9))) else (if s2.1 = (-2 : Int32) then ((sF h9 12 a0 29 (.inl x11)).bind fun h17 => some (.inl (s2.2.1, (s2.2.1 + (1 : Int32)), h17))) else ((gI h9 12 a0 29).bind fun v18 => if x11 < v18 then ((sF h9 12 a0 29 (.inl x11)).bind fun h19 => some (.inl (s2.2.1, (s2.2.1 + (1 : Int32)), h19))) else (some (.inl (s2.1, (s2.2.1 + (1 : Int32)), h9))))))) FU ((-2 : Int32), (0 : Int32), h1)).bind fun x3 => some (x3.1, x3.2)
set_option maxRecDepth 20000 in
theorem PM_M_toAsk {l : Launch} {G : Cx} {h : PH} {a0 : Option Nat} {z : (Int32 × PH)} (hz : f_M_toAsk h a0 = some z) : PM l G 5 0 0 Y_M_toAsk [.inr (.inr a0)] h (some (.inl z.1), z.2) := by
  refine PM.of (Y := Y_M_toAsk) (cv := (fun z : (Int32 × PH) => (((some (.inl z.1), z.2) : Option PV × PH)))) (by decide) (L0 := [some (.inr (.inr a0)), none, none, none, none]) 4 rfl (Nat.le_of_ble_eq_true rfl) ?_ hz
  unfold f_M_toAsk
  refine PJ.bipush (pc := 0) (v := -2) d_M_toAsk_0 (by decide) ?_
  refine PJ.istore_n (pc := 2) (L1 := [some (.inr (.inr a0)), some (.inl (-2 : Int32)), none, none, none]) d_M_toAsk_2 (Nat.le_of_ble_eq_true rfl) rfl rfl ?_
  refine PJ.aload_n (pc := 3) d_M_toAsk_3 rfl ?_
  refine PJ.bipush (pc := 4) (v := -2) d_M_toAsk_4 (by decide) ?_
  refine PJ.putI (pc := 6) ps_M_483 d_M_toAsk_6 (fun h1 => ?_)
  refine PJ.iconst (pc := 9) (v := 0) d_M_toAsk_9 (by decide) ?_
  refine PJ.istore_n (pc := 10) (L1 := [some (.inr (.inr a0)), some (.inl (-2 : Int32)), some (.inl (0 : Int32)), none, none]) d_M_toAsk_10 (Nat.le_of_ble_eq_true rfl) rfl rfl ?_
  refine PJ.bind (fun x3 : Int32 × PH => ((116 : Nat), ([none, some (.inl x3.1), none, none, none] : List (Option PV)), ([] : List PV), (x3.2 : PH), (0 : Nat), (0 : Nat))) (PJ.it (E := (fun s2 : Int32 × Int32 × PH => ((11 : Nat), ([some (.inr (.inr a0)), some (.inl s2.1), some (.inl s2.2.1), none, none] : List (Option PV)), ([] : List PV), (s2.2.2 : PH), (0 : Nat), (0 : Nat)))) (F := (fun x3 : Int32 × PH => ((116 : Nat), ([none, some (.inl x3.1), none, none, none] : List (Option PV)), ([] : List PV), (x3.2 : PH), (0 : Nat), (0 : Nat)))) (fun s2 => ?_) FU ((-2 : Int32), (0 : Int32), h1)) (fun x3 => ?_)
  · show PJ l G (pj_rm 5 0 0) Y_M_toAsk 11 [some (.inr (.inr a0)), some (.inl s2.1), some (.inl s2.2.1), none, none] [] s2.2.2 0 0 _ _
    refine PJ.iload_n (pc := 11) d_M_toAsk_11 rfl ?_
    refine PJ.aload_n (pc := 12) d_M_toAsk_12 rfl ?_
    refine PJ.getR (pc := 13) fs_M_341 d_M_toAsk_13 (fun v4 => ?_)
    refine PJ.getI (pc := 16) fs_M_302 d_M_toAsk_16 (fun v5 => ?_)
    refine PJ.icmp_ge (pc := 19) (tgt := 116) d_M_toAsk_19 (by decide) (fun _ => ?_) (fun _ => ?_)
    · refine PJ.mk (L1 := [none, some (.inl s2.1), none, none, none]) [false, true, false, false, false] rfl ?_
      exact PJ.done rfl
    · refine PJ.aload_n (pc := 22) d_M_toAsk_22 rfl ?_
      refine PJ.aload_n (pc := 23) d_M_toAsk_23 rfl ?_
      refine PJ.getR (pc := 24) fs_M_341 d_M_toAsk_24 (fun v6 => ?_)
      refine PJ.getR (pc := 27) fs_M_309 d_M_toAsk_27 (fun v7 => ?_)
      refine PJ.iload_n (pc := 30) d_M_toAsk_30 rfl ?_
      refine PJ.iald (pc := 31) d_M_toAsk_31 (fun v8 => ?_)
      refine PJ.cVV (pc := 32) cs_M_474 (fun z hz => PM_M_rowsOf hz) (pj_fitb rfl) rfl rfl (Nat.le_of_ble_eq_true rfl) d_M_toAsk_32 (fun h9 => ?_)
      refine PJ.iconst (pc := 35) (v := 0) d_M_toAsk_35 (by decide) ?_
      refine PJ.istore_n (pc := 36) (L1 := [some (.inr (.inr a0)), some (.inl s2.1), some (.inl s2.2.1), some (.inl (0 : Int32)), none]) d_M_toAsk_36 (Nat.le_of_ble_eq_true rfl) rfl rfl ?_
      refine PJ.iconst (pc := 37) (v := 0) d_M_toAsk_37 (by decide) ?_
      refine PJ.istore (pc := 38) (L1 := [some (.inr (.inr a0)), some (.inl s2.1), some (.inl s2.2.1), some (.inl (0 : Int32)), some (.inl (0 : Int32))]) d_M_toAsk_38 (Nat.le_of_ble_eq_true rfl) rfl rfl ?_
      refine PJ.bind (fun x11 : Int32 => ((79 : Nat), ([some (.inr (.inr a0)), some (.inl s2.1), some (.inl s2.2.1), some (.inl x11), none] : List (Option PV)), ([] : List PV), (h9 : PH), (0 : Nat), (0 : Nat))) (PJ.it (E := (fun s10 : Int32 × Int32 => ((40 : Nat), ([some (.inr (.inr a0)), some (.inl s2.1), some (.inl s2.2.1), some (.inl s10.1), some (.inl s10.2)] : List (Option PV)), ([] : List PV), (h9 : PH), (0 : Nat), (0 : Nat)))) (F := (fun x11 : Int32 => ((79 : Nat), ([some (.inr (.inr a0)), some (.inl s2.1), some (.inl s2.2.1), some (.inl x11), none] : List (Option PV)), ([] : List PV), (h9 : PH), (0 : Nat), (0 : Nat)))) (fun s10 => ?_) FU ((0 : Int32), (0 : Int32))) (fun x11 => ?_)
      · show PJ l G (pj_rm 5 0 0) Y_M_toAsk 40 [some (.inr (.inr a0)), some (.inl s2.1), some (.inl s2.2.1), some (.inl s10.1), some (.inl s10.2)] [] h9 0 0 _ _
        refine PJ.iload (pc := 40) d_M_toAsk_40 rfl ?_
        refine PJ.iconst (pc := 42) (v := 5) d_M_toAsk_42 (by decide) ?_
        refine PJ.icmp_ge (pc := 43) (tgt := 79) d_M_toAsk_43 (by decide) (fun _ => ?_) (fun _ => ?_)
        · refine PJ.mk (L1 := [some (.inr (.inr a0)), some (.inl s2.1), some (.inl s2.2.1), some (.inl s10.1), none]) [true, true, true, true, false] rfl ?_
          exact PJ.done rfl
        · refine PJ.aload_n (pc := 46) d_M_toAsk_46 rfl ?_
          refine PJ.getR (pc := 47) fs_M_43 d_M_toAsk_47 (fun v12 => ?_)
          refine PJ.iconst (pc := 50) (v := 5) d_M_toAsk_50 (by decide) ?_
          refine PJ.iload_n (pc := 51) d_M_toAsk_51 rfl ?_
          refine PJ.imul (pc := 52) d_M_toAsk_52 ?_
          refine PJ.iload (pc := 53) d_M_toAsk_53 rfl ?_
          refine PJ.iadd (pc := 55) d_M_toAsk_55 ?_
          refine PJ.iald (pc := 56) d_M_toAsk_56 (fun v13 => ?_)
          refine PJ.iload_n (pc := 57) d_M_toAsk_57 rfl ?_
          refine PJ.icmp_le (pc := 58) (tgt := 73) d_M_toAsk_58 (by decide) (fun _ => ?_) (fun _ => ?_)
          · refine PJ.iinc (pc := 73) (v := 1) (L1 := [some (.inr (.inr a0)), some (.inl s2.1), some (.inl s2.2.1), some (.inl s10.1), some (.inl (s10.2 + (1 : Int32)))]) d_M_toAsk_73 rfl (by decide) (Nat.le_of_ble_eq_true rfl) rfl rfl ?_
            refine PJ.goto (pc := 76) (tgt := 40) d_M_toAsk_76 (by decide) ?_
            exact PJ.done rfl
          · refine PJ.aload_n (pc := 61) d_M_toAsk_61 rfl ?_
            refine PJ.getR (pc := 62) fs_M_43 d_M_toAsk_62 (fun v14 => ?_)
            refine PJ.iconst (pc := 65) (v := 5) d_M_toAsk_65 (by decide) ?_
            refine PJ.iload_n (pc := 66) d_M_toAsk_66 rfl ?_
            refine PJ.imul (pc := 67) d_M_toAsk_67 ?_
            refine PJ.iload (pc := 68) d_M_toAsk_68 rfl ?_
            refine PJ.iadd (pc := 70) d_M_toAsk_70 ?_
            refine PJ.iald (pc := 71) d_M_toAsk_71 (fun v15 => ?_)
            refine PJ.istore_n (pc := 72) (L1 := [some (.inr (.inr a0)), some (.inl s2.1), some (.inl s2.2.1), some (.inl v15), some (.inl s10.2)]) d_M_toAsk_72 (Nat.le_of_ble_eq_true rfl) rfl rfl ?_
            refine PJ.iinc (pc := 73) (v := 1) (L1 := [some (.inr (.inr a0)), some (.inl s2.1), some (.inl s2.2.1), some (.inl v15), some (.inl (s10.2 + (1 : Int32)))]) d_M_toAsk_73 rfl (by decide) (Nat.le_of_ble_eq_true rfl) rfl rfl ?_
            refine PJ.goto (pc := 76) (tgt := 40) d_M_toAsk_76 (by decide) ?_
            exact PJ.done rfl
      · show PJ l G (pj_rm 5 0 0) Y_M_toAsk 79 [some (.inr (.inr a0)), some (.inl s2.1), some (.inl s2.2.1), some (.inl x11), none] [] h9 0 0 _ _
        refine PJ.aload_n (pc := 79) d_M_toAsk_79 rfl ?_
        refine PJ.getI (pc := 80) fs_M_462 d_M_toAsk_80 (fun v16 => ?_)
        refine PJ.if_eq (pc := 83) (tgt := 110) d_M_toAsk_83 (by decide) (fun _ => ?_) (fun _ => ?_)
        · refine PJ.iinc (pc := 110) (v := 1) (L1 := [some (.inr (.inr a0)), some (.inl s2.1), some (.inl (s2.2.1 + (1 : Int32))), some (.inl x11), none]) d_M_toAsk_110 rfl (by decide) (Nat.le_of_ble_eq_true rfl) rfl rfl ?_
          refine PJ.goto (pc := 113) (tgt := 11) d_M_toAsk_113 (by decide) ?_
          refine PJ.mk (L1 := [some (.inr (.inr a0)), some (.inl s2.1), some (.inl (s2.2.1 + (1 : Int32))), none, none]) [true, true, true, false, false] rfl ?_
          exact PJ.done rfl
        · refine PJ.iload_n (pc := 86) d_M_toAsk_86 rfl ?_
          refine PJ.bipush (pc := 87) (v := -2) d_M_toAsk_87 (by decide) ?_
          refine PJ.icmp_eq (pc := 89) (tgt := 103) d_M_toAsk_89 (by decide) (fun _ => ?_) (fun _ => ?_)
          · refine PJ.iload_n (pc := 103) d_M_toAsk_103 rfl ?_
            refine PJ.istore_n (pc := 104) (L1 := [some (.inr (.inr a0)), some (.inl s2.2.1), some (.inl s2.2.1), some (.inl x11), none]) d_M_toAsk_104 (Nat.le_of_ble_eq_true rfl) rfl rfl ?_
            refine PJ.aload_n (pc := 105) d_M_toAsk_105 rfl ?_
            refine PJ.iload_n (pc := 106) d_M_toAsk_106 rfl ?_
            refine PJ.putI (pc := 107) ps_M_483 d_M_toAsk_107 (fun h17 => ?_)
            refine PJ.iinc (pc := 110) (v := 1) (L1 := [some (.inr (.inr a0)), some (.inl s2.2.1), some (.inl (s2.2.1 + (1 : Int32))), some (.inl x11), none]) d_M_toAsk_110 rfl (by decide) (Nat.le_of_ble_eq_true rfl) rfl rfl ?_
            refine PJ.goto (pc := 113) (tgt := 11) d_M_toAsk_113 (by decide) ?_
            refine PJ.mk (L1 := [some (.inr (.inr a0)), some (.inl s2.2.1), some (.inl (s2.2.1 + (1 : Int32))), none, none]) [true, true, true, false, false] rfl ?_
            exact PJ.done rfl
          · refine PJ.iload_n (pc := 92) d_M_toAsk_92 rfl ?_
            refine PJ.aload_n (pc := 93) d_M_toAsk_93 rfl ?_
            refine PJ.getI (pc := 94) fs_M_483 d_M_toAsk_94 (fun v18 => ?_)
            refine PJ.icmp_lt (pc := 97) (tgt := 103) d_M_toAsk_97 (by decide) (fun _ => ?_) (fun _ => ?_)
            · refine PJ.iload_n (pc := 103) d_M_toAsk_103 rfl ?_
              refine PJ.istore_n (pc := 104) (L1 := [some (.inr (.inr a0)), some (.inl s2.2.1), some (.inl s2.2.1), some (.inl x11), none]) d_M_toAsk_104 (Nat.le_of_ble_eq_true rfl) rfl rfl ?_
              refine PJ.aload_n (pc := 105) d_M_toAsk_105 rfl ?_
              refine PJ.iload_n (pc := 106) d_M_toAsk_106 rfl ?_
              refine PJ.putI (pc := 107) ps_M_483 d_M_toAsk_107 (fun h19 => ?_)
              refine PJ.iinc (pc := 110) (v := 1) (L1 := [some (.inr (.inr a0)), some (.inl s2.2.1), some (.inl (s2.2.1 + (1 : Int32))), some (.inl x11), none]) d_M_toAsk_110 rfl (by decide) (Nat.le_of_ble_eq_true rfl) rfl rfl ?_
              refine PJ.goto (pc := 113) (tgt := 11) d_M_toAsk_113 (by decide) ?_
              refine PJ.mk (L1 := [some (.inr (.inr a0)), some (.inl s2.2.1), some (.inl (s2.2.1 + (1 : Int32))), none, none]) [true, true, true, false, false] rfl ?_
              exact PJ.done rfl
            · refine PJ.goto (pc := 100) (tgt := 110) d_M_toAsk_100 (by decide) ?_
              refine PJ.iinc (pc := 110) (v := 1) (L1 := [some (.inr (.inr a0)), some (.inl s2.1), some (.inl (s2.2.1 + (1 : Int32))), some (.inl x11), none]) d_M_toAsk_110 rfl (by decide) (Nat.le_of_ble_eq_true rfl) rfl rfl ?_
              refine PJ.goto (pc := 113) (tgt := 11) d_M_toAsk_113 (by decide) ?_
              refine PJ.mk (L1 := [some (.inr (.inr a0)), some (.inl s2.1), some (.inl (s2.2.1 + (1 : Int32))), none, none]) [true, true, true, false, false] rfl ?_
              exact PJ.done rfl
  · show PJ l G (pj_rm 5 0 0) Y_M_toAsk 116 [none, some (.inl x3.1), none, none, none] [] x3.2 0 0 _ _
    refine PJ.iload_n (pc := 116) d_M_toAsk_116 rfl ?_
    exact PJ.iret (pc := 117) d_M_toAsk_117 rfl (Nat.le_of_ble_eq_true rfl) (Nat.le_of_ble_eq_true rfl)
theorem d_M_ask_0 : decode Y_M_ask.2.1 0 = .ok (.aload_n 0, 1) := by decide +kernel
theorem d_M_ask_1 : decode Y_M_ask.2.1 1 = .ok (.iconst 0, 1) := by decide +kernel
theorem d_M_ask_2 : decode Y_M_ask.2.1 2 = .ok (.putfield 46, 3) := by decide +kernel
theorem d_M_ask_5 : decode Y_M_ask.2.1 5 = .ok (.aload_n 0, 1) := by decide +kernel
theorem d_M_ask_6 : decode Y_M_ask.2.1 6 = .ok (.getfield 341, 3) := by decide +kernel
theorem d_M_ask_9 : decode Y_M_ask.2.1 9 = .ok (.ifnonnull 11, 3) := by decide +kernel
theorem d_M_ask_12 : decode Y_M_ask.2.1 12 = .ok (.aload_n 0, 1) := by decide +kernel
theorem d_M_ask_13 : decode Y_M_ask.2.1 13 = .ok (.iconst 1, 1) := by decide +kernel
theorem d_M_ask_14 : decode Y_M_ask.2.1 14 = .ok (.invokevirtual 52, 3) := by decide +kernel
theorem d_M_ask_17 : decode Y_M_ask.2.1 17 = .ok (.goto 11, 3) := by decide +kernel
theorem d_M_ask_20 : decode Y_M_ask.2.1 20 = .ok (.aload_n 0, 1) := by decide +kernel
theorem d_M_ask_21 : decode Y_M_ask.2.1 21 = .ok (.aload_n 0, 1) := by decide +kernel
theorem d_M_ask_22 : decode Y_M_ask.2.1 22 = .ok (.invokevirtual 486, 3) := by decide +kernel
theorem d_M_ask_25 : decode Y_M_ask.2.1 25 = .ok (.invokevirtual 58, 3) := by decide +kernel
theorem d_M_ask_28 : decode Y_M_ask.2.1 28 = .ok (.ireturn, 1) := by decide +kernel
def f_M_ask (h : PH) (a0 : Option Nat) : Option (Int32 × PH) := (sF h 12 a0 0 (.inl (0 : Int32))).bind fun h1 => (gR h1 12 a0 3).bind fun v2 => if v2 = none then ((cl h1 12 a0 (f_M_refused h1 a0 (1 : Int32))).bind fun v5 => some (v5.1, v5.2)) else ((cl h1 12 a0 (f_M_toAsk h1 a0)).bind fun v3 => (cl v3.2 12 a0 (f_M_good v3.2 a0 v3.1)).bind fun v4 => some (v4.1, v4.2))
set_option maxRecDepth 20000 in
theorem PM_M_ask {l : Launch} {G : Cx} {h : PH} {a0 : Option Nat} {z : (Int32 × PH)} (hz : f_M_ask h a0 = some z) : PM l G 6 0 0 Y_M_ask [.inr (.inr a0)] h (some (.inl z.1), z.2) := by
  refine PM.of (Y := Y_M_ask) (cv := (fun z : (Int32 × PH) => (((some (.inl z.1), z.2) : Option PV × PH)))) (by decide) (L0 := [some (.inr (.inr a0))]) 0 rfl (Nat.le_of_ble_eq_true rfl) ?_ hz
  unfold f_M_ask
  refine PJ.aload_n (pc := 0) d_M_ask_0 rfl ?_
  refine PJ.iconst (pc := 1) (v := 0) d_M_ask_1 (by decide) ?_
  refine PJ.putI (pc := 2) ps_M_46 d_M_ask_2 (fun h1 => ?_)
  refine PJ.aload_n (pc := 5) d_M_ask_5 rfl ?_
  refine PJ.getR (pc := 6) fs_M_341 d_M_ask_6 (fun v2 => ?_)
  refine PJ.ifnonnull (pc := 9) (tgt := 20) d_M_ask_9 (by decide) (fun _ => ?_) (fun _ => ?_)
  · refine PJ.aload_n (pc := 20) d_M_ask_20 rfl ?_
    refine PJ.aload_n (pc := 21) d_M_ask_21 rfl ?_
    refine PJ.cVI (pc := 22) cs_M_486 (fun z hz => PM_M_toAsk hz) (pj_fitb rfl) rfl rfl (Nat.le_of_ble_eq_true rfl) d_M_ask_22 (fun v3 => ?_)
    refine PJ.cVI (pc := 25) cs_M_58 (fun z hz => PM_M_good hz) (pj_fitb rfl) rfl rfl (Nat.le_of_ble_eq_true rfl) d_M_ask_25 (fun v4 => ?_)
    exact PJ.iret (pc := 28) d_M_ask_28 rfl (Nat.le_of_ble_eq_true rfl) (Nat.le_of_ble_eq_true rfl)
  · refine PJ.aload_n (pc := 12) d_M_ask_12 rfl ?_
    refine PJ.iconst (pc := 13) (v := 1) d_M_ask_13 (by decide) ?_
    refine PJ.cVI (pc := 14) cs_M_52 (fun z hz => PM_M_refused hz) (pj_fitb rfl) rfl rfl (Nat.le_of_ble_eq_true rfl) d_M_ask_14 (fun v5 => ?_)
    refine PJ.goto (pc := 17) (tgt := 28) d_M_ask_17 (by decide) ?_
    exact PJ.iret (pc := 28) d_M_ask_28 rfl (Nat.le_of_ble_eq_true rfl) (Nat.le_of_ble_eq_true rfl)
theorem d_M_askLeaves_0 : decode Y_M_askLeaves.2.1 0 = .ok (.aload_n 0, 1) := by decide +kernel
theorem d_M_askLeaves_1 : decode Y_M_askLeaves.2.1 1 = .ok (.iconst 0, 1) := by decide +kernel
theorem d_M_askLeaves_2 : decode Y_M_askLeaves.2.1 2 = .ok (.putfield 46, 3) := by decide +kernel
theorem d_M_askLeaves_5 : decode Y_M_askLeaves.2.1 5 = .ok (.aload_n 0, 1) := by decide +kernel
theorem d_M_askLeaves_6 : decode Y_M_askLeaves.2.1 6 = .ok (.getfield 341, 3) := by decide +kernel
theorem d_M_askLeaves_9 : decode Y_M_askLeaves.2.1 9 = .ok (.ifnonnull 9, 3) := by decide +kernel
theorem d_M_askLeaves_12 : decode Y_M_askLeaves.2.1 12 = .ok (.aload_n 0, 1) := by decide +kernel
theorem d_M_askLeaves_13 : decode Y_M_askLeaves.2.1 13 = .ok (.iconst 1, 1) := by decide +kernel
theorem d_M_askLeaves_14 : decode Y_M_askLeaves.2.1 14 = .ok (.invokevirtual 52, 3) := by decide +kernel
theorem d_M_askLeaves_17 : decode Y_M_askLeaves.2.1 17 = .ok (.ireturn, 1) := by decide +kernel
theorem d_M_askLeaves_18 : decode Y_M_askLeaves.2.1 18 = .ok (.aload_n 0, 1) := by decide +kernel
theorem d_M_askLeaves_19 : decode Y_M_askLeaves.2.1 19 = .ok (.invokevirtual 486, 3) := by decide +kernel
theorem d_M_askLeaves_22 : decode Y_M_askLeaves.2.1 22 = .ok (.pop, 1) := by decide +kernel
theorem d_M_askLeaves_23 : decode Y_M_askLeaves.2.1 23 = .ok (.aload_n 0, 1) := by decide +kernel
theorem d_M_askLeaves_24 : decode Y_M_askLeaves.2.1 24 = .ok (.aload_n 0, 1) := by decide +kernel
theorem d_M_askLeaves_25 : decode Y_M_askLeaves.2.1 25 = .ok (.getfield 483, 3) := by decide +kernel
theorem d_M_askLeaves_28 : decode Y_M_askLeaves.2.1 28 = .ok (.invokevirtual 58, 3) := by decide +kernel
theorem d_M_askLeaves_31 : decode Y_M_askLeaves.2.1 31 = .ok (.ireturn, 1) := by decide +kernel
def f_M_askLeaves (h : PH) (a0 : Option Nat) : Option (Int32 × PH) := (sF h 12 a0 0 (.inl (0 : Int32))).bind fun h1 => (gR h1 12 a0 3).bind fun v2 => if v2 = none then ((cl h1 12 a0 (f_M_refused h1 a0 (1 : Int32))).bind fun v6 => some (v6.1, v6.2)) else ((cl h1 12 a0 (f_M_toAsk h1 a0)).bind fun v3 => (gI v3.2 12 a0 29).bind fun v4 => (cl v3.2 12 a0 (f_M_good v3.2 a0 v4)).bind fun v5 => some (v5.1, v5.2))
set_option maxRecDepth 20000 in
theorem PM_M_askLeaves {l : Launch} {G : Cx} {h : PH} {a0 : Option Nat} {z : (Int32 × PH)} (hz : f_M_askLeaves h a0 = some z) : PM l G 6 0 0 Y_M_askLeaves [.inr (.inr a0)] h (some (.inl z.1), z.2) := by
  refine PM.of (Y := Y_M_askLeaves) (cv := (fun z : (Int32 × PH) => (((some (.inl z.1), z.2) : Option PV × PH)))) (by decide) (L0 := [some (.inr (.inr a0))]) 0 rfl (Nat.le_of_ble_eq_true rfl) ?_ hz
  unfold f_M_askLeaves
  refine PJ.aload_n (pc := 0) d_M_askLeaves_0 rfl ?_
  refine PJ.iconst (pc := 1) (v := 0) d_M_askLeaves_1 (by decide) ?_
  refine PJ.putI (pc := 2) ps_M_46 d_M_askLeaves_2 (fun h1 => ?_)
  refine PJ.aload_n (pc := 5) d_M_askLeaves_5 rfl ?_
  refine PJ.getR (pc := 6) fs_M_341 d_M_askLeaves_6 (fun v2 => ?_)
  refine PJ.ifnonnull (pc := 9) (tgt := 18) d_M_askLeaves_9 (by decide) (fun _ => ?_) (fun _ => ?_)
  · refine PJ.aload_n (pc := 18) d_M_askLeaves_18 rfl ?_
    refine PJ.cVI (pc := 19) cs_M_486 (fun z hz => PM_M_toAsk hz) (pj_fitb rfl) rfl rfl (Nat.le_of_ble_eq_true rfl) d_M_askLeaves_19 (fun v3 => ?_)
    refine PJ.pop (pc := 22) d_M_askLeaves_22 rfl ?_
    refine PJ.aload_n (pc := 23) d_M_askLeaves_23 rfl ?_
    refine PJ.aload_n (pc := 24) d_M_askLeaves_24 rfl ?_
    refine PJ.getI (pc := 25) fs_M_483 d_M_askLeaves_25 (fun v4 => ?_)
    refine PJ.cVI (pc := 28) cs_M_58 (fun z hz => PM_M_good hz) (pj_fitb rfl) rfl rfl (Nat.le_of_ble_eq_true rfl) d_M_askLeaves_28 (fun v5 => ?_)
    exact PJ.iret (pc := 31) d_M_askLeaves_31 rfl (Nat.le_of_ble_eq_true rfl) (Nat.le_of_ble_eq_true rfl)
  · refine PJ.aload_n (pc := 12) d_M_askLeaves_12 rfl ?_
    refine PJ.iconst (pc := 13) (v := 1) d_M_askLeaves_13 (by decide) ?_
    refine PJ.cVI (pc := 14) cs_M_52 (fun z hz => PM_M_refused hz) (pj_fitb rfl) rfl rfl (Nat.le_of_ble_eq_true rfl) d_M_askLeaves_14 (fun v6 => ?_)
    exact PJ.iret (pc := 17) d_M_askLeaves_17 rfl (Nat.le_of_ble_eq_true rfl) (Nat.le_of_ble_eq_true rfl)
theorem d_M_liar_0 : decode Y_M_liar.2.1 0 = .ok (.aload_n 0, 1) := by decide +kernel
theorem d_M_liar_1 : decode Y_M_liar.2.1 1 = .ok (.iconst 0, 1) := by decide +kernel
theorem d_M_liar_2 : decode Y_M_liar.2.1 2 = .ok (.putfield 46, 3) := by decide +kernel
theorem d_M_liar_5 : decode Y_M_liar.2.1 5 = .ok (.aload_n 0, 1) := by decide +kernel
theorem d_M_liar_6 : decode Y_M_liar.2.1 6 = .ok (.getfield 341, 3) := by decide +kernel
theorem d_M_liar_9 : decode Y_M_liar.2.1 9 = .ok (.ifnonnull 9, 3) := by decide +kernel
theorem d_M_liar_12 : decode Y_M_liar.2.1 12 = .ok (.aload_n 0, 1) := by decide +kernel
theorem d_M_liar_13 : decode Y_M_liar.2.1 13 = .ok (.iconst 1, 1) := by decide +kernel
theorem d_M_liar_14 : decode Y_M_liar.2.1 14 = .ok (.invokevirtual 52, 3) := by decide +kernel
theorem d_M_liar_17 : decode Y_M_liar.2.1 17 = .ok (.ireturn, 1) := by decide +kernel
theorem d_M_liar_18 : decode Y_M_liar.2.1 18 = .ok (.iconst 0, 1) := by decide +kernel
theorem d_M_liar_19 : decode Y_M_liar.2.1 19 = .ok (.istore_n 1, 1) := by decide +kernel
theorem d_M_liar_20 : decode Y_M_liar.2.1 20 = .ok (.iload_n 1, 1) := by decide +kernel
theorem d_M_liar_21 : decode Y_M_liar.2.1 21 = .ok (.aload_n 0, 1) := by decide +kernel
theorem d_M_liar_22 : decode Y_M_liar.2.1 22 = .ok (.getfield 341, 3) := by decide +kernel
theorem d_M_liar_25 : decode Y_M_liar.2.1 25 = .ok (.getfield 255, 3) := by decide +kernel
theorem d_M_liar_28 : decode Y_M_liar.2.1 28 = .ok (.if_icmp .ge 38, 3) := by decide +kernel
theorem d_M_liar_31 : decode Y_M_liar.2.1 31 = .ok (.aload_n 0, 1) := by decide +kernel
theorem d_M_liar_32 : decode Y_M_liar.2.1 32 = .ok (.iload_n 1, 1) := by decide +kernel
theorem d_M_liar_33 : decode Y_M_liar.2.1 33 = .ok (.invokevirtual 471, 3) := by decide +kernel
theorem d_M_liar_36 : decode Y_M_liar.2.1 36 = .ok (.ifCond .ne 6, 3) := by decide +kernel
theorem d_M_liar_39 : decode Y_M_liar.2.1 39 = .ok (.goto 21, 3) := by decide +kernel
theorem d_M_liar_42 : decode Y_M_liar.2.1 42 = .ok (.aload_n 0, 1) := by decide +kernel
theorem d_M_liar_43 : decode Y_M_liar.2.1 43 = .ok (.iload_n 1, 1) := by decide +kernel
theorem d_M_liar_44 : decode Y_M_liar.2.1 44 = .ok (.invokevirtual 474, 3) := by decide +kernel
theorem d_M_liar_47 : decode Y_M_liar.2.1 47 = .ok (.aload_n 0, 1) := by decide +kernel
theorem d_M_liar_48 : decode Y_M_liar.2.1 48 = .ok (.getfield 462, 3) := by decide +kernel
theorem d_M_liar_51 : decode Y_M_liar.2.1 51 = .ok (.ifCond .ne 9, 3) := by decide +kernel
theorem d_M_liar_54 : decode Y_M_liar.2.1 54 = .ok (.aload_n 0, 1) := by decide +kernel
theorem d_M_liar_55 : decode Y_M_liar.2.1 55 = .ok (.iload_n 1, 1) := by decide +kernel
theorem d_M_liar_56 : decode Y_M_liar.2.1 56 = .ok (.invokevirtual 58, 3) := by decide +kernel
theorem d_M_liar_59 : decode Y_M_liar.2.1 59 = .ok (.ireturn, 1) := by decide +kernel
theorem d_M_liar_60 : decode Y_M_liar.2.1 60 = .ok (.iinc 1 1, 3) := by decide +kernel
theorem d_M_liar_63 : decode Y_M_liar.2.1 63 = .ok (.goto (-43), 3) := by decide +kernel
theorem d_M_liar_66 : decode Y_M_liar.2.1 66 = .ok (.aload_n 0, 1) := by decide +kernel
theorem d_M_liar_67 : decode Y_M_liar.2.1 67 = .ok (.bipush (-2), 2) := by decide +kernel
theorem d_M_liar_69 : decode Y_M_liar.2.1 69 = .ok (.invokevirtual 58, 3) := by decide +kernel
theorem d_M_liar_72 : decode Y_M_liar.2.1 72 = .ok (.ireturn, 1) := by decide +kernel
def f_M_liar (h : PH) (a0 : Option Nat) : Option (Int32 × PH) := (sF h 12 a0 0 (.inl (0 : Int32))).bind fun h1 => (gR h1 12 a0 3).bind fun v2 => if v2 = none then ((cl h1 12 a0 (f_M_refused h1 a0 (1 : Int32))).bind fun v12 => some (v12.1, v12.2)) else ((pj_it (X := (PH) ⊕ (Int32 × PH)) (fun s3 : Int32 × PH => (gR s3.2 12 a0 3).bind fun v5 => (gI s3.2 11 v5 3).bind fun v6 => if v6 ≤ s3.1 then (some (.inr (.inl s3.2))) else ((cl s3.2 12 a0 (f_M_receiptsOf s3.2 a0 s3.1)).bind fun v7 => if ¬ v7 = 0 then ((cl s3.2 12 a0 (f_M_rowsOf s3.2 a0 s3.1)).bind fun h8 => (gI h8 12 a0 28).bind fun v9 => if ¬ v9 = 0 then (some (.inl ((s3.1 + (1 : Int32)), h8))) else (some (.inr (.inr (s3.1, h8))))) else (some (.inl ((s3.1 + (1 : Int32)), s3.2))))) FU ((0 : Int32), h1)).bind fun x4 => match x4 with | (.inl yx4_0) => (cl yx4_0 12 a0 (f_M_good yx4_0 a0 (-2 : Int32))).bind fun v10 => some (v10.1, v10.2) | (.inr yx4_1) => (cl yx4_1.2 12 a0 (f_M_good yx4_1.2 a0 yx4_1.1)).bind fun v11 => some (v11.1, v11.2))
set_option maxRecDepth 20000 in
theorem PM_M_liar {l : Launch} {G : Cx} {h : PH} {a0 : Option Nat} {z : (Int32 × PH)} (hz : f_M_liar h a0 = some z) : PM l G 5 0 0 Y_M_liar [.inr (.inr a0)] h (some (.inl z.1), z.2) := by
  refine PM.of (Y := Y_M_liar) (cv := (fun z : (Int32 × PH) => (((some (.inl z.1), z.2) : Option PV × PH)))) (by decide) (L0 := [some (.inr (.inr a0)), none]) 1 rfl (Nat.le_of_ble_eq_true rfl) ?_ hz
  unfold f_M_liar
  refine PJ.aload_n (pc := 0) d_M_liar_0 rfl ?_
  refine PJ.iconst (pc := 1) (v := 0) d_M_liar_1 (by decide) ?_
  refine PJ.putI (pc := 2) ps_M_46 d_M_liar_2 (fun h1 => ?_)
  refine PJ.aload_n (pc := 5) d_M_liar_5 rfl ?_
  refine PJ.getR (pc := 6) fs_M_341 d_M_liar_6 (fun v2 => ?_)
  refine PJ.ifnonnull (pc := 9) (tgt := 18) d_M_liar_9 (by decide) (fun _ => ?_) (fun _ => ?_)
  · refine PJ.iconst (pc := 18) (v := 0) d_M_liar_18 (by decide) ?_
    refine PJ.istore_n (pc := 19) (L1 := [some (.inr (.inr a0)), some (.inl (0 : Int32))]) d_M_liar_19 (Nat.le_of_ble_eq_true rfl) rfl rfl ?_
    refine PJ.bind (fun x4 : (PH) ⊕ (Int32 × PH) => match x4 with | (.inl y0) => ((66 : Nat), ([some (.inr (.inr a0)), none] : List (Option PV)), ([] : List PV), (y0 : PH), (0 : Nat), (0 : Nat)) | (.inr y1) => ((54 : Nat), ([some (.inr (.inr a0)), some (.inl y1.1)] : List (Option PV)), ([] : List PV), (y1.2 : PH), (0 : Nat), (0 : Nat))) (PJ.it (E := (fun s3 : Int32 × PH => ((20 : Nat), ([some (.inr (.inr a0)), some (.inl s3.1)] : List (Option PV)), ([] : List PV), (s3.2 : PH), (0 : Nat), (0 : Nat)))) (F := (fun x4 : (PH) ⊕ (Int32 × PH) => match x4 with | (.inl y0) => ((66 : Nat), ([some (.inr (.inr a0)), none] : List (Option PV)), ([] : List PV), (y0 : PH), (0 : Nat), (0 : Nat)) | (.inr y1) => ((54 : Nat), ([some (.inr (.inr a0)), some (.inl y1.1)] : List (Option PV)), ([] : List PV), (y1.2 : PH), (0 : Nat), (0 : Nat)))) (fun s3 => ?_) FU ((0 : Int32), h1)) (fun x4 => ?_)
    · show PJ l G (pj_rm 5 0 0) Y_M_liar 20 [some (.inr (.inr a0)), some (.inl s3.1)] [] s3.2 0 0 _ _
      refine PJ.iload_n (pc := 20) d_M_liar_20 rfl ?_
      refine PJ.aload_n (pc := 21) d_M_liar_21 rfl ?_
      refine PJ.getR (pc := 22) fs_M_341 d_M_liar_22 (fun v5 => ?_)
      refine PJ.getI (pc := 25) fs_M_255 d_M_liar_25 (fun v6 => ?_)
      refine PJ.icmp_ge (pc := 28) (tgt := 66) d_M_liar_28 (by decide) (fun _ => ?_) (fun _ => ?_)
      · refine PJ.mk (L1 := [some (.inr (.inr a0)), none]) [true, false] rfl ?_
        exact PJ.done rfl
      · refine PJ.aload_n (pc := 31) d_M_liar_31 rfl ?_
        refine PJ.iload_n (pc := 32) d_M_liar_32 rfl ?_
        refine PJ.cVpI (pc := 33) cs_M_471 (fun z hz => PM_M_receiptsOf hz) (pj_fitb rfl) rfl rfl (Nat.le_of_ble_eq_true rfl) d_M_liar_33 (fun v7 => ?_)
        refine PJ.if_ne (pc := 36) (tgt := 42) d_M_liar_36 (by decide) (fun _ => ?_) (fun _ => ?_)
        · refine PJ.aload_n (pc := 42) d_M_liar_42 rfl ?_
          refine PJ.iload_n (pc := 43) d_M_liar_43 rfl ?_
          refine PJ.cVV (pc := 44) cs_M_474 (fun z hz => PM_M_rowsOf hz) (pj_fitb rfl) rfl rfl (Nat.le_of_ble_eq_true rfl) d_M_liar_44 (fun h8 => ?_)
          refine PJ.aload_n (pc := 47) d_M_liar_47 rfl ?_
          refine PJ.getI (pc := 48) fs_M_462 d_M_liar_48 (fun v9 => ?_)
          refine PJ.if_ne (pc := 51) (tgt := 60) d_M_liar_51 (by decide) (fun _ => ?_) (fun _ => ?_)
          · refine PJ.iinc (pc := 60) (v := 1) (L1 := [some (.inr (.inr a0)), some (.inl (s3.1 + (1 : Int32)))]) d_M_liar_60 rfl (by decide) (Nat.le_of_ble_eq_true rfl) rfl rfl ?_
            refine PJ.goto (pc := 63) (tgt := 20) d_M_liar_63 (by decide) ?_
            exact PJ.done rfl
          · exact PJ.done rfl
        · refine PJ.goto (pc := 39) (tgt := 60) d_M_liar_39 (by decide) ?_
          refine PJ.iinc (pc := 60) (v := 1) (L1 := [some (.inr (.inr a0)), some (.inl (s3.1 + (1 : Int32)))]) d_M_liar_60 rfl (by decide) (Nat.le_of_ble_eq_true rfl) rfl rfl ?_
          refine PJ.goto (pc := 63) (tgt := 20) d_M_liar_63 (by decide) ?_
          exact PJ.done rfl
    · rcases x4 with yx4_0 | yx4_1
      · show PJ l G (pj_rm 5 0 0) Y_M_liar 66 [some (.inr (.inr a0)), none] [] yx4_0 0 0 _ _
        refine PJ.aload_n (pc := 66) d_M_liar_66 rfl ?_
        refine PJ.bipush (pc := 67) (v := -2) d_M_liar_67 (by decide) ?_
        refine PJ.cVI (pc := 69) cs_M_58 (fun z hz => PM_M_good hz) (pj_fitb rfl) rfl rfl (Nat.le_of_ble_eq_true rfl) d_M_liar_69 (fun v10 => ?_)
        exact PJ.iret (pc := 72) d_M_liar_72 rfl (Nat.le_of_ble_eq_true rfl) (Nat.le_of_ble_eq_true rfl)
      · show PJ l G (pj_rm 5 0 0) Y_M_liar 54 [some (.inr (.inr a0)), some (.inl yx4_1.1)] [] yx4_1.2 0 0 _ _
        refine PJ.aload_n (pc := 54) d_M_liar_54 rfl ?_
        refine PJ.iload_n (pc := 55) d_M_liar_55 rfl ?_
        refine PJ.cVI (pc := 56) cs_M_58 (fun z hz => PM_M_good hz) (pj_fitb rfl) rfl rfl (Nat.le_of_ble_eq_true rfl) d_M_liar_56 (fun v11 => ?_)
        exact PJ.iret (pc := 59) d_M_liar_59 rfl (Nat.le_of_ble_eq_true rfl) (Nat.le_of_ble_eq_true rfl)
  · refine PJ.aload_n (pc := 12) d_M_liar_12 rfl ?_
    refine PJ.iconst (pc := 13) (v := 1) d_M_liar_13 (by decide) ?_
    refine PJ.cVI (pc := 14) cs_M_52 (fun z hz => PM_M_refused hz) (pj_fitb rfl) rfl rfl (Nat.le_of_ble_eq_true rfl) d_M_liar_14 (fun v12 => ?_)
    exact PJ.iret (pc := 17) d_M_liar_17 rfl (Nat.le_of_ble_eq_true rfl) (Nat.le_of_ble_eq_true rfl)
theorem d_M_refusesInspectors_0 : decode Y_M_refusesInspectors.2.1 0 = .ok (.aload_n 0, 1) := by decide +kernel
theorem d_M_refusesInspectors_1 : decode Y_M_refusesInspectors.2.1 1 = .ok (.getfield 341, 3) := by decide +kernel
theorem d_M_refusesInspectors_4 : decode Y_M_refusesInspectors.2.1 4 = .ok (.ifnonnull 7, 3) := by decide +kernel
theorem d_M_refusesInspectors_7 : decode Y_M_refusesInspectors.2.1 7 = .ok (.iconst 1, 1) := by decide +kernel
theorem d_M_refusesInspectors_8 : decode Y_M_refusesInspectors.2.1 8 = .ok (.goto 18, 3) := by decide +kernel
theorem d_M_refusesInspectors_11 : decode Y_M_refusesInspectors.2.1 11 = .ok (.iload_n 1, 1) := by decide +kernel
theorem d_M_refusesInspectors_12 : decode Y_M_refusesInspectors.2.1 12 = .ok (.iconst 0, 1) := by decide +kernel
theorem d_M_refusesInspectors_13 : decode Y_M_refusesInspectors.2.1 13 = .ok (.bipush 6, 2) := by decide +kernel
theorem d_M_refusesInspectors_15 : decode Y_M_refusesInspectors.2.1 15 = .ok (.invokestatic 127, 3) := by decide +kernel
theorem d_M_refusesInspectors_18 : decode Y_M_refusesInspectors.2.1 18 = .ok (.ifCond .eq 7, 3) := by decide +kernel
theorem d_M_refusesInspectors_21 : decode Y_M_refusesInspectors.2.1 21 = .ok (.iconst 0, 1) := by decide +kernel
theorem d_M_refusesInspectors_22 : decode Y_M_refusesInspectors.2.1 22 = .ok (.goto 4, 3) := by decide +kernel
theorem d_M_refusesInspectors_25 : decode Y_M_refusesInspectors.2.1 25 = .ok (.iconst 2, 1) := by decide +kernel
theorem d_M_refusesInspectors_26 : decode Y_M_refusesInspectors.2.1 26 = .ok (.ireturn, 1) := by decide +kernel
def f_M_refusesInspectors (h : PH) (a0 : Option Nat) (a1 : Int32) : Option Int32 := (gR h 12 a0 3).bind fun v1 => if v1 = none then (some (1 : Int32)) else ((f_M_in h a1 (0 : Int32) (6 : Int32)).bind fun v2 => if v2 = 0 then (some (2 : Int32)) else (some (0 : Int32)))
set_option maxRecDepth 20000 in
theorem PM_M_refusesInspectors {l : Launch} {G : Cx} {h : PH} {a0 : Option Nat} {a1 : Int32} {z : Int32} (hz : f_M_refusesInspectors h a0 a1 = some z) : PM l G 2 0 0 Y_M_refusesInspectors [.inr (.inr a0), .inl a1] h (some (.inl z), h) := by
  refine PM.of (Y := Y_M_refusesInspectors) (cv := (fun z : Int32 => (((some (.inl z), h) : Option PV × PH)))) (by decide) (L0 := [some (.inr (.inr a0)), some (.inl a1)]) 0 rfl (Nat.le_of_ble_eq_true rfl) ?_ hz
  unfold f_M_refusesInspectors
  refine PJ.aload_n (pc := 0) d_M_refusesInspectors_0 rfl ?_
  refine PJ.getR (pc := 1) fs_M_341 d_M_refusesInspectors_1 (fun v1 => ?_)
  refine PJ.ifnonnull (pc := 4) (tgt := 11) d_M_refusesInspectors_4 (by decide) (fun _ => ?_) (fun _ => ?_)
  · refine PJ.iload_n (pc := 11) d_M_refusesInspectors_11 rfl ?_
    refine PJ.iconst (pc := 12) (v := 0) d_M_refusesInspectors_12 (by decide) ?_
    refine PJ.bipush (pc := 13) (v := 6) d_M_refusesInspectors_13 (by decide) ?_
    refine PJ.cSpI (pc := 15) cs_M_127 (fun z hz => PM_M_in hz) (pj_fitb rfl) rfl rfl (Nat.le_of_ble_eq_true rfl) d_M_refusesInspectors_15 (fun v2 => ?_)
    refine PJ.if_eq (pc := 18) (tgt := 25) d_M_refusesInspectors_18 (by decide) (fun _ => ?_) (fun _ => ?_)
    · refine PJ.iconst (pc := 25) (v := 2) d_M_refusesInspectors_25 (by decide) ?_
      exact PJ.iretp (pc := 26) d_M_refusesInspectors_26 rfl (Nat.le_of_ble_eq_true rfl) (Nat.le_of_ble_eq_true rfl)
    · refine PJ.iconst (pc := 21) (v := 0) d_M_refusesInspectors_21 (by decide) ?_
      refine PJ.goto (pc := 22) (tgt := 26) d_M_refusesInspectors_22 (by decide) ?_
      exact PJ.iretp (pc := 26) d_M_refusesInspectors_26 rfl (Nat.le_of_ble_eq_true rfl) (Nat.le_of_ble_eq_true rfl)
  · refine PJ.iconst (pc := 7) (v := 1) d_M_refusesInspectors_7 (by decide) ?_
    refine PJ.goto (pc := 8) (tgt := 26) d_M_refusesInspectors_8 (by decide) ?_
    exact PJ.iretp (pc := 26) d_M_refusesInspectors_26 rfl (Nat.le_of_ble_eq_true rfl) (Nat.le_of_ble_eq_true rfl)
theorem d_M_caughtBy_0 : decode Y_M_caughtBy.2.1 0 = .ok (.iconst 0, 1) := by decide +kernel
theorem d_M_caughtBy_1 : decode Y_M_caughtBy.2.1 1 = .ok (.istore_n 2, 1) := by decide +kernel
theorem d_M_caughtBy_2 : decode Y_M_caughtBy.2.1 2 = .ok (.iconst 0, 1) := by decide +kernel
theorem d_M_caughtBy_3 : decode Y_M_caughtBy.2.1 3 = .ok (.istore_n 3, 1) := by decide +kernel
theorem d_M_caughtBy_4 : decode Y_M_caughtBy.2.1 4 = .ok (.iload_n 3, 1) := by decide +kernel
theorem d_M_caughtBy_5 : decode Y_M_caughtBy.2.1 5 = .ok (.aload_n 0, 1) := by decide +kernel
theorem d_M_caughtBy_6 : decode Y_M_caughtBy.2.1 6 = .ok (.getfield 341, 3) := by decide +kernel
theorem d_M_caughtBy_9 : decode Y_M_caughtBy.2.1 9 = .ok (.getfield 318, 3) := by decide +kernel
theorem d_M_caughtBy_12 : decode Y_M_caughtBy.2.1 12 = .ok (.if_icmp .ge 29, 3) := by decide +kernel
theorem d_M_caughtBy_15 : decode Y_M_caughtBy.2.1 15 = .ok (.iload_n 1, 1) := by decide +kernel
theorem d_M_caughtBy_16 : decode Y_M_caughtBy.2.1 16 = .ok (.iload_n 3, 1) := by decide +kernel
theorem d_M_caughtBy_17 : decode Y_M_caughtBy.2.1 17 = .ok (.invokestatic 330, 3) := by decide +kernel
theorem d_M_caughtBy_20 : decode Y_M_caughtBy.2.1 20 = .ok (.ifCond .eq 15, 3) := by decide +kernel
theorem d_M_caughtBy_23 : decode Y_M_caughtBy.2.1 23 = .ok (.iload_n 2, 1) := by decide +kernel
theorem d_M_caughtBy_24 : decode Y_M_caughtBy.2.1 24 = .ok (.aload_n 0, 1) := by decide +kernel
theorem d_M_caughtBy_25 : decode Y_M_caughtBy.2.1 25 = .ok (.getfield 341, 3) := by decide +kernel
theorem d_M_caughtBy_28 : decode Y_M_caughtBy.2.1 28 = .ok (.getfield 325, 3) := by decide +kernel
theorem d_M_caughtBy_31 : decode Y_M_caughtBy.2.1 31 = .ok (.iload_n 3, 1) := by decide +kernel
theorem d_M_caughtBy_32 : decode Y_M_caughtBy.2.1 32 = .ok (.iaload, 1) := by decide +kernel
theorem d_M_caughtBy_33 : decode Y_M_caughtBy.2.1 33 = .ok (.ior, 1) := by decide +kernel
theorem d_M_caughtBy_34 : decode Y_M_caughtBy.2.1 34 = .ok (.istore_n 2, 1) := by decide +kernel
theorem d_M_caughtBy_35 : decode Y_M_caughtBy.2.1 35 = .ok (.iinc 3 1, 3) := by decide +kernel
theorem d_M_caughtBy_38 : decode Y_M_caughtBy.2.1 38 = .ok (.goto (-34), 3) := by decide +kernel
theorem d_M_caughtBy_41 : decode Y_M_caughtBy.2.1 41 = .ok (.iconst 0, 1) := by decide +kernel
theorem d_M_caughtBy_42 : decode Y_M_caughtBy.2.1 42 = .ok (.istore_n 3, 1) := by decide +kernel
theorem d_M_caughtBy_43 : decode Y_M_caughtBy.2.1 43 = .ok (.iconst 0, 1) := by decide +kernel
theorem d_M_caughtBy_44 : decode Y_M_caughtBy.2.1 44 = .ok (.istore 4, 2) := by decide +kernel
theorem d_M_caughtBy_46 : decode Y_M_caughtBy.2.1 46 = .ok (.iload 4, 2) := by decide +kernel
theorem d_M_caughtBy_48 : decode Y_M_caughtBy.2.1 48 = .ok (.aload_n 0, 1) := by decide +kernel
theorem d_M_caughtBy_49 : decode Y_M_caughtBy.2.1 49 = .ok (.getfield 341, 3) := by decide +kernel
theorem d_M_caughtBy_52 : decode Y_M_caughtBy.2.1 52 = .ok (.getfield 318, 3) := by decide +kernel
theorem d_M_caughtBy_55 : decode Y_M_caughtBy.2.1 55 = .ok (.if_icmp .ge 35, 3) := by decide +kernel
theorem d_M_caughtBy_58 : decode Y_M_caughtBy.2.1 58 = .ok (.iload_n 3, 1) := by decide +kernel
theorem d_M_caughtBy_59 : decode Y_M_caughtBy.2.1 59 = .ok (.iload_n 2, 1) := by decide +kernel
theorem d_M_caughtBy_60 : decode Y_M_caughtBy.2.1 60 = .ok (.iload 4, 2) := by decide +kernel
theorem d_M_caughtBy_62 : decode Y_M_caughtBy.2.1 62 = .ok (.invokestatic 330, 3) := by decide +kernel
theorem d_M_caughtBy_65 : decode Y_M_caughtBy.2.1 65 = .ok (.ifCond .eq 16, 3) := by decide +kernel
theorem d_M_caughtBy_68 : decode Y_M_caughtBy.2.1 68 = .ok (.aload_n 0, 1) := by decide +kernel
theorem d_M_caughtBy_69 : decode Y_M_caughtBy.2.1 69 = .ok (.getfield 341, 3) := by decide +kernel
theorem d_M_caughtBy_72 : decode Y_M_caughtBy.2.1 72 = .ok (.getfield 323, 3) := by decide +kernel
theorem d_M_caughtBy_75 : decode Y_M_caughtBy.2.1 75 = .ok (.iload 4, 2) := by decide +kernel
theorem d_M_caughtBy_77 : decode Y_M_caughtBy.2.1 77 = .ok (.iaload, 1) := by decide +kernel
theorem d_M_caughtBy_78 : decode Y_M_caughtBy.2.1 78 = .ok (.goto 4, 3) := by decide +kernel
theorem d_M_caughtBy_81 : decode Y_M_caughtBy.2.1 81 = .ok (.iconst 0, 1) := by decide +kernel
theorem d_M_caughtBy_82 : decode Y_M_caughtBy.2.1 82 = .ok (.iadd, 1) := by decide +kernel
theorem d_M_caughtBy_83 : decode Y_M_caughtBy.2.1 83 = .ok (.istore_n 3, 1) := by decide +kernel
theorem d_M_caughtBy_84 : decode Y_M_caughtBy.2.1 84 = .ok (.iinc 4 1, 3) := by decide +kernel
theorem d_M_caughtBy_87 : decode Y_M_caughtBy.2.1 87 = .ok (.goto (-41), 3) := by decide +kernel
theorem d_M_caughtBy_90 : decode Y_M_caughtBy.2.1 90 = .ok (.iload_n 3, 1) := by decide +kernel
theorem d_M_caughtBy_91 : decode Y_M_caughtBy.2.1 91 = .ok (.ireturn, 1) := by decide +kernel
def f_M_caughtBy (h : PH) (a0 : Option Nat) (a1 : Int32) : Option Int32 := (pj_it (X := Int32) (fun s1 : Int32 × Int32 => (gR h 12 a0 3).bind fun v3 => (gI h 11 v3 7).bind fun v4 => if v4 ≤ s1.2 then (some (.inr s1.1)) else ((f_M_bit h a1 s1.2).bind fun v5 => if v5 = 0 then (some (.inl (s1.1, (s1.2 + (1 : Int32))))) else ((gR h 12 a0 3).bind fun v6 => (gR h 11 v6 23).bind fun v7 => (aI h v7 s1.2).bind fun v8 => some (.inl ((s1.1 ||| v8), (s1.2 + (1 : Int32))))))) FU ((0 : Int32), (0 : Int32))).bind fun x2 => (pj_it (X := Int32) (fun s9 : Int32 × Int32 => (gR h 12 a0 3).bind fun v11 => (gI h 11 v11 7).bind fun v12 => if v12 ≤ s9.2 then (some (.inr s9.1)) else ((f_M_bit h x2 s9.2).bind fun v13 => (if v13 = 0 then (some (0 : Int32)) else ((gR h 12 a0 3).bind fun v15 => (gR h 11 v15 22).bind fun v16 => (aI h v16 s9.2).bind fun v17 => some v17) : Option (Int32)).bind fun j14 => some (.inl ((s9.1 + j14), (s9.2 + (1 : Int32)))))) FU ((0 : Int32), (0 : Int32))).bind fun x10 => some x10
set_option maxRecDepth 20000 in
theorem PM_M_caughtBy {l : Launch} {G : Cx} {h : PH} {a0 : Option Nat} {a1 : Int32} {z : Int32} (hz : f_M_caughtBy h a0 a1 = some z) : PM l G 2 0 0 Y_M_caughtBy [.inr (.inr a0), .inl a1] h (some (.inl z), h) := by
  refine PM.of (Y := Y_M_caughtBy) (cv := (fun z : Int32 => (((some (.inl z), h) : Option PV × PH)))) (by decide) (L0 := [some (.inr (.inr a0)), some (.inl a1), none, none, none]) 3 rfl (Nat.le_of_ble_eq_true rfl) ?_ hz
  unfold f_M_caughtBy
  refine PJ.iconst (pc := 0) (v := 0) d_M_caughtBy_0 (by decide) ?_
  refine PJ.istore_n (pc := 1) (L1 := [some (.inr (.inr a0)), some (.inl a1), some (.inl (0 : Int32)), none, none]) d_M_caughtBy_1 (Nat.le_of_ble_eq_true rfl) rfl rfl ?_
  refine PJ.iconst (pc := 2) (v := 0) d_M_caughtBy_2 (by decide) ?_
  refine PJ.istore_n (pc := 3) (L1 := [some (.inr (.inr a0)), some (.inl a1), some (.inl (0 : Int32)), some (.inl (0 : Int32)), none]) d_M_caughtBy_3 (Nat.le_of_ble_eq_true rfl) rfl rfl ?_
  refine PJ.bind (fun x2 : Int32 => ((41 : Nat), ([some (.inr (.inr a0)), none, some (.inl x2), none, none] : List (Option PV)), ([] : List PV), (h : PH), (0 : Nat), (0 : Nat))) (PJ.it (E := (fun s1 : Int32 × Int32 => ((4 : Nat), ([some (.inr (.inr a0)), some (.inl a1), some (.inl s1.1), some (.inl s1.2), none] : List (Option PV)), ([] : List PV), (h : PH), (0 : Nat), (0 : Nat)))) (F := (fun x2 : Int32 => ((41 : Nat), ([some (.inr (.inr a0)), none, some (.inl x2), none, none] : List (Option PV)), ([] : List PV), (h : PH), (0 : Nat), (0 : Nat)))) (fun s1 => ?_) FU ((0 : Int32), (0 : Int32))) (fun x2 => ?_)
  · show PJ l G (pj_rm 2 0 0) Y_M_caughtBy 4 [some (.inr (.inr a0)), some (.inl a1), some (.inl s1.1), some (.inl s1.2), none] [] h 0 0 _ _
    refine PJ.iload_n (pc := 4) d_M_caughtBy_4 rfl ?_
    refine PJ.aload_n (pc := 5) d_M_caughtBy_5 rfl ?_
    refine PJ.getR (pc := 6) fs_M_341 d_M_caughtBy_6 (fun v3 => ?_)
    refine PJ.getI (pc := 9) fs_M_318 d_M_caughtBy_9 (fun v4 => ?_)
    refine PJ.icmp_ge (pc := 12) (tgt := 41) d_M_caughtBy_12 (by decide) (fun _ => ?_) (fun _ => ?_)
    · refine PJ.mk (L1 := [some (.inr (.inr a0)), none, some (.inl s1.1), none, none]) [true, false, true, false, false] rfl ?_
      exact PJ.done rfl
    · refine PJ.iload_n (pc := 15) d_M_caughtBy_15 rfl ?_
      refine PJ.iload_n (pc := 16) d_M_caughtBy_16 rfl ?_
      refine PJ.cSpI (pc := 17) cs_M_330 (fun z hz => PM_M_bit hz) (pj_fitb rfl) rfl rfl (Nat.le_of_ble_eq_true rfl) d_M_caughtBy_17 (fun v5 => ?_)
      refine PJ.if_eq (pc := 20) (tgt := 35) d_M_caughtBy_20 (by decide) (fun _ => ?_) (fun _ => ?_)
      · refine PJ.iinc (pc := 35) (v := 1) (L1 := [some (.inr (.inr a0)), some (.inl a1), some (.inl s1.1), some (.inl (s1.2 + (1 : Int32))), none]) d_M_caughtBy_35 rfl (by decide) (Nat.le_of_ble_eq_true rfl) rfl rfl ?_
        refine PJ.goto (pc := 38) (tgt := 4) d_M_caughtBy_38 (by decide) ?_
        exact PJ.done rfl
      · refine PJ.iload_n (pc := 23) d_M_caughtBy_23 rfl ?_
        refine PJ.aload_n (pc := 24) d_M_caughtBy_24 rfl ?_
        refine PJ.getR (pc := 25) fs_M_341 d_M_caughtBy_25 (fun v6 => ?_)
        refine PJ.getR (pc := 28) fs_M_325 d_M_caughtBy_28 (fun v7 => ?_)
        refine PJ.iload_n (pc := 31) d_M_caughtBy_31 rfl ?_
        refine PJ.iald (pc := 32) d_M_caughtBy_32 (fun v8 => ?_)
        refine PJ.ior (pc := 33) d_M_caughtBy_33 ?_
        refine PJ.istore_n (pc := 34) (L1 := [some (.inr (.inr a0)), some (.inl a1), some (.inl (s1.1 ||| v8)), some (.inl s1.2), none]) d_M_caughtBy_34 (Nat.le_of_ble_eq_true rfl) rfl rfl ?_
        refine PJ.iinc (pc := 35) (v := 1) (L1 := [some (.inr (.inr a0)), some (.inl a1), some (.inl (s1.1 ||| v8)), some (.inl (s1.2 + (1 : Int32))), none]) d_M_caughtBy_35 rfl (by decide) (Nat.le_of_ble_eq_true rfl) rfl rfl ?_
        refine PJ.goto (pc := 38) (tgt := 4) d_M_caughtBy_38 (by decide) ?_
        exact PJ.done rfl
  · show PJ l G (pj_rm 2 0 0) Y_M_caughtBy 41 [some (.inr (.inr a0)), none, some (.inl x2), none, none] [] h 0 0 _ _
    refine PJ.iconst (pc := 41) (v := 0) d_M_caughtBy_41 (by decide) ?_
    refine PJ.istore_n (pc := 42) (L1 := [some (.inr (.inr a0)), none, some (.inl x2), some (.inl (0 : Int32)), none]) d_M_caughtBy_42 (Nat.le_of_ble_eq_true rfl) rfl rfl ?_
    refine PJ.iconst (pc := 43) (v := 0) d_M_caughtBy_43 (by decide) ?_
    refine PJ.istore (pc := 44) (L1 := [some (.inr (.inr a0)), none, some (.inl x2), some (.inl (0 : Int32)), some (.inl (0 : Int32))]) d_M_caughtBy_44 (Nat.le_of_ble_eq_true rfl) rfl rfl ?_
    refine PJ.bind (fun x10 : Int32 => ((90 : Nat), ([none, none, none, some (.inl x10), none] : List (Option PV)), ([] : List PV), (h : PH), (0 : Nat), (0 : Nat))) (PJ.it (E := (fun s9 : Int32 × Int32 => ((46 : Nat), ([some (.inr (.inr a0)), none, some (.inl x2), some (.inl s9.1), some (.inl s9.2)] : List (Option PV)), ([] : List PV), (h : PH), (0 : Nat), (0 : Nat)))) (F := (fun x10 : Int32 => ((90 : Nat), ([none, none, none, some (.inl x10), none] : List (Option PV)), ([] : List PV), (h : PH), (0 : Nat), (0 : Nat)))) (fun s9 => ?_) FU ((0 : Int32), (0 : Int32))) (fun x10 => ?_)
    · show PJ l G (pj_rm 2 0 0) Y_M_caughtBy 46 [some (.inr (.inr a0)), none, some (.inl x2), some (.inl s9.1), some (.inl s9.2)] [] h 0 0 _ _
      refine PJ.iload (pc := 46) d_M_caughtBy_46 rfl ?_
      refine PJ.aload_n (pc := 48) d_M_caughtBy_48 rfl ?_
      refine PJ.getR (pc := 49) fs_M_341 d_M_caughtBy_49 (fun v11 => ?_)
      refine PJ.getI (pc := 52) fs_M_318 d_M_caughtBy_52 (fun v12 => ?_)
      refine PJ.icmp_ge (pc := 55) (tgt := 90) d_M_caughtBy_55 (by decide) (fun _ => ?_) (fun _ => ?_)
      · refine PJ.mk (L1 := [none, none, none, some (.inl s9.1), none]) [false, false, false, true, false] rfl ?_
        exact PJ.done rfl
      · refine PJ.iload_n (pc := 58) d_M_caughtBy_58 rfl ?_
        refine PJ.iload_n (pc := 59) d_M_caughtBy_59 rfl ?_
        refine PJ.iload (pc := 60) d_M_caughtBy_60 rfl ?_
        refine PJ.cSpI (pc := 62) cs_M_330 (fun z hz => PM_M_bit hz) (pj_fitb rfl) rfl rfl (Nat.le_of_ble_eq_true rfl) d_M_caughtBy_62 (fun v13 => ?_)
        refine PJ.bind (fun j14 : Int32 => ((82 : Nat), ([some (.inr (.inr a0)), none, some (.inl x2), none, some (.inl s9.2)] : List (Option PV)), ([.inl j14, .inl s9.1] : List PV), (h : PH), (0 : Nat), (0 : Nat))) ?_ (fun j14 => ?_)
        · refine PJ.if_eq (pc := 65) (tgt := 81) d_M_caughtBy_65 (by decide) (fun _ => ?_) (fun _ => ?_)
          · refine PJ.iconst (pc := 81) (v := 0) d_M_caughtBy_81 (by decide) ?_
            refine PJ.mk (L1 := [some (.inr (.inr a0)), none, some (.inl x2), none, some (.inl s9.2)]) [true, false, true, false, true] rfl ?_
            exact PJ.done rfl
          · refine PJ.aload_n (pc := 68) d_M_caughtBy_68 rfl ?_
            refine PJ.getR (pc := 69) fs_M_341 d_M_caughtBy_69 (fun v15 => ?_)
            refine PJ.getR (pc := 72) fs_M_323 d_M_caughtBy_72 (fun v16 => ?_)
            refine PJ.iload (pc := 75) d_M_caughtBy_75 rfl ?_
            refine PJ.iald (pc := 77) d_M_caughtBy_77 (fun v17 => ?_)
            refine PJ.goto (pc := 78) (tgt := 82) d_M_caughtBy_78 (by decide) ?_
            refine PJ.mk (L1 := [some (.inr (.inr a0)), none, some (.inl x2), none, some (.inl s9.2)]) [true, false, true, false, true] rfl ?_
            exact PJ.done rfl
        · show PJ l G (pj_rm 2 0 0) Y_M_caughtBy 82 [some (.inr (.inr a0)), none, some (.inl x2), none, some (.inl s9.2)] [.inl j14, .inl s9.1] h 0 0 _ _
          refine PJ.iadd (pc := 82) d_M_caughtBy_82 ?_
          refine PJ.istore_n (pc := 83) (L1 := [some (.inr (.inr a0)), none, some (.inl x2), some (.inl (s9.1 + j14)), some (.inl s9.2)]) d_M_caughtBy_83 (Nat.le_of_ble_eq_true rfl) rfl rfl ?_
          refine PJ.iinc (pc := 84) (v := 1) (L1 := [some (.inr (.inr a0)), none, some (.inl x2), some (.inl (s9.1 + j14)), some (.inl (s9.2 + (1 : Int32)))]) d_M_caughtBy_84 rfl (by decide) (Nat.le_of_ble_eq_true rfl) rfl rfl ?_
          refine PJ.goto (pc := 87) (tgt := 46) d_M_caughtBy_87 (by decide) ?_
          exact PJ.done rfl
    · show PJ l G (pj_rm 2 0 0) Y_M_caughtBy 90 [none, none, none, some (.inl x10), none] [] h 0 0 _ _
      refine PJ.iload_n (pc := 90) d_M_caughtBy_90 rfl ?_
      exact PJ.iretp (pc := 91) d_M_caughtBy_91 rfl (Nat.le_of_ble_eq_true rfl) (Nat.le_of_ble_eq_true rfl)
theorem d_M_bestPlaces_0 : decode Y_M_bestPlaces.2.1 0 = .ok (.iconst 0, 1) := by decide +kernel
theorem d_M_bestPlaces_1 : decode Y_M_bestPlaces.2.1 1 = .ok (.istore_n 2, 1) := by decide +kernel
theorem d_M_bestPlaces_2 : decode Y_M_bestPlaces.2.1 2 = .ok (.iconst 1, 1) := by decide +kernel
theorem d_M_bestPlaces_3 : decode Y_M_bestPlaces.2.1 3 = .ok (.istore_n 3, 1) := by decide +kernel
theorem d_M_bestPlaces_4 : decode Y_M_bestPlaces.2.1 4 = .ok (.iload_n 3, 1) := by decide +kernel
theorem d_M_bestPlaces_5 : decode Y_M_bestPlaces.2.1 5 = .ok (.iconst 1, 1) := by decide +kernel
theorem d_M_bestPlaces_6 : decode Y_M_bestPlaces.2.1 6 = .ok (.aload_n 0, 1) := by decide +kernel
theorem d_M_bestPlaces_7 : decode Y_M_bestPlaces.2.1 7 = .ok (.getfield 341, 3) := by decide +kernel
theorem d_M_bestPlaces_10 : decode Y_M_bestPlaces.2.1 10 = .ok (.getfield 318, 3) := by decide +kernel
theorem d_M_bestPlaces_13 : decode Y_M_bestPlaces.2.1 13 = .ok (.ishl, 1) := by decide +kernel
theorem d_M_bestPlaces_14 : decode Y_M_bestPlaces.2.1 14 = .ok (.if_icmp .ge 59, 3) := by decide +kernel
theorem d_M_bestPlaces_17 : decode Y_M_bestPlaces.2.1 17 = .ok (.iload_n 3, 1) := by decide +kernel
theorem d_M_bestPlaces_18 : decode Y_M_bestPlaces.2.1 18 = .ok (.invokestatic 388, 3) := by decide +kernel
theorem d_M_bestPlaces_21 : decode Y_M_bestPlaces.2.1 21 = .ok (.iload_n 1, 1) := by decide +kernel
theorem d_M_bestPlaces_22 : decode Y_M_bestPlaces.2.1 22 = .ok (.if_icmp .gt 45, 3) := by decide +kernel
theorem d_M_bestPlaces_25 : decode Y_M_bestPlaces.2.1 25 = .ok (.aload_n 0, 1) := by decide +kernel
theorem d_M_bestPlaces_26 : decode Y_M_bestPlaces.2.1 26 = .ok (.iload_n 3, 1) := by decide +kernel
theorem d_M_bestPlaces_27 : decode Y_M_bestPlaces.2.1 27 = .ok (.invokevirtual 489, 3) := by decide +kernel
theorem d_M_bestPlaces_30 : decode Y_M_bestPlaces.2.1 30 = .ok (.aload_n 0, 1) := by decide +kernel
theorem d_M_bestPlaces_31 : decode Y_M_bestPlaces.2.1 31 = .ok (.iload_n 2, 1) := by decide +kernel
theorem d_M_bestPlaces_32 : decode Y_M_bestPlaces.2.1 32 = .ok (.invokevirtual 489, 3) := by decide +kernel
theorem d_M_bestPlaces_35 : decode Y_M_bestPlaces.2.1 35 = .ok (.if_icmp .ge 6, 3) := by decide +kernel
theorem d_M_bestPlaces_38 : decode Y_M_bestPlaces.2.1 38 = .ok (.goto 29, 3) := by decide +kernel
theorem d_M_bestPlaces_41 : decode Y_M_bestPlaces.2.1 41 = .ok (.aload_n 0, 1) := by decide +kernel
theorem d_M_bestPlaces_42 : decode Y_M_bestPlaces.2.1 42 = .ok (.iload_n 3, 1) := by decide +kernel
theorem d_M_bestPlaces_43 : decode Y_M_bestPlaces.2.1 43 = .ok (.invokevirtual 489, 3) := by decide +kernel
theorem d_M_bestPlaces_46 : decode Y_M_bestPlaces.2.1 46 = .ok (.aload_n 0, 1) := by decide +kernel
theorem d_M_bestPlaces_47 : decode Y_M_bestPlaces.2.1 47 = .ok (.iload_n 2, 1) := by decide +kernel
theorem d_M_bestPlaces_48 : decode Y_M_bestPlaces.2.1 48 = .ok (.invokevirtual 489, 3) := by decide +kernel
theorem d_M_bestPlaces_51 : decode Y_M_bestPlaces.2.1 51 = .ok (.if_icmp .gt 14, 3) := by decide +kernel
theorem d_M_bestPlaces_54 : decode Y_M_bestPlaces.2.1 54 = .ok (.iload_n 3, 1) := by decide +kernel
theorem d_M_bestPlaces_55 : decode Y_M_bestPlaces.2.1 55 = .ok (.invokestatic 388, 3) := by decide +kernel
theorem d_M_bestPlaces_58 : decode Y_M_bestPlaces.2.1 58 = .ok (.iload_n 2, 1) := by decide +kernel
theorem d_M_bestPlaces_59 : decode Y_M_bestPlaces.2.1 59 = .ok (.invokestatic 388, 3) := by decide +kernel
theorem d_M_bestPlaces_62 : decode Y_M_bestPlaces.2.1 62 = .ok (.if_icmp .ge 5, 3) := by decide +kernel
theorem d_M_bestPlaces_65 : decode Y_M_bestPlaces.2.1 65 = .ok (.iload_n 3, 1) := by decide +kernel
theorem d_M_bestPlaces_66 : decode Y_M_bestPlaces.2.1 66 = .ok (.istore_n 2, 1) := by decide +kernel
theorem d_M_bestPlaces_67 : decode Y_M_bestPlaces.2.1 67 = .ok (.iinc 3 1, 3) := by decide +kernel
theorem d_M_bestPlaces_70 : decode Y_M_bestPlaces.2.1 70 = .ok (.goto (-66), 3) := by decide +kernel
theorem d_M_bestPlaces_73 : decode Y_M_bestPlaces.2.1 73 = .ok (.iload_n 2, 1) := by decide +kernel
theorem d_M_bestPlaces_74 : decode Y_M_bestPlaces.2.1 74 = .ok (.ireturn, 1) := by decide +kernel
def f_M_bestPlaces (h : PH) (a0 : Option Nat) (a1 : Int32) : Option Int32 := (pj_it (X := Int32) (fun s1 : Int32 × Int32 => (gR h 12 a0 3).bind fun v3 => (gI h 11 v3 7).bind fun v4 => if ((1 : Int32) <<< (v4 &&& 31)) ≤ s1.2 then (some (.inr s1.1)) else ((f_M_bits h s1.2).bind fun v5 => if a1 < v5 then (some (.inl (s1.1, (s1.2 + (1 : Int32))))) else ((cl h 12 a0 (f_M_caughtBy h a0 s1.2)).bind fun v6 => (cl h 12 a0 (f_M_caughtBy h a0 s1.1)).bind fun v7 => if v7 ≤ v6 then ((cl h 12 a0 (f_M_caughtBy h a0 s1.2)).bind fun v8 => (cl h 12 a0 (f_M_caughtBy h a0 s1.1)).bind fun v9 => if v9 < v8 then (some (.inl (s1.2, (s1.2 + (1 : Int32))))) else ((f_M_bits h s1.2).bind fun v10 => (f_M_bits h s1.1).bind fun v11 => if v11 ≤ v10 then (some (.inl (s1.1, (s1.2 + (1 : Int32))))) else (some (.inl (s1.2, (s1.2 + (1 : Int32))))))) else (some (.inl (s1.1, (s1.2 + (1 : Int32)))))))) FU ((0 : Int32), (1 : Int32))).bind fun x2 => some x2
set_option maxRecDepth 20000 in
theorem PM_M_bestPlaces {l : Launch} {G : Cx} {h : PH} {a0 : Option Nat} {a1 : Int32} {z : Int32} (hz : f_M_bestPlaces h a0 a1 = some z) : PM l G 3 0 0 Y_M_bestPlaces [.inr (.inr a0), .inl a1] h (some (.inl z), h) := by
  refine PM.of (Y := Y_M_bestPlaces) (cv := (fun z : Int32 => (((some (.inl z), h) : Option PV × PH)))) (by decide) (L0 := [some (.inr (.inr a0)), some (.inl a1), none, none]) 2 rfl (Nat.le_of_ble_eq_true rfl) ?_ hz
  unfold f_M_bestPlaces
  refine PJ.iconst (pc := 0) (v := 0) d_M_bestPlaces_0 (by decide) ?_
  refine PJ.istore_n (pc := 1) (L1 := [some (.inr (.inr a0)), some (.inl a1), some (.inl (0 : Int32)), none]) d_M_bestPlaces_1 (Nat.le_of_ble_eq_true rfl) rfl rfl ?_
  refine PJ.iconst (pc := 2) (v := 1) d_M_bestPlaces_2 (by decide) ?_
  refine PJ.istore_n (pc := 3) (L1 := [some (.inr (.inr a0)), some (.inl a1), some (.inl (0 : Int32)), some (.inl (1 : Int32))]) d_M_bestPlaces_3 (Nat.le_of_ble_eq_true rfl) rfl rfl ?_
  refine PJ.bind (fun x2 : Int32 => ((73 : Nat), ([none, none, some (.inl x2), none] : List (Option PV)), ([] : List PV), (h : PH), (0 : Nat), (0 : Nat))) (PJ.it (E := (fun s1 : Int32 × Int32 => ((4 : Nat), ([some (.inr (.inr a0)), some (.inl a1), some (.inl s1.1), some (.inl s1.2)] : List (Option PV)), ([] : List PV), (h : PH), (0 : Nat), (0 : Nat)))) (F := (fun x2 : Int32 => ((73 : Nat), ([none, none, some (.inl x2), none] : List (Option PV)), ([] : List PV), (h : PH), (0 : Nat), (0 : Nat)))) (fun s1 => ?_) FU ((0 : Int32), (1 : Int32))) (fun x2 => ?_)
  · show PJ l G (pj_rm 3 0 0) Y_M_bestPlaces 4 [some (.inr (.inr a0)), some (.inl a1), some (.inl s1.1), some (.inl s1.2)] [] h 0 0 _ _
    refine PJ.iload_n (pc := 4) d_M_bestPlaces_4 rfl ?_
    refine PJ.iconst (pc := 5) (v := 1) d_M_bestPlaces_5 (by decide) ?_
    refine PJ.aload_n (pc := 6) d_M_bestPlaces_6 rfl ?_
    refine PJ.getR (pc := 7) fs_M_341 d_M_bestPlaces_7 (fun v3 => ?_)
    refine PJ.getI (pc := 10) fs_M_318 d_M_bestPlaces_10 (fun v4 => ?_)
    refine PJ.ishl (pc := 13) d_M_bestPlaces_13 ?_
    refine PJ.icmp_ge (pc := 14) (tgt := 73) d_M_bestPlaces_14 (by decide) (fun _ => ?_) (fun _ => ?_)
    · refine PJ.mk (L1 := [none, none, some (.inl s1.1), none]) [false, false, true, false] rfl ?_
      exact PJ.done rfl
    · refine PJ.iload_n (pc := 17) d_M_bestPlaces_17 rfl ?_
      refine PJ.cSpI (pc := 18) cs_M_388 (fun z hz => PM_M_bits hz) (pj_fitb rfl) rfl rfl (Nat.le_of_ble_eq_true rfl) d_M_bestPlaces_18 (fun v5 => ?_)
      refine PJ.iload_n (pc := 21) d_M_bestPlaces_21 rfl ?_
      refine PJ.icmp_gt (pc := 22) (tgt := 67) d_M_bestPlaces_22 (by decide) (fun _ => ?_) (fun _ => ?_)
      · refine PJ.iinc (pc := 67) (v := 1) (L1 := [some (.inr (.inr a0)), some (.inl a1), some (.inl s1.1), some (.inl (s1.2 + (1 : Int32)))]) d_M_bestPlaces_67 rfl (by decide) (Nat.le_of_ble_eq_true rfl) rfl rfl ?_
        refine PJ.goto (pc := 70) (tgt := 4) d_M_bestPlaces_70 (by decide) ?_
        exact PJ.done rfl
      · refine PJ.aload_n (pc := 25) d_M_bestPlaces_25 rfl ?_
        refine PJ.iload_n (pc := 26) d_M_bestPlaces_26 rfl ?_
        refine PJ.cVpI (pc := 27) cs_M_489 (fun z hz => PM_M_caughtBy hz) (pj_fitb rfl) rfl rfl (Nat.le_of_ble_eq_true rfl) d_M_bestPlaces_27 (fun v6 => ?_)
        refine PJ.aload_n (pc := 30) d_M_bestPlaces_30 rfl ?_
        refine PJ.iload_n (pc := 31) d_M_bestPlaces_31 rfl ?_
        refine PJ.cVpI (pc := 32) cs_M_489 (fun z hz => PM_M_caughtBy hz) (pj_fitb rfl) rfl rfl (Nat.le_of_ble_eq_true rfl) d_M_bestPlaces_32 (fun v7 => ?_)
        refine PJ.icmp_ge (pc := 35) (tgt := 41) d_M_bestPlaces_35 (by decide) (fun _ => ?_) (fun _ => ?_)
        · refine PJ.aload_n (pc := 41) d_M_bestPlaces_41 rfl ?_
          refine PJ.iload_n (pc := 42) d_M_bestPlaces_42 rfl ?_
          refine PJ.cVpI (pc := 43) cs_M_489 (fun z hz => PM_M_caughtBy hz) (pj_fitb rfl) rfl rfl (Nat.le_of_ble_eq_true rfl) d_M_bestPlaces_43 (fun v8 => ?_)
          refine PJ.aload_n (pc := 46) d_M_bestPlaces_46 rfl ?_
          refine PJ.iload_n (pc := 47) d_M_bestPlaces_47 rfl ?_
          refine PJ.cVpI (pc := 48) cs_M_489 (fun z hz => PM_M_caughtBy hz) (pj_fitb rfl) rfl rfl (Nat.le_of_ble_eq_true rfl) d_M_bestPlaces_48 (fun v9 => ?_)
          refine PJ.icmp_gt (pc := 51) (tgt := 65) d_M_bestPlaces_51 (by decide) (fun _ => ?_) (fun _ => ?_)
          · refine PJ.iload_n (pc := 65) d_M_bestPlaces_65 rfl ?_
            refine PJ.istore_n (pc := 66) (L1 := [some (.inr (.inr a0)), some (.inl a1), some (.inl s1.2), some (.inl s1.2)]) d_M_bestPlaces_66 (Nat.le_of_ble_eq_true rfl) rfl rfl ?_
            refine PJ.iinc (pc := 67) (v := 1) (L1 := [some (.inr (.inr a0)), some (.inl a1), some (.inl s1.2), some (.inl (s1.2 + (1 : Int32)))]) d_M_bestPlaces_67 rfl (by decide) (Nat.le_of_ble_eq_true rfl) rfl rfl ?_
            refine PJ.goto (pc := 70) (tgt := 4) d_M_bestPlaces_70 (by decide) ?_
            exact PJ.done rfl
          · refine PJ.iload_n (pc := 54) d_M_bestPlaces_54 rfl ?_
            refine PJ.cSpI (pc := 55) cs_M_388 (fun z hz => PM_M_bits hz) (pj_fitb rfl) rfl rfl (Nat.le_of_ble_eq_true rfl) d_M_bestPlaces_55 (fun v10 => ?_)
            refine PJ.iload_n (pc := 58) d_M_bestPlaces_58 rfl ?_
            refine PJ.cSpI (pc := 59) cs_M_388 (fun z hz => PM_M_bits hz) (pj_fitb rfl) rfl rfl (Nat.le_of_ble_eq_true rfl) d_M_bestPlaces_59 (fun v11 => ?_)
            refine PJ.icmp_ge (pc := 62) (tgt := 67) d_M_bestPlaces_62 (by decide) (fun _ => ?_) (fun _ => ?_)
            · refine PJ.iinc (pc := 67) (v := 1) (L1 := [some (.inr (.inr a0)), some (.inl a1), some (.inl s1.1), some (.inl (s1.2 + (1 : Int32)))]) d_M_bestPlaces_67 rfl (by decide) (Nat.le_of_ble_eq_true rfl) rfl rfl ?_
              refine PJ.goto (pc := 70) (tgt := 4) d_M_bestPlaces_70 (by decide) ?_
              exact PJ.done rfl
            · refine PJ.iload_n (pc := 65) d_M_bestPlaces_65 rfl ?_
              refine PJ.istore_n (pc := 66) (L1 := [some (.inr (.inr a0)), some (.inl a1), some (.inl s1.2), some (.inl s1.2)]) d_M_bestPlaces_66 (Nat.le_of_ble_eq_true rfl) rfl rfl ?_
              refine PJ.iinc (pc := 67) (v := 1) (L1 := [some (.inr (.inr a0)), some (.inl a1), some (.inl s1.2), some (.inl (s1.2 + (1 : Int32)))]) d_M_bestPlaces_67 rfl (by decide) (Nat.le_of_ble_eq_true rfl) rfl rfl ?_
              refine PJ.goto (pc := 70) (tgt := 4) d_M_bestPlaces_70 (by decide) ?_
              exact PJ.done rfl
        · refine PJ.goto (pc := 38) (tgt := 67) d_M_bestPlaces_38 (by decide) ?_
          refine PJ.iinc (pc := 67) (v := 1) (L1 := [some (.inr (.inr a0)), some (.inl a1), some (.inl s1.1), some (.inl (s1.2 + (1 : Int32)))]) d_M_bestPlaces_67 rfl (by decide) (Nat.le_of_ble_eq_true rfl) rfl rfl ?_
          refine PJ.goto (pc := 70) (tgt := 4) d_M_bestPlaces_70 (by decide) ?_
          exact PJ.done rfl
  · show PJ l G (pj_rm 3 0 0) Y_M_bestPlaces 73 [none, none, some (.inl x2), none] [] h 0 0 _ _
    refine PJ.iload_n (pc := 73) d_M_bestPlaces_73 rfl ?_
    exact PJ.iretp (pc := 74) d_M_bestPlaces_74 rfl (Nat.le_of_ble_eq_true rfl) (Nat.le_of_ble_eq_true rfl)
theorem d_M_caught_0 : decode Y_M_caught.2.1 0 = .ok (.aload_n 0, 1) := by decide +kernel
theorem d_M_caught_1 : decode Y_M_caught.2.1 1 = .ok (.iconst 0, 1) := by decide +kernel
theorem d_M_caught_2 : decode Y_M_caught.2.1 2 = .ok (.putfield 46, 3) := by decide +kernel
theorem d_M_caught_5 : decode Y_M_caught.2.1 5 = .ok (.aload_n 0, 1) := by decide +kernel
theorem d_M_caught_6 : decode Y_M_caught.2.1 6 = .ok (.iload_n 1, 1) := by decide +kernel
theorem d_M_caught_7 : decode Y_M_caught.2.1 7 = .ok (.invokevirtual 492, 3) := by decide +kernel
theorem d_M_caught_10 : decode Y_M_caught.2.1 10 = .ok (.istore_n 2, 1) := by decide +kernel
theorem d_M_caught_11 : decode Y_M_caught.2.1 11 = .ok (.iload_n 2, 1) := by decide +kernel
theorem d_M_caught_12 : decode Y_M_caught.2.1 12 = .ok (.ifCond .le 11, 3) := by decide +kernel
theorem d_M_caught_15 : decode Y_M_caught.2.1 15 = .ok (.aload_n 0, 1) := by decide +kernel
theorem d_M_caught_16 : decode Y_M_caught.2.1 16 = .ok (.iload_n 2, 1) := by decide +kernel
theorem d_M_caught_17 : decode Y_M_caught.2.1 17 = .ok (.invokevirtual 52, 3) := by decide +kernel
theorem d_M_caught_20 : decode Y_M_caught.2.1 20 = .ok (.goto 16, 3) := by decide +kernel
theorem d_M_caught_23 : decode Y_M_caught.2.1 23 = .ok (.aload_n 0, 1) := by decide +kernel
theorem d_M_caught_24 : decode Y_M_caught.2.1 24 = .ok (.aload_n 0, 1) := by decide +kernel
theorem d_M_caught_25 : decode Y_M_caught.2.1 25 = .ok (.aload_n 0, 1) := by decide +kernel
theorem d_M_caught_26 : decode Y_M_caught.2.1 26 = .ok (.iload_n 1, 1) := by decide +kernel
theorem d_M_caught_27 : decode Y_M_caught.2.1 27 = .ok (.invokevirtual 495, 3) := by decide +kernel
theorem d_M_caught_30 : decode Y_M_caught.2.1 30 = .ok (.invokevirtual 489, 3) := by decide +kernel
theorem d_M_caught_33 : decode Y_M_caught.2.1 33 = .ok (.invokevirtual 58, 3) := by decide +kernel
theorem d_M_caught_36 : decode Y_M_caught.2.1 36 = .ok (.ireturn, 1) := by decide +kernel
def f_M_caught (h : PH) (a0 : Option Nat) (a1 : Int32) : Option (Int32 × PH) := (sF h 12 a0 0 (.inl (0 : Int32))).bind fun h1 => (cl h1 12 a0 (f_M_refusesInspectors h1 a0 a1)).bind fun v2 => if v2 ≤ 0 then ((cl h1 12 a0 (f_M_bestPlaces h1 a0 a1)).bind fun v3 => (cl h1 12 a0 (f_M_caughtBy h1 a0 v3)).bind fun v4 => (cl h1 12 a0 (f_M_good h1 a0 v4)).bind fun v5 => some (v5.1, v5.2)) else ((cl h1 12 a0 (f_M_refused h1 a0 v2)).bind fun v6 => some (v6.1, v6.2))
set_option maxRecDepth 20000 in
theorem PM_M_caught {l : Launch} {G : Cx} {h : PH} {a0 : Option Nat} {a1 : Int32} {z : (Int32 × PH)} (hz : f_M_caught h a0 a1 = some z) : PM l G 4 0 0 Y_M_caught [.inr (.inr a0), .inl a1] h (some (.inl z.1), z.2) := by
  refine PM.of (Y := Y_M_caught) (cv := (fun z : (Int32 × PH) => (((some (.inl z.1), z.2) : Option PV × PH)))) (by decide) (L0 := [some (.inr (.inr a0)), some (.inl a1), none]) 1 rfl (Nat.le_of_ble_eq_true rfl) ?_ hz
  unfold f_M_caught
  refine PJ.aload_n (pc := 0) d_M_caught_0 rfl ?_
  refine PJ.iconst (pc := 1) (v := 0) d_M_caught_1 (by decide) ?_
  refine PJ.putI (pc := 2) ps_M_46 d_M_caught_2 (fun h1 => ?_)
  refine PJ.aload_n (pc := 5) d_M_caught_5 rfl ?_
  refine PJ.iload_n (pc := 6) d_M_caught_6 rfl ?_
  refine PJ.cVpI (pc := 7) cs_M_492 (fun z hz => PM_M_refusesInspectors hz) (pj_fitb rfl) rfl rfl (Nat.le_of_ble_eq_true rfl) d_M_caught_7 (fun v2 => ?_)
  refine PJ.istore_n (pc := 10) (L1 := [some (.inr (.inr a0)), some (.inl a1), some (.inl v2)]) d_M_caught_10 (Nat.le_of_ble_eq_true rfl) rfl rfl ?_
  refine PJ.iload_n (pc := 11) d_M_caught_11 rfl ?_
  refine PJ.if_le (pc := 12) (tgt := 23) d_M_caught_12 (by decide) (fun _ => ?_) (fun _ => ?_)
  · refine PJ.aload_n (pc := 23) d_M_caught_23 rfl ?_
    refine PJ.aload_n (pc := 24) d_M_caught_24 rfl ?_
    refine PJ.aload_n (pc := 25) d_M_caught_25 rfl ?_
    refine PJ.iload_n (pc := 26) d_M_caught_26 rfl ?_
    refine PJ.cVpI (pc := 27) cs_M_495 (fun z hz => PM_M_bestPlaces hz) (pj_fitb rfl) rfl rfl (Nat.le_of_ble_eq_true rfl) d_M_caught_27 (fun v3 => ?_)
    refine PJ.cVpI (pc := 30) cs_M_489 (fun z hz => PM_M_caughtBy hz) (pj_fitb rfl) rfl rfl (Nat.le_of_ble_eq_true rfl) d_M_caught_30 (fun v4 => ?_)
    refine PJ.cVI (pc := 33) cs_M_58 (fun z hz => PM_M_good hz) (pj_fitb rfl) rfl rfl (Nat.le_of_ble_eq_true rfl) d_M_caught_33 (fun v5 => ?_)
    exact PJ.iret (pc := 36) d_M_caught_36 rfl (Nat.le_of_ble_eq_true rfl) (Nat.le_of_ble_eq_true rfl)
  · refine PJ.aload_n (pc := 15) d_M_caught_15 rfl ?_
    refine PJ.iload_n (pc := 16) d_M_caught_16 rfl ?_
    refine PJ.cVI (pc := 17) cs_M_52 (fun z hz => PM_M_refused hz) (pj_fitb rfl) rfl rfl (Nat.le_of_ble_eq_true rfl) d_M_caught_17 (fun v6 => ?_)
    refine PJ.goto (pc := 20) (tgt := 36) d_M_caught_20 (by decide) ?_
    exact PJ.iret (pc := 36) d_M_caught_36 rfl (Nat.le_of_ble_eq_true rfl) (Nat.le_of_ble_eq_true rfl)
theorem d_M_places_0 : decode Y_M_places.2.1 0 = .ok (.aload_n 0, 1) := by decide +kernel
theorem d_M_places_1 : decode Y_M_places.2.1 1 = .ok (.iconst 0, 1) := by decide +kernel
theorem d_M_places_2 : decode Y_M_places.2.1 2 = .ok (.putfield 46, 3) := by decide +kernel
theorem d_M_places_5 : decode Y_M_places.2.1 5 = .ok (.aload_n 0, 1) := by decide +kernel
theorem d_M_places_6 : decode Y_M_places.2.1 6 = .ok (.iload_n 1, 1) := by decide +kernel
theorem d_M_places_7 : decode Y_M_places.2.1 7 = .ok (.invokevirtual 492, 3) := by decide +kernel
theorem d_M_places_10 : decode Y_M_places.2.1 10 = .ok (.istore_n 2, 1) := by decide +kernel
theorem d_M_places_11 : decode Y_M_places.2.1 11 = .ok (.iload_n 2, 1) := by decide +kernel
theorem d_M_places_12 : decode Y_M_places.2.1 12 = .ok (.ifCond .le 11, 3) := by decide +kernel
theorem d_M_places_15 : decode Y_M_places.2.1 15 = .ok (.aload_n 0, 1) := by decide +kernel
theorem d_M_places_16 : decode Y_M_places.2.1 16 = .ok (.iload_n 2, 1) := by decide +kernel
theorem d_M_places_17 : decode Y_M_places.2.1 17 = .ok (.invokevirtual 52, 3) := by decide +kernel
theorem d_M_places_20 : decode Y_M_places.2.1 20 = .ok (.goto 12, 3) := by decide +kernel
theorem d_M_places_23 : decode Y_M_places.2.1 23 = .ok (.aload_n 0, 1) := by decide +kernel
theorem d_M_places_24 : decode Y_M_places.2.1 24 = .ok (.aload_n 0, 1) := by decide +kernel
theorem d_M_places_25 : decode Y_M_places.2.1 25 = .ok (.iload_n 1, 1) := by decide +kernel
theorem d_M_places_26 : decode Y_M_places.2.1 26 = .ok (.invokevirtual 495, 3) := by decide +kernel
theorem d_M_places_29 : decode Y_M_places.2.1 29 = .ok (.invokevirtual 58, 3) := by decide +kernel
theorem d_M_places_32 : decode Y_M_places.2.1 32 = .ok (.ireturn, 1) := by decide +kernel
def f_M_places (h : PH) (a0 : Option Nat) (a1 : Int32) : Option (Int32 × PH) := (sF h 12 a0 0 (.inl (0 : Int32))).bind fun h1 => (cl h1 12 a0 (f_M_refusesInspectors h1 a0 a1)).bind fun v2 => if v2 ≤ 0 then ((cl h1 12 a0 (f_M_bestPlaces h1 a0 a1)).bind fun v3 => (cl h1 12 a0 (f_M_good h1 a0 v3)).bind fun v4 => some (v4.1, v4.2)) else ((cl h1 12 a0 (f_M_refused h1 a0 v2)).bind fun v5 => some (v5.1, v5.2))
set_option maxRecDepth 20000 in
theorem PM_M_places {l : Launch} {G : Cx} {h : PH} {a0 : Option Nat} {a1 : Int32} {z : (Int32 × PH)} (hz : f_M_places h a0 a1 = some z) : PM l G 4 0 0 Y_M_places [.inr (.inr a0), .inl a1] h (some (.inl z.1), z.2) := by
  refine PM.of (Y := Y_M_places) (cv := (fun z : (Int32 × PH) => (((some (.inl z.1), z.2) : Option PV × PH)))) (by decide) (L0 := [some (.inr (.inr a0)), some (.inl a1), none]) 1 rfl (Nat.le_of_ble_eq_true rfl) ?_ hz
  unfold f_M_places
  refine PJ.aload_n (pc := 0) d_M_places_0 rfl ?_
  refine PJ.iconst (pc := 1) (v := 0) d_M_places_1 (by decide) ?_
  refine PJ.putI (pc := 2) ps_M_46 d_M_places_2 (fun h1 => ?_)
  refine PJ.aload_n (pc := 5) d_M_places_5 rfl ?_
  refine PJ.iload_n (pc := 6) d_M_places_6 rfl ?_
  refine PJ.cVpI (pc := 7) cs_M_492 (fun z hz => PM_M_refusesInspectors hz) (pj_fitb rfl) rfl rfl (Nat.le_of_ble_eq_true rfl) d_M_places_7 (fun v2 => ?_)
  refine PJ.istore_n (pc := 10) (L1 := [some (.inr (.inr a0)), some (.inl a1), some (.inl v2)]) d_M_places_10 (Nat.le_of_ble_eq_true rfl) rfl rfl ?_
  refine PJ.iload_n (pc := 11) d_M_places_11 rfl ?_
  refine PJ.if_le (pc := 12) (tgt := 23) d_M_places_12 (by decide) (fun _ => ?_) (fun _ => ?_)
  · refine PJ.aload_n (pc := 23) d_M_places_23 rfl ?_
    refine PJ.aload_n (pc := 24) d_M_places_24 rfl ?_
    refine PJ.iload_n (pc := 25) d_M_places_25 rfl ?_
    refine PJ.cVpI (pc := 26) cs_M_495 (fun z hz => PM_M_bestPlaces hz) (pj_fitb rfl) rfl rfl (Nat.le_of_ble_eq_true rfl) d_M_places_26 (fun v3 => ?_)
    refine PJ.cVI (pc := 29) cs_M_58 (fun z hz => PM_M_good hz) (pj_fitb rfl) rfl rfl (Nat.le_of_ble_eq_true rfl) d_M_places_29 (fun v4 => ?_)
    exact PJ.iret (pc := 32) d_M_places_32 rfl (Nat.le_of_ble_eq_true rfl) (Nat.le_of_ble_eq_true rfl)
  · refine PJ.aload_n (pc := 15) d_M_places_15 rfl ?_
    refine PJ.iload_n (pc := 16) d_M_places_16 rfl ?_
    refine PJ.cVI (pc := 17) cs_M_52 (fun z hz => PM_M_refused hz) (pj_fitb rfl) rfl rfl (Nat.le_of_ble_eq_true rfl) d_M_places_17 (fun v5 => ?_)
    refine PJ.goto (pc := 20) (tgt := 32) d_M_places_20 (by decide) ?_
    exact PJ.iret (pc := 32) d_M_places_32 rfl (Nat.le_of_ble_eq_true rfl) (Nat.le_of_ble_eq_true rfl)
theorem d_M_enough_0 : decode Y_M_enough.2.1 0 = .ok (.aload_n 0, 1) := by decide +kernel
theorem d_M_enough_1 : decode Y_M_enough.2.1 1 = .ok (.iconst 0, 1) := by decide +kernel
theorem d_M_enough_2 : decode Y_M_enough.2.1 2 = .ok (.putfield 46, 3) := by decide +kernel
theorem d_M_enough_5 : decode Y_M_enough.2.1 5 = .ok (.aload_n 0, 1) := by decide +kernel
theorem d_M_enough_6 : decode Y_M_enough.2.1 6 = .ok (.getfield 341, 3) := by decide +kernel
theorem d_M_enough_9 : decode Y_M_enough.2.1 9 = .ok (.ifnonnull 9, 3) := by decide +kernel
theorem d_M_enough_12 : decode Y_M_enough.2.1 12 = .ok (.aload_n 0, 1) := by decide +kernel
theorem d_M_enough_13 : decode Y_M_enough.2.1 13 = .ok (.iconst 1, 1) := by decide +kernel
theorem d_M_enough_14 : decode Y_M_enough.2.1 14 = .ok (.invokevirtual 52, 3) := by decide +kernel
theorem d_M_enough_17 : decode Y_M_enough.2.1 17 = .ok (.ireturn, 1) := by decide +kernel
theorem d_M_enough_18 : decode Y_M_enough.2.1 18 = .ok (.iconst 0, 1) := by decide +kernel
theorem d_M_enough_19 : decode Y_M_enough.2.1 19 = .ok (.istore_n 1, 1) := by decide +kernel
theorem d_M_enough_20 : decode Y_M_enough.2.1 20 = .ok (.aload_n 0, 1) := by decide +kernel
theorem d_M_enough_21 : decode Y_M_enough.2.1 21 = .ok (.aload_n 0, 1) := by decide +kernel
theorem d_M_enough_22 : decode Y_M_enough.2.1 22 = .ok (.iload_n 1, 1) := by decide +kernel
theorem d_M_enough_23 : decode Y_M_enough.2.1 23 = .ok (.invokevirtual 495, 3) := by decide +kernel
theorem d_M_enough_26 : decode Y_M_enough.2.1 26 = .ok (.invokevirtual 489, 3) := by decide +kernel
theorem d_M_enough_29 : decode Y_M_enough.2.1 29 = .ok (.aload_n 0, 1) := by decide +kernel
theorem d_M_enough_30 : decode Y_M_enough.2.1 30 = .ok (.iconst 1, 1) := by decide +kernel
theorem d_M_enough_31 : decode Y_M_enough.2.1 31 = .ok (.aload_n 0, 1) := by decide +kernel
theorem d_M_enough_32 : decode Y_M_enough.2.1 32 = .ok (.getfield 341, 3) := by decide +kernel
theorem d_M_enough_35 : decode Y_M_enough.2.1 35 = .ok (.getfield 318, 3) := by decide +kernel
theorem d_M_enough_38 : decode Y_M_enough.2.1 38 = .ok (.ishl, 1) := by decide +kernel
theorem d_M_enough_39 : decode Y_M_enough.2.1 39 = .ok (.iconst 1, 1) := by decide +kernel
theorem d_M_enough_40 : decode Y_M_enough.2.1 40 = .ok (.isub, 1) := by decide +kernel
theorem d_M_enough_41 : decode Y_M_enough.2.1 41 = .ok (.invokevirtual 489, 3) := by decide +kernel
theorem d_M_enough_44 : decode Y_M_enough.2.1 44 = .ok (.if_icmp .ge 9, 3) := by decide +kernel
theorem d_M_enough_47 : decode Y_M_enough.2.1 47 = .ok (.iinc 1 1, 3) := by decide +kernel
theorem d_M_enough_50 : decode Y_M_enough.2.1 50 = .ok (.goto (-30), 3) := by decide +kernel
theorem d_M_enough_53 : decode Y_M_enough.2.1 53 = .ok (.aload_n 0, 1) := by decide +kernel
theorem d_M_enough_54 : decode Y_M_enough.2.1 54 = .ok (.iload_n 1, 1) := by decide +kernel
theorem d_M_enough_55 : decode Y_M_enough.2.1 55 = .ok (.invokevirtual 58, 3) := by decide +kernel
theorem d_M_enough_58 : decode Y_M_enough.2.1 58 = .ok (.ireturn, 1) := by decide +kernel
def f_M_enough (h : PH) (a0 : Option Nat) : Option (Int32 × PH) := (sF h 12 a0 0 (.inl (0 : Int32))).bind fun h1 => (gR h1 12 a0 3).bind fun v2 => if v2 = none then ((cl h1 12 a0 (f_M_refused h1 a0 (1 : Int32))).bind fun v11 => some (v11.1, v11.2)) else ((pj_it (X := Int32) (fun s3 : Int32 => (cl h1 12 a0 (f_M_bestPlaces h1 a0 s3)).bind fun v5 => (cl h1 12 a0 (f_M_caughtBy h1 a0 v5)).bind fun v6 => (gR h1 12 a0 3).bind fun v7 => (gI h1 11 v7 7).bind fun v8 => (cl h1 12 a0 (f_M_caughtBy h1 a0 (((1 : Int32) <<< (v8 &&& 31)) - (1 : Int32)))).bind fun v9 => if v9 ≤ v6 then (some (.inr s3)) else (some (.inl (s3 + (1 : Int32))))) FU (0 : Int32)).bind fun x4 => (cl h1 12 a0 (f_M_good h1 a0 x4)).bind fun v10 => some (v10.1, v10.2))
set_option maxRecDepth 20000 in
theorem PM_M_enough {l : Launch} {G : Cx} {h : PH} {a0 : Option Nat} {z : (Int32 × PH)} (hz : f_M_enough h a0 = some z) : PM l G 4 0 0 Y_M_enough [.inr (.inr a0)] h (some (.inl z.1), z.2) := by
  refine PM.of (Y := Y_M_enough) (cv := (fun z : (Int32 × PH) => (((some (.inl z.1), z.2) : Option PV × PH)))) (by decide) (L0 := [some (.inr (.inr a0)), none]) 1 rfl (Nat.le_of_ble_eq_true rfl) ?_ hz
  unfold f_M_enough
  refine PJ.aload_n (pc := 0) d_M_enough_0 rfl ?_
  refine PJ.iconst (pc := 1) (v := 0) d_M_enough_1 (by decide) ?_
  refine PJ.putI (pc := 2) ps_M_46 d_M_enough_2 (fun h1 => ?_)
  refine PJ.aload_n (pc := 5) d_M_enough_5 rfl ?_
  refine PJ.getR (pc := 6) fs_M_341 d_M_enough_6 (fun v2 => ?_)
  refine PJ.ifnonnull (pc := 9) (tgt := 18) d_M_enough_9 (by decide) (fun _ => ?_) (fun _ => ?_)
  · refine PJ.iconst (pc := 18) (v := 0) d_M_enough_18 (by decide) ?_
    refine PJ.istore_n (pc := 19) (L1 := [some (.inr (.inr a0)), some (.inl (0 : Int32))]) d_M_enough_19 (Nat.le_of_ble_eq_true rfl) rfl rfl ?_
    refine PJ.bind (fun x4 : Int32 => ((53 : Nat), ([some (.inr (.inr a0)), some (.inl x4)] : List (Option PV)), ([] : List PV), (h1 : PH), (0 : Nat), (0 : Nat))) (PJ.it (E := (fun s3 : Int32 => ((20 : Nat), ([some (.inr (.inr a0)), some (.inl s3)] : List (Option PV)), ([] : List PV), (h1 : PH), (0 : Nat), (0 : Nat)))) (F := (fun x4 : Int32 => ((53 : Nat), ([some (.inr (.inr a0)), some (.inl x4)] : List (Option PV)), ([] : List PV), (h1 : PH), (0 : Nat), (0 : Nat)))) (fun s3 => ?_) FU (0 : Int32)) (fun x4 => ?_)
    · show PJ l G (pj_rm 4 0 0) Y_M_enough 20 [some (.inr (.inr a0)), some (.inl s3)] [] h1 0 0 _ _
      refine PJ.aload_n (pc := 20) d_M_enough_20 rfl ?_
      refine PJ.aload_n (pc := 21) d_M_enough_21 rfl ?_
      refine PJ.iload_n (pc := 22) d_M_enough_22 rfl ?_
      refine PJ.cVpI (pc := 23) cs_M_495 (fun z hz => PM_M_bestPlaces hz) (pj_fitb rfl) rfl rfl (Nat.le_of_ble_eq_true rfl) d_M_enough_23 (fun v5 => ?_)
      refine PJ.cVpI (pc := 26) cs_M_489 (fun z hz => PM_M_caughtBy hz) (pj_fitb rfl) rfl rfl (Nat.le_of_ble_eq_true rfl) d_M_enough_26 (fun v6 => ?_)
      refine PJ.aload_n (pc := 29) d_M_enough_29 rfl ?_
      refine PJ.iconst (pc := 30) (v := 1) d_M_enough_30 (by decide) ?_
      refine PJ.aload_n (pc := 31) d_M_enough_31 rfl ?_
      refine PJ.getR (pc := 32) fs_M_341 d_M_enough_32 (fun v7 => ?_)
      refine PJ.getI (pc := 35) fs_M_318 d_M_enough_35 (fun v8 => ?_)
      refine PJ.ishl (pc := 38) d_M_enough_38 ?_
      refine PJ.iconst (pc := 39) (v := 1) d_M_enough_39 (by decide) ?_
      refine PJ.isub (pc := 40) d_M_enough_40 ?_
      refine PJ.cVpI (pc := 41) cs_M_489 (fun z hz => PM_M_caughtBy hz) (pj_fitb rfl) rfl rfl (Nat.le_of_ble_eq_true rfl) d_M_enough_41 (fun v9 => ?_)
      refine PJ.icmp_ge (pc := 44) (tgt := 53) d_M_enough_44 (by decide) (fun _ => ?_) (fun _ => ?_)
      · exact PJ.done rfl
      · refine PJ.iinc (pc := 47) (v := 1) (L1 := [some (.inr (.inr a0)), some (.inl (s3 + (1 : Int32)))]) d_M_enough_47 rfl (by decide) (Nat.le_of_ble_eq_true rfl) rfl rfl ?_
        refine PJ.goto (pc := 50) (tgt := 20) d_M_enough_50 (by decide) ?_
        exact PJ.done rfl
    · show PJ l G (pj_rm 4 0 0) Y_M_enough 53 [some (.inr (.inr a0)), some (.inl x4)] [] h1 0 0 _ _
      refine PJ.aload_n (pc := 53) d_M_enough_53 rfl ?_
      refine PJ.iload_n (pc := 54) d_M_enough_54 rfl ?_
      refine PJ.cVI (pc := 55) cs_M_58 (fun z hz => PM_M_good hz) (pj_fitb rfl) rfl rfl (Nat.le_of_ble_eq_true rfl) d_M_enough_55 (fun v10 => ?_)
      exact PJ.iret (pc := 58) d_M_enough_58 rfl (Nat.le_of_ble_eq_true rfl) (Nat.le_of_ble_eq_true rfl)
  · refine PJ.aload_n (pc := 12) d_M_enough_12 rfl ?_
    refine PJ.iconst (pc := 13) (v := 1) d_M_enough_13 (by decide) ?_
    refine PJ.cVI (pc := 14) cs_M_52 (fun z hz => PM_M_refused hz) (pj_fitb rfl) rfl rfl (Nat.le_of_ble_eq_true rfl) d_M_enough_14 (fun v11 => ?_)
    exact PJ.iret (pc := 17) d_M_enough_17 rfl (Nat.le_of_ble_eq_true rfl) (Nat.le_of_ble_eq_true rfl)
theorem d_M_catches_0 : decode Y_M_catches.2.1 0 = .ok (.aload_n 0, 1) := by decide +kernel
theorem d_M_catches_1 : decode Y_M_catches.2.1 1 = .ok (.iconst 0, 1) := by decide +kernel
theorem d_M_catches_2 : decode Y_M_catches.2.1 2 = .ok (.putfield 46, 3) := by decide +kernel
theorem d_M_catches_5 : decode Y_M_catches.2.1 5 = .ok (.aload_n 0, 1) := by decide +kernel
theorem d_M_catches_6 : decode Y_M_catches.2.1 6 = .ok (.getfield 341, 3) := by decide +kernel
theorem d_M_catches_9 : decode Y_M_catches.2.1 9 = .ok (.ifnull 32, 3) := by decide +kernel
theorem d_M_catches_12 : decode Y_M_catches.2.1 12 = .ok (.iload_n 1, 1) := by decide +kernel
theorem d_M_catches_13 : decode Y_M_catches.2.1 13 = .ok (.ifCond .lt 28, 3) := by decide +kernel
theorem d_M_catches_16 : decode Y_M_catches.2.1 16 = .ok (.iload_n 1, 1) := by decide +kernel
theorem d_M_catches_17 : decode Y_M_catches.2.1 17 = .ok (.aload_n 0, 1) := by decide +kernel
theorem d_M_catches_18 : decode Y_M_catches.2.1 18 = .ok (.getfield 341, 3) := by decide +kernel
theorem d_M_catches_21 : decode Y_M_catches.2.1 21 = .ok (.getfield 318, 3) := by decide +kernel
theorem d_M_catches_24 : decode Y_M_catches.2.1 24 = .ok (.if_icmp .ge 17, 3) := by decide +kernel
theorem d_M_catches_27 : decode Y_M_catches.2.1 27 = .ok (.aload_n 0, 1) := by decide +kernel
theorem d_M_catches_28 : decode Y_M_catches.2.1 28 = .ok (.aload_n 0, 1) := by decide +kernel
theorem d_M_catches_29 : decode Y_M_catches.2.1 29 = .ok (.iconst 1, 1) := by decide +kernel
theorem d_M_catches_30 : decode Y_M_catches.2.1 30 = .ok (.iload_n 1, 1) := by decide +kernel
theorem d_M_catches_31 : decode Y_M_catches.2.1 31 = .ok (.ishl, 1) := by decide +kernel
theorem d_M_catches_32 : decode Y_M_catches.2.1 32 = .ok (.invokevirtual 489, 3) := by decide +kernel
theorem d_M_catches_35 : decode Y_M_catches.2.1 35 = .ok (.invokevirtual 58, 3) := by decide +kernel
theorem d_M_catches_38 : decode Y_M_catches.2.1 38 = .ok (.goto 8, 3) := by decide +kernel
theorem d_M_catches_41 : decode Y_M_catches.2.1 41 = .ok (.aload_n 0, 1) := by decide +kernel
theorem d_M_catches_42 : decode Y_M_catches.2.1 42 = .ok (.iconst 1, 1) := by decide +kernel
theorem d_M_catches_43 : decode Y_M_catches.2.1 43 = .ok (.invokevirtual 52, 3) := by decide +kernel
theorem d_M_catches_46 : decode Y_M_catches.2.1 46 = .ok (.ireturn, 1) := by decide +kernel
def f_M_catches (h : PH) (a0 : Option Nat) (a1 : Int32) : Option (Int32 × PH) := (sF h 12 a0 0 (.inl (0 : Int32))).bind fun h1 => (gR h1 12 a0 3).bind fun v2 => if v2 = none then ((cl h1 12 a0 (f_M_refused h1 a0 (1 : Int32))).bind fun v3 => some (v3.1, v3.2)) else (if a1 < 0 then ((cl h1 12 a0 (f_M_refused h1 a0 (1 : Int32))).bind fun v4 => some (v4.1, v4.2)) else ((gR h1 12 a0 3).bind fun v5 => (gI h1 11 v5 7).bind fun v6 => if v6 ≤ a1 then ((cl h1 12 a0 (f_M_refused h1 a0 (1 : Int32))).bind fun v7 => some (v7.1, v7.2)) else ((cl h1 12 a0 (f_M_caughtBy h1 a0 ((1 : Int32) <<< (a1 &&& 31)))).bind fun v8 => (cl h1 12 a0 (f_M_good h1 a0 v8)).bind fun v9 => some (v9.1, v9.2))))
set_option maxRecDepth 20000 in
theorem PM_M_catches {l : Launch} {G : Cx} {h : PH} {a0 : Option Nat} {a1 : Int32} {z : (Int32 × PH)} (hz : f_M_catches h a0 a1 = some z) : PM l G 3 0 0 Y_M_catches [.inr (.inr a0), .inl a1] h (some (.inl z.1), z.2) := by
  refine PM.of (Y := Y_M_catches) (cv := (fun z : (Int32 × PH) => (((some (.inl z.1), z.2) : Option PV × PH)))) (by decide) (L0 := [some (.inr (.inr a0)), some (.inl a1)]) 0 rfl (Nat.le_of_ble_eq_true rfl) ?_ hz
  unfold f_M_catches
  refine PJ.aload_n (pc := 0) d_M_catches_0 rfl ?_
  refine PJ.iconst (pc := 1) (v := 0) d_M_catches_1 (by decide) ?_
  refine PJ.putI (pc := 2) ps_M_46 d_M_catches_2 (fun h1 => ?_)
  refine PJ.aload_n (pc := 5) d_M_catches_5 rfl ?_
  refine PJ.getR (pc := 6) fs_M_341 d_M_catches_6 (fun v2 => ?_)
  refine PJ.ifnull (pc := 9) (tgt := 41) d_M_catches_9 (by decide) (fun _ => ?_) (fun _ => ?_)
  · refine PJ.aload_n (pc := 41) d_M_catches_41 rfl ?_
    refine PJ.iconst (pc := 42) (v := 1) d_M_catches_42 (by decide) ?_
    refine PJ.cVI (pc := 43) cs_M_52 (fun z hz => PM_M_refused hz) (pj_fitb rfl) rfl rfl (Nat.le_of_ble_eq_true rfl) d_M_catches_43 (fun v3 => ?_)
    exact PJ.iret (pc := 46) d_M_catches_46 rfl (Nat.le_of_ble_eq_true rfl) (Nat.le_of_ble_eq_true rfl)
  · refine PJ.iload_n (pc := 12) d_M_catches_12 rfl ?_
    refine PJ.if_lt (pc := 13) (tgt := 41) d_M_catches_13 (by decide) (fun _ => ?_) (fun _ => ?_)
    · refine PJ.aload_n (pc := 41) d_M_catches_41 rfl ?_
      refine PJ.iconst (pc := 42) (v := 1) d_M_catches_42 (by decide) ?_
      refine PJ.cVI (pc := 43) cs_M_52 (fun z hz => PM_M_refused hz) (pj_fitb rfl) rfl rfl (Nat.le_of_ble_eq_true rfl) d_M_catches_43 (fun v4 => ?_)
      exact PJ.iret (pc := 46) d_M_catches_46 rfl (Nat.le_of_ble_eq_true rfl) (Nat.le_of_ble_eq_true rfl)
    · refine PJ.iload_n (pc := 16) d_M_catches_16 rfl ?_
      refine PJ.aload_n (pc := 17) d_M_catches_17 rfl ?_
      refine PJ.getR (pc := 18) fs_M_341 d_M_catches_18 (fun v5 => ?_)
      refine PJ.getI (pc := 21) fs_M_318 d_M_catches_21 (fun v6 => ?_)
      refine PJ.icmp_ge (pc := 24) (tgt := 41) d_M_catches_24 (by decide) (fun _ => ?_) (fun _ => ?_)
      · refine PJ.aload_n (pc := 41) d_M_catches_41 rfl ?_
        refine PJ.iconst (pc := 42) (v := 1) d_M_catches_42 (by decide) ?_
        refine PJ.cVI (pc := 43) cs_M_52 (fun z hz => PM_M_refused hz) (pj_fitb rfl) rfl rfl (Nat.le_of_ble_eq_true rfl) d_M_catches_43 (fun v7 => ?_)
        exact PJ.iret (pc := 46) d_M_catches_46 rfl (Nat.le_of_ble_eq_true rfl) (Nat.le_of_ble_eq_true rfl)
      · refine PJ.aload_n (pc := 27) d_M_catches_27 rfl ?_
        refine PJ.aload_n (pc := 28) d_M_catches_28 rfl ?_
        refine PJ.iconst (pc := 29) (v := 1) d_M_catches_29 (by decide) ?_
        refine PJ.iload_n (pc := 30) d_M_catches_30 rfl ?_
        refine PJ.ishl (pc := 31) d_M_catches_31 ?_
        refine PJ.cVpI (pc := 32) cs_M_489 (fun z hz => PM_M_caughtBy hz) (pj_fitb rfl) rfl rfl (Nat.le_of_ble_eq_true rfl) d_M_catches_32 (fun v8 => ?_)
        refine PJ.cVI (pc := 35) cs_M_58 (fun z hz => PM_M_good hz) (pj_fitb rfl) rfl rfl (Nat.le_of_ble_eq_true rfl) d_M_catches_35 (fun v9 => ?_)
        refine PJ.goto (pc := 38) (tgt := 46) d_M_catches_38 (by decide) ?_
        exact PJ.iret (pc := 46) d_M_catches_46 rfl (Nat.le_of_ble_eq_true rfl) (Nat.le_of_ble_eq_true rfl)
theorem d_M_areTwo_0 : decode Y_M_areTwo.2.1 0 = .ok (.aload_n 0, 1) := by decide +kernel
theorem d_M_areTwo_1 : decode Y_M_areTwo.2.1 1 = .ok (.iload_n 1, 1) := by decide +kernel
theorem d_M_areTwo_2 : decode Y_M_areTwo.2.1 2 = .ok (.invokevirtual 369, 3) := by decide +kernel
theorem d_M_areTwo_5 : decode Y_M_areTwo.2.1 5 = .ok (.ifCond .eq 20, 3) := by decide +kernel
theorem d_M_areTwo_8 : decode Y_M_areTwo.2.1 8 = .ok (.aload_n 0, 1) := by decide +kernel
theorem d_M_areTwo_9 : decode Y_M_areTwo.2.1 9 = .ok (.iload_n 2, 1) := by decide +kernel
theorem d_M_areTwo_10 : decode Y_M_areTwo.2.1 10 = .ok (.invokevirtual 369, 3) := by decide +kernel
theorem d_M_areTwo_13 : decode Y_M_areTwo.2.1 13 = .ok (.ifCond .eq 12, 3) := by decide +kernel
theorem d_M_areTwo_16 : decode Y_M_areTwo.2.1 16 = .ok (.iload_n 1, 1) := by decide +kernel
theorem d_M_areTwo_17 : decode Y_M_areTwo.2.1 17 = .ok (.iload_n 2, 1) := by decide +kernel
theorem d_M_areTwo_18 : decode Y_M_areTwo.2.1 18 = .ok (.if_icmp .eq 7, 3) := by decide +kernel
theorem d_M_areTwo_21 : decode Y_M_areTwo.2.1 21 = .ok (.iconst 1, 1) := by decide +kernel
theorem d_M_areTwo_22 : decode Y_M_areTwo.2.1 22 = .ok (.goto 4, 3) := by decide +kernel
theorem d_M_areTwo_25 : decode Y_M_areTwo.2.1 25 = .ok (.iconst 0, 1) := by decide +kernel
theorem d_M_areTwo_26 : decode Y_M_areTwo.2.1 26 = .ok (.ireturn, 1) := by decide +kernel
def f_M_areTwo (h : PH) (a0 : Option Nat) (a1 : Int32) (a2 : Int32) : Option Int32 := (cl h 12 a0 (f_M_isPerson h a0 a1)).bind fun v1 => if v1 = 0 then (some (0 : Int32)) else ((cl h 12 a0 (f_M_isPerson h a0 a2)).bind fun v2 => if v2 = 0 then (some (0 : Int32)) else (if a1 = a2 then (some (0 : Int32)) else (some (1 : Int32))))
set_option maxRecDepth 20000 in
theorem PM_M_areTwo {l : Launch} {G : Cx} {h : PH} {a0 : Option Nat} {a1 : Int32} {a2 : Int32} {z : Int32} (hz : f_M_areTwo h a0 a1 a2 = some z) : PM l G 2 0 0 Y_M_areTwo [.inr (.inr a0), .inl a1, .inl a2] h (some (.inl z), h) := by
  refine PM.of (Y := Y_M_areTwo) (cv := (fun z : Int32 => (((some (.inl z), h) : Option PV × PH)))) (by decide) (L0 := [some (.inr (.inr a0)), some (.inl a1), some (.inl a2)]) 0 rfl (Nat.le_of_ble_eq_true rfl) ?_ hz
  unfold f_M_areTwo
  refine PJ.aload_n (pc := 0) d_M_areTwo_0 rfl ?_
  refine PJ.iload_n (pc := 1) d_M_areTwo_1 rfl ?_
  refine PJ.cVpI (pc := 2) cs_M_369 (fun z hz => PM_M_isPerson hz) (pj_fitb rfl) rfl rfl (Nat.le_of_ble_eq_true rfl) d_M_areTwo_2 (fun v1 => ?_)
  refine PJ.if_eq (pc := 5) (tgt := 25) d_M_areTwo_5 (by decide) (fun _ => ?_) (fun _ => ?_)
  · refine PJ.iconst (pc := 25) (v := 0) d_M_areTwo_25 (by decide) ?_
    exact PJ.zretp (pc := 26) d_M_areTwo_26 rfl rfl (Nat.le_of_ble_eq_true rfl) (Nat.le_of_ble_eq_true rfl)
  · refine PJ.aload_n (pc := 8) d_M_areTwo_8 rfl ?_
    refine PJ.iload_n (pc := 9) d_M_areTwo_9 rfl ?_
    refine PJ.cVpI (pc := 10) cs_M_369 (fun z hz => PM_M_isPerson hz) (pj_fitb rfl) rfl rfl (Nat.le_of_ble_eq_true rfl) d_M_areTwo_10 (fun v2 => ?_)
    refine PJ.if_eq (pc := 13) (tgt := 25) d_M_areTwo_13 (by decide) (fun _ => ?_) (fun _ => ?_)
    · refine PJ.iconst (pc := 25) (v := 0) d_M_areTwo_25 (by decide) ?_
      exact PJ.zretp (pc := 26) d_M_areTwo_26 rfl rfl (Nat.le_of_ble_eq_true rfl) (Nat.le_of_ble_eq_true rfl)
    · refine PJ.iload_n (pc := 16) d_M_areTwo_16 rfl ?_
      refine PJ.iload_n (pc := 17) d_M_areTwo_17 rfl ?_
      refine PJ.icmp_eq (pc := 18) (tgt := 25) d_M_areTwo_18 (by decide) (fun _ => ?_) (fun _ => ?_)
      · refine PJ.iconst (pc := 25) (v := 0) d_M_areTwo_25 (by decide) ?_
        exact PJ.zretp (pc := 26) d_M_areTwo_26 rfl rfl (Nat.le_of_ble_eq_true rfl) (Nat.le_of_ble_eq_true rfl)
      · refine PJ.iconst (pc := 21) (v := 1) d_M_areTwo_21 (by decide) ?_
        refine PJ.goto (pc := 22) (tgt := 26) d_M_areTwo_22 (by decide) ?_
        exact PJ.zretp (pc := 26) d_M_areTwo_26 rfl rfl (Nat.le_of_ble_eq_true rfl) (Nat.le_of_ble_eq_true rfl)
theorem d_M_lost_0 : decode Y_M_lost.2.1 0 = .ok (.aload_n 0, 1) := by decide +kernel
theorem d_M_lost_1 : decode Y_M_lost.2.1 1 = .ok (.iload_n 1, 1) := by decide +kernel
theorem d_M_lost_2 : decode Y_M_lost.2.1 2 = .ok (.invokevirtual 52, 3) := by decide +kernel
theorem d_M_lost_5 : decode Y_M_lost.2.1 5 = .ok (.pop, 1) := by decide +kernel
theorem d_M_lost_6 : decode Y_M_lost.2.1 6 = .ok (.sipush (-1000), 3) := by decide +kernel
theorem d_M_lost_9 : decode Y_M_lost.2.1 9 = .ok (.ireturn, 1) := by decide +kernel
def f_M_lost (h : PH) (a0 : Option Nat) (a1 : Int32) : Option (Int32 × PH) := (cl h 12 a0 (f_M_refused h a0 a1)).bind fun v1 => some ((-1000 : Int32), v1.2)
set_option maxRecDepth 20000 in
theorem PM_M_lost {l : Launch} {G : Cx} {h : PH} {a0 : Option Nat} {a1 : Int32} {z : (Int32 × PH)} (hz : f_M_lost h a0 a1 = some z) : PM l G 2 0 0 Y_M_lost [.inr (.inr a0), .inl a1] h (some (.inl z.1), z.2) := by
  refine PM.of (Y := Y_M_lost) (cv := (fun z : (Int32 × PH) => (((some (.inl z.1), z.2) : Option PV × PH)))) (by decide) (L0 := [some (.inr (.inr a0)), some (.inl a1)]) 0 rfl (Nat.le_of_ble_eq_true rfl) ?_ hz
  unfold f_M_lost
  refine PJ.aload_n (pc := 0) d_M_lost_0 rfl ?_
  refine PJ.iload_n (pc := 1) d_M_lost_1 rfl ?_
  refine PJ.cVI (pc := 2) cs_M_52 (fun z hz => PM_M_refused hz) (pj_fitb rfl) rfl rfl (Nat.le_of_ble_eq_true rfl) d_M_lost_2 (fun v1 => ?_)
  refine PJ.pop (pc := 5) d_M_lost_5 rfl ?_
  refine PJ.sipush (pc := 6) (v := -1000) d_M_lost_6 (by decide) ?_
  exact PJ.iret (pc := 9) d_M_lost_9 rfl (Nat.le_of_ble_eq_true rfl) (Nat.le_of_ble_eq_true rfl)
theorem d_M_gets_0 : decode Y_M_gets.2.1 0 = .ok (.iload_n 2, 1) := by decide +kernel
theorem d_M_gets_1 : decode Y_M_gets.2.1 1 = .ok (.ifCond .eq 14, 3) := by decide +kernel
theorem d_M_gets_4 : decode Y_M_gets.2.1 4 = .ok (.aload_n 0, 1) := by decide +kernel
theorem d_M_gets_5 : decode Y_M_gets.2.1 5 = .ok (.getfield 17, 3) := by decide +kernel
theorem d_M_gets_8 : decode Y_M_gets.2.1 8 = .ok (.iconst 0, 1) := by decide +kernel
theorem d_M_gets_9 : decode Y_M_gets.2.1 9 = .ok (.iload_n 3, 1) := by decide +kernel
theorem d_M_gets_10 : decode Y_M_gets.2.1 10 = .ok (.iadd, 1) := by decide +kernel
theorem d_M_gets_11 : decode Y_M_gets.2.1 11 = .ok (.iaload, 1) := by decide +kernel
theorem d_M_gets_12 : decode Y_M_gets.2.1 12 = .ok (.goto 11, 3) := by decide +kernel
theorem d_M_gets_15 : decode Y_M_gets.2.1 15 = .ok (.aload_n 0, 1) := by decide +kernel
theorem d_M_gets_16 : decode Y_M_gets.2.1 16 = .ok (.getfield 17, 3) := by decide +kernel
theorem d_M_gets_19 : decode Y_M_gets.2.1 19 = .ok (.iconst 0, 1) := by decide +kernel
theorem d_M_gets_20 : decode Y_M_gets.2.1 20 = .ok (.iload_n 1, 1) := by decide +kernel
theorem d_M_gets_21 : decode Y_M_gets.2.1 21 = .ok (.iadd, 1) := by decide +kernel
theorem d_M_gets_22 : decode Y_M_gets.2.1 22 = .ok (.iaload, 1) := by decide +kernel
theorem d_M_gets_23 : decode Y_M_gets.2.1 23 = .ok (.istore 5, 2) := by decide +kernel
theorem d_M_gets_25 : decode Y_M_gets.2.1 25 = .ok (.iload 4, 2) := by decide +kernel
theorem d_M_gets_27 : decode Y_M_gets.2.1 27 = .ok (.ifCond .eq 14, 3) := by decide +kernel
theorem d_M_gets_30 : decode Y_M_gets.2.1 30 = .ok (.aload_n 0, 1) := by decide +kernel
theorem d_M_gets_31 : decode Y_M_gets.2.1 31 = .ok (.getfield 17, 3) := by decide +kernel
theorem d_M_gets_34 : decode Y_M_gets.2.1 34 = .ok (.iconst 0, 1) := by decide +kernel
theorem d_M_gets_35 : decode Y_M_gets.2.1 35 = .ok (.iload_n 1, 1) := by decide +kernel
theorem d_M_gets_36 : decode Y_M_gets.2.1 36 = .ok (.iadd, 1) := by decide +kernel
theorem d_M_gets_37 : decode Y_M_gets.2.1 37 = .ok (.iaload, 1) := by decide +kernel
theorem d_M_gets_38 : decode Y_M_gets.2.1 38 = .ok (.goto 11, 3) := by decide +kernel
theorem d_M_gets_41 : decode Y_M_gets.2.1 41 = .ok (.aload_n 0, 1) := by decide +kernel
theorem d_M_gets_42 : decode Y_M_gets.2.1 42 = .ok (.getfield 17, 3) := by decide +kernel
theorem d_M_gets_45 : decode Y_M_gets.2.1 45 = .ok (.iconst 0, 1) := by decide +kernel
theorem d_M_gets_46 : decode Y_M_gets.2.1 46 = .ok (.iload_n 3, 1) := by decide +kernel
theorem d_M_gets_47 : decode Y_M_gets.2.1 47 = .ok (.iadd, 1) := by decide +kernel
theorem d_M_gets_48 : decode Y_M_gets.2.1 48 = .ok (.iaload, 1) := by decide +kernel
theorem d_M_gets_49 : decode Y_M_gets.2.1 49 = .ok (.istore 6, 2) := by decide +kernel
theorem d_M_gets_51 : decode Y_M_gets.2.1 51 = .ok (.aload_n 0, 1) := by decide +kernel
theorem d_M_gets_52 : decode Y_M_gets.2.1 52 = .ok (.iload_n 1, 1) := by decide +kernel
theorem d_M_gets_53 : decode Y_M_gets.2.1 53 = .ok (.iload 5, 2) := by decide +kernel
theorem d_M_gets_55 : decode Y_M_gets.2.1 55 = .ok (.aload_n 0, 1) := by decide +kernel
theorem d_M_gets_56 : decode Y_M_gets.2.1 56 = .ok (.getfield 17, 3) := by decide +kernel
theorem d_M_gets_59 : decode Y_M_gets.2.1 59 = .ok (.bipush 20, 2) := by decide +kernel
theorem d_M_gets_61 : decode Y_M_gets.2.1 61 = .ok (.iaload, 1) := by decide +kernel
theorem d_M_gets_62 : decode Y_M_gets.2.1 62 = .ok (.invokevirtual 361, 3) := by decide +kernel
theorem d_M_gets_65 : decode Y_M_gets.2.1 65 = .ok (.aload_n 0, 1) := by decide +kernel
theorem d_M_gets_66 : decode Y_M_gets.2.1 66 = .ok (.aload_n 0, 1) := by decide +kernel
theorem d_M_gets_67 : decode Y_M_gets.2.1 67 = .ok (.getfield 17, 3) := by decide +kernel
theorem d_M_gets_70 : decode Y_M_gets.2.1 70 = .ok (.iload_n 1, 1) := by decide +kernel
theorem d_M_gets_71 : decode Y_M_gets.2.1 71 = .ok (.iload 5, 2) := by decide +kernel
theorem d_M_gets_73 : decode Y_M_gets.2.1 73 = .ok (.invokevirtual 365, 3) := by decide +kernel
theorem d_M_gets_76 : decode Y_M_gets.2.1 76 = .ok (.isub, 1) := by decide +kernel
theorem d_M_gets_77 : decode Y_M_gets.2.1 77 = .ok (.iload 5, 2) := by decide +kernel
theorem d_M_gets_79 : decode Y_M_gets.2.1 79 = .ok (.iload 6, 2) := by decide +kernel
theorem d_M_gets_81 : decode Y_M_gets.2.1 81 = .ok (.if_icmp .ne 7, 3) := by decide +kernel
theorem d_M_gets_84 : decode Y_M_gets.2.1 84 = .ok (.iconst 5, 1) := by decide +kernel
theorem d_M_gets_85 : decode Y_M_gets.2.1 85 = .ok (.goto 4, 3) := by decide +kernel
theorem d_M_gets_88 : decode Y_M_gets.2.1 88 = .ok (.iconst 0, 1) := by decide +kernel
theorem d_M_gets_89 : decode Y_M_gets.2.1 89 = .ok (.iadd, 1) := by decide +kernel
theorem d_M_gets_90 : decode Y_M_gets.2.1 90 = .ok (.ireturn, 1) := by decide +kernel
def f_M_gets (h : PH) (a0 : Option Nat) (a1 : Int32) (a2 : Int32) (a3 : Int32) (a4 : Int32) : Option Int32 := (if a2 = 0 then ((gR h 12 a0 15).bind fun v2 => (aI h v2 ((0 : Int32) + a1)).bind fun v3 => some v3) else ((gR h 12 a0 15).bind fun v4 => (aI h v4 ((0 : Int32) + a3)).bind fun v5 => some v5) : Option (Int32)).bind fun j1 => (if a4 = 0 then ((gR h 12 a0 15).bind fun v7 => (aI h v7 ((0 : Int32) + a3)).bind fun v8 => some v8) else ((gR h 12 a0 15).bind fun v9 => (aI h v9 ((0 : Int32) + a1)).bind fun v10 => some v10) : Option (Int32)).bind fun j6 => (gR h 12 a0 15).bind fun v11 => (aI h v11 (20 : Int32)).bind fun v12 => (cl h 12 a0 (f_M_worthBy h a0 a1 j1 v12)).bind fun v13 => (gR h 12 a0 15).bind fun v14 => (cl h 12 a0 (f_M_taxIn h a0 v14 a1 j1)).bind fun v15 => if ¬ j1 = j6 then (some ((v13 - v15) + (0 : Int32))) else (some ((v13 - v15) + (5 : Int32)))
set_option maxRecDepth 20000 in
theorem PM_M_gets {l : Launch} {G : Cx} {h : PH} {a0 : Option Nat} {a1 : Int32} {a2 : Int32} {a3 : Int32} {a4 : Int32} {z : Int32} (hz : f_M_gets h a0 a1 a2 a3 a4 = some z) : PM l G 4 0 0 Y_M_gets [.inr (.inr a0), .inl a1, .inl a2, .inl a3, .inl a4] h (some (.inl z), h) := by
  refine PM.of (Y := Y_M_gets) (cv := (fun z : Int32 => (((some (.inl z), h) : Option PV × PH)))) (by decide) (L0 := [some (.inr (.inr a0)), some (.inl a1), some (.inl a2), some (.inl a3), some (.inl a4), none, none]) 2 rfl (Nat.le_of_ble_eq_true rfl) ?_ hz
  unfold f_M_gets
  refine PJ.iload_n (pc := 0) d_M_gets_0 rfl ?_
  refine PJ.bind (fun j1 : Int32 => ((23 : Nat), ([some (.inr (.inr a0)), some (.inl a1), none, some (.inl a3), some (.inl a4), none, none] : List (Option PV)), ([.inl j1] : List PV), (h : PH), (0 : Nat), (0 : Nat))) ?_ (fun j1 => ?_)
  · refine PJ.if_eq (pc := 1) (tgt := 15) d_M_gets_1 (by decide) (fun _ => ?_) (fun _ => ?_)
    · refine PJ.aload_n (pc := 15) d_M_gets_15 rfl ?_
      refine PJ.getR (pc := 16) fs_M_17 d_M_gets_16 (fun v2 => ?_)
      refine PJ.iconst (pc := 19) (v := 0) d_M_gets_19 (by decide) ?_
      refine PJ.iload_n (pc := 20) d_M_gets_20 rfl ?_
      refine PJ.iadd (pc := 21) d_M_gets_21 ?_
      refine PJ.iald (pc := 22) d_M_gets_22 (fun v3 => ?_)
      refine PJ.mk (L1 := [some (.inr (.inr a0)), some (.inl a1), none, some (.inl a3), some (.inl a4), none, none]) [true, true, false, true, true, false, false] rfl ?_
      exact PJ.done rfl
    · refine PJ.aload_n (pc := 4) d_M_gets_4 rfl ?_
      refine PJ.getR (pc := 5) fs_M_17 d_M_gets_5 (fun v4 => ?_)
      refine PJ.iconst (pc := 8) (v := 0) d_M_gets_8 (by decide) ?_
      refine PJ.iload_n (pc := 9) d_M_gets_9 rfl ?_
      refine PJ.iadd (pc := 10) d_M_gets_10 ?_
      refine PJ.iald (pc := 11) d_M_gets_11 (fun v5 => ?_)
      refine PJ.goto (pc := 12) (tgt := 23) d_M_gets_12 (by decide) ?_
      refine PJ.mk (L1 := [some (.inr (.inr a0)), some (.inl a1), none, some (.inl a3), some (.inl a4), none, none]) [true, true, false, true, true, false, false] rfl ?_
      exact PJ.done rfl
  · show PJ l G (pj_rm 4 0 0) Y_M_gets 23 [some (.inr (.inr a0)), some (.inl a1), none, some (.inl a3), some (.inl a4), none, none] [.inl j1] h 0 0 _ _
    refine PJ.istore (pc := 23) (L1 := [some (.inr (.inr a0)), some (.inl a1), none, some (.inl a3), some (.inl a4), some (.inl j1), none]) d_M_gets_23 (Nat.le_of_ble_eq_true rfl) rfl rfl ?_
    refine PJ.iload (pc := 25) d_M_gets_25 rfl ?_
    refine PJ.bind (fun j6 : Int32 => ((49 : Nat), ([some (.inr (.inr a0)), some (.inl a1), none, none, none, some (.inl j1), none] : List (Option PV)), ([.inl j6] : List PV), (h : PH), (0 : Nat), (0 : Nat))) ?_ (fun j6 => ?_)
    · refine PJ.if_eq (pc := 27) (tgt := 41) d_M_gets_27 (by decide) (fun _ => ?_) (fun _ => ?_)
      · refine PJ.aload_n (pc := 41) d_M_gets_41 rfl ?_
        refine PJ.getR (pc := 42) fs_M_17 d_M_gets_42 (fun v7 => ?_)
        refine PJ.iconst (pc := 45) (v := 0) d_M_gets_45 (by decide) ?_
        refine PJ.iload_n (pc := 46) d_M_gets_46 rfl ?_
        refine PJ.iadd (pc := 47) d_M_gets_47 ?_
        refine PJ.iald (pc := 48) d_M_gets_48 (fun v8 => ?_)
        refine PJ.mk (L1 := [some (.inr (.inr a0)), some (.inl a1), none, none, none, some (.inl j1), none]) [true, true, false, false, false, true, false] rfl ?_
        exact PJ.done rfl
      · refine PJ.aload_n (pc := 30) d_M_gets_30 rfl ?_
        refine PJ.getR (pc := 31) fs_M_17 d_M_gets_31 (fun v9 => ?_)
        refine PJ.iconst (pc := 34) (v := 0) d_M_gets_34 (by decide) ?_
        refine PJ.iload_n (pc := 35) d_M_gets_35 rfl ?_
        refine PJ.iadd (pc := 36) d_M_gets_36 ?_
        refine PJ.iald (pc := 37) d_M_gets_37 (fun v10 => ?_)
        refine PJ.goto (pc := 38) (tgt := 49) d_M_gets_38 (by decide) ?_
        refine PJ.mk (L1 := [some (.inr (.inr a0)), some (.inl a1), none, none, none, some (.inl j1), none]) [true, true, false, false, false, true, false] rfl ?_
        exact PJ.done rfl
    · show PJ l G (pj_rm 4 0 0) Y_M_gets 49 [some (.inr (.inr a0)), some (.inl a1), none, none, none, some (.inl j1), none] [.inl j6] h 0 0 _ _
      refine PJ.istore (pc := 49) (L1 := [some (.inr (.inr a0)), some (.inl a1), none, none, none, some (.inl j1), some (.inl j6)]) d_M_gets_49 (Nat.le_of_ble_eq_true rfl) rfl rfl ?_
      refine PJ.aload_n (pc := 51) d_M_gets_51 rfl ?_
      refine PJ.iload_n (pc := 52) d_M_gets_52 rfl ?_
      refine PJ.iload (pc := 53) d_M_gets_53 rfl ?_
      refine PJ.aload_n (pc := 55) d_M_gets_55 rfl ?_
      refine PJ.getR (pc := 56) fs_M_17 d_M_gets_56 (fun v11 => ?_)
      refine PJ.bipush (pc := 59) (v := 20) d_M_gets_59 (by decide) ?_
      refine PJ.iald (pc := 61) d_M_gets_61 (fun v12 => ?_)
      refine PJ.cVpI (pc := 62) cs_M_361 (fun z hz => PM_M_worthBy hz) (pj_fitb rfl) rfl rfl (Nat.le_of_ble_eq_true rfl) d_M_gets_62 (fun v13 => ?_)
      refine PJ.aload_n (pc := 65) d_M_gets_65 rfl ?_
      refine PJ.aload_n (pc := 66) d_M_gets_66 rfl ?_
      refine PJ.getR (pc := 67) fs_M_17 d_M_gets_67 (fun v14 => ?_)
      refine PJ.iload_n (pc := 70) d_M_gets_70 rfl ?_
      refine PJ.iload (pc := 71) d_M_gets_71 rfl ?_
      refine PJ.cVpI (pc := 73) cs_M_365 (fun z hz => PM_M_taxIn hz) (pj_fitb rfl) rfl rfl (Nat.le_of_ble_eq_true rfl) d_M_gets_73 (fun v15 => ?_)
      refine PJ.isub (pc := 76) d_M_gets_76 ?_
      refine PJ.iload (pc := 77) d_M_gets_77 rfl ?_
      refine PJ.iload (pc := 79) d_M_gets_79 rfl ?_
      refine PJ.icmp_ne (pc := 81) (tgt := 88) d_M_gets_81 (by decide) (fun _ => ?_) (fun _ => ?_)
      · refine PJ.iconst (pc := 88) (v := 0) d_M_gets_88 (by decide) ?_
        refine PJ.iadd (pc := 89) d_M_gets_89 ?_
        exact PJ.iretp (pc := 90) d_M_gets_90 rfl (Nat.le_of_ble_eq_true rfl) (Nat.le_of_ble_eq_true rfl)
      · refine PJ.iconst (pc := 84) (v := 5) d_M_gets_84 (by decide) ?_
        refine PJ.goto (pc := 85) (tgt := 89) d_M_gets_85 (by decide) ?_
        refine PJ.iadd (pc := 89) d_M_gets_89 ?_
        exact PJ.iretp (pc := 90) d_M_gets_90 rfl (Nat.le_of_ble_eq_true rfl) (Nat.le_of_ble_eq_true rfl)
theorem d_M_two_0 : decode Y_M_two.2.1 0 = .ok (.aload_n 0, 1) := by decide +kernel
theorem d_M_two_1 : decode Y_M_two.2.1 1 = .ok (.iconst 0, 1) := by decide +kernel
theorem d_M_two_2 : decode Y_M_two.2.1 2 = .ok (.putfield 46, 3) := by decide +kernel
theorem d_M_two_5 : decode Y_M_two.2.1 5 = .ok (.aload_n 0, 1) := by decide +kernel
theorem d_M_two_6 : decode Y_M_two.2.1 6 = .ok (.iload_n 1, 1) := by decide +kernel
theorem d_M_two_7 : decode Y_M_two.2.1 7 = .ok (.iload_n 3, 1) := by decide +kernel
theorem d_M_two_8 : decode Y_M_two.2.1 8 = .ok (.invokevirtual 498, 3) := by decide +kernel
theorem d_M_two_11 : decode Y_M_two.2.1 11 = .ok (.ifCond .ne 9, 3) := by decide +kernel
theorem d_M_two_14 : decode Y_M_two.2.1 14 = .ok (.aload_n 0, 1) := by decide +kernel
theorem d_M_two_15 : decode Y_M_two.2.1 15 = .ok (.iconst 1, 1) := by decide +kernel
theorem d_M_two_16 : decode Y_M_two.2.1 16 = .ok (.invokevirtual 501, 3) := by decide +kernel
theorem d_M_two_19 : decode Y_M_two.2.1 19 = .ok (.ireturn, 1) := by decide +kernel
theorem d_M_two_20 : decode Y_M_two.2.1 20 = .ok (.aload_n 0, 1) := by decide +kernel
theorem d_M_two_21 : decode Y_M_two.2.1 21 = .ok (.invokevirtual 375, 3) := by decide +kernel
theorem d_M_two_24 : decode Y_M_two.2.1 24 = .ok (.aload_n 0, 1) := by decide +kernel
theorem d_M_two_25 : decode Y_M_two.2.1 25 = .ok (.iload 5, 2) := by decide +kernel
theorem d_M_two_27 : decode Y_M_two.2.1 27 = .ok (.ifCond .eq 15, 3) := by decide +kernel
theorem d_M_two_30 : decode Y_M_two.2.1 30 = .ok (.aload_n 0, 1) := by decide +kernel
theorem d_M_two_31 : decode Y_M_two.2.1 31 = .ok (.iload_n 3, 1) := by decide +kernel
theorem d_M_two_32 : decode Y_M_two.2.1 32 = .ok (.iload 4, 2) := by decide +kernel
theorem d_M_two_34 : decode Y_M_two.2.1 34 = .ok (.iload_n 1, 1) := by decide +kernel
theorem d_M_two_35 : decode Y_M_two.2.1 35 = .ok (.iload_n 2, 1) := by decide +kernel
theorem d_M_two_36 : decode Y_M_two.2.1 36 = .ok (.invokevirtual 504, 3) := by decide +kernel
theorem d_M_two_39 : decode Y_M_two.2.1 39 = .ok (.goto 12, 3) := by decide +kernel
theorem d_M_two_42 : decode Y_M_two.2.1 42 = .ok (.aload_n 0, 1) := by decide +kernel
theorem d_M_two_43 : decode Y_M_two.2.1 43 = .ok (.iload_n 1, 1) := by decide +kernel
theorem d_M_two_44 : decode Y_M_two.2.1 44 = .ok (.iload_n 2, 1) := by decide +kernel
theorem d_M_two_45 : decode Y_M_two.2.1 45 = .ok (.iload_n 3, 1) := by decide +kernel
theorem d_M_two_46 : decode Y_M_two.2.1 46 = .ok (.iload 4, 2) := by decide +kernel
theorem d_M_two_48 : decode Y_M_two.2.1 48 = .ok (.invokevirtual 504, 3) := by decide +kernel
theorem d_M_two_51 : decode Y_M_two.2.1 51 = .ok (.invokevirtual 58, 3) := by decide +kernel
theorem d_M_two_54 : decode Y_M_two.2.1 54 = .ok (.ireturn, 1) := by decide +kernel
def f_M_two (h : PH) (a0 : Option Nat) (a1 : Int32) (a2 : Int32) (a3 : Int32) (a4 : Int32) (a5 : Int32) : Option (Int32 × PH) := (sF h 12 a0 0 (.inl (0 : Int32))).bind fun h1 => (cl h1 12 a0 (f_M_areTwo h1 a0 a1 a3)).bind fun v2 => if ¬ v2 = 0 then ((cl h1 12 a0 (f_M_asTold h1 a0)).bind fun h3 => (if a5 = 0 then ((cl h3 12 a0 (f_M_gets h3 a0 a1 a2 a3 a4)).bind fun v5 => some v5) else ((cl h3 12 a0 (f_M_gets h3 a0 a3 a4 a1 a2)).bind fun v6 => some v6) : Option (Int32)).bind fun j4 => (cl h3 12 a0 (f_M_good h3 a0 j4)).bind fun v7 => some (v7.1, v7.2)) else ((cl h1 12 a0 (f_M_lost h1 a0 (1 : Int32))).bind fun v8 => some (v8.1, v8.2))
set_option maxRecDepth 20000 in
theorem PM_M_two {l : Launch} {G : Cx} {h : PH} {a0 : Option Nat} {a1 : Int32} {a2 : Int32} {a3 : Int32} {a4 : Int32} {a5 : Int32} {z : (Int32 × PH)} (hz : f_M_two h a0 a1 a2 a3 a4 a5 = some z) : PM l G 5 0 0 Y_M_two [.inr (.inr a0), .inl a1, .inl a2, .inl a3, .inl a4, .inl a5] h (some (.inl z.1), z.2) := by
  refine PM.of (Y := Y_M_two) (cv := (fun z : (Int32 × PH) => (((some (.inl z.1), z.2) : Option PV × PH)))) (by decide) (L0 := [some (.inr (.inr a0)), some (.inl a1), some (.inl a2), some (.inl a3), some (.inl a4), some (.inl a5)]) 0 rfl (Nat.le_of_ble_eq_true rfl) ?_ hz
  unfold f_M_two
  refine PJ.aload_n (pc := 0) d_M_two_0 rfl ?_
  refine PJ.iconst (pc := 1) (v := 0) d_M_two_1 (by decide) ?_
  refine PJ.putI (pc := 2) ps_M_46 d_M_two_2 (fun h1 => ?_)
  refine PJ.aload_n (pc := 5) d_M_two_5 rfl ?_
  refine PJ.iload_n (pc := 6) d_M_two_6 rfl ?_
  refine PJ.iload_n (pc := 7) d_M_two_7 rfl ?_
  refine PJ.cVpI (pc := 8) cs_M_498 (fun z hz => PM_M_areTwo hz) (pj_fitb rfl) rfl rfl (Nat.le_of_ble_eq_true rfl) d_M_two_8 (fun v2 => ?_)
  refine PJ.if_ne (pc := 11) (tgt := 20) d_M_two_11 (by decide) (fun _ => ?_) (fun _ => ?_)
  · refine PJ.aload_n (pc := 20) d_M_two_20 rfl ?_
    refine PJ.cVV (pc := 21) cs_M_375 (fun z hz => PM_M_asTold hz) (pj_fitb rfl) rfl rfl (Nat.le_of_ble_eq_true rfl) d_M_two_21 (fun h3 => ?_)
    refine PJ.aload_n (pc := 24) d_M_two_24 rfl ?_
    refine PJ.iload (pc := 25) d_M_two_25 rfl ?_
    refine PJ.bind (fun j4 : Int32 => ((51 : Nat), ([none, none, none, none, none, none] : List (Option PV)), ([.inl j4, .inr (.inr a0)] : List PV), (h3 : PH), (0 : Nat), (0 : Nat))) ?_ (fun j4 => ?_)
    · refine PJ.if_eq (pc := 27) (tgt := 42) d_M_two_27 (by decide) (fun _ => ?_) (fun _ => ?_)
      · refine PJ.aload_n (pc := 42) d_M_two_42 rfl ?_
        refine PJ.iload_n (pc := 43) d_M_two_43 rfl ?_
        refine PJ.iload_n (pc := 44) d_M_two_44 rfl ?_
        refine PJ.iload_n (pc := 45) d_M_two_45 rfl ?_
        refine PJ.iload (pc := 46) d_M_two_46 rfl ?_
        refine PJ.cVpI (pc := 48) cs_M_504 (fun z hz => PM_M_gets hz) (pj_fitb rfl) rfl rfl (Nat.le_of_ble_eq_true rfl) d_M_two_48 (fun v5 => ?_)
        refine PJ.mk (L1 := [none, none, none, none, none, none]) [false, false, false, false, false, false] rfl ?_
        exact PJ.done rfl
      · refine PJ.aload_n (pc := 30) d_M_two_30 rfl ?_
        refine PJ.iload_n (pc := 31) d_M_two_31 rfl ?_
        refine PJ.iload (pc := 32) d_M_two_32 rfl ?_
        refine PJ.iload_n (pc := 34) d_M_two_34 rfl ?_
        refine PJ.iload_n (pc := 35) d_M_two_35 rfl ?_
        refine PJ.cVpI (pc := 36) cs_M_504 (fun z hz => PM_M_gets hz) (pj_fitb rfl) rfl rfl (Nat.le_of_ble_eq_true rfl) d_M_two_36 (fun v6 => ?_)
        refine PJ.goto (pc := 39) (tgt := 51) d_M_two_39 (by decide) ?_
        refine PJ.mk (L1 := [none, none, none, none, none, none]) [false, false, false, false, false, false] rfl ?_
        exact PJ.done rfl
    · show PJ l G (pj_rm 5 0 0) Y_M_two 51 [none, none, none, none, none, none] [.inl j4, .inr (.inr a0)] h3 0 0 _ _
      refine PJ.cVI (pc := 51) cs_M_58 (fun z hz => PM_M_good hz) (pj_fitb rfl) rfl rfl (Nat.le_of_ble_eq_true rfl) d_M_two_51 (fun v7 => ?_)
      exact PJ.iret (pc := 54) d_M_two_54 rfl (Nat.le_of_ble_eq_true rfl) (Nat.le_of_ble_eq_true rfl)
  · refine PJ.aload_n (pc := 14) d_M_two_14 rfl ?_
    refine PJ.iconst (pc := 15) (v := 1) d_M_two_15 (by decide) ?_
    refine PJ.cVI (pc := 16) cs_M_501 (fun z hz => PM_M_lost hz) (pj_fitb rfl) rfl rfl (Nat.le_of_ble_eq_true rfl) d_M_two_16 (fun v8 => ?_)
    exact PJ.iret (pc := 19) d_M_two_19 rfl (Nat.le_of_ble_eq_true rfl) (Nat.le_of_ble_eq_true rfl)
theorem d_M_isRest_0 : decode Y_M_isRest.2.1 0 = .ok (.iload_n 3, 1) := by decide +kernel
theorem d_M_isRest_1 : decode Y_M_isRest.2.1 1 = .ok (.iconst 1, 1) := by decide +kernel
theorem d_M_isRest_2 : decode Y_M_isRest.2.1 2 = .ok (.if_icmp .le 7, 3) := by decide +kernel
theorem d_M_isRest_5 : decode Y_M_isRest.2.1 5 = .ok (.iconst 1, 1) := by decide +kernel
theorem d_M_isRest_6 : decode Y_M_isRest.2.1 6 = .ok (.goto 4, 3) := by decide +kernel
theorem d_M_isRest_9 : decode Y_M_isRest.2.1 9 = .ok (.iconst 0, 1) := by decide +kernel
theorem d_M_isRest_10 : decode Y_M_isRest.2.1 10 = .ok (.istore 4, 2) := by decide +kernel
theorem d_M_isRest_12 : decode Y_M_isRest.2.1 12 = .ok (.iload_n 3, 1) := by decide +kernel
theorem d_M_isRest_13 : decode Y_M_isRest.2.1 13 = .ok (.iconst 2, 1) := by decide +kernel
theorem d_M_isRest_14 : decode Y_M_isRest.2.1 14 = .ok (.irem, 1) := by decide +kernel
theorem d_M_isRest_15 : decode Y_M_isRest.2.1 15 = .ok (.iconst 1, 1) := by decide +kernel
theorem d_M_isRest_16 : decode Y_M_isRest.2.1 16 = .ok (.if_icmp .ne 7, 3) := by decide +kernel
theorem d_M_isRest_19 : decode Y_M_isRest.2.1 19 = .ok (.iconst 1, 1) := by decide +kernel
theorem d_M_isRest_20 : decode Y_M_isRest.2.1 20 = .ok (.goto 4, 3) := by decide +kernel
theorem d_M_isRest_23 : decode Y_M_isRest.2.1 23 = .ok (.iconst 0, 1) := by decide +kernel
theorem d_M_isRest_24 : decode Y_M_isRest.2.1 24 = .ok (.istore 5, 2) := by decide +kernel
theorem d_M_isRest_26 : decode Y_M_isRest.2.1 26 = .ok (.aload_n 0, 1) := by decide +kernel
theorem d_M_isRest_27 : decode Y_M_isRest.2.1 27 = .ok (.iload_n 1, 1) := by decide +kernel
theorem d_M_isRest_28 : decode Y_M_isRest.2.1 28 = .ok (.iload 4, 2) := by decide +kernel
theorem d_M_isRest_30 : decode Y_M_isRest.2.1 30 = .ok (.ifCond .ne 7, 3) := by decide +kernel
theorem d_M_isRest_33 : decode Y_M_isRest.2.1 33 = .ok (.iconst 1, 1) := by decide +kernel
theorem d_M_isRest_34 : decode Y_M_isRest.2.1 34 = .ok (.goto 4, 3) := by decide +kernel
theorem d_M_isRest_37 : decode Y_M_isRest.2.1 37 = .ok (.iconst 0, 1) := by decide +kernel
theorem d_M_isRest_38 : decode Y_M_isRest.2.1 38 = .ok (.iload_n 2, 1) := by decide +kernel
theorem d_M_isRest_39 : decode Y_M_isRest.2.1 39 = .ok (.iload 5, 2) := by decide +kernel
theorem d_M_isRest_41 : decode Y_M_isRest.2.1 41 = .ok (.invokevirtual 504, 3) := by decide +kernel
theorem d_M_isRest_44 : decode Y_M_isRest.2.1 44 = .ok (.aload_n 0, 1) := by decide +kernel
theorem d_M_isRest_45 : decode Y_M_isRest.2.1 45 = .ok (.iload_n 1, 1) := by decide +kernel
theorem d_M_isRest_46 : decode Y_M_isRest.2.1 46 = .ok (.iload 4, 2) := by decide +kernel
theorem d_M_isRest_48 : decode Y_M_isRest.2.1 48 = .ok (.iload_n 2, 1) := by decide +kernel
theorem d_M_isRest_49 : decode Y_M_isRest.2.1 49 = .ok (.iload 5, 2) := by decide +kernel
theorem d_M_isRest_51 : decode Y_M_isRest.2.1 51 = .ok (.invokevirtual 504, 3) := by decide +kernel
theorem d_M_isRest_54 : decode Y_M_isRest.2.1 54 = .ok (.if_icmp .gt 38, 3) := by decide +kernel
theorem d_M_isRest_57 : decode Y_M_isRest.2.1 57 = .ok (.aload_n 0, 1) := by decide +kernel
theorem d_M_isRest_58 : decode Y_M_isRest.2.1 58 = .ok (.iload_n 2, 1) := by decide +kernel
theorem d_M_isRest_59 : decode Y_M_isRest.2.1 59 = .ok (.iload 5, 2) := by decide +kernel
theorem d_M_isRest_61 : decode Y_M_isRest.2.1 61 = .ok (.ifCond .ne 7, 3) := by decide +kernel
theorem d_M_isRest_64 : decode Y_M_isRest.2.1 64 = .ok (.iconst 1, 1) := by decide +kernel
theorem d_M_isRest_65 : decode Y_M_isRest.2.1 65 = .ok (.goto 4, 3) := by decide +kernel
theorem d_M_isRest_68 : decode Y_M_isRest.2.1 68 = .ok (.iconst 0, 1) := by decide +kernel
theorem d_M_isRest_69 : decode Y_M_isRest.2.1 69 = .ok (.iload_n 1, 1) := by decide +kernel
theorem d_M_isRest_70 : decode Y_M_isRest.2.1 70 = .ok (.iload 4, 2) := by decide +kernel
theorem d_M_isRest_72 : decode Y_M_isRest.2.1 72 = .ok (.invokevirtual 504, 3) := by decide +kernel
theorem d_M_isRest_75 : decode Y_M_isRest.2.1 75 = .ok (.aload_n 0, 1) := by decide +kernel
theorem d_M_isRest_76 : decode Y_M_isRest.2.1 76 = .ok (.iload_n 2, 1) := by decide +kernel
theorem d_M_isRest_77 : decode Y_M_isRest.2.1 77 = .ok (.iload 5, 2) := by decide +kernel
theorem d_M_isRest_79 : decode Y_M_isRest.2.1 79 = .ok (.iload_n 1, 1) := by decide +kernel
theorem d_M_isRest_80 : decode Y_M_isRest.2.1 80 = .ok (.iload 4, 2) := by decide +kernel
theorem d_M_isRest_82 : decode Y_M_isRest.2.1 82 = .ok (.invokevirtual 504, 3) := by decide +kernel
theorem d_M_isRest_85 : decode Y_M_isRest.2.1 85 = .ok (.if_icmp .gt 7, 3) := by decide +kernel
theorem d_M_isRest_88 : decode Y_M_isRest.2.1 88 = .ok (.iconst 1, 1) := by decide +kernel
theorem d_M_isRest_89 : decode Y_M_isRest.2.1 89 = .ok (.goto 4, 3) := by decide +kernel
theorem d_M_isRest_92 : decode Y_M_isRest.2.1 92 = .ok (.iconst 0, 1) := by decide +kernel
theorem d_M_isRest_93 : decode Y_M_isRest.2.1 93 = .ok (.ireturn, 1) := by decide +kernel
def f_M_isRest (h : PH) (a0 : Option Nat) (a1 : Int32) (a2 : Int32) (a3 : Int32) : Option Int32 := (if a3 ≤ (1 : Int32) then (some (0 : Int32)) else (some (1 : Int32)) : Option (Int32)).bind fun j1 => if (2 : Int32) = 0 then none else ((if ¬ (a3 - a3 / (2 : Int32) * (2 : Int32)) = (1 : Int32) then (some (0 : Int32)) else (some (1 : Int32)) : Option (Int32)).bind fun j2 => (if ¬ j1 = 0 then (some (0 : Int32)) else (some (1 : Int32)) : Option (Int32)).bind fun j3 => (cl h 12 a0 (f_M_gets h a0 a1 j3 a2 j2)).bind fun v4 => (cl h 12 a0 (f_M_gets h a0 a1 j1 a2 j2)).bind fun v5 => if v5 < v4 then (some (0 : Int32)) else ((if ¬ j2 = 0 then (some (0 : Int32)) else (some (1 : Int32)) : Option (Int32)).bind fun j6 => (cl h 12 a0 (f_M_gets h a0 a2 j6 a1 j1)).bind fun v7 => (cl h 12 a0 (f_M_gets h a0 a2 j2 a1 j1)).bind fun v8 => if v8 < v7 then (some (0 : Int32)) else (some (1 : Int32))))
set_option maxRecDepth 20000 in
theorem PM_M_isRest {l : Launch} {G : Cx} {h : PH} {a0 : Option Nat} {a1 : Int32} {a2 : Int32} {a3 : Int32} {z : Int32} (hz : f_M_isRest h a0 a1 a2 a3 = some z) : PM l G 5 0 0 Y_M_isRest [.inr (.inr a0), .inl a1, .inl a2, .inl a3] h (some (.inl z), h) := by
  refine PM.of (Y := Y_M_isRest) (cv := (fun z : Int32 => (((some (.inl z), h) : Option PV × PH)))) (by decide) (L0 := [some (.inr (.inr a0)), some (.inl a1), some (.inl a2), some (.inl a3), none, none]) 2 rfl (Nat.le_of_ble_eq_true rfl) ?_ hz
  unfold f_M_isRest
  refine PJ.iload_n (pc := 0) d_M_isRest_0 rfl ?_
  refine PJ.iconst (pc := 1) (v := 1) d_M_isRest_1 (by decide) ?_
  refine PJ.bind (fun j1 : Int32 => ((10 : Nat), ([some (.inr (.inr a0)), some (.inl a1), some (.inl a2), some (.inl a3), none, none] : List (Option PV)), ([.inl j1] : List PV), (h : PH), (0 : Nat), (0 : Nat))) ?_ (fun j1 => ?_)
  · refine PJ.icmp_le (pc := 2) (tgt := 9) d_M_isRest_2 (by decide) (fun _ => ?_) (fun _ => ?_)
    · refine PJ.iconst (pc := 9) (v := 0) d_M_isRest_9 (by decide) ?_
      exact PJ.done rfl
    · refine PJ.iconst (pc := 5) (v := 1) d_M_isRest_5 (by decide) ?_
      refine PJ.goto (pc := 6) (tgt := 10) d_M_isRest_6 (by decide) ?_
      exact PJ.done rfl
  · show PJ l G (pj_rm 5 0 0) Y_M_isRest 10 [some (.inr (.inr a0)), some (.inl a1), some (.inl a2), some (.inl a3), none, none] [.inl j1] h 0 0 _ _
    refine PJ.istore (pc := 10) (L1 := [some (.inr (.inr a0)), some (.inl a1), some (.inl a2), some (.inl a3), some (.inl j1), none]) d_M_isRest_10 (Nat.le_of_ble_eq_true rfl) rfl rfl ?_
    refine PJ.iload_n (pc := 12) d_M_isRest_12 rfl ?_
    refine PJ.iconst (pc := 13) (v := 2) d_M_isRest_13 (by decide) ?_
    refine PJ.irem (pc := 14) d_M_isRest_14 (fun _ => ?_)
    refine PJ.iconst (pc := 15) (v := 1) d_M_isRest_15 (by decide) ?_
    refine PJ.bind (fun j2 : Int32 => ((24 : Nat), ([some (.inr (.inr a0)), some (.inl a1), some (.inl a2), none, some (.inl j1), none] : List (Option PV)), ([.inl j2] : List PV), (h : PH), (0 : Nat), (0 : Nat))) ?_ (fun j2 => ?_)
    · refine PJ.icmp_ne (pc := 16) (tgt := 23) d_M_isRest_16 (by decide) (fun _ => ?_) (fun _ => ?_)
      · refine PJ.iconst (pc := 23) (v := 0) d_M_isRest_23 (by decide) ?_
        refine PJ.mk (L1 := [some (.inr (.inr a0)), some (.inl a1), some (.inl a2), none, some (.inl j1), none]) [true, true, true, false, true, false] rfl ?_
        exact PJ.done rfl
      · refine PJ.iconst (pc := 19) (v := 1) d_M_isRest_19 (by decide) ?_
        refine PJ.goto (pc := 20) (tgt := 24) d_M_isRest_20 (by decide) ?_
        refine PJ.mk (L1 := [some (.inr (.inr a0)), some (.inl a1), some (.inl a2), none, some (.inl j1), none]) [true, true, true, false, true, false] rfl ?_
        exact PJ.done rfl
    · show PJ l G (pj_rm 5 0 0) Y_M_isRest 24 [some (.inr (.inr a0)), some (.inl a1), some (.inl a2), none, some (.inl j1), none] [.inl j2] h 0 0 _ _
      refine PJ.istore (pc := 24) (L1 := [some (.inr (.inr a0)), some (.inl a1), some (.inl a2), none, some (.inl j1), some (.inl j2)]) d_M_isRest_24 (Nat.le_of_ble_eq_true rfl) rfl rfl ?_
      refine PJ.aload_n (pc := 26) d_M_isRest_26 rfl ?_
      refine PJ.iload_n (pc := 27) d_M_isRest_27 rfl ?_
      refine PJ.iload (pc := 28) d_M_isRest_28 rfl ?_
      refine PJ.bind (fun j3 : Int32 => ((38 : Nat), ([some (.inr (.inr a0)), some (.inl a1), some (.inl a2), none, some (.inl j1), some (.inl j2)] : List (Option PV)), ([.inl j3, .inl a1, .inr (.inr a0)] : List PV), (h : PH), (0 : Nat), (0 : Nat))) ?_ (fun j3 => ?_)
      · refine PJ.if_ne (pc := 30) (tgt := 37) d_M_isRest_30 (by decide) (fun _ => ?_) (fun _ => ?_)
        · refine PJ.iconst (pc := 37) (v := 0) d_M_isRest_37 (by decide) ?_
          exact PJ.done rfl
        · refine PJ.iconst (pc := 33) (v := 1) d_M_isRest_33 (by decide) ?_
          refine PJ.goto (pc := 34) (tgt := 38) d_M_isRest_34 (by decide) ?_
          exact PJ.done rfl
      · show PJ l G (pj_rm 5 0 0) Y_M_isRest 38 [some (.inr (.inr a0)), some (.inl a1), some (.inl a2), none, some (.inl j1), some (.inl j2)] [.inl j3, .inl a1, .inr (.inr a0)] h 0 0 _ _
        refine PJ.iload_n (pc := 38) d_M_isRest_38 rfl ?_
        refine PJ.iload (pc := 39) d_M_isRest_39 rfl ?_
        refine PJ.cVpI (pc := 41) cs_M_504 (fun z hz => PM_M_gets hz) (pj_fitb rfl) rfl rfl (Nat.le_of_ble_eq_true rfl) d_M_isRest_41 (fun v4 => ?_)
        refine PJ.aload_n (pc := 44) d_M_isRest_44 rfl ?_
        refine PJ.iload_n (pc := 45) d_M_isRest_45 rfl ?_
        refine PJ.iload (pc := 46) d_M_isRest_46 rfl ?_
        refine PJ.iload_n (pc := 48) d_M_isRest_48 rfl ?_
        refine PJ.iload (pc := 49) d_M_isRest_49 rfl ?_
        refine PJ.cVpI (pc := 51) cs_M_504 (fun z hz => PM_M_gets hz) (pj_fitb rfl) rfl rfl (Nat.le_of_ble_eq_true rfl) d_M_isRest_51 (fun v5 => ?_)
        refine PJ.icmp_gt (pc := 54) (tgt := 92) d_M_isRest_54 (by decide) (fun _ => ?_) (fun _ => ?_)
        · refine PJ.iconst (pc := 92) (v := 0) d_M_isRest_92 (by decide) ?_
          exact PJ.zretp (pc := 93) d_M_isRest_93 rfl rfl (Nat.le_of_ble_eq_true rfl) (Nat.le_of_ble_eq_true rfl)
        · refine PJ.aload_n (pc := 57) d_M_isRest_57 rfl ?_
          refine PJ.iload_n (pc := 58) d_M_isRest_58 rfl ?_
          refine PJ.iload (pc := 59) d_M_isRest_59 rfl ?_
          refine PJ.bind (fun j6 : Int32 => ((69 : Nat), ([some (.inr (.inr a0)), some (.inl a1), some (.inl a2), none, some (.inl j1), some (.inl j2)] : List (Option PV)), ([.inl j6, .inl a2, .inr (.inr a0)] : List PV), (h : PH), (0 : Nat), (0 : Nat))) ?_ (fun j6 => ?_)
          · refine PJ.if_ne (pc := 61) (tgt := 68) d_M_isRest_61 (by decide) (fun _ => ?_) (fun _ => ?_)
            · refine PJ.iconst (pc := 68) (v := 0) d_M_isRest_68 (by decide) ?_
              exact PJ.done rfl
            · refine PJ.iconst (pc := 64) (v := 1) d_M_isRest_64 (by decide) ?_
              refine PJ.goto (pc := 65) (tgt := 69) d_M_isRest_65 (by decide) ?_
              exact PJ.done rfl
          · show PJ l G (pj_rm 5 0 0) Y_M_isRest 69 [some (.inr (.inr a0)), some (.inl a1), some (.inl a2), none, some (.inl j1), some (.inl j2)] [.inl j6, .inl a2, .inr (.inr a0)] h 0 0 _ _
            refine PJ.iload_n (pc := 69) d_M_isRest_69 rfl ?_
            refine PJ.iload (pc := 70) d_M_isRest_70 rfl ?_
            refine PJ.cVpI (pc := 72) cs_M_504 (fun z hz => PM_M_gets hz) (pj_fitb rfl) rfl rfl (Nat.le_of_ble_eq_true rfl) d_M_isRest_72 (fun v7 => ?_)
            refine PJ.aload_n (pc := 75) d_M_isRest_75 rfl ?_
            refine PJ.iload_n (pc := 76) d_M_isRest_76 rfl ?_
            refine PJ.iload (pc := 77) d_M_isRest_77 rfl ?_
            refine PJ.iload_n (pc := 79) d_M_isRest_79 rfl ?_
            refine PJ.iload (pc := 80) d_M_isRest_80 rfl ?_
            refine PJ.cVpI (pc := 82) cs_M_504 (fun z hz => PM_M_gets hz) (pj_fitb rfl) rfl rfl (Nat.le_of_ble_eq_true rfl) d_M_isRest_82 (fun v8 => ?_)
            refine PJ.icmp_gt (pc := 85) (tgt := 92) d_M_isRest_85 (by decide) (fun _ => ?_) (fun _ => ?_)
            · refine PJ.iconst (pc := 92) (v := 0) d_M_isRest_92 (by decide) ?_
              exact PJ.zretp (pc := 93) d_M_isRest_93 rfl rfl (Nat.le_of_ble_eq_true rfl) (Nat.le_of_ble_eq_true rfl)
            · refine PJ.iconst (pc := 88) (v := 1) d_M_isRest_88 (by decide) ?_
              refine PJ.goto (pc := 89) (tgt := 93) d_M_isRest_89 (by decide) ?_
              exact PJ.zretp (pc := 93) d_M_isRest_93 rfl rfl (Nat.le_of_ble_eq_true rfl) (Nat.le_of_ble_eq_true rfl)
