-- sites and methods: meth
abbrev Y_M_reasonsAt : MI := (⟨"WaverTaxModel", "reasonsAt", "(II)I"⟩, prog_13_method_71_code, 5, (some .int))
abbrev Y_M_reasonsBehind : MI := (⟨"WaverTaxModel", "reasonsBehind", "(III)I"⟩, prog_13_method_72_code, 6, (some .int))
abbrev Y_M_power : MI := (⟨"WaverTaxModel", "power", "(JI)J"⟩, prog_13_method_14_code, 6, (some .long))
abbrev Y_M_behind : MI := (⟨"WaverTaxModel", "behind", "(IIIIIII)J"⟩, prog_13_method_74_code, 15, (some .long))
abbrev Y_M_by : MI := (⟨"WaverTaxModel", "by", "(IIIIIIII)J"⟩, prog_13_method_75_code, 13, (some .long))
abbrev Y_M_bestBy : MI := (⟨"WaverTaxModel", "bestBy", "(IIIIIII)J"⟩, prog_13_method_76_code, 13, (some .long))
abbrev Y_M_plans : MI := (⟨"WaverTaxModel", "plans", "(II)V"⟩, prog_13_method_77_code, 8, (none : Option FieldType))
abbrev Y_M_turnsNow : MI := (⟨"WaverTaxModel", "turnsNow", "(I)I"⟩, prog_13_method_78_code, 2, (some .int))
abbrev Y_M_parts : MI := (⟨"WaverTaxModel", "parts", "(II)J"⟩, prog_13_method_80_code, 3, (some .long))
abbrev Y_M_common : MI := (⟨"WaverTaxModel", "common", "(JJ)J"⟩, prog_13_method_12_code, 10, (some .long))
abbrev Y_M_fraction : MI := (⟨"WaverTaxModel", "fraction", "(JJZ)J"⟩, prog_13_method_13_code, 6, (some .long))
abbrev Y_M_plan : MI := (⟨"WaverTaxModel", "plan", "(IIZ)J"⟩, prog_13_method_81_code, 5, (some .long))
theorem cm_M_reasonsAt : (Cond.code Y_M_reasonsAt.1 Y_M_reasonsAt.2.1 Y_M_reasonsAt.2.2.1 Y_M_reasonsAt.2.2.2 ∈ pj_ws) ∧ (Cond.initialized Y_M_reasonsAt.1.cls ∈ pj_ws) ∧ (Y_M_reasonsAt.1.cls ≠ "java/lang/invoke/MethodHandle" ∧ Y_M_reasonsAt.1.cls ≠ "java/lang/invoke/VarHandle" ∧ (parseMethodDescriptor Y_M_reasonsAt.1.desc).map (fun d => d.parameters.length) = some 2) ∧ (Cond.instanceMethod Y_M_reasonsAt.1 ∈ pj_ws) ∧ (Cond.selects Y_M_reasonsAt.1.cls Y_M_reasonsAt.1 Y_M_reasonsAt.1 ∈ pj_ws) := ⟨pj_mem 1905 (by decide +kernel) rfl, pj_mem 141 (by decide +kernel) rfl, ⟨by decide +kernel, by decide +kernel, by decide +kernel⟩, pj_mem 1904 (by decide +kernel) rfl, pj_mem 96 (by decide +kernel) rfl⟩
theorem cm_M_state : (Cond.code Y_M_state.1 Y_M_state.2.1 Y_M_state.2.2.1 Y_M_state.2.2.2 ∈ pj_ws) ∧ (Cond.initialized Y_M_state.1.cls ∈ pj_ws) ∧ (Y_M_state.1.cls ≠ "java/lang/invoke/MethodHandle" ∧ Y_M_state.1.cls ≠ "java/lang/invoke/VarHandle" ∧ (parseMethodDescriptor Y_M_state.1.desc).map (fun d => d.parameters.length) = some 4) ∧ (Cond.static Y_M_state.1 ∈ pj_ws) := ⟨pj_mem 1884 (by decide +kernel) rfl, pj_mem 141 (by decide +kernel) rfl, ⟨by decide +kernel, by decide +kernel, by decide +kernel⟩, pj_mem 1883 (by decide +kernel) rfl⟩
theorem cm_M_ago : (Cond.code Y_M_ago.1 Y_M_ago.2.1 Y_M_ago.2.2.1 Y_M_ago.2.2.2 ∈ pj_ws) ∧ (Cond.initialized Y_M_ago.1.cls ∈ pj_ws) ∧ (Y_M_ago.1.cls ≠ "java/lang/invoke/MethodHandle" ∧ Y_M_ago.1.cls ≠ "java/lang/invoke/VarHandle" ∧ (parseMethodDescriptor Y_M_ago.1.desc).map (fun d => d.parameters.length) = some 3) ∧ (Cond.instanceMethod Y_M_ago.1 ∈ pj_ws) ∧ (Cond.selects Y_M_ago.1.cls Y_M_ago.1 Y_M_ago.1 ∈ pj_ws) := ⟨pj_mem 1896 (by decide +kernel) rfl, pj_mem 141 (by decide +kernel) rfl, ⟨by decide +kernel, by decide +kernel, by decide +kernel⟩, pj_mem 1895 (by decide +kernel) rfl, pj_mem 94 (by decide +kernel) rfl⟩
theorem cm_M_reasonsBehind : (Cond.code Y_M_reasonsBehind.1 Y_M_reasonsBehind.2.1 Y_M_reasonsBehind.2.2.1 Y_M_reasonsBehind.2.2.2 ∈ pj_ws) ∧ (Cond.initialized Y_M_reasonsBehind.1.cls ∈ pj_ws) ∧ (Y_M_reasonsBehind.1.cls ≠ "java/lang/invoke/MethodHandle" ∧ Y_M_reasonsBehind.1.cls ≠ "java/lang/invoke/VarHandle" ∧ (parseMethodDescriptor Y_M_reasonsBehind.1.desc).map (fun d => d.parameters.length) = some 3) ∧ (Cond.instanceMethod Y_M_reasonsBehind.1 ∈ pj_ws) ∧ (Cond.selects Y_M_reasonsBehind.1.cls Y_M_reasonsBehind.1 Y_M_reasonsBehind.1 ∈ pj_ws) := ⟨pj_mem 1901 (by decide +kernel) rfl, pj_mem 141 (by decide +kernel) rfl, ⟨by decide +kernel, by decide +kernel, by decide +kernel⟩, pj_mem 1900 (by decide +kernel) rfl, pj_mem 95 (by decide +kernel) rfl⟩
theorem cm_M_power : (Cond.code Y_M_power.1 Y_M_power.2.1 Y_M_power.2.2.1 Y_M_power.2.2.2 ∈ pj_ws) ∧ (Cond.initialized Y_M_power.1.cls ∈ pj_ws) ∧ (Y_M_power.1.cls ≠ "java/lang/invoke/MethodHandle" ∧ Y_M_power.1.cls ≠ "java/lang/invoke/VarHandle" ∧ (parseMethodDescriptor Y_M_power.1.desc).map (fun d => d.parameters.length) = some 2) ∧ (Cond.static Y_M_power.1 ∈ pj_ws) := ⟨pj_mem 1908 (by decide +kernel) rfl, pj_mem 141 (by decide +kernel) rfl, ⟨by decide +kernel, by decide +kernel, by decide +kernel⟩, pj_mem 1907 (by decide +kernel) rfl⟩
theorem cm_M_behind : (Cond.code Y_M_behind.1 Y_M_behind.2.1 Y_M_behind.2.2.1 Y_M_behind.2.2.2 ∈ pj_ws) ∧ (Cond.initialized Y_M_behind.1.cls ∈ pj_ws) ∧ (Y_M_behind.1.cls ≠ "java/lang/invoke/MethodHandle" ∧ Y_M_behind.1.cls ≠ "java/lang/invoke/VarHandle" ∧ (parseMethodDescriptor Y_M_behind.1.desc).map (fun d => d.parameters.length) = some 7) ∧ (Cond.instanceMethod Y_M_behind.1 ∈ pj_ws) ∧ (Cond.selects Y_M_behind.1.cls Y_M_behind.1 Y_M_behind.1 ∈ pj_ws) := ⟨pj_mem 1912 (by decide +kernel) rfl, pj_mem 141 (by decide +kernel) rfl, ⟨by decide +kernel, by decide +kernel, by decide +kernel⟩, pj_mem 1911 (by decide +kernel) rfl, pj_mem 97 (by decide +kernel) rfl⟩
theorem cm_M_by : (Cond.code Y_M_by.1 Y_M_by.2.1 Y_M_by.2.2.1 Y_M_by.2.2.2 ∈ pj_ws) ∧ (Cond.initialized Y_M_by.1.cls ∈ pj_ws) ∧ (Y_M_by.1.cls ≠ "java/lang/invoke/MethodHandle" ∧ Y_M_by.1.cls ≠ "java/lang/invoke/VarHandle" ∧ (parseMethodDescriptor Y_M_by.1.desc).map (fun d => d.parameters.length) = some 8) ∧ (Cond.instanceMethod Y_M_by.1 ∈ pj_ws) ∧ (Cond.selects Y_M_by.1.cls Y_M_by.1 Y_M_by.1 ∈ pj_ws) := ⟨pj_mem 1892 (by decide +kernel) rfl, pj_mem 141 (by decide +kernel) rfl, ⟨by decide +kernel, by decide +kernel, by decide +kernel⟩, pj_mem 1891 (by decide +kernel) rfl, pj_mem 93 (by decide +kernel) rfl⟩
theorem cm_M_bestBy : (Cond.code Y_M_bestBy.1 Y_M_bestBy.2.1 Y_M_bestBy.2.2.1 Y_M_bestBy.2.2.2 ∈ pj_ws) ∧ (Cond.initialized Y_M_bestBy.1.cls ∈ pj_ws) ∧ (Y_M_bestBy.1.cls ≠ "java/lang/invoke/MethodHandle" ∧ Y_M_bestBy.1.cls ≠ "java/lang/invoke/VarHandle" ∧ (parseMethodDescriptor Y_M_bestBy.1.desc).map (fun d => d.parameters.length) = some 7) ∧ (Cond.instanceMethod Y_M_bestBy.1 ∈ pj_ws) ∧ (Cond.selects Y_M_bestBy.1.cls Y_M_bestBy.1 Y_M_bestBy.1 ∈ pj_ws) := ⟨pj_mem 1888 (by decide +kernel) rfl, pj_mem 141 (by decide +kernel) rfl, ⟨by decide +kernel, by decide +kernel, by decide +kernel⟩, pj_mem 1887 (by decide +kernel) rfl, pj_mem 92 (by decide +kernel) rfl⟩
theorem cm_M_refusesPlan : (Cond.code Y_M_refusesPlan.1 Y_M_refusesPlan.2.1 Y_M_refusesPlan.2.2.1 Y_M_refusesPlan.2.2.2 ∈ pj_ws) ∧ (Cond.initialized Y_M_refusesPlan.1.cls ∈ pj_ws) ∧ (Y_M_refusesPlan.1.cls ≠ "java/lang/invoke/MethodHandle" ∧ Y_M_refusesPlan.1.cls ≠ "java/lang/invoke/VarHandle" ∧ (parseMethodDescriptor Y_M_refusesPlan.1.desc).map (fun d => d.parameters.length) = some 2) ∧ (Cond.instanceMethod Y_M_refusesPlan.1 ∈ pj_ws) ∧ (Cond.selects Y_M_refusesPlan.1.cls Y_M_refusesPlan.1 Y_M_refusesPlan.1 ∈ pj_ws) := ⟨pj_mem 1872 (by decide +kernel) rfl, pj_mem 141 (by decide +kernel) rfl, ⟨by decide +kernel, by decide +kernel, by decide +kernel⟩, pj_mem 1871 (by decide +kernel) rfl, pj_mem 89 (by decide +kernel) rfl⟩
theorem cm_M_never : (Cond.code Y_M_never.1 Y_M_never.2.1 Y_M_never.2.2.1 Y_M_never.2.2.2 ∈ pj_ws) ∧ (Cond.initialized Y_M_never.1.cls ∈ pj_ws) ∧ (Y_M_never.1.cls ≠ "java/lang/invoke/MethodHandle" ∧ Y_M_never.1.cls ≠ "java/lang/invoke/VarHandle" ∧ (parseMethodDescriptor Y_M_never.1.desc).map (fun d => d.parameters.length) = some 1) ∧ (Cond.instanceMethod Y_M_never.1 ∈ pj_ws) ∧ (Cond.selects Y_M_never.1.cls Y_M_never.1 Y_M_never.1 ∈ pj_ws) := ⟨pj_mem 1876 (by decide +kernel) rfl, pj_mem 141 (by decide +kernel) rfl, ⟨by decide +kernel, by decide +kernel, by decide +kernel⟩, pj_mem 1875 (by decide +kernel) rfl, pj_mem 90 (by decide +kernel) rfl⟩
theorem cm_M_plans : (Cond.code Y_M_plans.1 Y_M_plans.2.1 Y_M_plans.2.2.1 Y_M_plans.2.2.2 ∈ pj_ws) ∧ (Cond.initialized Y_M_plans.1.cls ∈ pj_ws) ∧ (Y_M_plans.1.cls ≠ "java/lang/invoke/MethodHandle" ∧ Y_M_plans.1.cls ≠ "java/lang/invoke/VarHandle" ∧ (parseMethodDescriptor Y_M_plans.1.desc).map (fun d => d.parameters.length) = some 2) ∧ (Cond.instanceMethod Y_M_plans.1 ∈ pj_ws) ∧ (Cond.selects Y_M_plans.1.cls Y_M_plans.1 Y_M_plans.1 ∈ pj_ws) := ⟨pj_mem 1881 (by decide +kernel) rfl, pj_mem 141 (by decide +kernel) rfl, ⟨by decide +kernel, by decide +kernel, by decide +kernel⟩, pj_mem 1880 (by decide +kernel) rfl, pj_mem 91 (by decide +kernel) rfl⟩
theorem cm_M_turnsNow : (Cond.code Y_M_turnsNow.1 Y_M_turnsNow.2.1 Y_M_turnsNow.2.2.1 Y_M_turnsNow.2.2.2 ∈ pj_ws) ∧ (Cond.initialized Y_M_turnsNow.1.cls ∈ pj_ws) ∧ (Y_M_turnsNow.1.cls ≠ "java/lang/invoke/MethodHandle" ∧ Y_M_turnsNow.1.cls ≠ "java/lang/invoke/VarHandle" ∧ (parseMethodDescriptor Y_M_turnsNow.1.desc).map (fun d => d.parameters.length) = some 1) ∧ (Cond.instanceMethod Y_M_turnsNow.1 ∈ pj_ws) ∧ (Cond.selects Y_M_turnsNow.1.cls Y_M_turnsNow.1 Y_M_turnsNow.1 ∈ pj_ws) := ⟨pj_mem 1916 (by decide +kernel) rfl, pj_mem 141 (by decide +kernel) rfl, ⟨by decide +kernel, by decide +kernel, by decide +kernel⟩, pj_mem 1915 (by decide +kernel) rfl, pj_mem 98 (by decide +kernel) rfl⟩
theorem cm_M_parts : (Cond.code Y_M_parts.1 Y_M_parts.2.1 Y_M_parts.2.2.1 Y_M_parts.2.2.2 ∈ pj_ws) ∧ (Cond.initialized Y_M_parts.1.cls ∈ pj_ws) ∧ (Y_M_parts.1.cls ≠ "java/lang/invoke/MethodHandle" ∧ Y_M_parts.1.cls ≠ "java/lang/invoke/VarHandle" ∧ (parseMethodDescriptor Y_M_parts.1.desc).map (fun d => d.parameters.length) = some 2) ∧ (Cond.instanceMethod Y_M_parts.1 ∈ pj_ws) ∧ (Cond.selects Y_M_parts.1.cls Y_M_parts.1 Y_M_parts.1 ∈ pj_ws) := ⟨pj_mem 1920 (by decide +kernel) rfl, pj_mem 141 (by decide +kernel) rfl, ⟨by decide +kernel, by decide +kernel, by decide +kernel⟩, pj_mem 1919 (by decide +kernel) rfl, pj_mem 99 (by decide +kernel) rfl⟩
theorem cm_M_fraction : (Cond.code Y_M_fraction.1 Y_M_fraction.2.1 Y_M_fraction.2.2.1 Y_M_fraction.2.2.2 ∈ pj_ws) ∧ (Cond.initialized Y_M_fraction.1.cls ∈ pj_ws) ∧ (Y_M_fraction.1.cls ≠ "java/lang/invoke/MethodHandle" ∧ Y_M_fraction.1.cls ≠ "java/lang/invoke/VarHandle" ∧ (parseMethodDescriptor Y_M_fraction.1.desc).map (fun d => d.parameters.length) = some 3) ∧ (Cond.instanceMethod Y_M_fraction.1 ∈ pj_ws) ∧ (Cond.selects Y_M_fraction.1.cls Y_M_fraction.1 Y_M_fraction.1 ∈ pj_ws) := ⟨pj_mem 1924 (by decide +kernel) rfl, pj_mem 141 (by decide +kernel) rfl, ⟨by decide +kernel, by decide +kernel, by decide +kernel⟩, pj_mem 1923 (by decide +kernel) rfl, pj_mem 100 (by decide +kernel) rfl⟩
theorem cm_M_common : (Cond.code Y_M_common.1 Y_M_common.2.1 Y_M_common.2.2.1 Y_M_common.2.2.2 ∈ pj_ws) ∧ (Cond.initialized Y_M_common.1.cls ∈ pj_ws) ∧ (Y_M_common.1.cls ≠ "java/lang/invoke/MethodHandle" ∧ Y_M_common.1.cls ≠ "java/lang/invoke/VarHandle" ∧ (parseMethodDescriptor Y_M_common.1.desc).map (fun d => d.parameters.length) = some 2) ∧ (Cond.static Y_M_common.1 ∈ pj_ws) := ⟨pj_mem 1927 (by decide +kernel) rfl, pj_mem 141 (by decide +kernel) rfl, ⟨by decide +kernel, by decide +kernel, by decide +kernel⟩, pj_mem 1926 (by decide +kernel) rfl⟩
theorem cs_M_391 : pj_cV "WaverTaxModel" 391 Y_M_reasonsAt 2 12 := ⟨⟨cm_M_reasonsAt.1, cm_M_reasonsAt.2.1, cm_M_reasonsAt.2.2.1, Or.inl (pj_mem 1902 (by decide +kernel) rfl)⟩, by decide, cm_M_reasonsAt.2.2.2.1, cm_M_reasonsAt.2.2.2.2, ⟨_, rfl, rfl⟩⟩
theorem cs_M_394 : pj_cS "WaverTaxModel" 394 Y_M_state 4 := ⟨⟨cm_M_state.1, cm_M_state.2.1, cm_M_state.2.2.1, Or.inl (pj_mem 1882 (by decide +kernel) rfl)⟩, cm_M_state.2.2.2⟩
theorem cs_M_398 : pj_cV "WaverTaxModel" 398 Y_M_ago 3 12 := ⟨⟨cm_M_ago.1, cm_M_ago.2.1, cm_M_ago.2.2.1, Or.inl (pj_mem 1893 (by decide +kernel) rfl)⟩, by decide, cm_M_ago.2.2.2.1, cm_M_ago.2.2.2.2, ⟨_, rfl, rfl⟩⟩
theorem cs_M_403 : pj_cV "WaverTaxModel" 403 Y_M_reasonsBehind 3 12 := ⟨⟨cm_M_reasonsBehind.1, cm_M_reasonsBehind.2.1, cm_M_reasonsBehind.2.2.1, Or.inl (pj_mem 1898 (by decide +kernel) rfl)⟩, by decide, cm_M_reasonsBehind.2.2.2.1, cm_M_reasonsBehind.2.2.2.2, ⟨_, rfl, rfl⟩⟩
theorem cs_M_406 : pj_cS "WaverTaxModel" 406 Y_M_power 2 := ⟨⟨cm_M_power.1, cm_M_power.2.1, cm_M_power.2.2.1, Or.inl (pj_mem 1906 (by decide +kernel) rfl)⟩, cm_M_power.2.2.2⟩
theorem cs_M_410 : pj_cV "WaverTaxModel" 410 Y_M_behind 7 12 := ⟨⟨cm_M_behind.1, cm_M_behind.2.1, cm_M_behind.2.2.1, Or.inl (pj_mem 1909 (by decide +kernel) rfl)⟩, by decide, cm_M_behind.2.2.2.1, cm_M_behind.2.2.2.2, ⟨_, rfl, rfl⟩⟩
theorem cs_M_414 : pj_cV "WaverTaxModel" 414 Y_M_by 8 12 := ⟨⟨cm_M_by.1, cm_M_by.2.1, cm_M_by.2.2.1, Or.inl (pj_mem 1889 (by decide +kernel) rfl)⟩, by decide, cm_M_by.2.2.2.1, cm_M_by.2.2.2.2, ⟨_, rfl, rfl⟩⟩
theorem cs_M_420 : pj_cV "WaverTaxModel" 420 Y_M_bestBy 7 12 := ⟨⟨cm_M_bestBy.1, cm_M_bestBy.2.1, cm_M_bestBy.2.2.1, Or.inl (pj_mem 1885 (by decide +kernel) rfl)⟩, by decide, cm_M_bestBy.2.2.2.1, cm_M_bestBy.2.2.2.2, ⟨_, rfl, rfl⟩⟩
theorem cs_M_423 : pj_cV "WaverTaxModel" 423 Y_M_refusesPlan 2 12 := ⟨⟨cm_M_refusesPlan.1, cm_M_refusesPlan.2.1, cm_M_refusesPlan.2.2.1, Or.inl (pj_mem 1869 (by decide +kernel) rfl)⟩, by decide, cm_M_refusesPlan.2.2.2.1, cm_M_refusesPlan.2.2.2.2, ⟨_, rfl, rfl⟩⟩
theorem cs_M_426 : pj_cV "WaverTaxModel" 426 Y_M_never 1 12 := ⟨⟨cm_M_never.1, cm_M_never.2.1, cm_M_never.2.2.1, Or.inl (pj_mem 1873 (by decide +kernel) rfl)⟩, by decide, cm_M_never.2.2.2.1, cm_M_never.2.2.2.2, ⟨_, rfl, rfl⟩⟩
theorem cs_M_430 : pj_cV "WaverTaxModel" 430 Y_M_plans 2 12 := ⟨⟨cm_M_plans.1, cm_M_plans.2.1, cm_M_plans.2.2.1, Or.inl (pj_mem 1878 (by decide +kernel) rfl)⟩, by decide, cm_M_plans.2.2.2.1, cm_M_plans.2.2.2.2, ⟨_, rfl, rfl⟩⟩
theorem cs_M_433 : pj_cV "WaverTaxModel" 433 Y_M_turnsNow 1 12 := ⟨⟨cm_M_turnsNow.1, cm_M_turnsNow.2.1, cm_M_turnsNow.2.2.1, Or.inl (pj_mem 1913 (by decide +kernel) rfl)⟩, by decide, cm_M_turnsNow.2.2.2.1, cm_M_turnsNow.2.2.2.2, ⟨_, rfl, rfl⟩⟩
theorem cs_M_436 : pj_cV "WaverTaxModel" 436 Y_M_parts 2 12 := ⟨⟨cm_M_parts.1, cm_M_parts.2.1, cm_M_parts.2.2.1, Or.inl (pj_mem 1917 (by decide +kernel) rfl)⟩, by decide, cm_M_parts.2.2.2.1, cm_M_parts.2.2.2.2, ⟨_, rfl, rfl⟩⟩
theorem cs_M_440 : pj_cV "WaverTaxModel" 440 Y_M_fraction 3 12 := ⟨⟨cm_M_fraction.1, cm_M_fraction.2.1, cm_M_fraction.2.2.1, Or.inl (pj_mem 1921 (by decide +kernel) rfl)⟩, by decide, cm_M_fraction.2.2.2.1, cm_M_fraction.2.2.2.2, ⟨_, rfl, rfl⟩⟩
theorem cs_M_61 : pj_cS "WaverTaxModel" 61 Y_M_common 2 := ⟨⟨cm_M_common.1, cm_M_common.2.1, cm_M_common.2.2.1, Or.inl (pj_mem 1925 (by decide +kernel) rfl)⟩, cm_M_common.2.2.2⟩
theorem fs_M_33 : pj_fs "WaverTaxModel" 12 23 33 (.array (.long)) := ⟨_, _, _, _, cd_12, by decide, rfl, Or.inl (pj_mem 1410 (by decide +kernel) rfl)⟩
theorem ps_M_417 {mn : String} : pj_ps "WaverTaxModel" mn 12 24 417 (.int) := ⟨_, _, _, _, cd_12, by decide, rfl, Or.inl ⟨rfl, Or.inl (pj_mem 1411 (by decide +kernel) rfl)⟩⟩
theorem wd_1897 : (Jvm.Cond.constantLong "WaverTaxModel" (401 : Nat) (100 : Int64)) ∈ pj_ws := pj_mem 1897 (by decide +kernel) rfl
theorem d_M_reasonsAt_0 : decode Y_M_reasonsAt.2.1 0 = .ok (.iconst 0, 1) := by decide +kernel
theorem d_M_reasonsAt_1 : decode Y_M_reasonsAt.2.1 1 = .ok (.istore_n 3, 1) := by decide +kernel
theorem d_M_reasonsAt_2 : decode Y_M_reasonsAt.2.1 2 = .ok (.iconst 0, 1) := by decide +kernel
theorem d_M_reasonsAt_3 : decode Y_M_reasonsAt.2.1 3 = .ok (.istore 4, 2) := by decide +kernel
theorem d_M_reasonsAt_5 : decode Y_M_reasonsAt.2.1 5 = .ok (.iload 4, 2) := by decide +kernel
theorem d_M_reasonsAt_7 : decode Y_M_reasonsAt.2.1 7 = .ok (.aload_n 0, 1) := by decide +kernel
theorem d_M_reasonsAt_8 : decode Y_M_reasonsAt.2.1 8 = .ok (.getfield 341, 3) := by decide +kernel
theorem d_M_reasonsAt_11 : decode Y_M_reasonsAt.2.1 11 = .ok (.getfield 280, 3) := by decide +kernel
theorem d_M_reasonsAt_14 : decode Y_M_reasonsAt.2.1 14 = .ok (.if_icmp .ge 56, 3) := by decide +kernel
theorem d_M_reasonsAt_17 : decode Y_M_reasonsAt.2.1 17 = .ok (.iload_n 3, 1) := by decide +kernel
theorem d_M_reasonsAt_18 : decode Y_M_reasonsAt.2.1 18 = .ok (.aload_n 0, 1) := by decide +kernel
theorem d_M_reasonsAt_19 : decode Y_M_reasonsAt.2.1 19 = .ok (.getfield 341, 3) := by decide +kernel
theorem d_M_reasonsAt_22 : decode Y_M_reasonsAt.2.1 22 = .ok (.getfield 289, 3) := by decide +kernel
theorem d_M_reasonsAt_25 : decode Y_M_reasonsAt.2.1 25 = .ok (.iload 4, 2) := by decide +kernel
theorem d_M_reasonsAt_27 : decode Y_M_reasonsAt.2.1 27 = .ok (.iaload, 1) := by decide +kernel
theorem d_M_reasonsAt_28 : decode Y_M_reasonsAt.2.1 28 = .ok (.iload_n 1, 1) := by decide +kernel
theorem d_M_reasonsAt_29 : decode Y_M_reasonsAt.2.1 29 = .ok (.if_icmp .ne 32, 3) := by decide +kernel
theorem d_M_reasonsAt_32 : decode Y_M_reasonsAt.2.1 32 = .ok (.aload_n 0, 1) := by decide +kernel
theorem d_M_reasonsAt_33 : decode Y_M_reasonsAt.2.1 33 = .ok (.getfield 341, 3) := by decide +kernel
theorem d_M_reasonsAt_36 : decode Y_M_reasonsAt.2.1 36 = .ok (.getfield 295, 3) := by decide +kernel
theorem d_M_reasonsAt_39 : decode Y_M_reasonsAt.2.1 39 = .ok (.iload 4, 2) := by decide +kernel
theorem d_M_reasonsAt_41 : decode Y_M_reasonsAt.2.1 41 = .ok (.iaload, 1) := by decide +kernel
theorem d_M_reasonsAt_42 : decode Y_M_reasonsAt.2.1 42 = .ok (.aload_n 0, 1) := by decide +kernel
theorem d_M_reasonsAt_43 : decode Y_M_reasonsAt.2.1 43 = .ok (.getfield 17, 3) := by decide +kernel
theorem d_M_reasonsAt_46 : decode Y_M_reasonsAt.2.1 46 = .ok (.bipush 21, 2) := by decide +kernel
theorem d_M_reasonsAt_48 : decode Y_M_reasonsAt.2.1 48 = .ok (.iaload, 1) := by decide +kernel
theorem d_M_reasonsAt_49 : decode Y_M_reasonsAt.2.1 49 = .ok (.iload_n 2, 1) := by decide +kernel
theorem d_M_reasonsAt_50 : decode Y_M_reasonsAt.2.1 50 = .ok (.iadd, 1) := by decide +kernel
theorem d_M_reasonsAt_51 : decode Y_M_reasonsAt.2.1 51 = .ok (.if_icmp .ne 10, 3) := by decide +kernel
theorem d_M_reasonsAt_54 : decode Y_M_reasonsAt.2.1 54 = .ok (.iconst 1, 1) := by decide +kernel
theorem d_M_reasonsAt_55 : decode Y_M_reasonsAt.2.1 55 = .ok (.iload 4, 2) := by decide +kernel
theorem d_M_reasonsAt_57 : decode Y_M_reasonsAt.2.1 57 = .ok (.ishl, 1) := by decide +kernel
theorem d_M_reasonsAt_58 : decode Y_M_reasonsAt.2.1 58 = .ok (.goto 4, 3) := by decide +kernel
theorem d_M_reasonsAt_61 : decode Y_M_reasonsAt.2.1 61 = .ok (.iconst 0, 1) := by decide +kernel
theorem d_M_reasonsAt_62 : decode Y_M_reasonsAt.2.1 62 = .ok (.ior, 1) := by decide +kernel
theorem d_M_reasonsAt_63 : decode Y_M_reasonsAt.2.1 63 = .ok (.istore_n 3, 1) := by decide +kernel
theorem d_M_reasonsAt_64 : decode Y_M_reasonsAt.2.1 64 = .ok (.iinc 4 1, 3) := by decide +kernel
theorem d_M_reasonsAt_67 : decode Y_M_reasonsAt.2.1 67 = .ok (.goto (-62), 3) := by decide +kernel
theorem d_M_reasonsAt_70 : decode Y_M_reasonsAt.2.1 70 = .ok (.iload_n 3, 1) := by decide +kernel
theorem d_M_reasonsAt_71 : decode Y_M_reasonsAt.2.1 71 = .ok (.ireturn, 1) := by decide +kernel
def f_M_reasonsAt (h : PH) (a0 : Option Nat) (a1 : Int32) (a2 : Int32) : Option Int32 := (pj_it (X := Int32) (fun s1 : Int32 × Int32 => (gR h 12 a0 3).bind fun v3 => (gI h 11 v3 5).bind fun v4 => if v4 ≤ s1.2 then (some (.inr s1.1)) else ((gR h 12 a0 3).bind fun v5 => (gR h 11 v5 14).bind fun v6 => (aI h v6 s1.2).bind fun v7 => (if ¬ v7 = a1 then (some (0 : Int32)) else ((gR h 12 a0 3).bind fun v9 => (gR h 11 v9 16).bind fun v10 => (aI h v10 s1.2).bind fun v11 => (gR h 12 a0 15).bind fun v12 => (aI h v12 (21 : Int32)).bind fun v13 => if ¬ v11 = (v13 + a2) then (some (0 : Int32)) else (some ((1 : Int32) <<< (s1.2 &&& 31)))) : Option (Int32)).bind fun j8 => some (.inl ((s1.1 ||| j8), (s1.2 + (1 : Int32)))))) FU ((0 : Int32), (0 : Int32))).bind fun x2 => some x2
set_option maxRecDepth 20000 in
theorem PM_M_reasonsAt {l : Launch} {G : Cx} {h : PH} {a0 : Option Nat} {a1 : Int32} {a2 : Int32} {z : Int32} (hz : f_M_reasonsAt h a0 a1 a2 = some z) : PM l G 1 0 0 Y_M_reasonsAt [.inr (.inr a0), .inl a1, .inl a2] h (some (.inl z), h) := by
  refine PM.of (Y := Y_M_reasonsAt) (cv := (fun z : Int32 => (((some (.inl z), h) : Option PV × PH)))) (by decide) (L0 := [some (.inr (.inr a0)), some (.inl a1), some (.inl a2), none, none]) 2 rfl (Nat.le_of_ble_eq_true rfl) ?_ hz
  unfold f_M_reasonsAt
  refine PJ.iconst (pc := 0) (v := 0) d_M_reasonsAt_0 (by decide) ?_
  refine PJ.istore_n (pc := 1) (L1 := [some (.inr (.inr a0)), some (.inl a1), some (.inl a2), some (.inl (0 : Int32)), none]) d_M_reasonsAt_1 (Nat.le_of_ble_eq_true rfl) rfl rfl ?_
  refine PJ.iconst (pc := 2) (v := 0) d_M_reasonsAt_2 (by decide) ?_
  refine PJ.istore (pc := 3) (L1 := [some (.inr (.inr a0)), some (.inl a1), some (.inl a2), some (.inl (0 : Int32)), some (.inl (0 : Int32))]) d_M_reasonsAt_3 (Nat.le_of_ble_eq_true rfl) rfl rfl ?_
  refine PJ.bind (fun x2 : Int32 => ((70 : Nat), ([none, none, none, some (.inl x2), none] : List (Option PV)), ([] : List PV), (h : PH), (0 : Nat), (0 : Nat))) (PJ.it (E := (fun s1 : Int32 × Int32 => ((5 : Nat), ([some (.inr (.inr a0)), some (.inl a1), some (.inl a2), some (.inl s1.1), some (.inl s1.2)] : List (Option PV)), ([] : List PV), (h : PH), (0 : Nat), (0 : Nat)))) (F := (fun x2 : Int32 => ((70 : Nat), ([none, none, none, some (.inl x2), none] : List (Option PV)), ([] : List PV), (h : PH), (0 : Nat), (0 : Nat)))) (fun s1 => ?_) FU ((0 : Int32), (0 : Int32))) (fun x2 => ?_)
  · show PJ l G (pj_rm 1 0 0) Y_M_reasonsAt 5 [some (.inr (.inr a0)), some (.inl a1), some (.inl a2), some (.inl s1.1), some (.inl s1.2)] [] h 0 0 _ _
    refine PJ.iload (pc := 5) d_M_reasonsAt_5 rfl ?_
    refine PJ.aload_n (pc := 7) d_M_reasonsAt_7 rfl ?_
    refine PJ.getR (pc := 8) fs_M_341 d_M_reasonsAt_8 (fun v3 => ?_)
    refine PJ.getI (pc := 11) fs_M_280 d_M_reasonsAt_11 (fun v4 => ?_)
    refine PJ.icmp_ge (pc := 14) (tgt := 70) d_M_reasonsAt_14 (by decide) (fun _ => ?_) (fun _ => ?_)
    · refine PJ.mk (L1 := [none, none, none, some (.inl s1.1), none]) [false, false, false, true, false] rfl ?_
      exact PJ.done rfl
    · refine PJ.iload_n (pc := 17) d_M_reasonsAt_17 rfl ?_
      refine PJ.aload_n (pc := 18) d_M_reasonsAt_18 rfl ?_
      refine PJ.getR (pc := 19) fs_M_341 d_M_reasonsAt_19 (fun v5 => ?_)
      refine PJ.getR (pc := 22) fs_M_289 d_M_reasonsAt_22 (fun v6 => ?_)
      refine PJ.iload (pc := 25) d_M_reasonsAt_25 rfl ?_
      refine PJ.iald (pc := 27) d_M_reasonsAt_27 (fun v7 => ?_)
      refine PJ.iload_n (pc := 28) d_M_reasonsAt_28 rfl ?_
      refine PJ.bind (fun j8 : Int32 => ((62 : Nat), ([some (.inr (.inr a0)), some (.inl a1), some (.inl a2), none, some (.inl s1.2)] : List (Option PV)), ([.inl j8, .inl s1.1] : List PV), (h : PH), (0 : Nat), (0 : Nat))) ?_ (fun j8 => ?_)
      · refine PJ.icmp_ne (pc := 29) (tgt := 61) d_M_reasonsAt_29 (by decide) (fun _ => ?_) (fun _ => ?_)
        · refine PJ.iconst (pc := 61) (v := 0) d_M_reasonsAt_61 (by decide) ?_
          refine PJ.mk (L1 := [some (.inr (.inr a0)), some (.inl a1), some (.inl a2), none, some (.inl s1.2)]) [true, true, true, false, true] rfl ?_
          exact PJ.done rfl
        · refine PJ.aload_n (pc := 32) d_M_reasonsAt_32 rfl ?_
          refine PJ.getR (pc := 33) fs_M_341 d_M_reasonsAt_33 (fun v9 => ?_)
          refine PJ.getR (pc := 36) fs_M_295 d_M_reasonsAt_36 (fun v10 => ?_)
          refine PJ.iload (pc := 39) d_M_reasonsAt_39 rfl ?_
          refine PJ.iald (pc := 41) d_M_reasonsAt_41 (fun v11 => ?_)
          refine PJ.aload_n (pc := 42) d_M_reasonsAt_42 rfl ?_
          refine PJ.getR (pc := 43) fs_M_17 d_M_reasonsAt_43 (fun v12 => ?_)
          refine PJ.bipush (pc := 46) (v := 21) d_M_reasonsAt_46 (by decide) ?_
          refine PJ.iald (pc := 48) d_M_reasonsAt_48 (fun v13 => ?_)
          refine PJ.iload_n (pc := 49) d_M_reasonsAt_49 rfl ?_
          refine PJ.iadd (pc := 50) d_M_reasonsAt_50 ?_
          refine PJ.icmp_ne (pc := 51) (tgt := 61) d_M_reasonsAt_51 (by decide) (fun _ => ?_) (fun _ => ?_)
          · refine PJ.iconst (pc := 61) (v := 0) d_M_reasonsAt_61 (by decide) ?_
            refine PJ.mk (L1 := [some (.inr (.inr a0)), some (.inl a1), some (.inl a2), none, some (.inl s1.2)]) [true, true, true, false, true] rfl ?_
            exact PJ.done rfl
          · refine PJ.iconst (pc := 54) (v := 1) d_M_reasonsAt_54 (by decide) ?_
            refine PJ.iload (pc := 55) d_M_reasonsAt_55 rfl ?_
            refine PJ.ishl (pc := 57) d_M_reasonsAt_57 ?_
            refine PJ.goto (pc := 58) (tgt := 62) d_M_reasonsAt_58 (by decide) ?_
            refine PJ.mk (L1 := [some (.inr (.inr a0)), some (.inl a1), some (.inl a2), none, some (.inl s1.2)]) [true, true, true, false, true] rfl ?_
            exact PJ.done rfl
      · show PJ l G (pj_rm 1 0 0) Y_M_reasonsAt 62 [some (.inr (.inr a0)), some (.inl a1), some (.inl a2), none, some (.inl s1.2)] [.inl j8, .inl s1.1] h 0 0 _ _
        refine PJ.ior (pc := 62) d_M_reasonsAt_62 ?_
        refine PJ.istore_n (pc := 63) (L1 := [some (.inr (.inr a0)), some (.inl a1), some (.inl a2), some (.inl (s1.1 ||| j8)), some (.inl s1.2)]) d_M_reasonsAt_63 (Nat.le_of_ble_eq_true rfl) rfl rfl ?_
        refine PJ.iinc (pc := 64) (v := 1) (L1 := [some (.inr (.inr a0)), some (.inl a1), some (.inl a2), some (.inl (s1.1 ||| j8)), some (.inl (s1.2 + (1 : Int32)))]) d_M_reasonsAt_64 rfl (by decide) (Nat.le_of_ble_eq_true rfl) rfl rfl ?_
        refine PJ.goto (pc := 67) (tgt := 5) d_M_reasonsAt_67 (by decide) ?_
        exact PJ.done rfl
  · show PJ l G (pj_rm 1 0 0) Y_M_reasonsAt 70 [none, none, none, some (.inl x2), none] [] h 0 0 _ _
    refine PJ.iload_n (pc := 70) d_M_reasonsAt_70 rfl ?_
    exact PJ.iretp (pc := 71) d_M_reasonsAt_71 rfl (Nat.le_of_ble_eq_true rfl) (Nat.le_of_ble_eq_true rfl)
theorem d_M_reasonsBehind_0 : decode Y_M_reasonsBehind.2.1 0 = .ok (.iconst 0, 1) := by decide +kernel
theorem d_M_reasonsBehind_1 : decode Y_M_reasonsBehind.2.1 1 = .ok (.istore 4, 2) := by decide +kernel
theorem d_M_reasonsBehind_3 : decode Y_M_reasonsBehind.2.1 3 = .ok (.iload_n 2, 1) := by decide +kernel
theorem d_M_reasonsBehind_4 : decode Y_M_reasonsBehind.2.1 4 = .ok (.iconst 1, 1) := by decide +kernel
theorem d_M_reasonsBehind_5 : decode Y_M_reasonsBehind.2.1 5 = .ok (.iadd, 1) := by decide +kernel
theorem d_M_reasonsBehind_6 : decode Y_M_reasonsBehind.2.1 6 = .ok (.istore 5, 2) := by decide +kernel
theorem d_M_reasonsBehind_8 : decode Y_M_reasonsBehind.2.1 8 = .ok (.iload 5, 2) := by decide +kernel
theorem d_M_reasonsBehind_10 : decode Y_M_reasonsBehind.2.1 10 = .ok (.iload_n 3, 1) := by decide +kernel
theorem d_M_reasonsBehind_11 : decode Y_M_reasonsBehind.2.1 11 = .ok (.if_icmp .ge 24, 3) := by decide +kernel
theorem d_M_reasonsBehind_14 : decode Y_M_reasonsBehind.2.1 14 = .ok (.iload 4, 2) := by decide +kernel
theorem d_M_reasonsBehind_16 : decode Y_M_reasonsBehind.2.1 16 = .ok (.aload_n 0, 1) := by decide +kernel
theorem d_M_reasonsBehind_17 : decode Y_M_reasonsBehind.2.1 17 = .ok (.iload_n 1, 1) := by decide +kernel
theorem d_M_reasonsBehind_18 : decode Y_M_reasonsBehind.2.1 18 = .ok (.iload 5, 2) := by decide +kernel
theorem d_M_reasonsBehind_20 : decode Y_M_reasonsBehind.2.1 20 = .ok (.invokevirtual 391, 3) := by decide +kernel
theorem d_M_reasonsBehind_23 : decode Y_M_reasonsBehind.2.1 23 = .ok (.invokestatic 388, 3) := by decide +kernel
theorem d_M_reasonsBehind_26 : decode Y_M_reasonsBehind.2.1 26 = .ok (.iadd, 1) := by decide +kernel
theorem d_M_reasonsBehind_27 : decode Y_M_reasonsBehind.2.1 27 = .ok (.istore 4, 2) := by decide +kernel
theorem d_M_reasonsBehind_29 : decode Y_M_reasonsBehind.2.1 29 = .ok (.iinc 5 1, 3) := by decide +kernel
theorem d_M_reasonsBehind_32 : decode Y_M_reasonsBehind.2.1 32 = .ok (.goto (-24), 3) := by decide +kernel
theorem d_M_reasonsBehind_35 : decode Y_M_reasonsBehind.2.1 35 = .ok (.iload 4, 2) := by decide +kernel
theorem d_M_reasonsBehind_37 : decode Y_M_reasonsBehind.2.1 37 = .ok (.ireturn, 1) := by decide +kernel
def f_M_reasonsBehind (h : PH) (a0 : Option Nat) (a1 : Int32) (a2 : Int32) (a3 : Int32) : Option Int32 := (pj_it (X := Int32) (fun s1 : Int32 × Int32 => if a3 ≤ s1.2 then (some (.inr s1.1)) else ((cl h 12 a0 (f_M_reasonsAt h a0 a1 s1.2)).bind fun v3 => (f_M_bits h v3).bind fun v4 => some (.inl ((s1.1 + v4), (s1.2 + (1 : Int32)))))) FU ((0 : Int32), (a2 + (1 : Int32)))).bind fun x2 => some x2
set_option maxRecDepth 20000 in
theorem PM_M_reasonsBehind {l : Launch} {G : Cx} {h : PH} {a0 : Option Nat} {a1 : Int32} {a2 : Int32} {a3 : Int32} {z : Int32} (hz : f_M_reasonsBehind h a0 a1 a2 a3 = some z) : PM l G 2 0 0 Y_M_reasonsBehind [.inr (.inr a0), .inl a1, .inl a2, .inl a3] h (some (.inl z), h) := by
  refine PM.of (Y := Y_M_reasonsBehind) (cv := (fun z : Int32 => (((some (.inl z), h) : Option PV × PH)))) (by decide) (L0 := [some (.inr (.inr a0)), some (.inl a1), some (.inl a2), some (.inl a3), none, none]) 2 rfl (Nat.le_of_ble_eq_true rfl) ?_ hz
  unfold f_M_reasonsBehind
  refine PJ.iconst (pc := 0) (v := 0) d_M_reasonsBehind_0 (by decide) ?_
  refine PJ.istore (pc := 1) (L1 := [some (.inr (.inr a0)), some (.inl a1), some (.inl a2), some (.inl a3), some (.inl (0 : Int32)), none]) d_M_reasonsBehind_1 (Nat.le_of_ble_eq_true rfl) rfl rfl ?_
  refine PJ.iload_n (pc := 3) d_M_reasonsBehind_3 rfl ?_
  refine PJ.iconst (pc := 4) (v := 1) d_M_reasonsBehind_4 (by decide) ?_
  refine PJ.iadd (pc := 5) d_M_reasonsBehind_5 ?_
  refine PJ.istore (pc := 6) (L1 := [some (.inr (.inr a0)), some (.inl a1), some (.inl a2), some (.inl a3), some (.inl (0 : Int32)), some (.inl (a2 + (1 : Int32)))]) d_M_reasonsBehind_6 (Nat.le_of_ble_eq_true rfl) rfl rfl ?_
  refine PJ.mk (L1 := [some (.inr (.inr a0)), some (.inl a1), none, some (.inl a3), some (.inl (0 : Int32)), some (.inl (a2 + (1 : Int32)))]) [true, true, false, true, true, true] rfl ?_
  refine PJ.bind (fun x2 : Int32 => ((35 : Nat), ([none, none, none, none, some (.inl x2), none] : List (Option PV)), ([] : List PV), (h : PH), (0 : Nat), (0 : Nat))) (PJ.it (E := (fun s1 : Int32 × Int32 => ((8 : Nat), ([some (.inr (.inr a0)), some (.inl a1), none, some (.inl a3), some (.inl s1.1), some (.inl s1.2)] : List (Option PV)), ([] : List PV), (h : PH), (0 : Nat), (0 : Nat)))) (F := (fun x2 : Int32 => ((35 : Nat), ([none, none, none, none, some (.inl x2), none] : List (Option PV)), ([] : List PV), (h : PH), (0 : Nat), (0 : Nat)))) (fun s1 => ?_) FU ((0 : Int32), (a2 + (1 : Int32)))) (fun x2 => ?_)
  · show PJ l G (pj_rm 2 0 0) Y_M_reasonsBehind 8 [some (.inr (.inr a0)), some (.inl a1), none, some (.inl a3), some (.inl s1.1), some (.inl s1.2)] [] h 0 0 _ _
    refine PJ.iload (pc := 8) d_M_reasonsBehind_8 rfl ?_
    refine PJ.iload_n (pc := 10) d_M_reasonsBehind_10 rfl ?_
    refine PJ.icmp_ge (pc := 11) (tgt := 35) d_M_reasonsBehind_11 (by decide) (fun _ => ?_) (fun _ => ?_)
    · refine PJ.mk (L1 := [none, none, none, none, some (.inl s1.1), none]) [false, false, false, false, true, false] rfl ?_
      exact PJ.done rfl
    · refine PJ.iload (pc := 14) d_M_reasonsBehind_14 rfl ?_
      refine PJ.aload_n (pc := 16) d_M_reasonsBehind_16 rfl ?_
      refine PJ.iload_n (pc := 17) d_M_reasonsBehind_17 rfl ?_
      refine PJ.iload (pc := 18) d_M_reasonsBehind_18 rfl ?_
      refine PJ.cVpI (pc := 20) cs_M_391 (fun z hz => PM_M_reasonsAt hz) (pj_fitb rfl) rfl rfl (Nat.le_of_ble_eq_true rfl) d_M_reasonsBehind_20 (fun v3 => ?_)
      refine PJ.cSpI (pc := 23) cs_M_388 (fun z hz => PM_M_bits hz) (pj_fitb rfl) rfl rfl (Nat.le_of_ble_eq_true rfl) d_M_reasonsBehind_23 (fun v4 => ?_)
      refine PJ.iadd (pc := 26) d_M_reasonsBehind_26 ?_
      refine PJ.istore (pc := 27) (L1 := [some (.inr (.inr a0)), some (.inl a1), none, some (.inl a3), some (.inl (s1.1 + v4)), some (.inl s1.2)]) d_M_reasonsBehind_27 (Nat.le_of_ble_eq_true rfl) rfl rfl ?_
      refine PJ.iinc (pc := 29) (v := 1) (L1 := [some (.inr (.inr a0)), some (.inl a1), none, some (.inl a3), some (.inl (s1.1 + v4)), some (.inl (s1.2 + (1 : Int32)))]) d_M_reasonsBehind_29 rfl (by decide) (Nat.le_of_ble_eq_true rfl) rfl rfl ?_
      refine PJ.goto (pc := 32) (tgt := 8) d_M_reasonsBehind_32 (by decide) ?_
      exact PJ.done rfl
  · show PJ l G (pj_rm 2 0 0) Y_M_reasonsBehind 35 [none, none, none, none, some (.inl x2), none] [] h 0 0 _ _
    refine PJ.iload (pc := 35) d_M_reasonsBehind_35 rfl ?_
    exact PJ.iretp (pc := 37) d_M_reasonsBehind_37 rfl (Nat.le_of_ble_eq_true rfl) (Nat.le_of_ble_eq_true rfl)
theorem d_M_power_0 : decode Y_M_power.2.1 0 = .ok (.lconst 1, 1) := by decide +kernel
theorem d_M_power_1 : decode Y_M_power.2.1 1 = .ok (.lstore_n 3, 1) := by decide +kernel
theorem d_M_power_2 : decode Y_M_power.2.1 2 = .ok (.iconst 0, 1) := by decide +kernel
theorem d_M_power_3 : decode Y_M_power.2.1 3 = .ok (.istore 5, 2) := by decide +kernel
theorem d_M_power_5 : decode Y_M_power.2.1 5 = .ok (.iload 5, 2) := by decide +kernel
theorem d_M_power_7 : decode Y_M_power.2.1 7 = .ok (.iload_n 2, 1) := by decide +kernel
theorem d_M_power_8 : decode Y_M_power.2.1 8 = .ok (.if_icmp .ge 13, 3) := by decide +kernel
theorem d_M_power_11 : decode Y_M_power.2.1 11 = .ok (.lload_n 3, 1) := by decide +kernel
theorem d_M_power_12 : decode Y_M_power.2.1 12 = .ok (.lload_n 0, 1) := by decide +kernel
theorem d_M_power_13 : decode Y_M_power.2.1 13 = .ok (.lmul, 1) := by decide +kernel
theorem d_M_power_14 : decode Y_M_power.2.1 14 = .ok (.lstore_n 3, 1) := by decide +kernel
theorem d_M_power_15 : decode Y_M_power.2.1 15 = .ok (.iinc 5 1, 3) := by decide +kernel
theorem d_M_power_18 : decode Y_M_power.2.1 18 = .ok (.goto (-13), 3) := by decide +kernel
theorem d_M_power_21 : decode Y_M_power.2.1 21 = .ok (.lload_n 3, 1) := by decide +kernel
theorem d_M_power_22 : decode Y_M_power.2.1 22 = .ok (.lreturn, 1) := by decide +kernel
def f_M_power (h : PH) (a0 : Int64) (a1 : Int32) : Option Int64 := (pj_it (X := Int64) (fun s1 : Int64 × Int32 => if a1 ≤ s1.2 then (some (.inr s1.1)) else (some (.inl ((s1.1 * a0), (s1.2 + (1 : Int32)))))) FU ((1 : Int64), (0 : Int32))).bind fun x2 => some x2
set_option maxRecDepth 20000 in
theorem PM_M_power {l : Launch} {G : Cx} {h : PH} {a0 : Int64} {a1 : Int32} {z : Int64} (hz : f_M_power h a0 a1 = some z) : PM l G 1 0 0 Y_M_power [.inr (.inl a0), .inl a1] h (some (.inr (.inl z)), h) := by
  refine PM.of (Y := Y_M_power) (cv := (fun z : Int64 => (((some (.inr (.inl z)), h) : Option PV × PH)))) (by decide) (L0 := [some (.inr (.inl a0)), none, some (.inl a1), none, none, none]) 3 rfl (Nat.le_of_ble_eq_true rfl) ?_ hz
  unfold f_M_power
  refine PJ.lconst (pc := 0) (v := 1) d_M_power_0 (by decide) ?_
  refine PJ.lstore_n (pc := 1) (L1 := [some (.inr (.inl a0)), none, some (.inl a1), some (.inr (.inl (1 : Int64))), none, none]) d_M_power_1 (Nat.le_of_ble_eq_true rfl) rfl rfl ?_
  refine PJ.iconst (pc := 2) (v := 0) d_M_power_2 (by decide) ?_
  refine PJ.istore (pc := 3) (L1 := [some (.inr (.inl a0)), none, some (.inl a1), some (.inr (.inl (1 : Int64))), none, some (.inl (0 : Int32))]) d_M_power_3 (Nat.le_of_ble_eq_true rfl) rfl rfl ?_
  refine PJ.bind (fun x2 : Int64 => ((21 : Nat), ([none, none, none, some (.inr (.inl x2)), none, none] : List (Option PV)), ([] : List PV), (h : PH), (0 : Nat), (0 : Nat))) (PJ.it (E := (fun s1 : Int64 × Int32 => ((5 : Nat), ([some (.inr (.inl a0)), none, some (.inl a1), some (.inr (.inl s1.1)), none, some (.inl s1.2)] : List (Option PV)), ([] : List PV), (h : PH), (0 : Nat), (0 : Nat)))) (F := (fun x2 : Int64 => ((21 : Nat), ([none, none, none, some (.inr (.inl x2)), none, none] : List (Option PV)), ([] : List PV), (h : PH), (0 : Nat), (0 : Nat)))) (fun s1 => ?_) FU ((1 : Int64), (0 : Int32))) (fun x2 => ?_)
  · show PJ l G (pj_rm 1 0 0) Y_M_power 5 [some (.inr (.inl a0)), none, some (.inl a1), some (.inr (.inl s1.1)), none, some (.inl s1.2)] [] h 0 0 _ _
    refine PJ.iload (pc := 5) d_M_power_5 rfl ?_
    refine PJ.iload_n (pc := 7) d_M_power_7 rfl ?_
    refine PJ.icmp_ge (pc := 8) (tgt := 21) d_M_power_8 (by decide) (fun _ => ?_) (fun _ => ?_)
    · refine PJ.mk (L1 := [none, none, none, some (.inr (.inl s1.1)), none, none]) [false, false, false, true, false, false] rfl ?_
      exact PJ.done rfl
    · refine PJ.lload_n (pc := 11) d_M_power_11 rfl ?_
      refine PJ.lload_n (pc := 12) d_M_power_12 rfl ?_
      refine PJ.lmul (pc := 13) d_M_power_13 ?_
      refine PJ.lstore_n (pc := 14) (L1 := [some (.inr (.inl a0)), none, some (.inl a1), some (.inr (.inl (s1.1 * a0))), none, some (.inl s1.2)]) d_M_power_14 (Nat.le_of_ble_eq_true rfl) rfl rfl ?_
      refine PJ.iinc (pc := 15) (v := 1) (L1 := [some (.inr (.inl a0)), none, some (.inl a1), some (.inr (.inl (s1.1 * a0))), none, some (.inl (s1.2 + (1 : Int32)))]) d_M_power_15 rfl (by decide) (Nat.le_of_ble_eq_true rfl) rfl rfl ?_
      refine PJ.goto (pc := 18) (tgt := 5) d_M_power_18 (by decide) ?_
      exact PJ.done rfl
  · show PJ l G (pj_rm 1 0 0) Y_M_power 21 [none, none, none, some (.inr (.inl x2)), none, none] [] h 0 0 _ _
    refine PJ.lload_n (pc := 21) d_M_power_21 rfl ?_
    exact PJ.lretp (pc := 22) d_M_power_22 rfl (Nat.le_of_ble_eq_true rfl) (Nat.le_of_ble_eq_true rfl)
theorem d_M_behind_0 : decode Y_M_behind.2.1 0 = .ok (.iload_n 2, 1) := by decide +kernel
theorem d_M_behind_1 : decode Y_M_behind.2.1 1 = .ok (.iconst 1, 1) := by decide +kernel
theorem d_M_behind_2 : decode Y_M_behind.2.1 2 = .ok (.iadd, 1) := by decide +kernel
theorem d_M_behind_3 : decode Y_M_behind.2.1 3 = .ok (.iload_n 3, 1) := by decide +kernel
theorem d_M_behind_4 : decode Y_M_behind.2.1 4 = .ok (.if_icmp .ne 5, 3) := by decide +kernel
theorem d_M_behind_7 : decode Y_M_behind.2.1 7 = .ok (.lconst 0, 1) := by decide +kernel
theorem d_M_behind_8 : decode Y_M_behind.2.1 8 = .ok (.lreturn, 1) := by decide +kernel
theorem d_M_behind_9 : decode Y_M_behind.2.1 9 = .ok (.aload_n 0, 1) := by decide +kernel
theorem d_M_behind_10 : decode Y_M_behind.2.1 10 = .ok (.iload_n 1, 1) := by decide +kernel
theorem d_M_behind_11 : decode Y_M_behind.2.1 11 = .ok (.iload_n 2, 1) := by decide +kernel
theorem d_M_behind_12 : decode Y_M_behind.2.1 12 = .ok (.iconst 1, 1) := by decide +kernel
theorem d_M_behind_13 : decode Y_M_behind.2.1 13 = .ok (.iadd, 1) := by decide +kernel
theorem d_M_behind_14 : decode Y_M_behind.2.1 14 = .ok (.invokevirtual 391, 3) := by decide +kernel
theorem d_M_behind_17 : decode Y_M_behind.2.1 17 = .ok (.istore 8, 2) := by decide +kernel
theorem d_M_behind_19 : decode Y_M_behind.2.1 19 = .ok (.lconst 0, 1) := by decide +kernel
theorem d_M_behind_20 : decode Y_M_behind.2.1 20 = .ok (.lstore 9, 2) := by decide +kernel
theorem d_M_behind_22 : decode Y_M_behind.2.1 22 = .ok (.iconst 0, 1) := by decide +kernel
theorem d_M_behind_23 : decode Y_M_behind.2.1 23 = .ok (.istore 11, 2) := by decide +kernel
theorem d_M_behind_25 : decode Y_M_behind.2.1 25 = .ok (.iload 11, 2) := by decide +kernel
theorem d_M_behind_27 : decode Y_M_behind.2.1 27 = .ok (.bipush 16, 2) := by decide +kernel
theorem d_M_behind_29 : decode Y_M_behind.2.1 29 = .ok (.if_icmp .ge 134, 3) := by decide +kernel
theorem d_M_behind_32 : decode Y_M_behind.2.1 32 = .ok (.iload 11, 2) := by decide +kernel
theorem d_M_behind_34 : decode Y_M_behind.2.1 34 = .ok (.iload 8, 2) := by decide +kernel
theorem d_M_behind_36 : decode Y_M_behind.2.1 36 = .ok (.iconst (-1), 1) := by decide +kernel
theorem d_M_behind_37 : decode Y_M_behind.2.1 37 = .ok (.ixor, 1) := by decide +kernel
theorem d_M_behind_38 : decode Y_M_behind.2.1 38 = .ok (.iand, 1) := by decide +kernel
theorem d_M_behind_39 : decode Y_M_behind.2.1 39 = .ok (.ifCond .eq 6, 3) := by decide +kernel
theorem d_M_behind_42 : decode Y_M_behind.2.1 42 = .ok (.goto 115, 3) := by decide +kernel
theorem d_M_behind_45 : decode Y_M_behind.2.1 45 = .ok (.lconst 1, 1) := by decide +kernel
theorem d_M_behind_46 : decode Y_M_behind.2.1 46 = .ok (.lstore 12, 2) := by decide +kernel
theorem d_M_behind_48 : decode Y_M_behind.2.1 48 = .ok (.iconst 0, 1) := by decide +kernel
theorem d_M_behind_49 : decode Y_M_behind.2.1 49 = .ok (.istore 14, 2) := by decide +kernel
theorem d_M_behind_51 : decode Y_M_behind.2.1 51 = .ok (.iload 14, 2) := by decide +kernel
theorem d_M_behind_53 : decode Y_M_behind.2.1 53 = .ok (.aload_n 0, 1) := by decide +kernel
theorem d_M_behind_54 : decode Y_M_behind.2.1 54 = .ok (.getfield 341, 3) := by decide +kernel
theorem d_M_behind_57 : decode Y_M_behind.2.1 57 = .ok (.getfield 280, 3) := by decide +kernel
theorem d_M_behind_60 : decode Y_M_behind.2.1 60 = .ok (.if_icmp .ge 62, 3) := by decide +kernel
theorem d_M_behind_63 : decode Y_M_behind.2.1 63 = .ok (.iload 8, 2) := by decide +kernel
theorem d_M_behind_65 : decode Y_M_behind.2.1 65 = .ok (.iload 14, 2) := by decide +kernel
theorem d_M_behind_67 : decode Y_M_behind.2.1 67 = .ok (.invokestatic 330, 3) := by decide +kernel
theorem d_M_behind_70 : decode Y_M_behind.2.1 70 = .ok (.ifCond .eq 46, 3) := by decide +kernel
theorem d_M_behind_73 : decode Y_M_behind.2.1 73 = .ok (.lload 12, 2) := by decide +kernel
theorem d_M_behind_75 : decode Y_M_behind.2.1 75 = .ok (.iload 11, 2) := by decide +kernel
theorem d_M_behind_77 : decode Y_M_behind.2.1 77 = .ok (.iload 14, 2) := by decide +kernel
theorem d_M_behind_79 : decode Y_M_behind.2.1 79 = .ok (.invokestatic 330, 3) := by decide +kernel
theorem d_M_behind_82 : decode Y_M_behind.2.1 82 = .ok (.ifCond .eq 17, 3) := by decide +kernel
theorem d_M_behind_85 : decode Y_M_behind.2.1 85 = .ok (.aload_n 0, 1) := by decide +kernel
theorem d_M_behind_86 : decode Y_M_behind.2.1 86 = .ok (.getfield 341, 3) := by decide +kernel
theorem d_M_behind_89 : decode Y_M_behind.2.1 89 = .ok (.getfield 298, 3) := by decide +kernel
theorem d_M_behind_92 : decode Y_M_behind.2.1 92 = .ok (.iload 14, 2) := by decide +kernel
theorem d_M_behind_94 : decode Y_M_behind.2.1 94 = .ok (.iaload, 1) := by decide +kernel
theorem d_M_behind_95 : decode Y_M_behind.2.1 95 = .ok (.i2l, 1) := by decide +kernel
theorem d_M_behind_96 : decode Y_M_behind.2.1 96 = .ok (.goto 17, 3) := by decide +kernel
theorem d_M_behind_99 : decode Y_M_behind.2.1 99 = .ok (.bipush 100, 2) := by decide +kernel
theorem d_M_behind_101 : decode Y_M_behind.2.1 101 = .ok (.aload_n 0, 1) := by decide +kernel
theorem d_M_behind_102 : decode Y_M_behind.2.1 102 = .ok (.getfield 341, 3) := by decide +kernel
theorem d_M_behind_105 : decode Y_M_behind.2.1 105 = .ok (.getfield 298, 3) := by decide +kernel
theorem d_M_behind_108 : decode Y_M_behind.2.1 108 = .ok (.iload 14, 2) := by decide +kernel
theorem d_M_behind_110 : decode Y_M_behind.2.1 110 = .ok (.iaload, 1) := by decide +kernel
theorem d_M_behind_111 : decode Y_M_behind.2.1 111 = .ok (.isub, 1) := by decide +kernel
theorem d_M_behind_112 : decode Y_M_behind.2.1 112 = .ok (.i2l, 1) := by decide +kernel
theorem d_M_behind_113 : decode Y_M_behind.2.1 113 = .ok (.lmul, 1) := by decide +kernel
theorem d_M_behind_114 : decode Y_M_behind.2.1 114 = .ok (.lstore 12, 2) := by decide +kernel
theorem d_M_behind_116 : decode Y_M_behind.2.1 116 = .ok (.iinc 14 1, 3) := by decide +kernel
theorem d_M_behind_119 : decode Y_M_behind.2.1 119 = .ok (.goto (-68), 3) := by decide +kernel
theorem d_M_behind_122 : decode Y_M_behind.2.1 122 = .ok (.lload 9, 2) := by decide +kernel
theorem d_M_behind_124 : decode Y_M_behind.2.1 124 = .ok (.lload 12, 2) := by decide +kernel
theorem d_M_behind_126 : decode Y_M_behind.2.1 126 = .ok (.aload_n 0, 1) := by decide +kernel
theorem d_M_behind_127 : decode Y_M_behind.2.1 127 = .ok (.getfield 33, 3) := by decide +kernel
theorem d_M_behind_130 : decode Y_M_behind.2.1 130 = .ok (.sipush 1200, 3) := by decide +kernel
theorem d_M_behind_133 : decode Y_M_behind.2.1 133 = .ok (.iload_n 2, 1) := by decide +kernel
theorem d_M_behind_134 : decode Y_M_behind.2.1 134 = .ok (.iconst 1, 1) := by decide +kernel
theorem d_M_behind_135 : decode Y_M_behind.2.1 135 = .ok (.iadd, 1) := by decide +kernel
theorem d_M_behind_136 : decode Y_M_behind.2.1 136 = .ok (.imul, 1) := by decide +kernel
theorem d_M_behind_137 : decode Y_M_behind.2.1 137 = .ok (.iload 4, 2) := by decide +kernel
theorem d_M_behind_139 : decode Y_M_behind.2.1 139 = .ok (.iload 5, 2) := by decide +kernel
theorem d_M_behind_141 : decode Y_M_behind.2.1 141 = .ok (.iload 6, 2) := by decide +kernel
theorem d_M_behind_143 : decode Y_M_behind.2.1 143 = .ok (.iload 7, 2) := by decide +kernel
theorem d_M_behind_145 : decode Y_M_behind.2.1 145 = .ok (.iload 11, 2) := by decide +kernel
theorem d_M_behind_147 : decode Y_M_behind.2.1 147 = .ok (.ior, 1) := by decide +kernel
theorem d_M_behind_148 : decode Y_M_behind.2.1 148 = .ok (.invokestatic 394, 3) := by decide +kernel
theorem d_M_behind_151 : decode Y_M_behind.2.1 151 = .ok (.iadd, 1) := by decide +kernel
theorem d_M_behind_152 : decode Y_M_behind.2.1 152 = .ok (.laload, 1) := by decide +kernel
theorem d_M_behind_153 : decode Y_M_behind.2.1 153 = .ok (.lmul, 1) := by decide +kernel
theorem d_M_behind_154 : decode Y_M_behind.2.1 154 = .ok (.ladd, 1) := by decide +kernel
theorem d_M_behind_155 : decode Y_M_behind.2.1 155 = .ok (.lstore 9, 2) := by decide +kernel
theorem d_M_behind_157 : decode Y_M_behind.2.1 157 = .ok (.iinc 11 1, 3) := by decide +kernel
theorem d_M_behind_160 : decode Y_M_behind.2.1 160 = .ok (.goto (-135), 3) := by decide +kernel
theorem d_M_behind_163 : decode Y_M_behind.2.1 163 = .ok (.lload 9, 2) := by decide +kernel
theorem d_M_behind_165 : decode Y_M_behind.2.1 165 = .ok (.lreturn, 1) := by decide +kernel
def f_M_behind (h : PH) (a0 : Option Nat) (a1 : Int32) (a2 : Int32) (a3 : Int32) (a4 : Int32) (a5 : Int32) (a6 : Int32) (a7 : Int32) : Option Int64 := if ¬ (a2 + (1 : Int32)) = a3 then ((cl h 12 a0 (f_M_reasonsAt h a0 a1 (a2 + (1 : Int32)))).bind fun v1 => (pj_it (X := Int64) (fun s2 : Int64 × Int32 => if (16 : Int32) ≤ s2.2 then (some (.inr s2.1)) else (if (s2.2 &&& (v1 ^^^ (-1 : Int32))) = 0 then ((pj_it (X := Int64) (fun s4 : Int64 × Int32 => (gR h 12 a0 3).bind fun v6 => (gI h 11 v6 5).bind fun v7 => if v7 ≤ s4.2 then (some (.inr s4.1)) else ((f_M_bit h v1 s4.2).bind fun v8 => if v8 = 0 then (some (.inl (s4.1, (s4.2 + (1 : Int32))))) else ((f_M_bit h s2.2 s4.2).bind fun v9 => (if v9 = 0 then ((gR h 12 a0 3).bind fun v11 => (gR h 11 v11 17).bind fun v12 => (aI h v12 s4.2).bind fun v13 => some (Int32.toInt64 ((100 : Int32) - v13))) else ((gR h 12 a0 3).bind fun v14 => (gR h 11 v14 17).bind fun v15 => (aI h v15 s4.2).bind fun v16 => some (Int32.toInt64 v16)) : Option (Int64)).bind fun j10 => some (.inl ((s4.1 * j10), (s4.2 + (1 : Int32))))))) FU ((1 : Int64), (0 : Int32))).bind fun x5 => (gR h 12 a0 23).bind fun v17 => (f_M_state h a4 a5 a6 (a7 ||| s2.2)).bind fun v18 => (aL h v17 (((1200 : Int32) * (a2 + (1 : Int32))) + v18)).bind fun v19 => some (.inl ((s2.1 + (x5 * v19)), (s2.2 + (1 : Int32))))) else (some (.inl (s2.1, (s2.2 + (1 : Int32))))))) FU ((0 : Int64), (0 : Int32))).bind fun x3 => some x3) else (some (0 : Int64))
set_option maxRecDepth 20000 in
theorem PM_M_behind {l : Launch} {G : Cx} {h : PH} {a0 : Option Nat} {a1 : Int32} {a2 : Int32} {a3 : Int32} {a4 : Int32} {a5 : Int32} {a6 : Int32} {a7 : Int32} {z : Int64} (hz : f_M_behind h a0 a1 a2 a3 a4 a5 a6 a7 = some z) : PM l G 2 0 0 Y_M_behind [.inr (.inr a0), .inl a1, .inl a2, .inl a3, .inl a4, .inl a5, .inl a6, .inl a7] h (some (.inr (.inl z)), h) := by
  refine PM.of (Y := Y_M_behind) (cv := (fun z : Int64 => (((some (.inr (.inl z)), h) : Option PV × PH)))) (by decide) (L0 := [some (.inr (.inr a0)), some (.inl a1), some (.inl a2), some (.inl a3), some (.inl a4), some (.inl a5), some (.inl a6), some (.inl a7), none, none, none, none, none, none, none]) 7 rfl (Nat.le_of_ble_eq_true rfl) ?_ hz
  unfold f_M_behind
  refine PJ.iload_n (pc := 0) d_M_behind_0 rfl ?_
  refine PJ.iconst (pc := 1) (v := 1) d_M_behind_1 (by decide) ?_
  refine PJ.iadd (pc := 2) d_M_behind_2 ?_
  refine PJ.iload_n (pc := 3) d_M_behind_3 rfl ?_
  refine PJ.icmp_ne (pc := 4) (tgt := 9) d_M_behind_4 (by decide) (fun _ => ?_) (fun _ => ?_)
  · refine PJ.aload_n (pc := 9) d_M_behind_9 rfl ?_
    refine PJ.iload_n (pc := 10) d_M_behind_10 rfl ?_
    refine PJ.iload_n (pc := 11) d_M_behind_11 rfl ?_
    refine PJ.iconst (pc := 12) (v := 1) d_M_behind_12 (by decide) ?_
    refine PJ.iadd (pc := 13) d_M_behind_13 ?_
    refine PJ.cVpI (pc := 14) cs_M_391 (fun z hz => PM_M_reasonsAt hz) (pj_fitb rfl) rfl rfl (Nat.le_of_ble_eq_true rfl) d_M_behind_14 (fun v1 => ?_)
    refine PJ.istore (pc := 17) (L1 := [some (.inr (.inr a0)), some (.inl a1), some (.inl a2), some (.inl a3), some (.inl a4), some (.inl a5), some (.inl a6), some (.inl a7), some (.inl v1), none, none, none, none, none, none]) d_M_behind_17 (Nat.le_of_ble_eq_true rfl) rfl rfl ?_
    refine PJ.lconst (pc := 19) (v := 0) d_M_behind_19 (by decide) ?_
    refine PJ.lstore (pc := 20) (L1 := [some (.inr (.inr a0)), some (.inl a1), some (.inl a2), some (.inl a3), some (.inl a4), some (.inl a5), some (.inl a6), some (.inl a7), some (.inl v1), some (.inr (.inl (0 : Int64))), none, none, none, none, none]) d_M_behind_20 (Nat.le_of_ble_eq_true rfl) rfl rfl ?_
    refine PJ.iconst (pc := 22) (v := 0) d_M_behind_22 (by decide) ?_
    refine PJ.istore (pc := 23) (L1 := [some (.inr (.inr a0)), some (.inl a1), some (.inl a2), some (.inl a3), some (.inl a4), some (.inl a5), some (.inl a6), some (.inl a7), some (.inl v1), some (.inr (.inl (0 : Int64))), none, some (.inl (0 : Int32)), none, none, none]) d_M_behind_23 (Nat.le_of_ble_eq_true rfl) rfl rfl ?_
    refine PJ.mk (L1 := [some (.inr (.inr a0)), none, some (.inl a2), none, some (.inl a4), some (.inl a5), some (.inl a6), some (.inl a7), some (.inl v1), some (.inr (.inl (0 : Int64))), none, some (.inl (0 : Int32)), none, none, none]) [true, false, true, false, true, true, true, true, true, true, false, true, false, false, false] rfl ?_
    refine PJ.bind (fun x3 : Int64 => ((163 : Nat), ([none, none, none, none, none, none, none, none, none, some (.inr (.inl x3)), none, none, none, none, none] : List (Option PV)), ([] : List PV), (h : PH), (0 : Nat), (0 : Nat))) (PJ.it (E := (fun s2 : Int64 × Int32 => ((25 : Nat), ([some (.inr (.inr a0)), none, some (.inl a2), none, some (.inl a4), some (.inl a5), some (.inl a6), some (.inl a7), some (.inl v1), some (.inr (.inl s2.1)), none, some (.inl s2.2), none, none, none] : List (Option PV)), ([] : List PV), (h : PH), (0 : Nat), (0 : Nat)))) (F := (fun x3 : Int64 => ((163 : Nat), ([none, none, none, none, none, none, none, none, none, some (.inr (.inl x3)), none, none, none, none, none] : List (Option PV)), ([] : List PV), (h : PH), (0 : Nat), (0 : Nat)))) (fun s2 => ?_) FU ((0 : Int64), (0 : Int32))) (fun x3 => ?_)
    · show PJ l G (pj_rm 2 0 0) Y_M_behind 25 [some (.inr (.inr a0)), none, some (.inl a2), none, some (.inl a4), some (.inl a5), some (.inl a6), some (.inl a7), some (.inl v1), some (.inr (.inl s2.1)), none, some (.inl s2.2), none, none, none] [] h 0 0 _ _
      refine PJ.iload (pc := 25) d_M_behind_25 rfl ?_
      refine PJ.bipush (pc := 27) (v := 16) d_M_behind_27 (by decide) ?_
      refine PJ.icmp_ge (pc := 29) (tgt := 163) d_M_behind_29 (by decide) (fun _ => ?_) (fun _ => ?_)
      · refine PJ.mk (L1 := [none, none, none, none, none, none, none, none, none, some (.inr (.inl s2.1)), none, none, none, none, none]) [false, false, false, false, false, false, false, false, false, true, false, false, false, false, false] rfl ?_
        exact PJ.done rfl
      · refine PJ.iload (pc := 32) d_M_behind_32 rfl ?_
        refine PJ.iload (pc := 34) d_M_behind_34 rfl ?_
        refine PJ.iconst (pc := 36) (v := -1) d_M_behind_36 (by decide) ?_
        refine PJ.ixor (pc := 37) d_M_behind_37 ?_
        refine PJ.iand (pc := 38) d_M_behind_38 ?_
        refine PJ.if_eq (pc := 39) (tgt := 45) d_M_behind_39 (by decide) (fun _ => ?_) (fun _ => ?_)
        · refine PJ.lconst (pc := 45) (v := 1) d_M_behind_45 (by decide) ?_
          refine PJ.lstore (pc := 46) (L1 := [some (.inr (.inr a0)), none, some (.inl a2), none, some (.inl a4), some (.inl a5), some (.inl a6), some (.inl a7), some (.inl v1), some (.inr (.inl s2.1)), none, some (.inl s2.2), some (.inr (.inl (1 : Int64))), none, none]) d_M_behind_46 (Nat.le_of_ble_eq_true rfl) rfl rfl ?_
          refine PJ.iconst (pc := 48) (v := 0) d_M_behind_48 (by decide) ?_
          refine PJ.istore (pc := 49) (L1 := [some (.inr (.inr a0)), none, some (.inl a2), none, some (.inl a4), some (.inl a5), some (.inl a6), some (.inl a7), some (.inl v1), some (.inr (.inl s2.1)), none, some (.inl s2.2), some (.inr (.inl (1 : Int64))), none, some (.inl (0 : Int32))]) d_M_behind_49 (Nat.le_of_ble_eq_true rfl) rfl rfl ?_
          refine PJ.bind (fun x5 : Int64 => ((122 : Nat), ([some (.inr (.inr a0)), none, some (.inl a2), none, some (.inl a4), some (.inl a5), some (.inl a6), some (.inl a7), some (.inl v1), some (.inr (.inl s2.1)), none, some (.inl s2.2), some (.inr (.inl x5)), none, none] : List (Option PV)), ([] : List PV), (h : PH), (0 : Nat), (0 : Nat))) (PJ.it (E := (fun s4 : Int64 × Int32 => ((51 : Nat), ([some (.inr (.inr a0)), none, some (.inl a2), none, some (.inl a4), some (.inl a5), some (.inl a6), some (.inl a7), some (.inl v1), some (.inr (.inl s2.1)), none, some (.inl s2.2), some (.inr (.inl s4.1)), none, some (.inl s4.2)] : List (Option PV)), ([] : List PV), (h : PH), (0 : Nat), (0 : Nat)))) (F := (fun x5 : Int64 => ((122 : Nat), ([some (.inr (.inr a0)), none, some (.inl a2), none, some (.inl a4), some (.inl a5), some (.inl a6), some (.inl a7), some (.inl v1), some (.inr (.inl s2.1)), none, some (.inl s2.2), some (.inr (.inl x5)), none, none] : List (Option PV)), ([] : List PV), (h : PH), (0 : Nat), (0 : Nat)))) (fun s4 => ?_) FU ((1 : Int64), (0 : Int32))) (fun x5 => ?_)
          · show PJ l G (pj_rm 2 0 0) Y_M_behind 51 [some (.inr (.inr a0)), none, some (.inl a2), none, some (.inl a4), some (.inl a5), some (.inl a6), some (.inl a7), some (.inl v1), some (.inr (.inl s2.1)), none, some (.inl s2.2), some (.inr (.inl s4.1)), none, some (.inl s4.2)] [] h 0 0 _ _
            refine PJ.iload (pc := 51) d_M_behind_51 rfl ?_
            refine PJ.aload_n (pc := 53) d_M_behind_53 rfl ?_
            refine PJ.getR (pc := 54) fs_M_341 d_M_behind_54 (fun v6 => ?_)
            refine PJ.getI (pc := 57) fs_M_280 d_M_behind_57 (fun v7 => ?_)
            refine PJ.icmp_ge (pc := 60) (tgt := 122) d_M_behind_60 (by decide) (fun _ => ?_) (fun _ => ?_)
            · refine PJ.mk (L1 := [some (.inr (.inr a0)), none, some (.inl a2), none, some (.inl a4), some (.inl a5), some (.inl a6), some (.inl a7), some (.inl v1), some (.inr (.inl s2.1)), none, some (.inl s2.2), some (.inr (.inl s4.1)), none, none]) [true, false, true, false, true, true, true, true, true, true, false, true, true, false, false] rfl ?_
              exact PJ.done rfl
            · refine PJ.iload (pc := 63) d_M_behind_63 rfl ?_
              refine PJ.iload (pc := 65) d_M_behind_65 rfl ?_
              refine PJ.cSpI (pc := 67) cs_M_330 (fun z hz => PM_M_bit hz) (pj_fitb rfl) rfl rfl (Nat.le_of_ble_eq_true rfl) d_M_behind_67 (fun v8 => ?_)
              refine PJ.if_eq (pc := 70) (tgt := 116) d_M_behind_70 (by decide) (fun _ => ?_) (fun _ => ?_)
              · refine PJ.iinc (pc := 116) (v := 1) (L1 := [some (.inr (.inr a0)), none, some (.inl a2), none, some (.inl a4), some (.inl a5), some (.inl a6), some (.inl a7), some (.inl v1), some (.inr (.inl s2.1)), none, some (.inl s2.2), some (.inr (.inl s4.1)), none, some (.inl (s4.2 + (1 : Int32)))]) d_M_behind_116 rfl (by decide) (Nat.le_of_ble_eq_true rfl) rfl rfl ?_
                refine PJ.goto (pc := 119) (tgt := 51) d_M_behind_119 (by decide) ?_
                exact PJ.done rfl
              · refine PJ.lload (pc := 73) d_M_behind_73 rfl ?_
                refine PJ.iload (pc := 75) d_M_behind_75 rfl ?_
                refine PJ.iload (pc := 77) d_M_behind_77 rfl ?_
                refine PJ.cSpI (pc := 79) cs_M_330 (fun z hz => PM_M_bit hz) (pj_fitb rfl) rfl rfl (Nat.le_of_ble_eq_true rfl) d_M_behind_79 (fun v9 => ?_)
                refine PJ.bind (fun j10 : Int64 => ((113 : Nat), ([some (.inr (.inr a0)), none, some (.inl a2), none, some (.inl a4), some (.inl a5), some (.inl a6), some (.inl a7), some (.inl v1), some (.inr (.inl s2.1)), none, some (.inl s2.2), none, none, some (.inl s4.2)] : List (Option PV)), ([.inr (.inl j10), .inr (.inl s4.1)] : List PV), (h : PH), (0 : Nat), (0 : Nat))) ?_ (fun j10 => ?_)
                · refine PJ.if_eq (pc := 82) (tgt := 99) d_M_behind_82 (by decide) (fun _ => ?_) (fun _ => ?_)
                  · refine PJ.bipush (pc := 99) (v := 100) d_M_behind_99 (by decide) ?_
                    refine PJ.aload_n (pc := 101) d_M_behind_101 rfl ?_
                    refine PJ.getR (pc := 102) fs_M_341 d_M_behind_102 (fun v11 => ?_)
                    refine PJ.getR (pc := 105) fs_M_298 d_M_behind_105 (fun v12 => ?_)
                    refine PJ.iload (pc := 108) d_M_behind_108 rfl ?_
                    refine PJ.iald (pc := 110) d_M_behind_110 (fun v13 => ?_)
                    refine PJ.isub (pc := 111) d_M_behind_111 ?_
                    refine PJ.i2l (pc := 112) d_M_behind_112 ?_
                    refine PJ.mk (L1 := [some (.inr (.inr a0)), none, some (.inl a2), none, some (.inl a4), some (.inl a5), some (.inl a6), some (.inl a7), some (.inl v1), some (.inr (.inl s2.1)), none, some (.inl s2.2), none, none, some (.inl s4.2)]) [true, false, true, false, true, true, true, true, true, true, false, true, false, false, true] rfl ?_
                    exact PJ.done rfl
                  · refine PJ.aload_n (pc := 85) d_M_behind_85 rfl ?_
                    refine PJ.getR (pc := 86) fs_M_341 d_M_behind_86 (fun v14 => ?_)
                    refine PJ.getR (pc := 89) fs_M_298 d_M_behind_89 (fun v15 => ?_)
                    refine PJ.iload (pc := 92) d_M_behind_92 rfl ?_
                    refine PJ.iald (pc := 94) d_M_behind_94 (fun v16 => ?_)
                    refine PJ.i2l (pc := 95) d_M_behind_95 ?_
                    refine PJ.goto (pc := 96) (tgt := 113) d_M_behind_96 (by decide) ?_
                    refine PJ.mk (L1 := [some (.inr (.inr a0)), none, some (.inl a2), none, some (.inl a4), some (.inl a5), some (.inl a6), some (.inl a7), some (.inl v1), some (.inr (.inl s2.1)), none, some (.inl s2.2), none, none, some (.inl s4.2)]) [true, false, true, false, true, true, true, true, true, true, false, true, false, false, true] rfl ?_
                    exact PJ.done rfl
                · show PJ l G (pj_rm 2 0 0) Y_M_behind 113 [some (.inr (.inr a0)), none, some (.inl a2), none, some (.inl a4), some (.inl a5), some (.inl a6), some (.inl a7), some (.inl v1), some (.inr (.inl s2.1)), none, some (.inl s2.2), none, none, some (.inl s4.2)] [.inr (.inl j10), .inr (.inl s4.1)] h 0 0 _ _
                  refine PJ.lmul (pc := 113) d_M_behind_113 ?_
                  refine PJ.lstore (pc := 114) (L1 := [some (.inr (.inr a0)), none, some (.inl a2), none, some (.inl a4), some (.inl a5), some (.inl a6), some (.inl a7), some (.inl v1), some (.inr (.inl s2.1)), none, some (.inl s2.2), some (.inr (.inl (s4.1 * j10))), none, some (.inl s4.2)]) d_M_behind_114 (Nat.le_of_ble_eq_true rfl) rfl rfl ?_
                  refine PJ.iinc (pc := 116) (v := 1) (L1 := [some (.inr (.inr a0)), none, some (.inl a2), none, some (.inl a4), some (.inl a5), some (.inl a6), some (.inl a7), some (.inl v1), some (.inr (.inl s2.1)), none, some (.inl s2.2), some (.inr (.inl (s4.1 * j10))), none, some (.inl (s4.2 + (1 : Int32)))]) d_M_behind_116 rfl (by decide) (Nat.le_of_ble_eq_true rfl) rfl rfl ?_
                  refine PJ.goto (pc := 119) (tgt := 51) d_M_behind_119 (by decide) ?_
                  exact PJ.done rfl
          · show PJ l G (pj_rm 2 0 0) Y_M_behind 122 [some (.inr (.inr a0)), none, some (.inl a2), none, some (.inl a4), some (.inl a5), some (.inl a6), some (.inl a7), some (.inl v1), some (.inr (.inl s2.1)), none, some (.inl s2.2), some (.inr (.inl x5)), none, none] [] h 0 0 _ _
            refine PJ.lload (pc := 122) d_M_behind_122 rfl ?_
            refine PJ.lload (pc := 124) d_M_behind_124 rfl ?_
            refine PJ.aload_n (pc := 126) d_M_behind_126 rfl ?_
            refine PJ.getR (pc := 127) fs_M_33 d_M_behind_127 (fun v17 => ?_)
            refine PJ.sipush (pc := 130) (v := 1200) d_M_behind_130 (by decide) ?_
            refine PJ.iload_n (pc := 133) d_M_behind_133 rfl ?_
            refine PJ.iconst (pc := 134) (v := 1) d_M_behind_134 (by decide) ?_
            refine PJ.iadd (pc := 135) d_M_behind_135 ?_
            refine PJ.imul (pc := 136) d_M_behind_136 ?_
            refine PJ.iload (pc := 137) d_M_behind_137 rfl ?_
            refine PJ.iload (pc := 139) d_M_behind_139 rfl ?_
            refine PJ.iload (pc := 141) d_M_behind_141 rfl ?_
            refine PJ.iload (pc := 143) d_M_behind_143 rfl ?_
            refine PJ.iload (pc := 145) d_M_behind_145 rfl ?_
            refine PJ.ior (pc := 147) d_M_behind_147 ?_
            refine PJ.cSpI (pc := 148) cs_M_394 (fun z hz => PM_M_state hz) (pj_fitb rfl) rfl rfl (Nat.le_of_ble_eq_true rfl) d_M_behind_148 (fun v18 => ?_)
            refine PJ.iadd (pc := 151) d_M_behind_151 ?_
            refine PJ.lald (pc := 152) d_M_behind_152 (fun v19 => ?_)
            refine PJ.lmul (pc := 153) d_M_behind_153 ?_
            refine PJ.ladd (pc := 154) d_M_behind_154 ?_
            refine PJ.lstore (pc := 155) (L1 := [some (.inr (.inr a0)), none, some (.inl a2), none, some (.inl a4), some (.inl a5), some (.inl a6), some (.inl a7), some (.inl v1), some (.inr (.inl (s2.1 + (x5 * v19)))), none, some (.inl s2.2), some (.inr (.inl x5)), none, none]) d_M_behind_155 (Nat.le_of_ble_eq_true rfl) rfl rfl ?_
            refine PJ.iinc (pc := 157) (v := 1) (L1 := [some (.inr (.inr a0)), none, some (.inl a2), none, some (.inl a4), some (.inl a5), some (.inl a6), some (.inl a7), some (.inl v1), some (.inr (.inl (s2.1 + (x5 * v19)))), none, some (.inl (s2.2 + (1 : Int32))), some (.inr (.inl x5)), none, none]) d_M_behind_157 rfl (by decide) (Nat.le_of_ble_eq_true rfl) rfl rfl ?_
            refine PJ.goto (pc := 160) (tgt := 25) d_M_behind_160 (by decide) ?_
            refine PJ.mk (L1 := [some (.inr (.inr a0)), none, some (.inl a2), none, some (.inl a4), some (.inl a5), some (.inl a6), some (.inl a7), some (.inl v1), some (.inr (.inl (s2.1 + (x5 * v19)))), none, some (.inl (s2.2 + (1 : Int32))), none, none, none]) [true, false, true, false, true, true, true, true, true, true, false, true, false, false, false] rfl ?_
            exact PJ.done rfl
        · refine PJ.goto (pc := 42) (tgt := 157) d_M_behind_42 (by decide) ?_
          refine PJ.iinc (pc := 157) (v := 1) (L1 := [some (.inr (.inr a0)), none, some (.inl a2), none, some (.inl a4), some (.inl a5), some (.inl a6), some (.inl a7), some (.inl v1), some (.inr (.inl s2.1)), none, some (.inl (s2.2 + (1 : Int32))), none, none, none]) d_M_behind_157 rfl (by decide) (Nat.le_of_ble_eq_true rfl) rfl rfl ?_
          refine PJ.goto (pc := 160) (tgt := 25) d_M_behind_160 (by decide) ?_
          exact PJ.done rfl
    · show PJ l G (pj_rm 2 0 0) Y_M_behind 163 [none, none, none, none, none, none, none, none, none, some (.inr (.inl x3)), none, none, none, none, none] [] h 0 0 _ _
      refine PJ.lload (pc := 163) d_M_behind_163 rfl ?_
      exact PJ.lretp (pc := 165) d_M_behind_165 rfl (Nat.le_of_ble_eq_true rfl) (Nat.le_of_ble_eq_true rfl)
  · refine PJ.lconst (pc := 7) (v := 0) d_M_behind_7 (by decide) ?_
    exact PJ.lretp (pc := 8) d_M_behind_8 rfl (Nat.le_of_ble_eq_true rfl) (Nat.le_of_ble_eq_true rfl)
theorem d_M_by_0 : decode Y_M_by.2.1 0 = .ok (.aload_n 0, 1) := by decide +kernel
theorem d_M_by_1 : decode Y_M_by.2.1 1 = .ok (.iload_n 1, 1) := by decide +kernel
theorem d_M_by_2 : decode Y_M_by.2.1 2 = .ok (.iload 4, 2) := by decide +kernel
theorem d_M_by_4 : decode Y_M_by.2.1 4 = .ok (.iload 8, 2) := by decide +kernel
theorem d_M_by_6 : decode Y_M_by.2.1 6 = .ok (.iload 5, 2) := by decide +kernel
theorem d_M_by_8 : decode Y_M_by.2.1 8 = .ok (.aload_n 0, 1) := by decide +kernel
theorem d_M_by_9 : decode Y_M_by.2.1 9 = .ok (.iload_n 1, 1) := by decide +kernel
theorem d_M_by_10 : decode Y_M_by.2.1 10 = .ok (.iload 6, 2) := by decide +kernel
theorem d_M_by_12 : decode Y_M_by.2.1 12 = .ok (.iload_n 2, 1) := by decide +kernel
theorem d_M_by_13 : decode Y_M_by.2.1 13 = .ok (.invokevirtual 398, 3) := by decide +kernel
theorem d_M_by_16 : decode Y_M_by.2.1 16 = .ok (.invokevirtual 355, 3) := by decide +kernel
theorem d_M_by_19 : decode Y_M_by.2.1 19 = .ok (.istore 9, 2) := by decide +kernel
theorem d_M_by_21 : decode Y_M_by.2.1 21 = .ok (.iload 8, 2) := by decide +kernel
theorem d_M_by_23 : decode Y_M_by.2.1 23 = .ok (.iload 4, 2) := by decide +kernel
theorem d_M_by_25 : decode Y_M_by.2.1 25 = .ok (.if_icmp .eq 7, 3) := by decide +kernel
theorem d_M_by_28 : decode Y_M_by.2.1 28 = .ok (.iconst 1, 1) := by decide +kernel
theorem d_M_by_29 : decode Y_M_by.2.1 29 = .ok (.goto 4, 3) := by decide +kernel
theorem d_M_by_32 : decode Y_M_by.2.1 32 = .ok (.iconst 0, 1) := by decide +kernel
theorem d_M_by_33 : decode Y_M_by.2.1 33 = .ok (.istore 10, 2) := by decide +kernel
theorem d_M_by_35 : decode Y_M_by.2.1 35 = .ok (.ldc2_w 401, 3) := by decide +kernel
theorem d_M_by_38 : decode Y_M_by.2.1 38 = .ok (.aload_n 0, 1) := by decide +kernel
theorem d_M_by_39 : decode Y_M_by.2.1 39 = .ok (.iload_n 1, 1) := by decide +kernel
theorem d_M_by_40 : decode Y_M_by.2.1 40 = .ok (.iload_n 2, 1) := by decide +kernel
theorem d_M_by_41 : decode Y_M_by.2.1 41 = .ok (.iload_n 3, 1) := by decide +kernel
theorem d_M_by_42 : decode Y_M_by.2.1 42 = .ok (.invokevirtual 403, 3) := by decide +kernel
theorem d_M_by_45 : decode Y_M_by.2.1 45 = .ok (.invokestatic 406, 3) := by decide +kernel
theorem d_M_by_48 : decode Y_M_by.2.1 48 = .ok (.lstore 11, 2) := by decide +kernel
theorem d_M_by_50 : decode Y_M_by.2.1 50 = .ok (.lload 11, 2) := by decide +kernel
theorem d_M_by_52 : decode Y_M_by.2.1 52 = .ok (.aload_n 0, 1) := by decide +kernel
theorem d_M_by_53 : decode Y_M_by.2.1 53 = .ok (.iload_n 1, 1) := by decide +kernel
theorem d_M_by_54 : decode Y_M_by.2.1 54 = .ok (.iload 8, 2) := by decide +kernel
theorem d_M_by_56 : decode Y_M_by.2.1 56 = .ok (.iload 7, 2) := by decide +kernel
theorem d_M_by_58 : decode Y_M_by.2.1 58 = .ok (.invokevirtual 361, 3) := by decide +kernel
theorem d_M_by_61 : decode Y_M_by.2.1 61 = .ok (.iload 9, 2) := by decide +kernel
theorem d_M_by_63 : decode Y_M_by.2.1 63 = .ok (.isub, 1) := by decide +kernel
theorem d_M_by_64 : decode Y_M_by.2.1 64 = .ok (.i2l, 1) := by decide +kernel
theorem d_M_by_65 : decode Y_M_by.2.1 65 = .ok (.lmul, 1) := by decide +kernel
theorem d_M_by_66 : decode Y_M_by.2.1 66 = .ok (.aload_n 0, 1) := by decide +kernel
theorem d_M_by_67 : decode Y_M_by.2.1 67 = .ok (.iload_n 1, 1) := by decide +kernel
theorem d_M_by_68 : decode Y_M_by.2.1 68 = .ok (.iload_n 2, 1) := by decide +kernel
theorem d_M_by_69 : decode Y_M_by.2.1 69 = .ok (.iload_n 3, 1) := by decide +kernel
theorem d_M_by_70 : decode Y_M_by.2.1 70 = .ok (.iload 8, 2) := by decide +kernel
theorem d_M_by_72 : decode Y_M_by.2.1 72 = .ok (.iload 10, 2) := by decide +kernel
theorem d_M_by_74 : decode Y_M_by.2.1 74 = .ok (.ifCond .eq 16, 3) := by decide +kernel
theorem d_M_by_77 : decode Y_M_by.2.1 77 = .ok (.iload 5, 2) := by decide +kernel
theorem d_M_by_79 : decode Y_M_by.2.1 79 = .ok (.iconst 2, 1) := by decide +kernel
theorem d_M_by_80 : decode Y_M_by.2.1 80 = .ok (.if_icmp .ge 10, 3) := by decide +kernel
theorem d_M_by_83 : decode Y_M_by.2.1 83 = .ok (.iload 5, 2) := by decide +kernel
theorem d_M_by_85 : decode Y_M_by.2.1 85 = .ok (.iconst 1, 1) := by decide +kernel
theorem d_M_by_86 : decode Y_M_by.2.1 86 = .ok (.iadd, 1) := by decide +kernel
theorem d_M_by_87 : decode Y_M_by.2.1 87 = .ok (.goto 5, 3) := by decide +kernel
theorem d_M_by_90 : decode Y_M_by.2.1 90 = .ok (.iload 5, 2) := by decide +kernel
theorem d_M_by_92 : decode Y_M_by.2.1 92 = .ok (.iload 10, 2) := by decide +kernel
theorem d_M_by_94 : decode Y_M_by.2.1 94 = .ok (.ifCond .eq 9, 3) := by decide +kernel
theorem d_M_by_97 : decode Y_M_by.2.1 97 = .ok (.iload_n 2, 1) := by decide +kernel
theorem d_M_by_98 : decode Y_M_by.2.1 98 = .ok (.iconst 1, 1) := by decide +kernel
theorem d_M_by_99 : decode Y_M_by.2.1 99 = .ok (.iadd, 1) := by decide +kernel
theorem d_M_by_100 : decode Y_M_by.2.1 100 = .ok (.goto 5, 3) := by decide +kernel
theorem d_M_by_103 : decode Y_M_by.2.1 103 = .ok (.iload 6, 2) := by decide +kernel
theorem d_M_by_105 : decode Y_M_by.2.1 105 = .ok (.iload 7, 2) := by decide +kernel
theorem d_M_by_107 : decode Y_M_by.2.1 107 = .ok (.invokevirtual 410, 3) := by decide +kernel
theorem d_M_by_110 : decode Y_M_by.2.1 110 = .ok (.ladd, 1) := by decide +kernel
theorem d_M_by_111 : decode Y_M_by.2.1 111 = .ok (.lreturn, 1) := by decide +kernel
def f_M_by (h : PH) (a0 : Option Nat) (a1 : Int32) (a2 : Int32) (a3 : Int32) (a4 : Int32) (a5 : Int32) (a6 : Int32) (a7 : Int32) (a8 : Int32) : Option Int64 := (cl h 12 a0 (f_M_ago h a0 a1 a6 a2)).bind fun v1 => (cl h 12 a0 (f_M_taxBy h a0 a1 a4 a8 a5 v1)).bind fun v2 => (if a8 = a4 then (some (0 : Int32)) else (some (1 : Int32)) : Option (Int32)).bind fun j3 => (cl h 12 a0 (f_M_reasonsBehind h a0 a1 a2 a3)).bind fun v4 => (f_M_power h (100 : Int64) v4).bind fun v5 => (cl h 12 a0 (f_M_worthBy h a0 a1 a8 a7)).bind fun v6 => (if j3 = 0 then (some a5) else (if (2 : Int32) ≤ a5 then (some a5) else (some (a5 + (1 : Int32)))) : Option (Int32)).bind fun j7 => (if j3 = 0 then (some a6) else (some (a2 + (1 : Int32))) : Option (Int32)).bind fun j8 => (cl h 12 a0 (f_M_behind h a0 a1 a2 a3 a8 j7 j8 a7)).bind fun v9 => some ((v5 * (Int32.toInt64 (v6 - v2))) + v9)
set_option maxRecDepth 20000 in
theorem PM_M_by {l : Launch} {G : Cx} {h : PH} {a0 : Option Nat} {a1 : Int32} {a2 : Int32} {a3 : Int32} {a4 : Int32} {a5 : Int32} {a6 : Int32} {a7 : Int32} {a8 : Int32} {z : Int64} (hz : f_M_by h a0 a1 a2 a3 a4 a5 a6 a7 a8 = some z) : PM l G 3 0 0 Y_M_by [.inr (.inr a0), .inl a1, .inl a2, .inl a3, .inl a4, .inl a5, .inl a6, .inl a7, .inl a8] h (some (.inr (.inl z)), h) := by
  refine PM.of (Y := Y_M_by) (cv := (fun z : Int64 => (((some (.inr (.inl z)), h) : Option PV × PH)))) (by decide) (L0 := [some (.inr (.inr a0)), some (.inl a1), some (.inl a2), some (.inl a3), some (.inl a4), some (.inl a5), some (.inl a6), some (.inl a7), some (.inl a8), none, none, none, none]) 4 rfl (Nat.le_of_ble_eq_true rfl) ?_ hz
  unfold f_M_by
  refine PJ.aload_n (pc := 0) d_M_by_0 rfl ?_
  refine PJ.iload_n (pc := 1) d_M_by_1 rfl ?_
  refine PJ.iload (pc := 2) d_M_by_2 rfl ?_
  refine PJ.iload (pc := 4) d_M_by_4 rfl ?_
  refine PJ.iload (pc := 6) d_M_by_6 rfl ?_
  refine PJ.aload_n (pc := 8) d_M_by_8 rfl ?_
  refine PJ.iload_n (pc := 9) d_M_by_9 rfl ?_
  refine PJ.iload (pc := 10) d_M_by_10 rfl ?_
  refine PJ.iload_n (pc := 12) d_M_by_12 rfl ?_
  refine PJ.cVpI (pc := 13) cs_M_398 (fun z hz => PM_M_ago hz) (pj_fitb rfl) rfl rfl (Nat.le_of_ble_eq_true rfl) d_M_by_13 (fun v1 => ?_)
  refine PJ.cVpI (pc := 16) cs_M_355 (fun z hz => PM_M_taxBy hz) (pj_fitb rfl) rfl rfl (Nat.le_of_ble_eq_true rfl) d_M_by_16 (fun v2 => ?_)
  refine PJ.istore (pc := 19) (L1 := [some (.inr (.inr a0)), some (.inl a1), some (.inl a2), some (.inl a3), some (.inl a4), some (.inl a5), some (.inl a6), some (.inl a7), some (.inl a8), some (.inl v2), none, none, none]) d_M_by_19 (Nat.le_of_ble_eq_true rfl) rfl rfl ?_
  refine PJ.iload (pc := 21) d_M_by_21 rfl ?_
  refine PJ.iload (pc := 23) d_M_by_23 rfl ?_
  refine PJ.bind (fun j3 : Int32 => ((33 : Nat), ([some (.inr (.inr a0)), some (.inl a1), some (.inl a2), some (.inl a3), none, some (.inl a5), some (.inl a6), some (.inl a7), some (.inl a8), some (.inl v2), none, none, none] : List (Option PV)), ([.inl j3] : List PV), (h : PH), (0 : Nat), (0 : Nat))) ?_ (fun j3 => ?_)
  · refine PJ.icmp_eq (pc := 25) (tgt := 32) d_M_by_25 (by decide) (fun _ => ?_) (fun _ => ?_)
    · refine PJ.iconst (pc := 32) (v := 0) d_M_by_32 (by decide) ?_
      refine PJ.mk (L1 := [some (.inr (.inr a0)), some (.inl a1), some (.inl a2), some (.inl a3), none, some (.inl a5), some (.inl a6), some (.inl a7), some (.inl a8), some (.inl v2), none, none, none]) [true, true, true, true, false, true, true, true, true, true, false, false, false] rfl ?_
      exact PJ.done rfl
    · refine PJ.iconst (pc := 28) (v := 1) d_M_by_28 (by decide) ?_
      refine PJ.goto (pc := 29) (tgt := 33) d_M_by_29 (by decide) ?_
      refine PJ.mk (L1 := [some (.inr (.inr a0)), some (.inl a1), some (.inl a2), some (.inl a3), none, some (.inl a5), some (.inl a6), some (.inl a7), some (.inl a8), some (.inl v2), none, none, none]) [true, true, true, true, false, true, true, true, true, true, false, false, false] rfl ?_
      exact PJ.done rfl
  · show PJ l G (pj_rm 3 0 0) Y_M_by 33 [some (.inr (.inr a0)), some (.inl a1), some (.inl a2), some (.inl a3), none, some (.inl a5), some (.inl a6), some (.inl a7), some (.inl a8), some (.inl v2), none, none, none] [.inl j3] h 0 0 _ _
    refine PJ.istore (pc := 33) (L1 := [some (.inr (.inr a0)), some (.inl a1), some (.inl a2), some (.inl a3), none, some (.inl a5), some (.inl a6), some (.inl a7), some (.inl a8), some (.inl v2), some (.inl j3), none, none]) d_M_by_33 (Nat.le_of_ble_eq_true rfl) rfl rfl ?_
    refine PJ.ldc2 (pc := 35) (v := 100) d_M_by_35 wd_1897 ?_
    refine PJ.aload_n (pc := 38) d_M_by_38 rfl ?_
    refine PJ.iload_n (pc := 39) d_M_by_39 rfl ?_
    refine PJ.iload_n (pc := 40) d_M_by_40 rfl ?_
    refine PJ.iload_n (pc := 41) d_M_by_41 rfl ?_
    refine PJ.cVpI (pc := 42) cs_M_403 (fun z hz => PM_M_reasonsBehind hz) (pj_fitb rfl) rfl rfl (Nat.le_of_ble_eq_true rfl) d_M_by_42 (fun v4 => ?_)
    refine PJ.cSpL (pc := 45) cs_M_406 (fun z hz => PM_M_power hz) (pj_fitb rfl) rfl rfl (Nat.le_of_ble_eq_true rfl) d_M_by_45 (fun v5 => ?_)
    refine PJ.lstore (pc := 48) (L1 := [some (.inr (.inr a0)), some (.inl a1), some (.inl a2), some (.inl a3), none, some (.inl a5), some (.inl a6), some (.inl a7), some (.inl a8), some (.inl v2), some (.inl j3), some (.inr (.inl v5)), none]) d_M_by_48 (Nat.le_of_ble_eq_true rfl) rfl rfl ?_
    refine PJ.lload (pc := 50) d_M_by_50 rfl ?_
    refine PJ.aload_n (pc := 52) d_M_by_52 rfl ?_
    refine PJ.iload_n (pc := 53) d_M_by_53 rfl ?_
    refine PJ.iload (pc := 54) d_M_by_54 rfl ?_
    refine PJ.iload (pc := 56) d_M_by_56 rfl ?_
    refine PJ.cVpI (pc := 58) cs_M_361 (fun z hz => PM_M_worthBy hz) (pj_fitb rfl) rfl rfl (Nat.le_of_ble_eq_true rfl) d_M_by_58 (fun v6 => ?_)
    refine PJ.iload (pc := 61) d_M_by_61 rfl ?_
    refine PJ.isub (pc := 63) d_M_by_63 ?_
    refine PJ.i2l (pc := 64) d_M_by_64 ?_
    refine PJ.lmul (pc := 65) d_M_by_65 ?_
    refine PJ.aload_n (pc := 66) d_M_by_66 rfl ?_
    refine PJ.iload_n (pc := 67) d_M_by_67 rfl ?_
    refine PJ.iload_n (pc := 68) d_M_by_68 rfl ?_
    refine PJ.iload_n (pc := 69) d_M_by_69 rfl ?_
    refine PJ.iload (pc := 70) d_M_by_70 rfl ?_
    refine PJ.iload (pc := 72) d_M_by_72 rfl ?_
    refine PJ.bind (fun j7 : Int32 => ((92 : Nat), ([none, none, some (.inl a2), none, none, none, some (.inl a6), some (.inl a7), none, none, some (.inl j3), none, none] : List (Option PV)), ([.inl j7, .inl a8, .inl a3, .inl a2, .inl a1, .inr (.inr a0), .inr (.inl (v5 * (Int32.toInt64 (v6 - v2))))] : List PV), (h : PH), (0 : Nat), (0 : Nat))) ?_ (fun j7 => ?_)
    · refine PJ.if_eq (pc := 74) (tgt := 90) d_M_by_74 (by decide) (fun _ => ?_) (fun _ => ?_)
      · refine PJ.iload (pc := 90) d_M_by_90 rfl ?_
        refine PJ.mk (L1 := [none, none, some (.inl a2), none, none, none, some (.inl a6), some (.inl a7), none, none, some (.inl j3), none, none]) [false, false, true, false, false, false, true, true, false, false, true, false, false] rfl ?_
        exact PJ.done rfl
      · refine PJ.iload (pc := 77) d_M_by_77 rfl ?_
        refine PJ.iconst (pc := 79) (v := 2) d_M_by_79 (by decide) ?_
        refine PJ.icmp_ge (pc := 80) (tgt := 90) d_M_by_80 (by decide) (fun _ => ?_) (fun _ => ?_)
        · refine PJ.iload (pc := 90) d_M_by_90 rfl ?_
          refine PJ.mk (L1 := [none, none, some (.inl a2), none, none, none, some (.inl a6), some (.inl a7), none, none, some (.inl j3), none, none]) [false, false, true, false, false, false, true, true, false, false, true, false, false] rfl ?_
          exact PJ.done rfl
        · refine PJ.iload (pc := 83) d_M_by_83 rfl ?_
          refine PJ.iconst (pc := 85) (v := 1) d_M_by_85 (by decide) ?_
          refine PJ.iadd (pc := 86) d_M_by_86 ?_
          refine PJ.goto (pc := 87) (tgt := 92) d_M_by_87 (by decide) ?_
          refine PJ.mk (L1 := [none, none, some (.inl a2), none, none, none, some (.inl a6), some (.inl a7), none, none, some (.inl j3), none, none]) [false, false, true, false, false, false, true, true, false, false, true, false, false] rfl ?_
          exact PJ.done rfl
    · show PJ l G (pj_rm 3 0 0) Y_M_by 92 [none, none, some (.inl a2), none, none, none, some (.inl a6), some (.inl a7), none, none, some (.inl j3), none, none] [.inl j7, .inl a8, .inl a3, .inl a2, .inl a1, .inr (.inr a0), .inr (.inl (v5 * (Int32.toInt64 (v6 - v2))))] h 0 0 _ _
      refine PJ.iload (pc := 92) d_M_by_92 rfl ?_
      refine PJ.bind (fun j8 : Int32 => ((105 : Nat), ([none, none, none, none, none, none, none, some (.inl a7), none, none, none, none, none] : List (Option PV)), ([.inl j8, .inl j7, .inl a8, .inl a3, .inl a2, .inl a1, .inr (.inr a0), .inr (.inl (v5 * (Int32.toInt64 (v6 - v2))))] : List PV), (h : PH), (0 : Nat), (0 : Nat))) ?_ (fun j8 => ?_)
      · refine PJ.if_eq (pc := 94) (tgt := 103) d_M_by_94 (by decide) (fun _ => ?_) (fun _ => ?_)
        · refine PJ.iload (pc := 103) d_M_by_103 rfl ?_
          refine PJ.mk (L1 := [none, none, none, none, none, none, none, some (.inl a7), none, none, none, none, none]) [false, false, false, false, false, false, false, true, false, false, false, false, false] rfl ?_
          exact PJ.done rfl
        · refine PJ.iload_n (pc := 97) d_M_by_97 rfl ?_
          refine PJ.iconst (pc := 98) (v := 1) d_M_by_98 (by decide) ?_
          refine PJ.iadd (pc := 99) d_M_by_99 ?_
          refine PJ.goto (pc := 100) (tgt := 105) d_M_by_100 (by decide) ?_
          refine PJ.mk (L1 := [none, none, none, none, none, none, none, some (.inl a7), none, none, none, none, none]) [false, false, false, false, false, false, false, true, false, false, false, false, false] rfl ?_
          exact PJ.done rfl
      · show PJ l G (pj_rm 3 0 0) Y_M_by 105 [none, none, none, none, none, none, none, some (.inl a7), none, none, none, none, none] [.inl j8, .inl j7, .inl a8, .inl a3, .inl a2, .inl a1, .inr (.inr a0), .inr (.inl (v5 * (Int32.toInt64 (v6 - v2))))] h 0 0 _ _
        refine PJ.iload (pc := 105) d_M_by_105 rfl ?_
        refine PJ.cVpL (pc := 107) cs_M_410 (fun z hz => PM_M_behind hz) (pj_fitb rfl) rfl rfl (Nat.le_of_ble_eq_true rfl) d_M_by_107 (fun v9 => ?_)
        refine PJ.ladd (pc := 110) d_M_by_110 ?_
        exact PJ.lretp (pc := 111) d_M_by_111 rfl (Nat.le_of_ble_eq_true rfl) (Nat.le_of_ble_eq_true rfl)
theorem d_M_bestBy_0 : decode Y_M_bestBy.2.1 0 = .ok (.aload_n 0, 1) := by decide +kernel
theorem d_M_bestBy_1 : decode Y_M_bestBy.2.1 1 = .ok (.iload_n 1, 1) := by decide +kernel
theorem d_M_bestBy_2 : decode Y_M_bestBy.2.1 2 = .ok (.iload_n 2, 1) := by decide +kernel
theorem d_M_bestBy_3 : decode Y_M_bestBy.2.1 3 = .ok (.iload_n 3, 1) := by decide +kernel
theorem d_M_bestBy_4 : decode Y_M_bestBy.2.1 4 = .ok (.iload 4, 2) := by decide +kernel
theorem d_M_bestBy_6 : decode Y_M_bestBy.2.1 6 = .ok (.iload 5, 2) := by decide +kernel
theorem d_M_bestBy_8 : decode Y_M_bestBy.2.1 8 = .ok (.iload 6, 2) := by decide +kernel
theorem d_M_bestBy_10 : decode Y_M_bestBy.2.1 10 = .ok (.iload 7, 2) := by decide +kernel
theorem d_M_bestBy_12 : decode Y_M_bestBy.2.1 12 = .ok (.iload 4, 2) := by decide +kernel
theorem d_M_bestBy_14 : decode Y_M_bestBy.2.1 14 = .ok (.invokevirtual 414, 3) := by decide +kernel
theorem d_M_bestBy_17 : decode Y_M_bestBy.2.1 17 = .ok (.lstore 8, 2) := by decide +kernel
theorem d_M_bestBy_19 : decode Y_M_bestBy.2.1 19 = .ok (.aload_n 0, 1) := by decide +kernel
theorem d_M_bestBy_20 : decode Y_M_bestBy.2.1 20 = .ok (.iload 4, 2) := by decide +kernel
theorem d_M_bestBy_22 : decode Y_M_bestBy.2.1 22 = .ok (.putfield 417, 3) := by decide +kernel
theorem d_M_bestBy_25 : decode Y_M_bestBy.2.1 25 = .ok (.iconst 0, 1) := by decide +kernel
theorem d_M_bestBy_26 : decode Y_M_bestBy.2.1 26 = .ok (.istore 10, 2) := by decide +kernel
theorem d_M_bestBy_28 : decode Y_M_bestBy.2.1 28 = .ok (.iload 10, 2) := by decide +kernel
theorem d_M_bestBy_30 : decode Y_M_bestBy.2.1 30 = .ok (.aload_n 0, 1) := by decide +kernel
theorem d_M_bestBy_31 : decode Y_M_bestBy.2.1 31 = .ok (.getfield 341, 3) := by decide +kernel
theorem d_M_bestBy_34 : decode Y_M_bestBy.2.1 34 = .ok (.getfield 198, 3) := by decide +kernel
theorem d_M_bestBy_37 : decode Y_M_bestBy.2.1 37 = .ok (.if_icmp .ge 49, 3) := by decide +kernel
theorem d_M_bestBy_40 : decode Y_M_bestBy.2.1 40 = .ok (.aload_n 0, 1) := by decide +kernel
theorem d_M_bestBy_41 : decode Y_M_bestBy.2.1 41 = .ok (.iload_n 1, 1) := by decide +kernel
theorem d_M_bestBy_42 : decode Y_M_bestBy.2.1 42 = .ok (.iload_n 2, 1) := by decide +kernel
theorem d_M_bestBy_43 : decode Y_M_bestBy.2.1 43 = .ok (.iload_n 3, 1) := by decide +kernel
theorem d_M_bestBy_44 : decode Y_M_bestBy.2.1 44 = .ok (.iload 4, 2) := by decide +kernel
theorem d_M_bestBy_46 : decode Y_M_bestBy.2.1 46 = .ok (.iload 5, 2) := by decide +kernel
theorem d_M_bestBy_48 : decode Y_M_bestBy.2.1 48 = .ok (.iload 6, 2) := by decide +kernel
theorem d_M_bestBy_50 : decode Y_M_bestBy.2.1 50 = .ok (.iload 7, 2) := by decide +kernel
theorem d_M_bestBy_52 : decode Y_M_bestBy.2.1 52 = .ok (.iload 10, 2) := by decide +kernel
theorem d_M_bestBy_54 : decode Y_M_bestBy.2.1 54 = .ok (.invokevirtual 414, 3) := by decide +kernel
theorem d_M_bestBy_57 : decode Y_M_bestBy.2.1 57 = .ok (.lstore 11, 2) := by decide +kernel
theorem d_M_bestBy_59 : decode Y_M_bestBy.2.1 59 = .ok (.lload 11, 2) := by decide +kernel
theorem d_M_bestBy_61 : decode Y_M_bestBy.2.1 61 = .ok (.lload 8, 2) := by decide +kernel
theorem d_M_bestBy_63 : decode Y_M_bestBy.2.1 63 = .ok (.lcmp, 1) := by decide +kernel
theorem d_M_bestBy_64 : decode Y_M_bestBy.2.1 64 = .ok (.ifCond .gt 6, 3) := by decide +kernel
theorem d_M_bestBy_67 : decode Y_M_bestBy.2.1 67 = .ok (.goto 13, 3) := by decide +kernel
theorem d_M_bestBy_70 : decode Y_M_bestBy.2.1 70 = .ok (.lload 11, 2) := by decide +kernel
theorem d_M_bestBy_72 : decode Y_M_bestBy.2.1 72 = .ok (.lstore 8, 2) := by decide +kernel
theorem d_M_bestBy_74 : decode Y_M_bestBy.2.1 74 = .ok (.aload_n 0, 1) := by decide +kernel
theorem d_M_bestBy_75 : decode Y_M_bestBy.2.1 75 = .ok (.iload 10, 2) := by decide +kernel
theorem d_M_bestBy_77 : decode Y_M_bestBy.2.1 77 = .ok (.putfield 417, 3) := by decide +kernel
theorem d_M_bestBy_80 : decode Y_M_bestBy.2.1 80 = .ok (.iinc 10 1, 3) := by decide +kernel
theorem d_M_bestBy_83 : decode Y_M_bestBy.2.1 83 = .ok (.goto (-55), 3) := by decide +kernel
theorem d_M_bestBy_86 : decode Y_M_bestBy.2.1 86 = .ok (.lload 8, 2) := by decide +kernel
theorem d_M_bestBy_88 : decode Y_M_bestBy.2.1 88 = .ok (.lreturn, 1) := by decide +kernel
def f_M_bestBy (h : PH) (a0 : Option Nat) (a1 : Int32) (a2 : Int32) (a3 : Int32) (a4 : Int32) (a5 : Int32) (a6 : Int32) (a7 : Int32) : Option (Int64 × PH) := (cl h 12 a0 (f_M_by h a0 a1 a2 a3 a4 a5 a6 a7 a4)).bind fun v1 => (sF h 12 a0 24 (.inl a4)).bind fun h2 => (pj_it (X := Int64 × PH) (fun s3 : Int64 × Int32 × PH => (gR s3.2.2 12 a0 3).bind fun v5 => (gI s3.2.2 11 v5 2).bind fun v6 => if v6 ≤ s3.2.1 then (some (.inr (s3.1, s3.2.2))) else ((cl s3.2.2 12 a0 (f_M_by s3.2.2 a0 a1 a2 a3 a4 a5 a6 a7 s3.2.1)).bind fun v7 => if 0 < (lg_cmp v7 s3.1) then ((sF s3.2.2 12 a0 24 (.inl s3.2.1)).bind fun h8 => some (.inl (v7, (s3.2.1 + (1 : Int32)), h8))) else (some (.inl (s3.1, (s3.2.1 + (1 : Int32)), s3.2.2))))) FU (v1, (0 : Int32), h2)).bind fun x4 => some (x4.1, x4.2)
set_option maxRecDepth 20000 in
theorem PM_M_bestBy {l : Launch} {G : Cx} {h : PH} {a0 : Option Nat} {a1 : Int32} {a2 : Int32} {a3 : Int32} {a4 : Int32} {a5 : Int32} {a6 : Int32} {a7 : Int32} {z : (Int64 × PH)} (hz : f_M_bestBy h a0 a1 a2 a3 a4 a5 a6 a7 = some z) : PM l G 4 0 0 Y_M_bestBy [.inr (.inr a0), .inl a1, .inl a2, .inl a3, .inl a4, .inl a5, .inl a6, .inl a7] h (some (.inr (.inl z.1)), z.2) := by
  refine PM.of (Y := Y_M_bestBy) (cv := (fun z : (Int64 × PH) => (((some (.inr (.inl z.1)), z.2) : Option PV × PH)))) (by decide) (L0 := [some (.inr (.inr a0)), some (.inl a1), some (.inl a2), some (.inl a3), some (.inl a4), some (.inl a5), some (.inl a6), some (.inl a7), none, none, none, none, none]) 5 rfl (Nat.le_of_ble_eq_true rfl) ?_ hz
  unfold f_M_bestBy
  refine PJ.aload_n (pc := 0) d_M_bestBy_0 rfl ?_
  refine PJ.iload_n (pc := 1) d_M_bestBy_1 rfl ?_
  refine PJ.iload_n (pc := 2) d_M_bestBy_2 rfl ?_
  refine PJ.iload_n (pc := 3) d_M_bestBy_3 rfl ?_
  refine PJ.iload (pc := 4) d_M_bestBy_4 rfl ?_
  refine PJ.iload (pc := 6) d_M_bestBy_6 rfl ?_
  refine PJ.iload (pc := 8) d_M_bestBy_8 rfl ?_
  refine PJ.iload (pc := 10) d_M_bestBy_10 rfl ?_
  refine PJ.iload (pc := 12) d_M_bestBy_12 rfl ?_
  refine PJ.cVpL (pc := 14) cs_M_414 (fun z hz => PM_M_by hz) (pj_fitb rfl) rfl rfl (Nat.le_of_ble_eq_true rfl) d_M_bestBy_14 (fun v1 => ?_)
  refine PJ.lstore (pc := 17) (L1 := [some (.inr (.inr a0)), some (.inl a1), some (.inl a2), some (.inl a3), some (.inl a4), some (.inl a5), some (.inl a6), some (.inl a7), some (.inr (.inl v1)), none, none, none, none]) d_M_bestBy_17 (Nat.le_of_ble_eq_true rfl) rfl rfl ?_
  refine PJ.aload_n (pc := 19) d_M_bestBy_19 rfl ?_
  refine PJ.iload (pc := 20) d_M_bestBy_20 rfl ?_
  refine PJ.putI (pc := 22) ps_M_417 d_M_bestBy_22 (fun h2 => ?_)
  refine PJ.iconst (pc := 25) (v := 0) d_M_bestBy_25 (by decide) ?_
  refine PJ.istore (pc := 26) (L1 := [some (.inr (.inr a0)), some (.inl a1), some (.inl a2), some (.inl a3), some (.inl a4), some (.inl a5), some (.inl a6), some (.inl a7), some (.inr (.inl v1)), none, some (.inl (0 : Int32)), none, none]) d_M_bestBy_26 (Nat.le_of_ble_eq_true rfl) rfl rfl ?_
  refine PJ.bind (fun x4 : Int64 × PH => ((86 : Nat), ([none, none, none, none, none, none, none, none, some (.inr (.inl x4.1)), none, none, none, none] : List (Option PV)), ([] : List PV), (x4.2 : PH), (0 : Nat), (0 : Nat))) (PJ.it (E := (fun s3 : Int64 × Int32 × PH => ((28 : Nat), ([some (.inr (.inr a0)), some (.inl a1), some (.inl a2), some (.inl a3), some (.inl a4), some (.inl a5), some (.inl a6), some (.inl a7), some (.inr (.inl s3.1)), none, some (.inl s3.2.1), none, none] : List (Option PV)), ([] : List PV), (s3.2.2 : PH), (0 : Nat), (0 : Nat)))) (F := (fun x4 : Int64 × PH => ((86 : Nat), ([none, none, none, none, none, none, none, none, some (.inr (.inl x4.1)), none, none, none, none] : List (Option PV)), ([] : List PV), (x4.2 : PH), (0 : Nat), (0 : Nat)))) (fun s3 => ?_) FU (v1, (0 : Int32), h2)) (fun x4 => ?_)
  · show PJ l G (pj_rm 4 0 0) Y_M_bestBy 28 [some (.inr (.inr a0)), some (.inl a1), some (.inl a2), some (.inl a3), some (.inl a4), some (.inl a5), some (.inl a6), some (.inl a7), some (.inr (.inl s3.1)), none, some (.inl s3.2.1), none, none] [] s3.2.2 0 0 _ _
    refine PJ.iload (pc := 28) d_M_bestBy_28 rfl ?_
    refine PJ.aload_n (pc := 30) d_M_bestBy_30 rfl ?_
    refine PJ.getR (pc := 31) fs_M_341 d_M_bestBy_31 (fun v5 => ?_)
    refine PJ.getI (pc := 34) fs_M_198 d_M_bestBy_34 (fun v6 => ?_)
    refine PJ.icmp_ge (pc := 37) (tgt := 86) d_M_bestBy_37 (by decide) (fun _ => ?_) (fun _ => ?_)
    · refine PJ.mk (L1 := [none, none, none, none, none, none, none, none, some (.inr (.inl s3.1)), none, none, none, none]) [false, false, false, false, false, false, false, false, true, false, false, false, false] rfl ?_
      exact PJ.done rfl
    · refine PJ.aload_n (pc := 40) d_M_bestBy_40 rfl ?_
      refine PJ.iload_n (pc := 41) d_M_bestBy_41 rfl ?_
      refine PJ.iload_n (pc := 42) d_M_bestBy_42 rfl ?_
      refine PJ.iload_n (pc := 43) d_M_bestBy_43 rfl ?_
      refine PJ.iload (pc := 44) d_M_bestBy_44 rfl ?_
      refine PJ.iload (pc := 46) d_M_bestBy_46 rfl ?_
      refine PJ.iload (pc := 48) d_M_bestBy_48 rfl ?_
      refine PJ.iload (pc := 50) d_M_bestBy_50 rfl ?_
      refine PJ.iload (pc := 52) d_M_bestBy_52 rfl ?_
      refine PJ.cVpL (pc := 54) cs_M_414 (fun z hz => PM_M_by hz) (pj_fitb rfl) rfl rfl (Nat.le_of_ble_eq_true rfl) d_M_bestBy_54 (fun v7 => ?_)
      refine PJ.lstore (pc := 57) (L1 := [some (.inr (.inr a0)), some (.inl a1), some (.inl a2), some (.inl a3), some (.inl a4), some (.inl a5), some (.inl a6), some (.inl a7), some (.inr (.inl s3.1)), none, some (.inl s3.2.1), some (.inr (.inl v7)), none]) d_M_bestBy_57 (Nat.le_of_ble_eq_true rfl) rfl rfl ?_
      refine PJ.lload (pc := 59) d_M_bestBy_59 rfl ?_
      refine PJ.lload (pc := 61) d_M_bestBy_61 rfl ?_
      refine PJ.lcmp (pc := 63) d_M_bestBy_63 ?_
      refine PJ.if_gt (pc := 64) (tgt := 70) d_M_bestBy_64 (by decide) (fun _ => ?_) (fun _ => ?_)
      · refine PJ.lload (pc := 70) d_M_bestBy_70 rfl ?_
        refine PJ.lstore (pc := 72) (L1 := [some (.inr (.inr a0)), some (.inl a1), some (.inl a2), some (.inl a3), some (.inl a4), some (.inl a5), some (.inl a6), some (.inl a7), some (.inr (.inl v7)), none, some (.inl s3.2.1), some (.inr (.inl v7)), none]) d_M_bestBy_72 (Nat.le_of_ble_eq_true rfl) rfl rfl ?_
        refine PJ.aload_n (pc := 74) d_M_bestBy_74 rfl ?_
        refine PJ.iload (pc := 75) d_M_bestBy_75 rfl ?_
        refine PJ.putI (pc := 77) ps_M_417 d_M_bestBy_77 (fun h8 => ?_)
        refine PJ.iinc (pc := 80) (v := 1) (L1 := [some (.inr (.inr a0)), some (.inl a1), some (.inl a2), some (.inl a3), some (.inl a4), some (.inl a5), some (.inl a6), some (.inl a7), some (.inr (.inl v7)), none, some (.inl (s3.2.1 + (1 : Int32))), some (.inr (.inl v7)), none]) d_M_bestBy_80 rfl (by decide) (Nat.le_of_ble_eq_true rfl) rfl rfl ?_
        refine PJ.goto (pc := 83) (tgt := 28) d_M_bestBy_83 (by decide) ?_
        refine PJ.mk (L1 := [some (.inr (.inr a0)), some (.inl a1), some (.inl a2), some (.inl a3), some (.inl a4), some (.inl a5), some (.inl a6), some (.inl a7), some (.inr (.inl v7)), none, some (.inl (s3.2.1 + (1 : Int32))), none, none]) [true, true, true, true, true, true, true, true, true, false, true, false, false] rfl ?_
        exact PJ.done rfl
      · refine PJ.goto (pc := 67) (tgt := 80) d_M_bestBy_67 (by decide) ?_
        refine PJ.iinc (pc := 80) (v := 1) (L1 := [some (.inr (.inr a0)), some (.inl a1), some (.inl a2), some (.inl a3), some (.inl a4), some (.inl a5), some (.inl a6), some (.inl a7), some (.inr (.inl s3.1)), none, some (.inl (s3.2.1 + (1 : Int32))), some (.inr (.inl v7)), none]) d_M_bestBy_80 rfl (by decide) (Nat.le_of_ble_eq_true rfl) rfl rfl ?_
        refine PJ.goto (pc := 83) (tgt := 28) d_M_bestBy_83 (by decide) ?_
        refine PJ.mk (L1 := [some (.inr (.inr a0)), some (.inl a1), some (.inl a2), some (.inl a3), some (.inl a4), some (.inl a5), some (.inl a6), some (.inl a7), some (.inr (.inl s3.1)), none, some (.inl (s3.2.1 + (1 : Int32))), none, none]) [true, true, true, true, true, true, true, true, true, false, true, false, false] rfl ?_
        exact PJ.done rfl
  · show PJ l G (pj_rm 4 0 0) Y_M_bestBy 86 [none, none, none, none, none, none, none, none, some (.inr (.inl x4.1)), none, none, none, none] [] x4.2 0 0 _ _
    refine PJ.lload (pc := 86) d_M_bestBy_86 rfl ?_
    exact PJ.lret (pc := 88) d_M_bestBy_88 rfl (Nat.le_of_ble_eq_true rfl) (Nat.le_of_ble_eq_true rfl)
theorem d_M_plans_0 : decode Y_M_plans.2.1 0 = .ok (.aload_n 0, 1) := by decide +kernel
theorem d_M_plans_1 : decode Y_M_plans.2.1 1 = .ok (.invokevirtual 375, 3) := by decide +kernel
theorem d_M_plans_4 : decode Y_M_plans.2.1 4 = .ok (.iload_n 2, 1) := by decide +kernel
theorem d_M_plans_5 : decode Y_M_plans.2.1 5 = .ok (.iconst 1, 1) := by decide +kernel
theorem d_M_plans_6 : decode Y_M_plans.2.1 6 = .ok (.isub, 1) := by decide +kernel
theorem d_M_plans_7 : decode Y_M_plans.2.1 7 = .ok (.istore_n 3, 1) := by decide +kernel
theorem d_M_plans_8 : decode Y_M_plans.2.1 8 = .ok (.iload_n 3, 1) := by decide +kernel
theorem d_M_plans_9 : decode Y_M_plans.2.1 9 = .ok (.ifCond .le 120, 3) := by decide +kernel
theorem d_M_plans_12 : decode Y_M_plans.2.1 12 = .ok (.iconst 0, 1) := by decide +kernel
theorem d_M_plans_13 : decode Y_M_plans.2.1 13 = .ok (.istore 4, 2) := by decide +kernel
theorem d_M_plans_15 : decode Y_M_plans.2.1 15 = .ok (.iload 4, 2) := by decide +kernel
theorem d_M_plans_17 : decode Y_M_plans.2.1 17 = .ok (.aload_n 0, 1) := by decide +kernel
theorem d_M_plans_18 : decode Y_M_plans.2.1 18 = .ok (.getfield 341, 3) := by decide +kernel
theorem d_M_plans_21 : decode Y_M_plans.2.1 21 = .ok (.getfield 198, 3) := by decide +kernel
theorem d_M_plans_24 : decode Y_M_plans.2.1 24 = .ok (.if_icmp .ge 99, 3) := by decide +kernel
theorem d_M_plans_27 : decode Y_M_plans.2.1 27 = .ok (.iconst 0, 1) := by decide +kernel
theorem d_M_plans_28 : decode Y_M_plans.2.1 28 = .ok (.istore 5, 2) := by decide +kernel
theorem d_M_plans_30 : decode Y_M_plans.2.1 30 = .ok (.iload 5, 2) := by decide +kernel
theorem d_M_plans_32 : decode Y_M_plans.2.1 32 = .ok (.iconst 3, 1) := by decide +kernel
theorem d_M_plans_33 : decode Y_M_plans.2.1 33 = .ok (.if_icmp .ge 84, 3) := by decide +kernel
theorem d_M_plans_36 : decode Y_M_plans.2.1 36 = .ok (.iconst 0, 1) := by decide +kernel
theorem d_M_plans_37 : decode Y_M_plans.2.1 37 = .ok (.istore 6, 2) := by decide +kernel
theorem d_M_plans_39 : decode Y_M_plans.2.1 39 = .ok (.iload 6, 2) := by decide +kernel
theorem d_M_plans_41 : decode Y_M_plans.2.1 41 = .ok (.iload_n 3, 1) := by decide +kernel
theorem d_M_plans_42 : decode Y_M_plans.2.1 42 = .ok (.if_icmp .gt 69, 3) := by decide +kernel
theorem d_M_plans_45 : decode Y_M_plans.2.1 45 = .ok (.iconst 0, 1) := by decide +kernel
theorem d_M_plans_46 : decode Y_M_plans.2.1 46 = .ok (.istore 7, 2) := by decide +kernel
theorem d_M_plans_48 : decode Y_M_plans.2.1 48 = .ok (.iload 7, 2) := by decide +kernel
theorem d_M_plans_50 : decode Y_M_plans.2.1 50 = .ok (.iconst 1, 1) := by decide +kernel
theorem d_M_plans_51 : decode Y_M_plans.2.1 51 = .ok (.aload_n 0, 1) := by decide +kernel
theorem d_M_plans_52 : decode Y_M_plans.2.1 52 = .ok (.getfield 341, 3) := by decide +kernel
theorem d_M_plans_55 : decode Y_M_plans.2.1 55 = .ok (.getfield 280, 3) := by decide +kernel
theorem d_M_plans_58 : decode Y_M_plans.2.1 58 = .ok (.ishl, 1) := by decide +kernel
theorem d_M_plans_59 : decode Y_M_plans.2.1 59 = .ok (.if_icmp .ge 46, 3) := by decide +kernel
theorem d_M_plans_62 : decode Y_M_plans.2.1 62 = .ok (.aload_n 0, 1) := by decide +kernel
theorem d_M_plans_63 : decode Y_M_plans.2.1 63 = .ok (.getfield 33, 3) := by decide +kernel
theorem d_M_plans_66 : decode Y_M_plans.2.1 66 = .ok (.sipush 1200, 3) := by decide +kernel
theorem d_M_plans_69 : decode Y_M_plans.2.1 69 = .ok (.iload_n 3, 1) := by decide +kernel
theorem d_M_plans_70 : decode Y_M_plans.2.1 70 = .ok (.imul, 1) := by decide +kernel
theorem d_M_plans_71 : decode Y_M_plans.2.1 71 = .ok (.iload 4, 2) := by decide +kernel
theorem d_M_plans_73 : decode Y_M_plans.2.1 73 = .ok (.iload 5, 2) := by decide +kernel
theorem d_M_plans_75 : decode Y_M_plans.2.1 75 = .ok (.iload 6, 2) := by decide +kernel
theorem d_M_plans_77 : decode Y_M_plans.2.1 77 = .ok (.iload 7, 2) := by decide +kernel
theorem d_M_plans_79 : decode Y_M_plans.2.1 79 = .ok (.invokestatic 394, 3) := by decide +kernel
theorem d_M_plans_82 : decode Y_M_plans.2.1 82 = .ok (.iadd, 1) := by decide +kernel
theorem d_M_plans_83 : decode Y_M_plans.2.1 83 = .ok (.aload_n 0, 1) := by decide +kernel
theorem d_M_plans_84 : decode Y_M_plans.2.1 84 = .ok (.iload_n 1, 1) := by decide +kernel
theorem d_M_plans_85 : decode Y_M_plans.2.1 85 = .ok (.iload_n 3, 1) := by decide +kernel
theorem d_M_plans_86 : decode Y_M_plans.2.1 86 = .ok (.iload_n 2, 1) := by decide +kernel
theorem d_M_plans_87 : decode Y_M_plans.2.1 87 = .ok (.iload 4, 2) := by decide +kernel
theorem d_M_plans_89 : decode Y_M_plans.2.1 89 = .ok (.iload 5, 2) := by decide +kernel
theorem d_M_plans_91 : decode Y_M_plans.2.1 91 = .ok (.iload 6, 2) := by decide +kernel
theorem d_M_plans_93 : decode Y_M_plans.2.1 93 = .ok (.iload 7, 2) := by decide +kernel
theorem d_M_plans_95 : decode Y_M_plans.2.1 95 = .ok (.invokevirtual 420, 3) := by decide +kernel
theorem d_M_plans_98 : decode Y_M_plans.2.1 98 = .ok (.lastore, 1) := by decide +kernel
theorem d_M_plans_99 : decode Y_M_plans.2.1 99 = .ok (.iinc 7 1, 3) := by decide +kernel
theorem d_M_plans_102 : decode Y_M_plans.2.1 102 = .ok (.goto (-54), 3) := by decide +kernel
theorem d_M_plans_105 : decode Y_M_plans.2.1 105 = .ok (.iinc 6 1, 3) := by decide +kernel
theorem d_M_plans_108 : decode Y_M_plans.2.1 108 = .ok (.goto (-69), 3) := by decide +kernel
theorem d_M_plans_111 : decode Y_M_plans.2.1 111 = .ok (.iinc 5 1, 3) := by decide +kernel
theorem d_M_plans_114 : decode Y_M_plans.2.1 114 = .ok (.goto (-84), 3) := by decide +kernel
theorem d_M_plans_117 : decode Y_M_plans.2.1 117 = .ok (.iinc 4 1, 3) := by decide +kernel
theorem d_M_plans_120 : decode Y_M_plans.2.1 120 = .ok (.goto (-105), 3) := by decide +kernel
theorem d_M_plans_123 : decode Y_M_plans.2.1 123 = .ok (.iinc 3 (-1), 3) := by decide +kernel
theorem d_M_plans_126 : decode Y_M_plans.2.1 126 = .ok (.goto (-118), 3) := by decide +kernel
theorem d_M_plans_129 : decode Y_M_plans.2.1 129 = .ok (.return_, 1) := by decide +kernel
def f_M_plans (h : PH) (a0 : Option Nat) (a1 : Int32) (a2 : Int32) : Option PH := (cl h 12 a0 (f_M_asTold h a0)).bind fun h1 => (pj_it (X := PH) (fun s2 : Int32 × PH => if s2.1 ≤ 0 then (some (.inr s2.2)) else ((pj_it (X := PH) (fun s4 : Int32 × PH => (gR s4.2 12 a0 3).bind fun v6 => (gI s4.2 11 v6 2).bind fun v7 => if v7 ≤ s4.1 then (some (.inr s4.2)) else ((pj_it (X := PH) (fun s8 : Int32 × PH => if (3 : Int32) ≤ s8.1 then (some (.inr s8.2)) else ((pj_it (X := PH) (fun s10 : Int32 × PH => if s2.1 < s10.1 then (some (.inr s10.2)) else ((pj_it (X := PH) (fun s12 : Int32 × PH => (gR s12.2 12 a0 3).bind fun v14 => (gI s12.2 11 v14 5).bind fun v15 => if ((1 : Int32) <<< (v15 &&& 31)) ≤ s12.1 then (some (.inr s12.2)) else ((gR s12.2 12 a0 23).bind fun v16 => (f_M_state s12.2 s4.1 s8.1 s10.1 s12.1).bind fun v17 => (cl s12.2 12 a0 (f_M_bestBy s12.2 a0 a1 s2.1 a2 s4.1 s8.1 s10.1 s12.1)).bind fun v18 => (sA v18.2 51 v16 (((1200 : Int32) * s2.1) + v17) (.inr (.inl v18.1))).bind fun h19 => some (.inl ((s12.1 + (1 : Int32)), h19)))) FU ((0 : Int32), s10.2)).bind fun x13 => some (.inl ((s10.1 + (1 : Int32)), x13)))) FU ((0 : Int32), s8.2)).bind fun x11 => some (.inl ((s8.1 + (1 : Int32)), x11)))) FU ((0 : Int32), s4.2)).bind fun x9 => some (.inl ((s4.1 + (1 : Int32)), x9)))) FU ((0 : Int32), s2.2)).bind fun x5 => some (.inl ((s2.1 + (-1 : Int32)), x5)))) FU ((a2 - (1 : Int32)), h1)).bind fun x3 => some x3
set_option maxRecDepth 20000 in
theorem PM_M_plans {l : Launch} {G : Cx} {h : PH} {a0 : Option Nat} {a1 : Int32} {a2 : Int32} {z : PH} (hz : f_M_plans h a0 a1 a2 = some z) : PM l G 5 0 0 Y_M_plans [.inr (.inr a0), .inl a1, .inl a2] h (none, z) := by
  refine PM.of (Y := Y_M_plans) (cv := (fun z : PH => (((none, z) : Option PV × PH)))) (by decide) (L0 := [some (.inr (.inr a0)), some (.inl a1), some (.inl a2), none, none, none, none, none]) 5 rfl (Nat.le_of_ble_eq_true rfl) ?_ hz
  unfold f_M_plans
  refine PJ.aload_n (pc := 0) d_M_plans_0 rfl ?_
  refine PJ.cVV (pc := 1) cs_M_375 (fun z hz => PM_M_asTold hz) (pj_fitb rfl) rfl rfl (Nat.le_of_ble_eq_true rfl) d_M_plans_1 (fun h1 => ?_)
  refine PJ.iload_n (pc := 4) d_M_plans_4 rfl ?_
  refine PJ.iconst (pc := 5) (v := 1) d_M_plans_5 (by decide) ?_
  refine PJ.isub (pc := 6) d_M_plans_6 ?_
  refine PJ.istore_n (pc := 7) (L1 := [some (.inr (.inr a0)), some (.inl a1), some (.inl a2), some (.inl (a2 - (1 : Int32))), none, none, none, none]) d_M_plans_7 (Nat.le_of_ble_eq_true rfl) rfl rfl ?_
  refine PJ.bind (fun x3 : PH => ((129 : Nat), ([none, none, none, none, none, none, none, none] : List (Option PV)), ([] : List PV), (x3 : PH), (0 : Nat), (0 : Nat))) (PJ.it (E := (fun s2 : Int32 × PH => ((8 : Nat), ([some (.inr (.inr a0)), some (.inl a1), some (.inl a2), some (.inl s2.1), none, none, none, none] : List (Option PV)), ([] : List PV), (s2.2 : PH), (0 : Nat), (0 : Nat)))) (F := (fun x3 : PH => ((129 : Nat), ([none, none, none, none, none, none, none, none] : List (Option PV)), ([] : List PV), (x3 : PH), (0 : Nat), (0 : Nat)))) (fun s2 => ?_) FU ((a2 - (1 : Int32)), h1)) (fun x3 => ?_)
  · show PJ l G (pj_rm 5 0 0) Y_M_plans 8 [some (.inr (.inr a0)), some (.inl a1), some (.inl a2), some (.inl s2.1), none, none, none, none] [] s2.2 0 0 _ _
    refine PJ.iload_n (pc := 8) d_M_plans_8 rfl ?_
    refine PJ.if_le (pc := 9) (tgt := 129) d_M_plans_9 (by decide) (fun _ => ?_) (fun _ => ?_)
    · refine PJ.mk (L1 := [none, none, none, none, none, none, none, none]) [false, false, false, false, false, false, false, false] rfl ?_
      exact PJ.done rfl
    · refine PJ.iconst (pc := 12) (v := 0) d_M_plans_12 (by decide) ?_
      refine PJ.istore (pc := 13) (L1 := [some (.inr (.inr a0)), some (.inl a1), some (.inl a2), some (.inl s2.1), some (.inl (0 : Int32)), none, none, none]) d_M_plans_13 (Nat.le_of_ble_eq_true rfl) rfl rfl ?_
      refine PJ.bind (fun x5 : PH => ((123 : Nat), ([some (.inr (.inr a0)), some (.inl a1), some (.inl a2), some (.inl s2.1), none, none, none, none] : List (Option PV)), ([] : List PV), (x5 : PH), (0 : Nat), (0 : Nat))) (PJ.it (E := (fun s4 : Int32 × PH => ((15 : Nat), ([some (.inr (.inr a0)), some (.inl a1), some (.inl a2), some (.inl s2.1), some (.inl s4.1), none, none, none] : List (Option PV)), ([] : List PV), (s4.2 : PH), (0 : Nat), (0 : Nat)))) (F := (fun x5 : PH => ((123 : Nat), ([some (.inr (.inr a0)), some (.inl a1), some (.inl a2), some (.inl s2.1), none, none, none, none] : List (Option PV)), ([] : List PV), (x5 : PH), (0 : Nat), (0 : Nat)))) (fun s4 => ?_) FU ((0 : Int32), s2.2)) (fun x5 => ?_)
      · show PJ l G (pj_rm 5 0 0) Y_M_plans 15 [some (.inr (.inr a0)), some (.inl a1), some (.inl a2), some (.inl s2.1), some (.inl s4.1), none, none, none] [] s4.2 0 0 _ _
        refine PJ.iload (pc := 15) d_M_plans_15 rfl ?_
        refine PJ.aload_n (pc := 17) d_M_plans_17 rfl ?_
        refine PJ.getR (pc := 18) fs_M_341 d_M_plans_18 (fun v6 => ?_)
        refine PJ.getI (pc := 21) fs_M_198 d_M_plans_21 (fun v7 => ?_)
        refine PJ.icmp_ge (pc := 24) (tgt := 123) d_M_plans_24 (by decide) (fun _ => ?_) (fun _ => ?_)
        · refine PJ.mk (L1 := [some (.inr (.inr a0)), some (.inl a1), some (.inl a2), some (.inl s2.1), none, none, none, none]) [true, true, true, true, false, false, false, false] rfl ?_
          exact PJ.done rfl
        · refine PJ.iconst (pc := 27) (v := 0) d_M_plans_27 (by decide) ?_
          refine PJ.istore (pc := 28) (L1 := [some (.inr (.inr a0)), some (.inl a1), some (.inl a2), some (.inl s2.1), some (.inl s4.1), some (.inl (0 : Int32)), none, none]) d_M_plans_28 (Nat.le_of_ble_eq_true rfl) rfl rfl ?_
          refine PJ.bind (fun x9 : PH => ((117 : Nat), ([some (.inr (.inr a0)), some (.inl a1), some (.inl a2), some (.inl s2.1), some (.inl s4.1), none, none, none] : List (Option PV)), ([] : List PV), (x9 : PH), (0 : Nat), (0 : Nat))) (PJ.it (E := (fun s8 : Int32 × PH => ((30 : Nat), ([some (.inr (.inr a0)), some (.inl a1), some (.inl a2), some (.inl s2.1), some (.inl s4.1), some (.inl s8.1), none, none] : List (Option PV)), ([] : List PV), (s8.2 : PH), (0 : Nat), (0 : Nat)))) (F := (fun x9 : PH => ((117 : Nat), ([some (.inr (.inr a0)), some (.inl a1), some (.inl a2), some (.inl s2.1), some (.inl s4.1), none, none, none] : List (Option PV)), ([] : List PV), (x9 : PH), (0 : Nat), (0 : Nat)))) (fun s8 => ?_) FU ((0 : Int32), s4.2)) (fun x9 => ?_)
          · show PJ l G (pj_rm 5 0 0) Y_M_plans 30 [some (.inr (.inr a0)), some (.inl a1), some (.inl a2), some (.inl s2.1), some (.inl s4.1), some (.inl s8.1), none, none] [] s8.2 0 0 _ _
            refine PJ.iload (pc := 30) d_M_plans_30 rfl ?_
            refine PJ.iconst (pc := 32) (v := 3) d_M_plans_32 (by decide) ?_
            refine PJ.icmp_ge (pc := 33) (tgt := 117) d_M_plans_33 (by decide) (fun _ => ?_) (fun _ => ?_)
            · refine PJ.mk (L1 := [some (.inr (.inr a0)), some (.inl a1), some (.inl a2), some (.inl s2.1), some (.inl s4.1), none, none, none]) [true, true, true, true, true, false, false, false] rfl ?_
              exact PJ.done rfl
            · refine PJ.iconst (pc := 36) (v := 0) d_M_plans_36 (by decide) ?_
              refine PJ.istore (pc := 37) (L1 := [some (.inr (.inr a0)), some (.inl a1), some (.inl a2), some (.inl s2.1), some (.inl s4.1), some (.inl s8.1), some (.inl (0 : Int32)), none]) d_M_plans_37 (Nat.le_of_ble_eq_true rfl) rfl rfl ?_
              refine PJ.bind (fun x11 : PH => ((111 : Nat), ([some (.inr (.inr a0)), some (.inl a1), some (.inl a2), some (.inl s2.1), some (.inl s4.1), some (.inl s8.1), none, none] : List (Option PV)), ([] : List PV), (x11 : PH), (0 : Nat), (0 : Nat))) (PJ.it (E := (fun s10 : Int32 × PH => ((39 : Nat), ([some (.inr (.inr a0)), some (.inl a1), some (.inl a2), some (.inl s2.1), some (.inl s4.1), some (.inl s8.1), some (.inl s10.1), none] : List (Option PV)), ([] : List PV), (s10.2 : PH), (0 : Nat), (0 : Nat)))) (F := (fun x11 : PH => ((111 : Nat), ([some (.inr (.inr a0)), some (.inl a1), some (.inl a2), some (.inl s2.1), some (.inl s4.1), some (.inl s8.1), none, none] : List (Option PV)), ([] : List PV), (x11 : PH), (0 : Nat), (0 : Nat)))) (fun s10 => ?_) FU ((0 : Int32), s8.2)) (fun x11 => ?_)
              · show PJ l G (pj_rm 5 0 0) Y_M_plans 39 [some (.inr (.inr a0)), some (.inl a1), some (.inl a2), some (.inl s2.1), some (.inl s4.1), some (.inl s8.1), some (.inl s10.1), none] [] s10.2 0 0 _ _
                refine PJ.iload (pc := 39) d_M_plans_39 rfl ?_
                refine PJ.iload_n (pc := 41) d_M_plans_41 rfl ?_
                refine PJ.icmp_gt (pc := 42) (tgt := 111) d_M_plans_42 (by decide) (fun _ => ?_) (fun _ => ?_)
                · refine PJ.mk (L1 := [some (.inr (.inr a0)), some (.inl a1), some (.inl a2), some (.inl s2.1), some (.inl s4.1), some (.inl s8.1), none, none]) [true, true, true, true, true, true, false, false] rfl ?_
                  exact PJ.done rfl
                · refine PJ.iconst (pc := 45) (v := 0) d_M_plans_45 (by decide) ?_
                  refine PJ.istore (pc := 46) (L1 := [some (.inr (.inr a0)), some (.inl a1), some (.inl a2), some (.inl s2.1), some (.inl s4.1), some (.inl s8.1), some (.inl s10.1), some (.inl (0 : Int32))]) d_M_plans_46 (Nat.le_of_ble_eq_true rfl) rfl rfl ?_
                  refine PJ.bind (fun x13 : PH => ((105 : Nat), ([some (.inr (.inr a0)), some (.inl a1), some (.inl a2), some (.inl s2.1), some (.inl s4.1), some (.inl s8.1), some (.inl s10.1), none] : List (Option PV)), ([] : List PV), (x13 : PH), (0 : Nat), (0 : Nat))) (PJ.it (E := (fun s12 : Int32 × PH => ((48 : Nat), ([some (.inr (.inr a0)), some (.inl a1), some (.inl a2), some (.inl s2.1), some (.inl s4.1), some (.inl s8.1), some (.inl s10.1), some (.inl s12.1)] : List (Option PV)), ([] : List PV), (s12.2 : PH), (0 : Nat), (0 : Nat)))) (F := (fun x13 : PH => ((105 : Nat), ([some (.inr (.inr a0)), some (.inl a1), some (.inl a2), some (.inl s2.1), some (.inl s4.1), some (.inl s8.1), some (.inl s10.1), none] : List (Option PV)), ([] : List PV), (x13 : PH), (0 : Nat), (0 : Nat)))) (fun s12 => ?_) FU ((0 : Int32), s10.2)) (fun x13 => ?_)
                  · show PJ l G (pj_rm 5 0 0) Y_M_plans 48 [some (.inr (.inr a0)), some (.inl a1), some (.inl a2), some (.inl s2.1), some (.inl s4.1), some (.inl s8.1), some (.inl s10.1), some (.inl s12.1)] [] s12.2 0 0 _ _
                    refine PJ.iload (pc := 48) d_M_plans_48 rfl ?_
                    refine PJ.iconst (pc := 50) (v := 1) d_M_plans_50 (by decide) ?_
                    refine PJ.aload_n (pc := 51) d_M_plans_51 rfl ?_
                    refine PJ.getR (pc := 52) fs_M_341 d_M_plans_52 (fun v14 => ?_)
                    refine PJ.getI (pc := 55) fs_M_280 d_M_plans_55 (fun v15 => ?_)
                    refine PJ.ishl (pc := 58) d_M_plans_58 ?_
                    refine PJ.icmp_ge (pc := 59) (tgt := 105) d_M_plans_59 (by decide) (fun _ => ?_) (fun _ => ?_)
                    · refine PJ.mk (L1 := [some (.inr (.inr a0)), some (.inl a1), some (.inl a2), some (.inl s2.1), some (.inl s4.1), some (.inl s8.1), some (.inl s10.1), none]) [true, true, true, true, true, true, true, false] rfl ?_
                      exact PJ.done rfl
                    · refine PJ.aload_n (pc := 62) d_M_plans_62 rfl ?_
                      refine PJ.getR (pc := 63) fs_M_33 d_M_plans_63 (fun v16 => ?_)
                      refine PJ.sipush (pc := 66) (v := 1200) d_M_plans_66 (by decide) ?_
                      refine PJ.iload_n (pc := 69) d_M_plans_69 rfl ?_
                      refine PJ.imul (pc := 70) d_M_plans_70 ?_
                      refine PJ.iload (pc := 71) d_M_plans_71 rfl ?_
                      refine PJ.iload (pc := 73) d_M_plans_73 rfl ?_
                      refine PJ.iload (pc := 75) d_M_plans_75 rfl ?_
                      refine PJ.iload (pc := 77) d_M_plans_77 rfl ?_
                      refine PJ.cSpI (pc := 79) cs_M_394 (fun z hz => PM_M_state hz) (pj_fitb rfl) rfl rfl (Nat.le_of_ble_eq_true rfl) d_M_plans_79 (fun v17 => ?_)
                      refine PJ.iadd (pc := 82) d_M_plans_82 ?_
                      refine PJ.aload_n (pc := 83) d_M_plans_83 rfl ?_
                      refine PJ.iload_n (pc := 84) d_M_plans_84 rfl ?_
                      refine PJ.iload_n (pc := 85) d_M_plans_85 rfl ?_
                      refine PJ.iload_n (pc := 86) d_M_plans_86 rfl ?_
                      refine PJ.iload (pc := 87) d_M_plans_87 rfl ?_
                      refine PJ.iload (pc := 89) d_M_plans_89 rfl ?_
                      refine PJ.iload (pc := 91) d_M_plans_91 rfl ?_
                      refine PJ.iload (pc := 93) d_M_plans_93 rfl ?_
                      refine PJ.cVL (pc := 95) cs_M_420 (fun z hz => PM_M_bestBy hz) (pj_fitb rfl) rfl rfl (Nat.le_of_ble_eq_true rfl) d_M_plans_95 (fun v18 => ?_)
                      refine PJ.last (pc := 98) d_M_plans_98 (fun h19 => ?_)
                      refine PJ.iinc (pc := 99) (v := 1) (L1 := [some (.inr (.inr a0)), some (.inl a1), some (.inl a2), some (.inl s2.1), some (.inl s4.1), some (.inl s8.1), some (.inl s10.1), some (.inl (s12.1 + (1 : Int32)))]) d_M_plans_99 rfl (by decide) (Nat.le_of_ble_eq_true rfl) rfl rfl ?_
                      refine PJ.goto (pc := 102) (tgt := 48) d_M_plans_102 (by decide) ?_
                      exact PJ.done rfl
                  · show PJ l G (pj_rm 5 0 0) Y_M_plans 105 [some (.inr (.inr a0)), some (.inl a1), some (.inl a2), some (.inl s2.1), some (.inl s4.1), some (.inl s8.1), some (.inl s10.1), none] [] x13 0 0 _ _
                    refine PJ.iinc (pc := 105) (v := 1) (L1 := [some (.inr (.inr a0)), some (.inl a1), some (.inl a2), some (.inl s2.1), some (.inl s4.1), some (.inl s8.1), some (.inl (s10.1 + (1 : Int32))), none]) d_M_plans_105 rfl (by decide) (Nat.le_of_ble_eq_true rfl) rfl rfl ?_
                    refine PJ.goto (pc := 108) (tgt := 39) d_M_plans_108 (by decide) ?_
                    exact PJ.done rfl
              · show PJ l G (pj_rm 5 0 0) Y_M_plans 111 [some (.inr (.inr a0)), some (.inl a1), some (.inl a2), some (.inl s2.1), some (.inl s4.1), some (.inl s8.1), none, none] [] x11 0 0 _ _
                refine PJ.iinc (pc := 111) (v := 1) (L1 := [some (.inr (.inr a0)), some (.inl a1), some (.inl a2), some (.inl s2.1), some (.inl s4.1), some (.inl (s8.1 + (1 : Int32))), none, none]) d_M_plans_111 rfl (by decide) (Nat.le_of_ble_eq_true rfl) rfl rfl ?_
                refine PJ.goto (pc := 114) (tgt := 30) d_M_plans_114 (by decide) ?_
                exact PJ.done rfl
          · show PJ l G (pj_rm 5 0 0) Y_M_plans 117 [some (.inr (.inr a0)), some (.inl a1), some (.inl a2), some (.inl s2.1), some (.inl s4.1), none, none, none] [] x9 0 0 _ _
            refine PJ.iinc (pc := 117) (v := 1) (L1 := [some (.inr (.inr a0)), some (.inl a1), some (.inl a2), some (.inl s2.1), some (.inl (s4.1 + (1 : Int32))), none, none, none]) d_M_plans_117 rfl (by decide) (Nat.le_of_ble_eq_true rfl) rfl rfl ?_
            refine PJ.goto (pc := 120) (tgt := 15) d_M_plans_120 (by decide) ?_
            exact PJ.done rfl
      · show PJ l G (pj_rm 5 0 0) Y_M_plans 123 [some (.inr (.inr a0)), some (.inl a1), some (.inl a2), some (.inl s2.1), none, none, none, none] [] x5 0 0 _ _
        refine PJ.iinc (pc := 123) (v := -1) (L1 := [some (.inr (.inr a0)), some (.inl a1), some (.inl a2), some (.inl (s2.1 + (-1 : Int32))), none, none, none, none]) d_M_plans_123 rfl (by decide) (Nat.le_of_ble_eq_true rfl) rfl rfl ?_
        refine PJ.goto (pc := 126) (tgt := 8) d_M_plans_126 (by decide) ?_
        exact PJ.done rfl
  · show PJ l G (pj_rm 5 0 0) Y_M_plans 129 [none, none, none, none, none, none, none, none] [] x3 0 0 _ _
    exact PJ.vret (pc := 129) d_M_plans_129 rfl (Nat.le_of_ble_eq_true rfl) (Nat.le_of_ble_eq_true rfl)
theorem d_M_turnsNow_0 : decode Y_M_turnsNow.2.1 0 = .ok (.aload_n 0, 1) := by decide +kernel
theorem d_M_turnsNow_1 : decode Y_M_turnsNow.2.1 1 = .ok (.getfield 17, 3) := by decide +kernel
theorem d_M_turnsNow_4 : decode Y_M_turnsNow.2.1 4 = .ok (.iconst 5, 1) := by decide +kernel
theorem d_M_turnsNow_5 : decode Y_M_turnsNow.2.1 5 = .ok (.iload_n 1, 1) := by decide +kernel
theorem d_M_turnsNow_6 : decode Y_M_turnsNow.2.1 6 = .ok (.iadd, 1) := by decide +kernel
theorem d_M_turnsNow_7 : decode Y_M_turnsNow.2.1 7 = .ok (.iaload, 1) := by decide +kernel
theorem d_M_turnsNow_8 : decode Y_M_turnsNow.2.1 8 = .ok (.iconst 2, 1) := by decide +kernel
theorem d_M_turnsNow_9 : decode Y_M_turnsNow.2.1 9 = .ok (.if_icmp .ge 14, 3) := by decide +kernel
theorem d_M_turnsNow_12 : decode Y_M_turnsNow.2.1 12 = .ok (.aload_n 0, 1) := by decide +kernel
theorem d_M_turnsNow_13 : decode Y_M_turnsNow.2.1 13 = .ok (.getfield 17, 3) := by decide +kernel
theorem d_M_turnsNow_16 : decode Y_M_turnsNow.2.1 16 = .ok (.iconst 5, 1) := by decide +kernel
theorem d_M_turnsNow_17 : decode Y_M_turnsNow.2.1 17 = .ok (.iload_n 1, 1) := by decide +kernel
theorem d_M_turnsNow_18 : decode Y_M_turnsNow.2.1 18 = .ok (.iadd, 1) := by decide +kernel
theorem d_M_turnsNow_19 : decode Y_M_turnsNow.2.1 19 = .ok (.iaload, 1) := by decide +kernel
theorem d_M_turnsNow_20 : decode Y_M_turnsNow.2.1 20 = .ok (.goto 4, 3) := by decide +kernel
theorem d_M_turnsNow_23 : decode Y_M_turnsNow.2.1 23 = .ok (.iconst 2, 1) := by decide +kernel
theorem d_M_turnsNow_24 : decode Y_M_turnsNow.2.1 24 = .ok (.ireturn, 1) := by decide +kernel
def f_M_turnsNow (h : PH) (a0 : Option Nat) (a1 : Int32) : Option Int32 := (gR h 12 a0 15).bind fun v1 => (aI h v1 ((5 : Int32) + a1)).bind fun v2 => if (2 : Int32) ≤ v2 then (some (2 : Int32)) else ((gR h 12 a0 15).bind fun v3 => (aI h v3 ((5 : Int32) + a1)).bind fun v4 => some v4)
set_option maxRecDepth 20000 in
theorem PM_M_turnsNow {l : Launch} {G : Cx} {h : PH} {a0 : Option Nat} {a1 : Int32} {z : Int32} (hz : f_M_turnsNow h a0 a1 = some z) : PM l G 1 0 0 Y_M_turnsNow [.inr (.inr a0), .inl a1] h (some (.inl z), h) := by
  refine PM.of (Y := Y_M_turnsNow) (cv := (fun z : Int32 => (((some (.inl z), h) : Option PV × PH)))) (by decide) (L0 := [some (.inr (.inr a0)), some (.inl a1)]) 0 rfl (Nat.le_of_ble_eq_true rfl) ?_ hz
  unfold f_M_turnsNow
  refine PJ.aload_n (pc := 0) d_M_turnsNow_0 rfl ?_
  refine PJ.getR (pc := 1) fs_M_17 d_M_turnsNow_1 (fun v1 => ?_)
  refine PJ.iconst (pc := 4) (v := 5) d_M_turnsNow_4 (by decide) ?_
  refine PJ.iload_n (pc := 5) d_M_turnsNow_5 rfl ?_
  refine PJ.iadd (pc := 6) d_M_turnsNow_6 ?_
  refine PJ.iald (pc := 7) d_M_turnsNow_7 (fun v2 => ?_)
  refine PJ.iconst (pc := 8) (v := 2) d_M_turnsNow_8 (by decide) ?_
  refine PJ.icmp_ge (pc := 9) (tgt := 23) d_M_turnsNow_9 (by decide) (fun _ => ?_) (fun _ => ?_)
  · refine PJ.iconst (pc := 23) (v := 2) d_M_turnsNow_23 (by decide) ?_
    exact PJ.iretp (pc := 24) d_M_turnsNow_24 rfl (Nat.le_of_ble_eq_true rfl) (Nat.le_of_ble_eq_true rfl)
  · refine PJ.aload_n (pc := 12) d_M_turnsNow_12 rfl ?_
    refine PJ.getR (pc := 13) fs_M_17 d_M_turnsNow_13 (fun v3 => ?_)
    refine PJ.iconst (pc := 16) (v := 5) d_M_turnsNow_16 (by decide) ?_
    refine PJ.iload_n (pc := 17) d_M_turnsNow_17 rfl ?_
    refine PJ.iadd (pc := 18) d_M_turnsNow_18 ?_
    refine PJ.iald (pc := 19) d_M_turnsNow_19 (fun v4 => ?_)
    refine PJ.goto (pc := 20) (tgt := 24) d_M_turnsNow_20 (by decide) ?_
    exact PJ.iretp (pc := 24) d_M_turnsNow_24 rfl (Nat.le_of_ble_eq_true rfl) (Nat.le_of_ble_eq_true rfl)
theorem d_M_parts_0 : decode Y_M_parts.2.1 0 = .ok (.ldc2_w 401, 3) := by decide +kernel
theorem d_M_parts_3 : decode Y_M_parts.2.1 3 = .ok (.aload_n 0, 1) := by decide +kernel
theorem d_M_parts_4 : decode Y_M_parts.2.1 4 = .ok (.iload_n 1, 1) := by decide +kernel
theorem d_M_parts_5 : decode Y_M_parts.2.1 5 = .ok (.iconst 0, 1) := by decide +kernel
theorem d_M_parts_6 : decode Y_M_parts.2.1 6 = .ok (.iload_n 2, 1) := by decide +kernel
theorem d_M_parts_7 : decode Y_M_parts.2.1 7 = .ok (.invokevirtual 403, 3) := by decide +kernel
theorem d_M_parts_10 : decode Y_M_parts.2.1 10 = .ok (.invokestatic 406, 3) := by decide +kernel
theorem d_M_parts_13 : decode Y_M_parts.2.1 13 = .ok (.lreturn, 1) := by decide +kernel
def f_M_parts (h : PH) (a0 : Option Nat) (a1 : Int32) (a2 : Int32) : Option Int64 := (cl h 12 a0 (f_M_reasonsBehind h a0 a1 (0 : Int32) a2)).bind fun v1 => (f_M_power h (100 : Int64) v1).bind fun v2 => some v2
set_option maxRecDepth 20000 in
theorem PM_M_parts {l : Launch} {G : Cx} {h : PH} {a0 : Option Nat} {a1 : Int32} {a2 : Int32} {z : Int64} (hz : f_M_parts h a0 a1 a2 = some z) : PM l G 3 0 0 Y_M_parts [.inr (.inr a0), .inl a1, .inl a2] h (some (.inr (.inl z)), h) := by
  refine PM.of (Y := Y_M_parts) (cv := (fun z : Int64 => (((some (.inr (.inl z)), h) : Option PV × PH)))) (by decide) (L0 := [some (.inr (.inr a0)), some (.inl a1), some (.inl a2)]) 0 rfl (Nat.le_of_ble_eq_true rfl) ?_ hz
  unfold f_M_parts
  refine PJ.ldc2 (pc := 0) (v := 100) d_M_parts_0 wd_1897 ?_
  refine PJ.aload_n (pc := 3) d_M_parts_3 rfl ?_
  refine PJ.iload_n (pc := 4) d_M_parts_4 rfl ?_
  refine PJ.iconst (pc := 5) (v := 0) d_M_parts_5 (by decide) ?_
  refine PJ.iload_n (pc := 6) d_M_parts_6 rfl ?_
  refine PJ.cVpI (pc := 7) cs_M_403 (fun z hz => PM_M_reasonsBehind hz) (pj_fitb rfl) rfl rfl (Nat.le_of_ble_eq_true rfl) d_M_parts_7 (fun v1 => ?_)
  refine PJ.cSpL (pc := 10) cs_M_406 (fun z hz => PM_M_power hz) (pj_fitb rfl) rfl rfl (Nat.le_of_ble_eq_true rfl) d_M_parts_10 (fun v2 => ?_)
  exact PJ.lretp (pc := 13) d_M_parts_13 rfl (Nat.le_of_ble_eq_true rfl) (Nat.le_of_ble_eq_true rfl)
theorem d_M_common_0 : decode Y_M_common.2.1 0 = .ok (.lload_n 0, 1) := by decide +kernel
theorem d_M_common_1 : decode Y_M_common.2.1 1 = .ok (.lconst 0, 1) := by decide +kernel
theorem d_M_common_2 : decode Y_M_common.2.1 2 = .ok (.lcmp, 1) := by decide +kernel
theorem d_M_common_3 : decode Y_M_common.2.1 3 = .ok (.ifCond .ge 8, 3) := by decide +kernel
theorem d_M_common_6 : decode Y_M_common.2.1 6 = .ok (.lload_n 0, 1) := by decide +kernel
theorem d_M_common_7 : decode Y_M_common.2.1 7 = .ok (.lneg, 1) := by decide +kernel
theorem d_M_common_8 : decode Y_M_common.2.1 8 = .ok (.goto 4, 3) := by decide +kernel
theorem d_M_common_11 : decode Y_M_common.2.1 11 = .ok (.lload_n 0, 1) := by decide +kernel
theorem d_M_common_12 : decode Y_M_common.2.1 12 = .ok (.lstore 4, 2) := by decide +kernel
theorem d_M_common_14 : decode Y_M_common.2.1 14 = .ok (.lload_n 2, 1) := by decide +kernel
theorem d_M_common_15 : decode Y_M_common.2.1 15 = .ok (.lstore 6, 2) := by decide +kernel
theorem d_M_common_17 : decode Y_M_common.2.1 17 = .ok (.lload 6, 2) := by decide +kernel
theorem d_M_common_19 : decode Y_M_common.2.1 19 = .ok (.lconst 0, 1) := by decide +kernel
theorem d_M_common_20 : decode Y_M_common.2.1 20 = .ok (.lcmp, 1) := by decide +kernel
theorem d_M_common_21 : decode Y_M_common.2.1 21 = .ok (.ifCond .eq 21, 3) := by decide +kernel
theorem d_M_common_24 : decode Y_M_common.2.1 24 = .ok (.lload 4, 2) := by decide +kernel
theorem d_M_common_26 : decode Y_M_common.2.1 26 = .ok (.lload 6, 2) := by decide +kernel
theorem d_M_common_28 : decode Y_M_common.2.1 28 = .ok (.lrem, 1) := by decide +kernel
theorem d_M_common_29 : decode Y_M_common.2.1 29 = .ok (.lstore 8, 2) := by decide +kernel
theorem d_M_common_31 : decode Y_M_common.2.1 31 = .ok (.lload 6, 2) := by decide +kernel
theorem d_M_common_33 : decode Y_M_common.2.1 33 = .ok (.lstore 4, 2) := by decide +kernel
theorem d_M_common_35 : decode Y_M_common.2.1 35 = .ok (.lload 8, 2) := by decide +kernel
theorem d_M_common_37 : decode Y_M_common.2.1 37 = .ok (.lstore 6, 2) := by decide +kernel
theorem d_M_common_39 : decode Y_M_common.2.1 39 = .ok (.goto (-22), 3) := by decide +kernel
theorem d_M_common_42 : decode Y_M_common.2.1 42 = .ok (.lload 4, 2) := by decide +kernel
theorem d_M_common_44 : decode Y_M_common.2.1 44 = .ok (.lreturn, 1) := by decide +kernel
def f_M_common (h : PH) (a0 : Int64) (a1 : Int64) : Option Int64 := (if 0 ≤ (lg_cmp a0 (0 : Int64)) then (some a0) else (some (-a0)) : Option (Int64)).bind fun j1 => (pj_it (X := Int64) (fun s2 : Int64 × Int64 => if (lg_cmp s2.2 (0 : Int64)) = 0 then (some (.inr s2.1)) else (if s2.2 = 0 then none else (some (.inl (s2.2, (s2.1 - s2.1 / s2.2 * s2.2)))))) FU (j1, a1)).bind fun x3 => some x3
set_option maxRecDepth 20000 in
theorem PM_M_common {l : Launch} {G : Cx} {h : PH} {a0 : Int64} {a1 : Int64} {z : Int64} (hz : f_M_common h a0 a1 = some z) : PM l G 1 0 0 Y_M_common [.inr (.inl a0), .inr (.inl a1)] h (some (.inr (.inl z)), h) := by
  refine PM.of (Y := Y_M_common) (cv := (fun z : Int64 => (((some (.inr (.inl z)), h) : Option PV × PH)))) (by decide) (L0 := [some (.inr (.inl a0)), none, some (.inr (.inl a1)), none, none, none, none, none, none, none]) 6 rfl (Nat.le_of_ble_eq_true rfl) ?_ hz
  unfold f_M_common
  refine PJ.lload_n (pc := 0) d_M_common_0 rfl ?_
  refine PJ.lconst (pc := 1) (v := 0) d_M_common_1 (by decide) ?_
  refine PJ.lcmp (pc := 2) d_M_common_2 ?_
  refine PJ.bind (fun j1 : Int64 => ((12 : Nat), ([none, none, some (.inr (.inl a1)), none, none, none, none, none, none, none] : List (Option PV)), ([.inr (.inl j1)] : List PV), (h : PH), (0 : Nat), (0 : Nat))) ?_ (fun j1 => ?_)
  · refine PJ.if_ge (pc := 3) (tgt := 11) d_M_common_3 (by decide) (fun _ => ?_) (fun _ => ?_)
    · refine PJ.lload_n (pc := 11) d_M_common_11 rfl ?_
      refine PJ.mk (L1 := [none, none, some (.inr (.inl a1)), none, none, none, none, none, none, none]) [false, false, true, false, false, false, false, false, false, false] rfl ?_
      exact PJ.done rfl
    · refine PJ.lload_n (pc := 6) d_M_common_6 rfl ?_
      refine PJ.lneg (pc := 7) d_M_common_7 ?_
      refine PJ.goto (pc := 8) (tgt := 12) d_M_common_8 (by decide) ?_
      refine PJ.mk (L1 := [none, none, some (.inr (.inl a1)), none, none, none, none, none, none, none]) [false, false, true, false, false, false, false, false, false, false] rfl ?_
      exact PJ.done rfl
  · show PJ l G (pj_rm 1 0 0) Y_M_common 12 [none, none, some (.inr (.inl a1)), none, none, none, none, none, none, none] [.inr (.inl j1)] h 0 0 _ _
    refine PJ.lstore (pc := 12) (L1 := [none, none, some (.inr (.inl a1)), none, some (.inr (.inl j1)), none, none, none, none, none]) d_M_common_12 (Nat.le_of_ble_eq_true rfl) rfl rfl ?_
    refine PJ.lload_n (pc := 14) d_M_common_14 rfl ?_
    refine PJ.lstore (pc := 15) (L1 := [none, none, some (.inr (.inl a1)), none, some (.inr (.inl j1)), none, some (.inr (.inl a1)), none, none, none]) d_M_common_15 (Nat.le_of_ble_eq_true rfl) rfl rfl ?_
    refine PJ.mk (L1 := [none, none, none, none, some (.inr (.inl j1)), none, some (.inr (.inl a1)), none, none, none]) [false, false, false, false, true, false, true, false, false, false] rfl ?_
    refine PJ.bind (fun x3 : Int64 => ((42 : Nat), ([none, none, none, none, some (.inr (.inl x3)), none, none, none, none, none] : List (Option PV)), ([] : List PV), (h : PH), (0 : Nat), (0 : Nat))) (PJ.it (E := (fun s2 : Int64 × Int64 => ((17 : Nat), ([none, none, none, none, some (.inr (.inl s2.1)), none, some (.inr (.inl s2.2)), none, none, none] : List (Option PV)), ([] : List PV), (h : PH), (0 : Nat), (0 : Nat)))) (F := (fun x3 : Int64 => ((42 : Nat), ([none, none, none, none, some (.inr (.inl x3)), none, none, none, none, none] : List (Option PV)), ([] : List PV), (h : PH), (0 : Nat), (0 : Nat)))) (fun s2 => ?_) FU (j1, a1)) (fun x3 => ?_)
    · show PJ l G (pj_rm 1 0 0) Y_M_common 17 [none, none, none, none, some (.inr (.inl s2.1)), none, some (.inr (.inl s2.2)), none, none, none] [] h 0 0 _ _
      refine PJ.lload (pc := 17) d_M_common_17 rfl ?_
      refine PJ.lconst (pc := 19) (v := 0) d_M_common_19 (by decide) ?_
      refine PJ.lcmp (pc := 20) d_M_common_20 ?_
      refine PJ.if_eq (pc := 21) (tgt := 42) d_M_common_21 (by decide) (fun _ => ?_) (fun _ => ?_)
      · refine PJ.mk (L1 := [none, none, none, none, some (.inr (.inl s2.1)), none, none, none, none, none]) [false, false, false, false, true, false, false, false, false, false] rfl ?_
        exact PJ.done rfl
      · refine PJ.lload (pc := 24) d_M_common_24 rfl ?_
        refine PJ.lload (pc := 26) d_M_common_26 rfl ?_
        refine PJ.lrem (pc := 28) d_M_common_28 (fun _ => ?_)
        refine PJ.lstore (pc := 29) (L1 := [none, none, none, none, some (.inr (.inl s2.1)), none, some (.inr (.inl s2.2)), none, some (.inr (.inl (s2.1 - s2.1 / s2.2 * s2.2))), none]) d_M_common_29 (Nat.le_of_ble_eq_true rfl) rfl rfl ?_
        refine PJ.lload (pc := 31) d_M_common_31 rfl ?_
        refine PJ.lstore (pc := 33) (L1 := [none, none, none, none, some (.inr (.inl s2.2)), none, some (.inr (.inl s2.2)), none, some (.inr (.inl (s2.1 - s2.1 / s2.2 * s2.2))), none]) d_M_common_33 (Nat.le_of_ble_eq_true rfl) rfl rfl ?_
        refine PJ.lload (pc := 35) d_M_common_35 rfl ?_
        refine PJ.lstore (pc := 37) (L1 := [none, none, none, none, some (.inr (.inl s2.2)), none, some (.inr (.inl (s2.1 - s2.1 / s2.2 * s2.2))), none, some (.inr (.inl (s2.1 - s2.1 / s2.2 * s2.2))), none]) d_M_common_37 (Nat.le_of_ble_eq_true rfl) rfl rfl ?_
        refine PJ.goto (pc := 39) (tgt := 17) d_M_common_39 (by decide) ?_
        refine PJ.mk (L1 := [none, none, none, none, some (.inr (.inl s2.2)), none, some (.inr (.inl (s2.1 - s2.1 / s2.2 * s2.2))), none, none, none]) [false, false, false, false, true, false, true, false, false, false] rfl ?_
        exact PJ.done rfl
    · show PJ l G (pj_rm 1 0 0) Y_M_common 42 [none, none, none, none, some (.inr (.inl x3)), none, none, none, none, none] [] h 0 0 _ _
      refine PJ.lload (pc := 42) d_M_common_42 rfl ?_
      exact PJ.lretp (pc := 44) d_M_common_44 rfl (Nat.le_of_ble_eq_true rfl) (Nat.le_of_ble_eq_true rfl)
theorem d_M_fraction_0 : decode Y_M_fraction.2.1 0 = .ok (.aload_n 0, 1) := by decide +kernel
theorem d_M_fraction_1 : decode Y_M_fraction.2.1 1 = .ok (.iconst 0, 1) := by decide +kernel
theorem d_M_fraction_2 : decode Y_M_fraction.2.1 2 = .ok (.invokevirtual 58, 3) := by decide +kernel
theorem d_M_fraction_5 : decode Y_M_fraction.2.1 5 = .ok (.pop, 1) := by decide +kernel
theorem d_M_fraction_6 : decode Y_M_fraction.2.1 6 = .ok (.iload 5, 2) := by decide +kernel
theorem d_M_fraction_8 : decode Y_M_fraction.2.1 8 = .ok (.ifCond .eq 7, 3) := by decide +kernel
theorem d_M_fraction_11 : decode Y_M_fraction.2.1 11 = .ok (.lload_n 3, 1) := by decide +kernel
theorem d_M_fraction_12 : decode Y_M_fraction.2.1 12 = .ok (.goto 4, 3) := by decide +kernel
theorem d_M_fraction_15 : decode Y_M_fraction.2.1 15 = .ok (.lload_n 1, 1) := by decide +kernel
theorem d_M_fraction_16 : decode Y_M_fraction.2.1 16 = .ok (.lload_n 1, 1) := by decide +kernel
theorem d_M_fraction_17 : decode Y_M_fraction.2.1 17 = .ok (.lload_n 3, 1) := by decide +kernel
theorem d_M_fraction_18 : decode Y_M_fraction.2.1 18 = .ok (.invokestatic 61, 3) := by decide +kernel
theorem d_M_fraction_21 : decode Y_M_fraction.2.1 21 = .ok (.ldiv, 1) := by decide +kernel
theorem d_M_fraction_22 : decode Y_M_fraction.2.1 22 = .ok (.lreturn, 1) := by decide +kernel
def f_M_fraction (h : PH) (a0 : Option Nat) (a1 : Int64) (a2 : Int64) (a3 : Int32) : Option (Int64 × PH) := (cl h 12 a0 (f_M_good h a0 (0 : Int32))).bind fun v1 => (if a3 = 0 then (some a1) else (some a2) : Option (Int64)).bind fun j2 => (f_M_common v1.2 a1 a2).bind fun v3 => if v3 = 0 then none else (some ((j2 / v3), v1.2))
set_option maxRecDepth 20000 in
theorem PM_M_fraction {l : Launch} {G : Cx} {h : PH} {a0 : Option Nat} {a1 : Int64} {a2 : Int64} {a3 : Int32} {z : (Int64 × PH)} (hz : f_M_fraction h a0 a1 a2 a3 = some z) : PM l G 2 0 0 Y_M_fraction [.inr (.inr a0), .inr (.inl a1), .inr (.inl a2), .inl a3] h (some (.inr (.inl z.1)), z.2) := by
  refine PM.of (Y := Y_M_fraction) (cv := (fun z : (Int64 × PH) => (((some (.inr (.inl z.1)), z.2) : Option PV × PH)))) (by decide) (L0 := [some (.inr (.inr a0)), some (.inr (.inl a1)), none, some (.inr (.inl a2)), none, some (.inl a3)]) 0 rfl (Nat.le_of_ble_eq_true rfl) ?_ hz
  unfold f_M_fraction
  refine PJ.aload_n (pc := 0) d_M_fraction_0 rfl ?_
  refine PJ.iconst (pc := 1) (v := 0) d_M_fraction_1 (by decide) ?_
  refine PJ.cVI (pc := 2) cs_M_58 (fun z hz => PM_M_good hz) (pj_fitb rfl) rfl rfl (Nat.le_of_ble_eq_true rfl) d_M_fraction_2 (fun v1 => ?_)
  refine PJ.pop (pc := 5) d_M_fraction_5 rfl ?_
  refine PJ.iload (pc := 6) d_M_fraction_6 rfl ?_
  refine PJ.bind (fun j2 : Int64 => ((16 : Nat), ([none, some (.inr (.inl a1)), none, some (.inr (.inl a2)), none, none] : List (Option PV)), ([.inr (.inl j2)] : List PV), (v1.2 : PH), (0 : Nat), (0 : Nat))) ?_ (fun j2 => ?_)
  · refine PJ.if_eq (pc := 8) (tgt := 15) d_M_fraction_8 (by decide) (fun _ => ?_) (fun _ => ?_)
    · refine PJ.lload_n (pc := 15) d_M_fraction_15 rfl ?_
      refine PJ.mk (L1 := [none, some (.inr (.inl a1)), none, some (.inr (.inl a2)), none, none]) [false, true, false, true, false, false] rfl ?_
      exact PJ.done rfl
    · refine PJ.lload_n (pc := 11) d_M_fraction_11 rfl ?_
      refine PJ.goto (pc := 12) (tgt := 16) d_M_fraction_12 (by decide) ?_
      refine PJ.mk (L1 := [none, some (.inr (.inl a1)), none, some (.inr (.inl a2)), none, none]) [false, true, false, true, false, false] rfl ?_
      exact PJ.done rfl
  · show PJ l G (pj_rm 2 0 0) Y_M_fraction 16 [none, some (.inr (.inl a1)), none, some (.inr (.inl a2)), none, none] [.inr (.inl j2)] v1.2 0 0 _ _
    refine PJ.lload_n (pc := 16) d_M_fraction_16 rfl ?_
    refine PJ.lload_n (pc := 17) d_M_fraction_17 rfl ?_
    refine PJ.cSpL (pc := 18) cs_M_61 (fun z hz => PM_M_common hz) (pj_fitb rfl) rfl rfl (Nat.le_of_ble_eq_true rfl) d_M_fraction_18 (fun v3 => ?_)
    refine PJ.ldiv (pc := 21) d_M_fraction_21 (fun _ => ?_)
    exact PJ.lret (pc := 22) d_M_fraction_22 rfl (Nat.le_of_ble_eq_true rfl) (Nat.le_of_ble_eq_true rfl)
theorem d_M_plan_0 : decode Y_M_plan.2.1 0 = .ok (.aload_n 0, 1) := by decide +kernel
theorem d_M_plan_1 : decode Y_M_plan.2.1 1 = .ok (.iconst 0, 1) := by decide +kernel
theorem d_M_plan_2 : decode Y_M_plan.2.1 2 = .ok (.putfield 46, 3) := by decide +kernel
theorem d_M_plan_5 : decode Y_M_plan.2.1 5 = .ok (.aload_n 0, 1) := by decide +kernel
theorem d_M_plan_6 : decode Y_M_plan.2.1 6 = .ok (.iload_n 1, 1) := by decide +kernel
theorem d_M_plan_7 : decode Y_M_plan.2.1 7 = .ok (.iload_n 2, 1) := by decide +kernel
theorem d_M_plan_8 : decode Y_M_plan.2.1 8 = .ok (.invokevirtual 423, 3) := by decide +kernel
theorem d_M_plan_11 : decode Y_M_plan.2.1 11 = .ok (.istore 4, 2) := by decide +kernel
theorem d_M_plan_13 : decode Y_M_plan.2.1 13 = .ok (.iload 4, 2) := by decide +kernel
theorem d_M_plan_15 : decode Y_M_plan.2.1 15 = .ok (.ifCond .le 10, 3) := by decide +kernel
theorem d_M_plan_18 : decode Y_M_plan.2.1 18 = .ok (.aload_n 0, 1) := by decide +kernel
theorem d_M_plan_19 : decode Y_M_plan.2.1 19 = .ok (.iload 4, 2) := by decide +kernel
theorem d_M_plan_21 : decode Y_M_plan.2.1 21 = .ok (.invokevirtual 426, 3) := by decide +kernel
theorem d_M_plan_24 : decode Y_M_plan.2.1 24 = .ok (.lreturn, 1) := by decide +kernel
theorem d_M_plan_25 : decode Y_M_plan.2.1 25 = .ok (.aload_n 0, 1) := by decide +kernel
theorem d_M_plan_26 : decode Y_M_plan.2.1 26 = .ok (.iload_n 1, 1) := by decide +kernel
theorem d_M_plan_27 : decode Y_M_plan.2.1 27 = .ok (.iload_n 2, 1) := by decide +kernel
theorem d_M_plan_28 : decode Y_M_plan.2.1 28 = .ok (.invokevirtual 430, 3) := by decide +kernel
theorem d_M_plan_31 : decode Y_M_plan.2.1 31 = .ok (.aload_n 0, 1) := by decide +kernel
theorem d_M_plan_32 : decode Y_M_plan.2.1 32 = .ok (.aload_n 0, 1) := by decide +kernel
theorem d_M_plan_33 : decode Y_M_plan.2.1 33 = .ok (.iload_n 1, 1) := by decide +kernel
theorem d_M_plan_34 : decode Y_M_plan.2.1 34 = .ok (.iconst 0, 1) := by decide +kernel
theorem d_M_plan_35 : decode Y_M_plan.2.1 35 = .ok (.iload_n 2, 1) := by decide +kernel
theorem d_M_plan_36 : decode Y_M_plan.2.1 36 = .ok (.aload_n 0, 1) := by decide +kernel
theorem d_M_plan_37 : decode Y_M_plan.2.1 37 = .ok (.getfield 17, 3) := by decide +kernel
theorem d_M_plan_40 : decode Y_M_plan.2.1 40 = .ok (.iconst 0, 1) := by decide +kernel
theorem d_M_plan_41 : decode Y_M_plan.2.1 41 = .ok (.iload_n 1, 1) := by decide +kernel
theorem d_M_plan_42 : decode Y_M_plan.2.1 42 = .ok (.iadd, 1) := by decide +kernel
theorem d_M_plan_43 : decode Y_M_plan.2.1 43 = .ok (.iaload, 1) := by decide +kernel
theorem d_M_plan_44 : decode Y_M_plan.2.1 44 = .ok (.aload_n 0, 1) := by decide +kernel
theorem d_M_plan_45 : decode Y_M_plan.2.1 45 = .ok (.iload_n 1, 1) := by decide +kernel
theorem d_M_plan_46 : decode Y_M_plan.2.1 46 = .ok (.invokevirtual 433, 3) := by decide +kernel
theorem d_M_plan_49 : decode Y_M_plan.2.1 49 = .ok (.iconst 0, 1) := by decide +kernel
theorem d_M_plan_50 : decode Y_M_plan.2.1 50 = .ok (.aload_n 0, 1) := by decide +kernel
theorem d_M_plan_51 : decode Y_M_plan.2.1 51 = .ok (.getfield 17, 3) := by decide +kernel
theorem d_M_plan_54 : decode Y_M_plan.2.1 54 = .ok (.bipush 20, 2) := by decide +kernel
theorem d_M_plan_56 : decode Y_M_plan.2.1 56 = .ok (.iaload, 1) := by decide +kernel
theorem d_M_plan_57 : decode Y_M_plan.2.1 57 = .ok (.invokevirtual 420, 3) := by decide +kernel
theorem d_M_plan_60 : decode Y_M_plan.2.1 60 = .ok (.aload_n 0, 1) := by decide +kernel
theorem d_M_plan_61 : decode Y_M_plan.2.1 61 = .ok (.iload_n 1, 1) := by decide +kernel
theorem d_M_plan_62 : decode Y_M_plan.2.1 62 = .ok (.iload_n 2, 1) := by decide +kernel
theorem d_M_plan_63 : decode Y_M_plan.2.1 63 = .ok (.invokevirtual 436, 3) := by decide +kernel
theorem d_M_plan_66 : decode Y_M_plan.2.1 66 = .ok (.iload_n 3, 1) := by decide +kernel
theorem d_M_plan_67 : decode Y_M_plan.2.1 67 = .ok (.invokevirtual 440, 3) := by decide +kernel
theorem d_M_plan_70 : decode Y_M_plan.2.1 70 = .ok (.lreturn, 1) := by decide +kernel
def f_M_plan (h : PH) (a0 : Option Nat) (a1 : Int32) (a2 : Int32) (a3 : Int32) : Option (Int64 × PH) := (sF h 12 a0 0 (.inl (0 : Int32))).bind fun h1 => (cl h1 12 a0 (f_M_refusesPlan h1 a0 a1 a2)).bind fun v2 => if v2 ≤ 0 then ((cl h1 12 a0 (f_M_plans h1 a0 a1 a2)).bind fun h3 => (gR h3 12 a0 15).bind fun v4 => (aI h3 v4 ((0 : Int32) + a1)).bind fun v5 => (cl h3 12 a0 (f_M_turnsNow h3 a0 a1)).bind fun v6 => (gR h3 12 a0 15).bind fun v7 => (aI h3 v7 (20 : Int32)).bind fun v8 => (cl h3 12 a0 (f_M_bestBy h3 a0 a1 (0 : Int32) a2 v5 v6 (0 : Int32) v8)).bind fun v9 => (cl v9.2 12 a0 (f_M_parts v9.2 a0 a1 a2)).bind fun v10 => (cl v9.2 12 a0 (f_M_fraction v9.2 a0 v9.1 v10 a3)).bind fun v11 => some (v11.1, v11.2)) else ((cl h1 12 a0 (f_M_never h1 a0 v2)).bind fun v12 => some (v12.1, v12.2))
set_option maxRecDepth 20000 in
theorem PM_M_plan {l : Launch} {G : Cx} {h : PH} {a0 : Option Nat} {a1 : Int32} {a2 : Int32} {a3 : Int32} {z : (Int64 × PH)} (hz : f_M_plan h a0 a1 a2 a3 = some z) : PM l G 6 0 0 Y_M_plan [.inr (.inr a0), .inl a1, .inl a2, .inl a3] h (some (.inr (.inl z.1)), z.2) := by
  refine PM.of (Y := Y_M_plan) (cv := (fun z : (Int64 × PH) => (((some (.inr (.inl z.1)), z.2) : Option PV × PH)))) (by decide) (L0 := [some (.inr (.inr a0)), some (.inl a1), some (.inl a2), some (.inl a3), none]) 1 rfl (Nat.le_of_ble_eq_true rfl) ?_ hz
  unfold f_M_plan
  refine PJ.aload_n (pc := 0) d_M_plan_0 rfl ?_
  refine PJ.iconst (pc := 1) (v := 0) d_M_plan_1 (by decide) ?_
  refine PJ.putI (pc := 2) ps_M_46 d_M_plan_2 (fun h1 => ?_)
  refine PJ.aload_n (pc := 5) d_M_plan_5 rfl ?_
  refine PJ.iload_n (pc := 6) d_M_plan_6 rfl ?_
  refine PJ.iload_n (pc := 7) d_M_plan_7 rfl ?_
  refine PJ.cVpI (pc := 8) cs_M_423 (fun z hz => PM_M_refusesPlan hz) (pj_fitb rfl) rfl rfl (Nat.le_of_ble_eq_true rfl) d_M_plan_8 (fun v2 => ?_)
  refine PJ.istore (pc := 11) (L1 := [some (.inr (.inr a0)), some (.inl a1), some (.inl a2), some (.inl a3), some (.inl v2)]) d_M_plan_11 (Nat.le_of_ble_eq_true rfl) rfl rfl ?_
  refine PJ.iload (pc := 13) d_M_plan_13 rfl ?_
  refine PJ.if_le (pc := 15) (tgt := 25) d_M_plan_15 (by decide) (fun _ => ?_) (fun _ => ?_)
  · refine PJ.aload_n (pc := 25) d_M_plan_25 rfl ?_
    refine PJ.iload_n (pc := 26) d_M_plan_26 rfl ?_
    refine PJ.iload_n (pc := 27) d_M_plan_27 rfl ?_
    refine PJ.cVV (pc := 28) cs_M_430 (fun z hz => PM_M_plans hz) (pj_fitb rfl) rfl rfl (Nat.le_of_ble_eq_true rfl) d_M_plan_28 (fun h3 => ?_)
    refine PJ.aload_n (pc := 31) d_M_plan_31 rfl ?_
    refine PJ.aload_n (pc := 32) d_M_plan_32 rfl ?_
    refine PJ.iload_n (pc := 33) d_M_plan_33 rfl ?_
    refine PJ.iconst (pc := 34) (v := 0) d_M_plan_34 (by decide) ?_
    refine PJ.iload_n (pc := 35) d_M_plan_35 rfl ?_
    refine PJ.aload_n (pc := 36) d_M_plan_36 rfl ?_
    refine PJ.getR (pc := 37) fs_M_17 d_M_plan_37 (fun v4 => ?_)
    refine PJ.iconst (pc := 40) (v := 0) d_M_plan_40 (by decide) ?_
    refine PJ.iload_n (pc := 41) d_M_plan_41 rfl ?_
    refine PJ.iadd (pc := 42) d_M_plan_42 ?_
    refine PJ.iald (pc := 43) d_M_plan_43 (fun v5 => ?_)
    refine PJ.aload_n (pc := 44) d_M_plan_44 rfl ?_
    refine PJ.iload_n (pc := 45) d_M_plan_45 rfl ?_
    refine PJ.cVpI (pc := 46) cs_M_433 (fun z hz => PM_M_turnsNow hz) (pj_fitb rfl) rfl rfl (Nat.le_of_ble_eq_true rfl) d_M_plan_46 (fun v6 => ?_)
    refine PJ.iconst (pc := 49) (v := 0) d_M_plan_49 (by decide) ?_
    refine PJ.aload_n (pc := 50) d_M_plan_50 rfl ?_
    refine PJ.getR (pc := 51) fs_M_17 d_M_plan_51 (fun v7 => ?_)
    refine PJ.bipush (pc := 54) (v := 20) d_M_plan_54 (by decide) ?_
    refine PJ.iald (pc := 56) d_M_plan_56 (fun v8 => ?_)
    refine PJ.cVL (pc := 57) cs_M_420 (fun z hz => PM_M_bestBy hz) (pj_fitb rfl) rfl rfl (Nat.le_of_ble_eq_true rfl) d_M_plan_57 (fun v9 => ?_)
    refine PJ.aload_n (pc := 60) d_M_plan_60 rfl ?_
    refine PJ.iload_n (pc := 61) d_M_plan_61 rfl ?_
    refine PJ.iload_n (pc := 62) d_M_plan_62 rfl ?_
    refine PJ.cVpL (pc := 63) cs_M_436 (fun z hz => PM_M_parts hz) (pj_fitb rfl) rfl rfl (Nat.le_of_ble_eq_true rfl) d_M_plan_63 (fun v10 => ?_)
    refine PJ.iload_n (pc := 66) d_M_plan_66 rfl ?_
    refine PJ.cVL (pc := 67) cs_M_440 (fun z hz => PM_M_fraction hz) (pj_fitb rfl) rfl rfl (Nat.le_of_ble_eq_true rfl) d_M_plan_67 (fun v11 => ?_)
    exact PJ.lret (pc := 70) d_M_plan_70 rfl (Nat.le_of_ble_eq_true rfl) (Nat.le_of_ble_eq_true rfl)
  · refine PJ.aload_n (pc := 18) d_M_plan_18 rfl ?_
    refine PJ.iload (pc := 19) d_M_plan_19 rfl ?_
    refine PJ.cVL (pc := 21) cs_M_426 (fun z hz => PM_M_never hz) (pj_fitb rfl) rfl rfl (Nat.le_of_ble_eq_true rfl) d_M_plan_21 (fun v12 => ?_)
    exact PJ.lret (pc := 24) d_M_plan_24 rfl (Nat.le_of_ble_eq_true rfl) (Nat.le_of_ble_eq_true rfl)
