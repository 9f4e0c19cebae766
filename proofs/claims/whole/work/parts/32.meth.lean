-- sites and methods: meth
abbrev Y_M_readAll : MI := (⟨"WaverTaxModel", "readAll", "()V"⟩, prog_13_method_33_code, 2, (none : Option FieldType))
abbrev Y_M_good : MI := (⟨"WaverTaxModel", "good", "(I)I"⟩, prog_13_method_7_code, 2, (some .int))
abbrev Y_M_laws : MI := (⟨"WaverTaxModel", "laws", "(I)I"⟩, prog_13_method_45_code, 3, (some .int))
abbrev Y_M_fault : MI := (⟨"WaverTaxModel", "fault", "()I"⟩, prog_13_method_46_code, 1, (some .int))
abbrev Y_M_where : MI := (⟨"WaverTaxModel", "where", "()I"⟩, prog_13_method_47_code, 1, (some .int))
abbrev Y_M_isPerson : MI := (⟨"WaverTaxModel", "isPerson", "(I)Z"⟩, prog_13_method_49_code, 2, (some .boolean))
abbrev Y_M_person : MI := (⟨"WaverTaxModel", "person", "(II)I"⟩, prog_13_method_57_code, 3, (some .int))
abbrev Y_M_isChoice : MI := (⟨"WaverTaxModel", "isChoice", "(I)Z"⟩, prog_13_method_50_code, 2, (some .boolean))
abbrev Y_ML_far : MI := (⟨"WaverTaxModel$Law", "far", "(II)I"⟩, prog_14_method_3_code, 3, (some .int))
abbrev Y_M_far : MI := (⟨"WaverTaxModel", "far", "(II)I"⟩, prog_13_method_58_code, 3, (some .int))
abbrev Y_ML_likes : MI := (⟨"WaverTaxModel$Law", "likes", "(II)I"⟩, prog_14_method_4_code, 3, (some .int))
abbrev Y_M_worthBy : MI := (⟨"WaverTaxModel", "worthBy", "(III)I"⟩, prog_13_method_55_code, 6, (some .int))
abbrev Y_M_worth : MI := (⟨"WaverTaxModel", "worth", "(II)I"⟩, prog_13_method_59_code, 3, (some .int))
abbrev Y_M_asTold : MI := (⟨"WaverTaxModel", "asTold", "()V"⟩, prog_13_method_52_code, 1, (none : Option FieldType))
abbrev Y_M_taxBy : MI := (⟨"WaverTaxModel", "taxBy", "(IIIII)I"⟩, prog_13_method_53_code, 7, (some .int))
theorem cm_M_readLine : (Cond.code Y_M_readLine.1 Y_M_readLine.2.1 Y_M_readLine.2.2.1 Y_M_readLine.2.2.2 ∈ pj_ws) ∧ (Cond.initialized Y_M_readLine.1.cls ∈ pj_ws) ∧ (Y_M_readLine.1.cls ≠ "java/lang/invoke/MethodHandle" ∧ Y_M_readLine.1.cls ≠ "java/lang/invoke/VarHandle" ∧ (parseMethodDescriptor Y_M_readLine.1.desc).map (fun d => d.parameters.length) = some 0) ∧ (Cond.instanceMethod Y_M_readLine.1 ∈ pj_ws) ∧ (Cond.selects Y_M_readLine.1.cls Y_M_readLine.1 Y_M_readLine.1 ∈ pj_ws) := ⟨pj_mem 1631 (by decide +kernel) rfl, pj_mem 141 (by decide +kernel) rfl, ⟨by decide +kernel, by decide +kernel, by decide +kernel⟩, pj_mem 1630 (by decide +kernel) rfl, pj_mem 56 (by decide +kernel) rfl⟩
theorem cm_M_eatsSemicolon : (Cond.code Y_M_eatsSemicolon.1 Y_M_eatsSemicolon.2.1 Y_M_eatsSemicolon.2.2.1 Y_M_eatsSemicolon.2.2.2 ∈ pj_ws) ∧ (Cond.initialized Y_M_eatsSemicolon.1.cls ∈ pj_ws) ∧ (Y_M_eatsSemicolon.1.cls ≠ "java/lang/invoke/MethodHandle" ∧ Y_M_eatsSemicolon.1.cls ≠ "java/lang/invoke/VarHandle" ∧ (parseMethodDescriptor Y_M_eatsSemicolon.1.desc).map (fun d => d.parameters.length) = some 0) ∧ (Cond.instanceMethod Y_M_eatsSemicolon.1 ∈ pj_ws) ∧ (Cond.selects Y_M_eatsSemicolon.1.cls Y_M_eatsSemicolon.1 Y_M_eatsSemicolon.1 ∈ pj_ws) := ⟨pj_mem 1761 (by decide +kernel) rfl, pj_mem 141 (by decide +kernel) rfl, ⟨by decide +kernel, by decide +kernel, by decide +kernel⟩, pj_mem 1760 (by decide +kernel) rfl, pj_mem 78 (by decide +kernel) rfl⟩
theorem cm_ML_init : (Cond.code Y_ML_init.1 Y_ML_init.2.1 Y_ML_init.2.2.1 Y_ML_init.2.2.2 ∈ pj_ws) ∧ (Cond.initialized Y_ML_init.1.cls ∈ pj_ws) ∧ (Y_ML_init.1.cls ≠ "java/lang/invoke/MethodHandle" ∧ Y_ML_init.1.cls ≠ "java/lang/invoke/VarHandle" ∧ (parseMethodDescriptor Y_ML_init.1.desc).map (fun d => d.parameters.length) = some 0) ∧ (Cond.instanceMethod Y_ML_init.1 ∈ pj_ws) ∧ True := ⟨pj_mem 1505 (by decide +kernel) rfl, pj_mem 149 (by decide +kernel) rfl, ⟨by decide +kernel, by decide +kernel, by decide +kernel⟩, pj_mem 1504 (by decide +kernel) rfl, trivial⟩
theorem cm_M_readAll : (Cond.code Y_M_readAll.1 Y_M_readAll.2.1 Y_M_readAll.2.2.1 Y_M_readAll.2.2.2 ∈ pj_ws) ∧ (Cond.initialized Y_M_readAll.1.cls ∈ pj_ws) ∧ (Y_M_readAll.1.cls ≠ "java/lang/invoke/MethodHandle" ∧ Y_M_readAll.1.cls ≠ "java/lang/invoke/VarHandle" ∧ (parseMethodDescriptor Y_M_readAll.1.desc).map (fun d => d.parameters.length) = some 0) ∧ (Cond.instanceMethod Y_M_readAll.1 ∈ pj_ws) ∧ (Cond.selects Y_M_readAll.1.cls Y_M_readAll.1 Y_M_readAll.1 ∈ pj_ws) := ⟨pj_mem 1627 (by decide +kernel) rfl, pj_mem 141 (by decide +kernel) rfl, ⟨by decide +kernel, by decide +kernel, by decide +kernel⟩, pj_mem 1626 (by decide +kernel) rfl, pj_mem 55 (by decide +kernel) rfl⟩
theorem cm_ML_far : (Cond.code Y_ML_far.1 Y_ML_far.2.1 Y_ML_far.2.2.1 Y_ML_far.2.2.2 ∈ pj_ws) ∧ (Cond.initialized Y_ML_far.1.cls ∈ pj_ws) ∧ (Y_ML_far.1.cls ≠ "java/lang/invoke/MethodHandle" ∧ Y_ML_far.1.cls ≠ "java/lang/invoke/VarHandle" ∧ (parseMethodDescriptor Y_ML_far.1.desc).map (fun d => d.parameters.length) = some 2) ∧ (Cond.instanceMethod Y_ML_far.1 ∈ pj_ws) ∧ (Cond.selects Y_ML_far.1.cls Y_ML_far.1 Y_ML_far.1 ∈ pj_ws) := ⟨pj_mem 1793 (by decide +kernel) rfl, pj_mem 149 (by decide +kernel) rfl, ⟨by decide +kernel, by decide +kernel, by decide +kernel⟩, pj_mem 1791 (by decide +kernel) rfl, pj_mem 1792 (by decide +kernel) rfl⟩
theorem cm_ML_likes : (Cond.code Y_ML_likes.1 Y_ML_likes.2.1 Y_ML_likes.2.2.1 Y_ML_likes.2.2.2 ∈ pj_ws) ∧ (Cond.initialized Y_ML_likes.1.cls ∈ pj_ws) ∧ (Y_ML_likes.1.cls ≠ "java/lang/invoke/MethodHandle" ∧ Y_ML_likes.1.cls ≠ "java/lang/invoke/VarHandle" ∧ (parseMethodDescriptor Y_ML_likes.1.desc).map (fun d => d.parameters.length) = some 2) ∧ (Cond.instanceMethod Y_ML_likes.1 ∈ pj_ws) ∧ (Cond.selects Y_ML_likes.1.cls Y_ML_likes.1 Y_ML_likes.1 ∈ pj_ws) := ⟨pj_mem 1805 (by decide +kernel) rfl, pj_mem 149 (by decide +kernel) rfl, ⟨by decide +kernel, by decide +kernel, by decide +kernel⟩, pj_mem 1803 (by decide +kernel) rfl, pj_mem 1804 (by decide +kernel) rfl⟩
theorem cm_M_worthBy : (Cond.code Y_M_worthBy.1 Y_M_worthBy.2.1 Y_M_worthBy.2.2.1 Y_M_worthBy.2.2.2 ∈ pj_ws) ∧ (Cond.initialized Y_M_worthBy.1.cls ∈ pj_ws) ∧ (Y_M_worthBy.1.cls ≠ "java/lang/invoke/MethodHandle" ∧ Y_M_worthBy.1.cls ≠ "java/lang/invoke/VarHandle" ∧ (parseMethodDescriptor Y_M_worthBy.1.desc).map (fun d => d.parameters.length) = some 3) ∧ (Cond.instanceMethod Y_M_worthBy.1 ∈ pj_ws) ∧ (Cond.selects Y_M_worthBy.1.cls Y_M_worthBy.1 Y_M_worthBy.1 ∈ pj_ws) := ⟨pj_mem 1801 (by decide +kernel) rfl, pj_mem 141 (by decide +kernel) rfl, ⟨by decide +kernel, by decide +kernel, by decide +kernel⟩, pj_mem 1800 (by decide +kernel) rfl, pj_mem 82 (by decide +kernel) rfl⟩
theorem cm_M_isPerson : (Cond.code Y_M_isPerson.1 Y_M_isPerson.2.1 Y_M_isPerson.2.2.1 Y_M_isPerson.2.2.2 ∈ pj_ws) ∧ (Cond.initialized Y_M_isPerson.1.cls ∈ pj_ws) ∧ (Y_M_isPerson.1.cls ≠ "java/lang/invoke/MethodHandle" ∧ Y_M_isPerson.1.cls ≠ "java/lang/invoke/VarHandle" ∧ (parseMethodDescriptor Y_M_isPerson.1.desc).map (fun d => d.parameters.length) = some 1) ∧ (Cond.instanceMethod Y_M_isPerson.1 ∈ pj_ws) ∧ (Cond.selects Y_M_isPerson.1.cls Y_M_isPerson.1 Y_M_isPerson.1 ∈ pj_ws) := ⟨pj_mem 1781 (by decide +kernel) rfl, pj_mem 141 (by decide +kernel) rfl, ⟨by decide +kernel, by decide +kernel, by decide +kernel⟩, pj_mem 1780 (by decide +kernel) rfl, pj_mem 80 (by decide +kernel) rfl⟩
theorem cm_M_isChoice : (Cond.code Y_M_isChoice.1 Y_M_isChoice.2.1 Y_M_isChoice.2.2.1 Y_M_isChoice.2.2.2 ∈ pj_ws) ∧ (Cond.initialized Y_M_isChoice.1.cls ∈ pj_ws) ∧ (Y_M_isChoice.1.cls ≠ "java/lang/invoke/MethodHandle" ∧ Y_M_isChoice.1.cls ≠ "java/lang/invoke/VarHandle" ∧ (parseMethodDescriptor Y_M_isChoice.1.desc).map (fun d => d.parameters.length) = some 1) ∧ (Cond.instanceMethod Y_M_isChoice.1 ∈ pj_ws) ∧ (Cond.selects Y_M_isChoice.1.cls Y_M_isChoice.1 Y_M_isChoice.1 ∈ pj_ws) := ⟨pj_mem 1789 (by decide +kernel) rfl, pj_mem 141 (by decide +kernel) rfl, ⟨by decide +kernel, by decide +kernel, by decide +kernel⟩, pj_mem 1788 (by decide +kernel) rfl, pj_mem 81 (by decide +kernel) rfl⟩
theorem cm_M_refused : (Cond.code Y_M_refused.1 Y_M_refused.2.1 Y_M_refused.2.2.1 Y_M_refused.2.2.2 ∈ pj_ws) ∧ (Cond.initialized Y_M_refused.1.cls ∈ pj_ws) ∧ (Y_M_refused.1.cls ≠ "java/lang/invoke/MethodHandle" ∧ Y_M_refused.1.cls ≠ "java/lang/invoke/VarHandle" ∧ (parseMethodDescriptor Y_M_refused.1.desc).map (fun d => d.parameters.length) = some 1) ∧ (Cond.instanceMethod Y_M_refused.1 ∈ pj_ws) ∧ (Cond.selects Y_M_refused.1.cls Y_M_refused.1 Y_M_refused.1 ∈ pj_ws) := ⟨pj_mem 1500 (by decide +kernel) rfl, pj_mem 141 (by decide +kernel) rfl, ⟨by decide +kernel, by decide +kernel, by decide +kernel⟩, pj_mem 1499 (by decide +kernel) rfl, pj_mem 52 (by decide +kernel) rfl⟩
theorem cm_M_good : (Cond.code Y_M_good.1 Y_M_good.2.1 Y_M_good.2.2.1 Y_M_good.2.2.2 ∈ pj_ws) ∧ (Cond.initialized Y_M_good.1.cls ∈ pj_ws) ∧ (Y_M_good.1.cls ≠ "java/lang/invoke/MethodHandle" ∧ Y_M_good.1.cls ≠ "java/lang/invoke/VarHandle" ∧ (parseMethodDescriptor Y_M_good.1.desc).map (fun d => d.parameters.length) = some 1) ∧ (Cond.instanceMethod Y_M_good.1 ∈ pj_ws) ∧ (Cond.selects Y_M_good.1.cls Y_M_good.1 Y_M_good.1 ∈ pj_ws) := ⟨pj_mem 1765 (by decide +kernel) rfl, pj_mem 141 (by decide +kernel) rfl, ⟨by decide +kernel, by decide +kernel, by decide +kernel⟩, pj_mem 1764 (by decide +kernel) rfl, pj_mem 79 (by decide +kernel) rfl⟩
theorem cs_M_192 : pj_cV "WaverTaxModel" 192 Y_M_readLine 0 12 := ⟨⟨cm_M_readLine.1, cm_M_readLine.2.1, cm_M_readLine.2.2.1, Or.inl (pj_mem 1628 (by decide +kernel) rfl)⟩, by decide, cm_M_readLine.2.2.2.1, cm_M_readLine.2.2.2.2, ⟨_, rfl, rfl⟩⟩
theorem cs_M_195 : pj_cV "WaverTaxModel" 195 Y_M_eatsSemicolon 0 12 := ⟨⟨cm_M_eatsSemicolon.1, cm_M_eatsSemicolon.2.1, cm_M_eatsSemicolon.2.2.1, Or.inl (pj_mem 1758 (by decide +kernel) rfl)⟩, by decide, cm_M_eatsSemicolon.2.2.2.1, cm_M_eatsSemicolon.2.2.2.2, ⟨_, rfl, rfl⟩⟩
theorem cs_M_337 : pj_cI "WaverTaxModel" 337 Y_ML_init 0 := ⟨⟨cm_ML_init.1, cm_ML_init.2.1, cm_ML_init.2.2.1, Or.inl (pj_mem 1503 (by decide +kernel) rfl)⟩, rfl, rfl, cm_ML_init.2.2.2.1⟩
theorem cs_M_338 : pj_cV "WaverTaxModel" 338 Y_M_readAll 0 12 := ⟨⟨cm_M_readAll.1, cm_M_readAll.2.1, cm_M_readAll.2.2.1, Or.inl (pj_mem 1624 (by decide +kernel) rfl)⟩, by decide, cm_M_readAll.2.2.2.1, cm_M_readAll.2.2.2.2, ⟨_, rfl, rfl⟩⟩
theorem cs_M_353 : pj_cV "WaverTaxModel" 353 Y_ML_far 2 11 := ⟨⟨cm_ML_far.1, cm_ML_far.2.1, cm_ML_far.2.2.1, Or.inl (pj_mem 1790 (by decide +kernel) rfl)⟩, by decide, cm_ML_far.2.2.2.1, cm_ML_far.2.2.2.2, ⟨_, rfl, rfl⟩⟩
theorem cs_M_359 : pj_cV "WaverTaxModel" 359 Y_ML_likes 2 11 := ⟨⟨cm_ML_likes.1, cm_ML_likes.2.1, cm_ML_likes.2.2.1, Or.inl (pj_mem 1802 (by decide +kernel) rfl)⟩, by decide, cm_ML_likes.2.2.2.1, cm_ML_likes.2.2.2.2, ⟨_, rfl, rfl⟩⟩
theorem cs_M_361 : pj_cV "WaverTaxModel" 361 Y_M_worthBy 3 12 := ⟨⟨cm_M_worthBy.1, cm_M_worthBy.2.1, cm_M_worthBy.2.2.1, Or.inl (pj_mem 1798 (by decide +kernel) rfl)⟩, by decide, cm_M_worthBy.2.2.2.1, cm_M_worthBy.2.2.2.2, ⟨_, rfl, rfl⟩⟩
theorem cs_M_369 : pj_cV "WaverTaxModel" 369 Y_M_isPerson 1 12 := ⟨⟨cm_M_isPerson.1, cm_M_isPerson.2.1, cm_M_isPerson.2.2.1, Or.inl (pj_mem 1778 (by decide +kernel) rfl)⟩, by decide, cm_M_isPerson.2.2.2.1, cm_M_isPerson.2.2.2.2, ⟨_, rfl, rfl⟩⟩
theorem cs_M_372 : pj_cV "WaverTaxModel" 372 Y_M_isChoice 1 12 := ⟨⟨cm_M_isChoice.1, cm_M_isChoice.2.1, cm_M_isChoice.2.2.1, Or.inl (pj_mem 1786 (by decide +kernel) rfl)⟩, by decide, cm_M_isChoice.2.2.2.1, cm_M_isChoice.2.2.2.2, ⟨_, rfl, rfl⟩⟩
theorem cs_M_52 : pj_cV "WaverTaxModel" 52 Y_M_refused 1 12 := ⟨⟨cm_M_refused.1, cm_M_refused.2.1, cm_M_refused.2.2.1, Or.inl (pj_mem 1497 (by decide +kernel) rfl)⟩, by decide, cm_M_refused.2.2.2.1, cm_M_refused.2.2.2.2, ⟨_, rfl, rfl⟩⟩
theorem cs_M_58 : pj_cV "WaverTaxModel" 58 Y_M_good 1 12 := ⟨⟨cm_M_good.1, cm_M_good.2.1, cm_M_good.2.2.1, Or.inl (pj_mem 1762 (by decide +kernel) rfl)⟩, by decide, cm_M_good.2.2.2.1, cm_M_good.2.2.2.2, ⟨_, rfl, rfl⟩⟩
theorem fs_ML_15 : pj_fs "WaverTaxModel$Law" 11 10 15 (.array (.int)) := ⟨_, _, _, _, cd_11, by decide, rfl, Or.inl (pj_mem 1520 (by decide +kernel) rfl)⟩
theorem fs_M_106 : pj_fs "WaverTaxModel" 12 12 106 (.int) := ⟨_, _, _, _, cd_12, by decide, rfl, Or.inl (pj_mem 1399 (by decide +kernel) rfl)⟩
theorem fs_M_109 : pj_fs "WaverTaxModel" 12 13 109 (.int) := ⟨_, _, _, _, cd_12, by decide, rfl, Or.inl (pj_mem 1400 (by decide +kernel) rfl)⟩
theorem fs_M_17 : pj_fs "WaverTaxModel" 12 15 17 (.array (.int)) := ⟨_, _, _, _, cd_12, by decide, rfl, Or.inl (pj_mem 1402 (by decide +kernel) rfl)⟩
theorem fs_M_235 : pj_fs "WaverTaxModel" 11 1 235 (.int) := ⟨_, _, _, _, cd_11, by decide, rfl, Or.inr ⟨_, List.mem_of_getElem? (i := 9) rfl⟩⟩
theorem fs_M_30 : pj_fs "WaverTaxModel" 12 21 30 (.int) := ⟨_, _, _, _, cd_12, by decide, rfl, Or.inl (pj_mem 1408 (by decide +kernel) rfl)⟩
theorem fs_M_341 : pj_fs "WaverTaxModel" 12 3 341 (.object "WaverTaxModel$Law") := ⟨_, _, _, _, cd_12, by decide, rfl, Or.inl (pj_mem 1390 (by decide +kernel) rfl)⟩
theorem fs_M_350 : pj_fs "WaverTaxModel" 12 22 350 (.int) := ⟨_, _, _, _, cd_12, by decide, rfl, Or.inl (pj_mem 1409 (by decide +kernel) rfl)⟩
theorem fs_M_9 : pj_fs "WaverTaxModel" 12 2 9 (.int) := ⟨_, _, _, _, cd_12, by decide, rfl, Or.inl (pj_mem 1389 (by decide +kernel) rfl)⟩
theorem ps_M_160 {mn : String} : pj_ps "WaverTaxModel" mn 12 4 160 (.object "WaverTaxModel$Law") := ⟨_, _, _, _, cd_12, by decide, rfl, Or.inl ⟨rfl, Or.inl (pj_mem 1391 (by decide +kernel) rfl)⟩⟩
theorem ps_M_341 {mn : String} : pj_ps "WaverTaxModel" mn 12 3 341 (.object "WaverTaxModel$Law") := ⟨_, _, _, _, cd_12, by decide, rfl, Or.inl ⟨rfl, Or.inl (pj_mem 1390 (by decide +kernel) rfl)⟩⟩
theorem ps_M_344 {mn : String} : pj_ps "WaverTaxModel" mn 12 19 344 (.int) := ⟨_, _, _, _, cd_12, by decide, rfl, Or.inl ⟨rfl, Or.inl (pj_mem 1406 (by decide +kernel) rfl)⟩⟩
theorem ps_M_347 {mn : String} : pj_ps "WaverTaxModel" mn 12 20 347 (.int) := ⟨_, _, _, _, cd_12, by decide, rfl, Or.inl ⟨rfl, Or.inl (pj_mem 1407 (by decide +kernel) rfl)⟩⟩
theorem ps_M_350 {mn : String} : pj_ps "WaverTaxModel" mn 12 22 350 (.int) := ⟨_, _, _, _, cd_12, by decide, rfl, Or.inl ⟨rfl, Or.inl (pj_mem 1409 (by decide +kernel) rfl)⟩⟩
theorem ps_M_65 {mn : String} : pj_ps "WaverTaxModel" mn 12 7 65 (.int) := ⟨_, _, _, _, cd_12, by decide, rfl, Or.inl ⟨rfl, Or.inl (pj_mem 1394 (by decide +kernel) rfl)⟩⟩
theorem wd_1501 : (Jvm.Cond.classLink "WaverTaxModel" (165 : Nat) "WaverTaxModel$Law") ∈ pj_ws := pj_mem 1501 (by decide +kernel) rfl
theorem wd_149 : (Jvm.Cond.initialized "WaverTaxModel$Law") ∈ pj_ws := pj_mem 149 (by decide +kernel) rfl
theorem wd_1502 : (Jvm.Cond.instantiable "WaverTaxModel$Law" (27 : Nat)) ∈ pj_ws := pj_mem 1502 (by decide +kernel) rfl
theorem d_M_readAll_0 : decode Y_M_readAll.2.1 0 = .ok (.iconst 1, 1) := by decide +kernel
theorem d_M_readAll_1 : decode Y_M_readAll.2.1 1 = .ok (.istore_n 1, 1) := by decide +kernel
theorem d_M_readAll_2 : decode Y_M_readAll.2.1 2 = .ok (.iload_n 1, 1) := by decide +kernel
theorem d_M_readAll_3 : decode Y_M_readAll.2.1 3 = .ok (.ifCond .eq 15, 3) := by decide +kernel
theorem d_M_readAll_6 : decode Y_M_readAll.2.1 6 = .ok (.aload_n 0, 1) := by decide +kernel
theorem d_M_readAll_7 : decode Y_M_readAll.2.1 7 = .ok (.invokevirtual 192, 3) := by decide +kernel
theorem d_M_readAll_10 : decode Y_M_readAll.2.1 10 = .ok (.aload_n 0, 1) := by decide +kernel
theorem d_M_readAll_11 : decode Y_M_readAll.2.1 11 = .ok (.invokevirtual 195, 3) := by decide +kernel
theorem d_M_readAll_14 : decode Y_M_readAll.2.1 14 = .ok (.istore_n 1, 1) := by decide +kernel
theorem d_M_readAll_15 : decode Y_M_readAll.2.1 15 = .ok (.goto (-13), 3) := by decide +kernel
theorem d_M_readAll_18 : decode Y_M_readAll.2.1 18 = .ok (.aload_n 0, 1) := by decide +kernel
theorem d_M_readAll_19 : decode Y_M_readAll.2.1 19 = .ok (.getfield 80, 3) := by decide +kernel
theorem d_M_readAll_22 : decode Y_M_readAll.2.1 22 = .ok (.iconst 1, 1) := by decide +kernel
theorem d_M_readAll_23 : decode Y_M_readAll.2.1 23 = .ok (.if_icmp .eq 8, 3) := by decide +kernel
theorem d_M_readAll_26 : decode Y_M_readAll.2.1 26 = .ok (.aload_n 0, 1) := by decide +kernel
theorem d_M_readAll_27 : decode Y_M_readAll.2.1 27 = .ok (.iconst 1, 1) := by decide +kernel
theorem d_M_readAll_28 : decode Y_M_readAll.2.1 28 = .ok (.invokevirtual 123, 3) := by decide +kernel
theorem d_M_readAll_31 : decode Y_M_readAll.2.1 31 = .ok (.aload_n 0, 1) := by decide +kernel
theorem d_M_readAll_32 : decode Y_M_readAll.2.1 32 = .ok (.getfield 160, 3) := by decide +kernel
theorem d_M_readAll_35 : decode Y_M_readAll.2.1 35 = .ok (.getfield 198, 3) := by decide +kernel
theorem d_M_readAll_38 : decode Y_M_readAll.2.1 38 = .ok (.ifCond .ne 9, 3) := by decide +kernel
theorem d_M_readAll_41 : decode Y_M_readAll.2.1 41 = .ok (.aload_n 0, 1) := by decide +kernel
theorem d_M_readAll_42 : decode Y_M_readAll.2.1 42 = .ok (.bipush 6, 2) := by decide +kernel
theorem d_M_readAll_44 : decode Y_M_readAll.2.1 44 = .ok (.invokevirtual 123, 3) := by decide +kernel
theorem d_M_readAll_47 : decode Y_M_readAll.2.1 47 = .ok (.return_, 1) := by decide +kernel
def f_M_readAll (h : PH) (a0 : Option Nat) : Option PH := (pj_it (X := PH) (fun s1 : Int32 × PH => if s1.1 = 0 then (some (.inr s1.2)) else ((cl s1.2 12 a0 (f_M_readLine s1.2 a0)).bind fun h3 => (cl h3 12 a0 (f_M_eatsSemicolon h3 a0)).bind fun v4 => some (.inl (v4.1, v4.2)))) FU ((1 : Int32), h)).bind fun x2 => (gI x2 12 a0 9).bind fun v5 => (if v5 = (1 : Int32) then (some x2) else ((cl x2 12 a0 (f_M_flaw x2 a0 (1 : Int32))).bind fun h7 => some h7) : Option (PH)).bind fun j6 => (gR j6 12 a0 4).bind fun v8 => (gI j6 11 v8 2).bind fun v9 => if ¬ v9 = 0 then (some j6) else ((cl j6 12 a0 (f_M_flaw j6 a0 (6 : Int32))).bind fun h10 => some h10)
set_option maxRecDepth 20000 in
theorem PM_M_readAll {l : Launch} {G : Cx} {h : PH} {a0 : Option Nat} {z : PH} (hz : f_M_readAll h a0 = some z) : PM l G 14 0 0 Y_M_readAll [.inr (.inr a0)] h (none, z) := by
  refine PM.of (Y := Y_M_readAll) (cv := (fun z : PH => (((none, z) : Option PV × PH)))) (by decide) (L0 := [some (.inr (.inr a0)), none]) 1 rfl (Nat.le_of_ble_eq_true rfl) ?_ hz
  unfold f_M_readAll
  refine PJ.iconst (pc := 0) (v := 1) d_M_readAll_0 (by decide) ?_
  refine PJ.istore_n (pc := 1) (L1 := [some (.inr (.inr a0)), some (.inl (1 : Int32))]) d_M_readAll_1 (Nat.le_of_ble_eq_true rfl) rfl rfl ?_
  refine PJ.bind (fun x2 : PH => ((18 : Nat), ([some (.inr (.inr a0)), none] : List (Option PV)), ([] : List PV), (x2 : PH), (0 : Nat), (0 : Nat))) (PJ.it (E := (fun s1 : Int32 × PH => ((2 : Nat), ([some (.inr (.inr a0)), some (.inl s1.1)] : List (Option PV)), ([] : List PV), (s1.2 : PH), (0 : Nat), (0 : Nat)))) (F := (fun x2 : PH => ((18 : Nat), ([some (.inr (.inr a0)), none] : List (Option PV)), ([] : List PV), (x2 : PH), (0 : Nat), (0 : Nat)))) (fun s1 => ?_) FU ((1 : Int32), h)) (fun x2 => ?_)
  · show PJ l G (pj_rm 14 0 0) Y_M_readAll 2 [some (.inr (.inr a0)), some (.inl s1.1)] [] s1.2 0 0 _ _
    refine PJ.iload_n (pc := 2) d_M_readAll_2 rfl ?_
    refine PJ.if_eq (pc := 3) (tgt := 18) d_M_readAll_3 (by decide) (fun _ => ?_) (fun _ => ?_)
    · refine PJ.mk (L1 := [some (.inr (.inr a0)), none]) [true, false] rfl ?_
      exact PJ.done rfl
    · refine PJ.aload_n (pc := 6) d_M_readAll_6 rfl ?_
      refine PJ.cVV (pc := 7) cs_M_192 (fun z hz => PM_M_readLine hz) (pj_fitb rfl) rfl rfl (Nat.le_of_ble_eq_true rfl) d_M_readAll_7 (fun h3 => ?_)
      refine PJ.aload_n (pc := 10) d_M_readAll_10 rfl ?_
      refine PJ.cVI (pc := 11) cs_M_195 (fun z hz => PM_M_eatsSemicolon hz) (pj_fitb rfl) rfl rfl (Nat.le_of_ble_eq_true rfl) d_M_readAll_11 (fun v4 => ?_)
      refine PJ.istore_n (pc := 14) (L1 := [some (.inr (.inr a0)), some (.inl v4.1)]) d_M_readAll_14 (Nat.le_of_ble_eq_true rfl) rfl rfl ?_
      refine PJ.goto (pc := 15) (tgt := 2) d_M_readAll_15 (by decide) ?_
      exact PJ.done rfl
  · show PJ l G (pj_rm 14 0 0) Y_M_readAll 18 [some (.inr (.inr a0)), none] [] x2 0 0 _ _
    refine PJ.aload_n (pc := 18) d_M_readAll_18 rfl ?_
    refine PJ.getI (pc := 19) fs_M_80 d_M_readAll_19 (fun v5 => ?_)
    refine PJ.iconst (pc := 22) (v := 1) d_M_readAll_22 (by decide) ?_
    refine PJ.bind (fun j6 : PH => ((31 : Nat), ([some (.inr (.inr a0)), none] : List (Option PV)), ([] : List PV), (j6 : PH), (0 : Nat), (0 : Nat))) ?_ (fun j6 => ?_)
    · refine PJ.icmp_eq (pc := 23) (tgt := 31) d_M_readAll_23 (by decide) (fun _ => ?_) (fun _ => ?_)
      · exact PJ.done rfl
      · refine PJ.aload_n (pc := 26) d_M_readAll_26 rfl ?_
        refine PJ.iconst (pc := 27) (v := 1) d_M_readAll_27 (by decide) ?_
        refine PJ.cVV (pc := 28) cs_M_123 (fun z hz => PM_M_flaw hz) (pj_fitb rfl) rfl rfl (Nat.le_of_ble_eq_true rfl) d_M_readAll_28 (fun h7 => ?_)
        exact PJ.done rfl
    · show PJ l G (pj_rm 14 0 0) Y_M_readAll 31 [some (.inr (.inr a0)), none] [] j6 0 0 _ _
      refine PJ.aload_n (pc := 31) d_M_readAll_31 rfl ?_
      refine PJ.getR (pc := 32) fs_M_160 d_M_readAll_32 (fun v8 => ?_)
      refine PJ.getI (pc := 35) fs_M_198 d_M_readAll_35 (fun v9 => ?_)
      refine PJ.if_ne (pc := 38) (tgt := 47) d_M_readAll_38 (by decide) (fun _ => ?_) (fun _ => ?_)
      · exact PJ.vret (pc := 47) d_M_readAll_47 rfl (Nat.le_of_ble_eq_true rfl) (Nat.le_of_ble_eq_true rfl)
      · refine PJ.aload_n (pc := 41) d_M_readAll_41 rfl ?_
        refine PJ.bipush (pc := 42) (v := 6) d_M_readAll_42 (by decide) ?_
        refine PJ.cVV (pc := 44) cs_M_123 (fun z hz => PM_M_flaw hz) (pj_fitb rfl) rfl rfl (Nat.le_of_ble_eq_true rfl) d_M_readAll_44 (fun h10 => ?_)
        exact PJ.vret (pc := 47) d_M_readAll_47 rfl (Nat.le_of_ble_eq_true rfl) (Nat.le_of_ble_eq_true rfl)
theorem d_M_good_0 : decode Y_M_good.2.1 0 = .ok (.aload_n 0, 1) := by decide +kernel
theorem d_M_good_1 : decode Y_M_good.2.1 1 = .ok (.iconst 0, 1) := by decide +kernel
theorem d_M_good_2 : decode Y_M_good.2.1 2 = .ok (.putfield 49, 3) := by decide +kernel
theorem d_M_good_5 : decode Y_M_good.2.1 5 = .ok (.aload_n 0, 1) := by decide +kernel
theorem d_M_good_6 : decode Y_M_good.2.1 6 = .ok (.iconst (-1), 1) := by decide +kernel
theorem d_M_good_7 : decode Y_M_good.2.1 7 = .ok (.putfield 9, 3) := by decide +kernel
theorem d_M_good_10 : decode Y_M_good.2.1 10 = .ok (.iload_n 1, 1) := by decide +kernel
theorem d_M_good_11 : decode Y_M_good.2.1 11 = .ok (.ireturn, 1) := by decide +kernel
def f_M_good (h : PH) (a0 : Option Nat) (a1 : Int32) : Option (Int32 × PH) := (sF h 12 a0 1 (.inl (0 : Int32))).bind fun h1 => (sF h1 12 a0 2 (.inl (-1 : Int32))).bind fun h2 => some (a1, h2)
set_option maxRecDepth 20000 in
theorem PM_M_good {l : Launch} {G : Cx} {h : PH} {a0 : Option Nat} {a1 : Int32} {z : (Int32 × PH)} (hz : f_M_good h a0 a1 = some z) : PM l G 1 0 0 Y_M_good [.inr (.inr a0), .inl a1] h (some (.inl z.1), z.2) := by
  refine PM.of (Y := Y_M_good) (cv := (fun z : (Int32 × PH) => (((some (.inl z.1), z.2) : Option PV × PH)))) (by decide) (L0 := [some (.inr (.inr a0)), some (.inl a1)]) 0 rfl (Nat.le_of_ble_eq_true rfl) ?_ hz
  unfold f_M_good
  refine PJ.aload_n (pc := 0) d_M_good_0 rfl ?_
  refine PJ.iconst (pc := 1) (v := 0) d_M_good_1 (by decide) ?_
  refine PJ.putI (pc := 2) ps_M_49 d_M_good_2 (fun h1 => ?_)
  refine PJ.aload_n (pc := 5) d_M_good_5 rfl ?_
  refine PJ.iconst (pc := 6) (v := -1) d_M_good_6 (by decide) ?_
  refine PJ.putI (pc := 7) ps_M_9 d_M_good_7 (fun h2 => ?_)
  refine PJ.iload_n (pc := 10) d_M_good_10 rfl ?_
  exact PJ.iret (pc := 11) d_M_good_11 rfl (Nat.le_of_ble_eq_true rfl) (Nat.le_of_ble_eq_true rfl)
theorem d_M_laws_0 : decode Y_M_laws.2.1 0 = .ok (.aload_n 0, 1) := by decide +kernel
theorem d_M_laws_1 : decode Y_M_laws.2.1 1 = .ok (.iconst 0, 1) := by decide +kernel
theorem d_M_laws_2 : decode Y_M_laws.2.1 2 = .ok (.putfield 46, 3) := by decide +kernel
theorem d_M_laws_5 : decode Y_M_laws.2.1 5 = .ok (.iload_n 1, 1) := by decide +kernel
theorem d_M_laws_6 : decode Y_M_laws.2.1 6 = .ok (.ifCond .lt 11, 3) := by decide +kernel
theorem d_M_laws_9 : decode Y_M_laws.2.1 9 = .ok (.iload_n 1, 1) := by decide +kernel
theorem d_M_laws_10 : decode Y_M_laws.2.1 10 = .ok (.aload_n 0, 1) := by decide +kernel
theorem d_M_laws_11 : decode Y_M_laws.2.1 11 = .ok (.getfield 334, 3) := by decide +kernel
theorem d_M_laws_14 : decode Y_M_laws.2.1 14 = .ok (.if_icmp .le 9, 3) := by decide +kernel
theorem d_M_laws_17 : decode Y_M_laws.2.1 17 = .ok (.aload_n 0, 1) := by decide +kernel
theorem d_M_laws_18 : decode Y_M_laws.2.1 18 = .ok (.iconst 2, 1) := by decide +kernel
theorem d_M_laws_19 : decode Y_M_laws.2.1 19 = .ok (.invokevirtual 52, 3) := by decide +kernel
theorem d_M_laws_22 : decode Y_M_laws.2.1 22 = .ok (.ireturn, 1) := by decide +kernel
theorem d_M_laws_23 : decode Y_M_laws.2.1 23 = .ok (.aload_n 0, 1) := by decide +kernel
theorem d_M_laws_24 : decode Y_M_laws.2.1 24 = .ok (.iload_n 1, 1) := by decide +kernel
theorem d_M_laws_25 : decode Y_M_laws.2.1 25 = .ok (.putfield 65, 3) := by decide +kernel
theorem d_M_laws_28 : decode Y_M_laws.2.1 28 = .ok (.aload_n 0, 1) := by decide +kernel
theorem d_M_laws_29 : decode Y_M_laws.2.1 29 = .ok (.iconst 0, 1) := by decide +kernel
theorem d_M_laws_30 : decode Y_M_laws.2.1 30 = .ok (.putfield 334, 3) := by decide +kernel
theorem d_M_laws_33 : decode Y_M_laws.2.1 33 = .ok (.aload_n 0, 1) := by decide +kernel
theorem d_M_laws_34 : decode Y_M_laws.2.1 34 = .ok (.iconst 0, 1) := by decide +kernel
theorem d_M_laws_35 : decode Y_M_laws.2.1 35 = .ok (.putfield 83, 3) := by decide +kernel
theorem d_M_laws_38 : decode Y_M_laws.2.1 38 = .ok (.aload_n 0, 1) := by decide +kernel
theorem d_M_laws_39 : decode Y_M_laws.2.1 39 = .ok (.iconst 0, 1) := by decide +kernel
theorem d_M_laws_40 : decode Y_M_laws.2.1 40 = .ok (.putfield 106, 3) := by decide +kernel
theorem d_M_laws_43 : decode Y_M_laws.2.1 43 = .ok (.aload_n 0, 1) := by decide +kernel
theorem d_M_laws_44 : decode Y_M_laws.2.1 44 = .ok (.new 165, 3) := by decide +kernel
theorem d_M_laws_47 : decode Y_M_laws.2.1 47 = .ok (.dup, 1) := by decide +kernel
theorem d_M_laws_48 : decode Y_M_laws.2.1 48 = .ok (.invokespecial 337, 3) := by decide +kernel
theorem d_M_laws_51 : decode Y_M_laws.2.1 51 = .ok (.putfield 160, 3) := by decide +kernel
theorem d_M_laws_54 : decode Y_M_laws.2.1 54 = .ok (.aload_n 0, 1) := by decide +kernel
theorem d_M_laws_55 : decode Y_M_laws.2.1 55 = .ok (.iconst 0, 1) := by decide +kernel
theorem d_M_laws_56 : decode Y_M_laws.2.1 56 = .ok (.putfield 80, 3) := by decide +kernel
theorem d_M_laws_59 : decode Y_M_laws.2.1 59 = .ok (.aload_n 0, 1) := by decide +kernel
theorem d_M_laws_60 : decode Y_M_laws.2.1 60 = .ok (.invokevirtual 116, 3) := by decide +kernel
theorem d_M_laws_63 : decode Y_M_laws.2.1 63 = .ok (.aload_n 0, 1) := by decide +kernel
theorem d_M_laws_64 : decode Y_M_laws.2.1 64 = .ok (.invokevirtual 338, 3) := by decide +kernel
theorem d_M_laws_67 : decode Y_M_laws.2.1 67 = .ok (.aload_n 0, 1) := by decide +kernel
theorem d_M_laws_68 : decode Y_M_laws.2.1 68 = .ok (.getfield 106, 3) := by decide +kernel
theorem d_M_laws_71 : decode Y_M_laws.2.1 71 = .ok (.ifCond .le 18, 3) := by decide +kernel
theorem d_M_laws_74 : decode Y_M_laws.2.1 74 = .ok (.aload_n 0, 1) := by decide +kernel
theorem d_M_laws_75 : decode Y_M_laws.2.1 75 = .ok (.iconst 4, 1) := by decide +kernel
theorem d_M_laws_76 : decode Y_M_laws.2.1 76 = .ok (.putfield 49, 3) := by decide +kernel
theorem d_M_laws_79 : decode Y_M_laws.2.1 79 = .ok (.aload_n 0, 1) := by decide +kernel
theorem d_M_laws_80 : decode Y_M_laws.2.1 80 = .ok (.aload_n 0, 1) := by decide +kernel
theorem d_M_laws_81 : decode Y_M_laws.2.1 81 = .ok (.getfield 109, 3) := by decide +kernel
theorem d_M_laws_84 : decode Y_M_laws.2.1 84 = .ok (.putfield 9, 3) := by decide +kernel
theorem d_M_laws_87 : decode Y_M_laws.2.1 87 = .ok (.iconst (-1), 1) := by decide +kernel
theorem d_M_laws_88 : decode Y_M_laws.2.1 88 = .ok (.ireturn, 1) := by decide +kernel
theorem d_M_laws_89 : decode Y_M_laws.2.1 89 = .ok (.aload_n 0, 1) := by decide +kernel
theorem d_M_laws_90 : decode Y_M_laws.2.1 90 = .ok (.aload_n 0, 1) := by decide +kernel
theorem d_M_laws_91 : decode Y_M_laws.2.1 91 = .ok (.getfield 160, 3) := by decide +kernel
theorem d_M_laws_94 : decode Y_M_laws.2.1 94 = .ok (.putfield 341, 3) := by decide +kernel
theorem d_M_laws_97 : decode Y_M_laws.2.1 97 = .ok (.iconst 0, 1) := by decide +kernel
theorem d_M_laws_98 : decode Y_M_laws.2.1 98 = .ok (.istore_n 2, 1) := by decide +kernel
theorem d_M_laws_99 : decode Y_M_laws.2.1 99 = .ok (.iload_n 2, 1) := by decide +kernel
theorem d_M_laws_100 : decode Y_M_laws.2.1 100 = .ok (.bipush 23, 2) := by decide +kernel
theorem d_M_laws_102 : decode Y_M_laws.2.1 102 = .ok (.if_icmp .ge 16, 3) := by decide +kernel
theorem d_M_laws_105 : decode Y_M_laws.2.1 105 = .ok (.aload_n 0, 1) := by decide +kernel
theorem d_M_laws_106 : decode Y_M_laws.2.1 106 = .ok (.getfield 17, 3) := by decide +kernel
theorem d_M_laws_109 : decode Y_M_laws.2.1 109 = .ok (.iload_n 2, 1) := by decide +kernel
theorem d_M_laws_110 : decode Y_M_laws.2.1 110 = .ok (.iconst 0, 1) := by decide +kernel
theorem d_M_laws_111 : decode Y_M_laws.2.1 111 = .ok (.iastore, 1) := by decide +kernel
theorem d_M_laws_112 : decode Y_M_laws.2.1 112 = .ok (.iinc 2 1, 3) := by decide +kernel
theorem d_M_laws_115 : decode Y_M_laws.2.1 115 = .ok (.goto (-16), 3) := by decide +kernel
theorem d_M_laws_118 : decode Y_M_laws.2.1 118 = .ok (.iconst 0, 1) := by decide +kernel
theorem d_M_laws_119 : decode Y_M_laws.2.1 119 = .ok (.istore_n 2, 1) := by decide +kernel
theorem d_M_laws_120 : decode Y_M_laws.2.1 120 = .ok (.iload_n 2, 1) := by decide +kernel
theorem d_M_laws_121 : decode Y_M_laws.2.1 121 = .ok (.aload_n 0, 1) := by decide +kernel
theorem d_M_laws_122 : decode Y_M_laws.2.1 122 = .ok (.getfield 341, 3) := by decide +kernel
theorem d_M_laws_125 : decode Y_M_laws.2.1 125 = .ok (.getfield 255, 3) := by decide +kernel
theorem d_M_laws_128 : decode Y_M_laws.2.1 128 = .ok (.if_icmp .ge 37, 3) := by decide +kernel
theorem d_M_laws_131 : decode Y_M_laws.2.1 131 = .ok (.aload_n 0, 1) := by decide +kernel
theorem d_M_laws_132 : decode Y_M_laws.2.1 132 = .ok (.getfield 17, 3) := by decide +kernel
theorem d_M_laws_135 : decode Y_M_laws.2.1 135 = .ok (.iconst 0, 1) := by decide +kernel
theorem d_M_laws_136 : decode Y_M_laws.2.1 136 = .ok (.iload_n 2, 1) := by decide +kernel
theorem d_M_laws_137 : decode Y_M_laws.2.1 137 = .ok (.iadd, 1) := by decide +kernel
theorem d_M_laws_138 : decode Y_M_laws.2.1 138 = .ok (.aload_n 0, 1) := by decide +kernel
theorem d_M_laws_139 : decode Y_M_laws.2.1 139 = .ok (.getfield 341, 3) := by decide +kernel
theorem d_M_laws_142 : decode Y_M_laws.2.1 142 = .ok (.getfield 270, 3) := by decide +kernel
theorem d_M_laws_145 : decode Y_M_laws.2.1 145 = .ok (.iload_n 2, 1) := by decide +kernel
theorem d_M_laws_146 : decode Y_M_laws.2.1 146 = .ok (.iaload, 1) := by decide +kernel
theorem d_M_laws_147 : decode Y_M_laws.2.1 147 = .ok (.iastore, 1) := by decide +kernel
theorem d_M_laws_148 : decode Y_M_laws.2.1 148 = .ok (.aload_n 0, 1) := by decide +kernel
theorem d_M_laws_149 : decode Y_M_laws.2.1 149 = .ok (.getfield 17, 3) := by decide +kernel
theorem d_M_laws_152 : decode Y_M_laws.2.1 152 = .ok (.bipush 15, 2) := by decide +kernel
theorem d_M_laws_154 : decode Y_M_laws.2.1 154 = .ok (.iload_n 2, 1) := by decide +kernel
theorem d_M_laws_155 : decode Y_M_laws.2.1 155 = .ok (.iadd, 1) := by decide +kernel
theorem d_M_laws_156 : decode Y_M_laws.2.1 156 = .ok (.bipush (-2), 2) := by decide +kernel
theorem d_M_laws_158 : decode Y_M_laws.2.1 158 = .ok (.iastore, 1) := by decide +kernel
theorem d_M_laws_159 : decode Y_M_laws.2.1 159 = .ok (.iinc 2 1, 3) := by decide +kernel
theorem d_M_laws_162 : decode Y_M_laws.2.1 162 = .ok (.goto (-42), 3) := by decide +kernel
theorem d_M_laws_165 : decode Y_M_laws.2.1 165 = .ok (.aload_n 0, 1) := by decide +kernel
theorem d_M_laws_166 : decode Y_M_laws.2.1 166 = .ok (.iconst 0, 1) := by decide +kernel
theorem d_M_laws_167 : decode Y_M_laws.2.1 167 = .ok (.putfield 344, 3) := by decide +kernel
theorem d_M_laws_170 : decode Y_M_laws.2.1 170 = .ok (.aload_n 0, 1) := by decide +kernel
theorem d_M_laws_171 : decode Y_M_laws.2.1 171 = .ok (.iconst 0, 1) := by decide +kernel
theorem d_M_laws_172 : decode Y_M_laws.2.1 172 = .ok (.putfield 347, 3) := by decide +kernel
theorem d_M_laws_175 : decode Y_M_laws.2.1 175 = .ok (.aload_n 0, 1) := by decide +kernel
theorem d_M_laws_176 : decode Y_M_laws.2.1 176 = .ok (.aload_n 0, 1) := by decide +kernel
theorem d_M_laws_177 : decode Y_M_laws.2.1 177 = .ok (.getfield 341, 3) := by decide +kernel
theorem d_M_laws_180 : decode Y_M_laws.2.1 180 = .ok (.getfield 255, 3) := by decide +kernel
theorem d_M_laws_183 : decode Y_M_laws.2.1 183 = .ok (.invokevirtual 58, 3) := by decide +kernel
theorem d_M_laws_186 : decode Y_M_laws.2.1 186 = .ok (.ireturn, 1) := by decide +kernel
def f_M_laws (h : PH) (a0 : Option Nat) (a1 : Int32) : Option (Int32 × PH) := (sF h 12 a0 0 (.inl (0 : Int32))).bind fun h1 => if a1 < 0 then ((cl h1 12 a0 (f_M_refused h1 a0 (2 : Int32))).bind fun v2 => some (v2.1, v2.2)) else ((gI h1 12 a0 6).bind fun v3 => if a1 ≤ v3 then ((sF h1 12 a0 7 (.inl a1)).bind fun h4 => (sF h4 12 a0 6 (.inl (0 : Int32))).bind fun h5 => (sF h5 12 a0 8 (.inl (0 : Int32))).bind fun h6 => (sF h6 12 a0 12 (.inl (0 : Int32))).bind fun h7 => (f_ML_init (h7 ++ [(11, pj_new 11)]) (some (h7).length)).bind fun h8 => (sF h8 12 a0 4 (.inr (.inr (some (h7).length)))).bind fun h9 => (sF h9 12 a0 9 (.inl (0 : Int32))).bind fun h10 => (cl h10 12 a0 (f_M_goesOn h10 a0)).bind fun h11 => (cl h11 12 a0 (f_M_readAll h11 a0)).bind fun h12 => (gI h12 12 a0 12).bind fun v13 => if v13 ≤ 0 then ((gR h12 12 a0 4).bind fun v14 => (sF h12 12 a0 3 (.inr (.inr v14))).bind fun h15 => (pj_it (X := PH) (fun s16 : Int32 × PH => if (23 : Int32) ≤ s16.1 then (some (.inr s16.2)) else ((gR s16.2 12 a0 15).bind fun v18 => (sA s16.2 50 v18 s16.1 (.inl (0 : Int32))).bind fun h19 => some (.inl ((s16.1 + (1 : Int32)), h19)))) FU ((0 : Int32), h15)).bind fun x17 => (pj_it (X := PH) (fun s20 : Int32 × PH => (gR s20.2 12 a0 3).bind fun v22 => (gI s20.2 11 v22 3).bind fun v23 => if v23 ≤ s20.1 then (some (.inr s20.2)) else ((gR s20.2 12 a0 15).bind fun v24 => (gR s20.2 12 a0 3).bind fun v25 => (gR s20.2 11 v25 12).bind fun v26 => (aI s20.2 v26 s20.1).bind fun v27 => (sA s20.2 50 v24 ((0 : Int32) + s20.1) (.inl v27)).bind fun h28 => (gR h28 12 a0 15).bind fun v29 => (sA h28 50 v29 ((15 : Int32) + s20.1) (.inl (-2 : Int32))).bind fun h30 => some (.inl ((s20.1 + (1 : Int32)), h30)))) FU ((0 : Int32), x17)).bind fun x21 => (sF x21 12 a0 19 (.inl (0 : Int32))).bind fun h31 => (sF h31 12 a0 20 (.inl (0 : Int32))).bind fun h32 => (gR h32 12 a0 3).bind fun v33 => (gI h32 11 v33 3).bind fun v34 => (cl h32 12 a0 (f_M_good h32 a0 v34)).bind fun v35 => some (v35.1, v35.2)) else ((sF h12 12 a0 1 (.inl (4 : Int32))).bind fun h36 => (gI h36 12 a0 13).bind fun v37 => (sF h36 12 a0 2 (.inl v37)).bind fun h38 => some ((-1 : Int32), h38))) else ((cl h1 12 a0 (f_M_refused h1 a0 (2 : Int32))).bind fun v39 => some (v39.1, v39.2)))
set_option maxRecDepth 20000 in
theorem PM_M_laws {l : Launch} {G : Cx} {h : PH} {a0 : Option Nat} {a1 : Int32} {z : (Int32 × PH)} (hz : f_M_laws h a0 a1 = some z) : PM l G 15 18 182 Y_M_laws [.inr (.inr a0), .inl a1] h (some (.inl z.1), z.2) := by
  refine PM.of (Y := Y_M_laws) (cv := (fun z : (Int32 × PH) => (((some (.inl z.1), z.2) : Option PV × PH)))) (by decide) (L0 := [some (.inr (.inr a0)), some (.inl a1), none]) 1 rfl (Nat.le_of_ble_eq_true rfl) ?_ hz
  unfold f_M_laws
  refine PJ.aload_n (pc := 0) d_M_laws_0 rfl ?_
  refine PJ.iconst (pc := 1) (v := 0) d_M_laws_1 (by decide) ?_
  refine PJ.putI (pc := 2) ps_M_46 d_M_laws_2 (fun h1 => ?_)
  refine PJ.iload_n (pc := 5) d_M_laws_5 rfl ?_
  refine PJ.if_lt (pc := 6) (tgt := 17) d_M_laws_6 (by decide) (fun _ => ?_) (fun _ => ?_)
  · refine PJ.aload_n (pc := 17) d_M_laws_17 rfl ?_
    refine PJ.iconst (pc := 18) (v := 2) d_M_laws_18 (by decide) ?_
    refine PJ.cVI (pc := 19) cs_M_52 (fun z hz => PM_M_refused hz) (pj_fitb rfl) rfl rfl (Nat.le_of_ble_eq_true rfl) d_M_laws_19 (fun v2 => ?_)
    exact PJ.iret (pc := 22) d_M_laws_22 rfl (Nat.le_of_ble_eq_true rfl) (Nat.le_of_ble_eq_true rfl)
  · refine PJ.iload_n (pc := 9) d_M_laws_9 rfl ?_
    refine PJ.aload_n (pc := 10) d_M_laws_10 rfl ?_
    refine PJ.getI (pc := 11) fs_M_334 d_M_laws_11 (fun v3 => ?_)
    refine PJ.icmp_le (pc := 14) (tgt := 23) d_M_laws_14 (by decide) (fun _ => ?_) (fun _ => ?_)
    · refine PJ.aload_n (pc := 23) d_M_laws_23 rfl ?_
      refine PJ.iload_n (pc := 24) d_M_laws_24 rfl ?_
      refine PJ.putI (pc := 25) ps_M_65 d_M_laws_25 (fun h4 => ?_)
      refine PJ.aload_n (pc := 28) d_M_laws_28 rfl ?_
      refine PJ.iconst (pc := 29) (v := 0) d_M_laws_29 (by decide) ?_
      refine PJ.putI (pc := 30) ps_M_334 d_M_laws_30 (fun h5 => ?_)
      refine PJ.aload_n (pc := 33) d_M_laws_33 rfl ?_
      refine PJ.iconst (pc := 34) (v := 0) d_M_laws_34 (by decide) ?_
      refine PJ.putI (pc := 35) ps_M_83 d_M_laws_35 (fun h6 => ?_)
      refine PJ.aload_n (pc := 38) d_M_laws_38 rfl ?_
      refine PJ.iconst (pc := 39) (v := 0) d_M_laws_39 (by decide) ?_
      refine PJ.putI (pc := 40) ps_M_106 d_M_laws_40 (fun h7 => ?_)
      refine PJ.aload_n (pc := 43) d_M_laws_43 rfl ?_
      refine PJ.new (pc := 44) (ci := 11) (idx := 165) cd_11 rfl (fun _ => cn_11) wd_1501 wd_1502 wd_149 (Nat.le_of_ble_eq_true rfl) (Nat.le_of_ble_eq_true rfl) d_M_laws_44 ?_
      refine PJ.dup (pc := 47) d_M_laws_47 rfl ?_
      refine PJ.cIVx (pc := 48) cs_M_337 (fun z hz => PM_ML_init hz) (pj_fitb rfl) rfl rfl (Nat.le_of_ble_eq_true rfl) d_M_laws_48 (fun h8 => ?_)
      refine PJ.putR (pc := 51) ps_M_160 rfl d_M_laws_51 (fun h9 => ?_)
      refine PJ.aload_n (pc := 54) d_M_laws_54 rfl ?_
      refine PJ.iconst (pc := 55) (v := 0) d_M_laws_55 (by decide) ?_
      refine PJ.putI (pc := 56) ps_M_80 d_M_laws_56 (fun h10 => ?_)
      refine PJ.aload_n (pc := 59) d_M_laws_59 rfl ?_
      refine PJ.cVV (pc := 60) cs_M_116 (fun z hz => PM_M_goesOn hz) (pj_fitb rfl) rfl rfl (Nat.le_of_ble_eq_true rfl) d_M_laws_60 (fun h11 => ?_)
      refine PJ.aload_n (pc := 63) d_M_laws_63 rfl ?_
      refine PJ.cVV (pc := 64) cs_M_338 (fun z hz => PM_M_readAll hz) (pj_fitb rfl) rfl rfl (Nat.le_of_ble_eq_true rfl) d_M_laws_64 (fun h12 => ?_)
      refine PJ.aload_n (pc := 67) d_M_laws_67 rfl ?_
      refine PJ.getI (pc := 68) fs_M_106 d_M_laws_68 (fun v13 => ?_)
      refine PJ.if_le (pc := 71) (tgt := 89) d_M_laws_71 (by decide) (fun _ => ?_) (fun _ => ?_)
      · refine PJ.aload_n (pc := 89) d_M_laws_89 rfl ?_
        refine PJ.aload_n (pc := 90) d_M_laws_90 rfl ?_
        refine PJ.getR (pc := 91) fs_M_160 d_M_laws_91 (fun v14 => ?_)
        refine PJ.putR (pc := 94) ps_M_341 rfl d_M_laws_94 (fun h15 => ?_)
        refine PJ.iconst (pc := 97) (v := 0) d_M_laws_97 (by decide) ?_
        refine PJ.istore_n (pc := 98) (L1 := [some (.inr (.inr a0)), some (.inl a1), some (.inl (0 : Int32))]) d_M_laws_98 (Nat.le_of_ble_eq_true rfl) rfl rfl ?_
        refine PJ.mk (L1 := [some (.inr (.inr a0)), none, some (.inl (0 : Int32))]) [true, false, true] rfl ?_
        refine PJ.bind (fun x17 : PH => ((118 : Nat), ([some (.inr (.inr a0)), none, none] : List (Option PV)), ([] : List PV), (x17 : PH), (18 : Nat), (182 : Nat))) (PJ.it (E := (fun s16 : Int32 × PH => ((99 : Nat), ([some (.inr (.inr a0)), none, some (.inl s16.1)] : List (Option PV)), ([] : List PV), (s16.2 : PH), (18 : Nat), (182 : Nat)))) (F := (fun x17 : PH => ((118 : Nat), ([some (.inr (.inr a0)), none, none] : List (Option PV)), ([] : List PV), (x17 : PH), (18 : Nat), (182 : Nat)))) (fun s16 => ?_) FU ((0 : Int32), h15)) (fun x17 => ?_)
        · show PJ l G (pj_rm 15 18 182) Y_M_laws 99 [some (.inr (.inr a0)), none, some (.inl s16.1)] [] s16.2 18 182 _ _
          refine PJ.iload_n (pc := 99) d_M_laws_99 rfl ?_
          refine PJ.bipush (pc := 100) (v := 23) d_M_laws_100 (by decide) ?_
          refine PJ.icmp_ge (pc := 102) (tgt := 118) d_M_laws_102 (by decide) (fun _ => ?_) (fun _ => ?_)
          · refine PJ.mk (L1 := [some (.inr (.inr a0)), none, none]) [true, false, false] rfl ?_
            exact PJ.done rfl
          · refine PJ.aload_n (pc := 105) d_M_laws_105 rfl ?_
            refine PJ.getR (pc := 106) fs_M_17 d_M_laws_106 (fun v18 => ?_)
            refine PJ.iload_n (pc := 109) d_M_laws_109 rfl ?_
            refine PJ.iconst (pc := 110) (v := 0) d_M_laws_110 (by decide) ?_
            refine PJ.iast (pc := 111) d_M_laws_111 (fun h19 => ?_)
            refine PJ.iinc (pc := 112) (v := 1) (L1 := [some (.inr (.inr a0)), none, some (.inl (s16.1 + (1 : Int32)))]) d_M_laws_112 rfl (by decide) (Nat.le_of_ble_eq_true rfl) rfl rfl ?_
            refine PJ.goto (pc := 115) (tgt := 99) d_M_laws_115 (by decide) ?_
            exact PJ.done rfl
        · show PJ l G (pj_rm 15 18 182) Y_M_laws 118 [some (.inr (.inr a0)), none, none] [] x17 18 182 _ _
          refine PJ.iconst (pc := 118) (v := 0) d_M_laws_118 (by decide) ?_
          refine PJ.istore_n (pc := 119) (L1 := [some (.inr (.inr a0)), none, some (.inl (0 : Int32))]) d_M_laws_119 (Nat.le_of_ble_eq_true rfl) rfl rfl ?_
          refine PJ.bind (fun x21 : PH => ((165 : Nat), ([some (.inr (.inr a0)), none, none] : List (Option PV)), ([] : List PV), (x21 : PH), (18 : Nat), (182 : Nat))) (PJ.it (E := (fun s20 : Int32 × PH => ((120 : Nat), ([some (.inr (.inr a0)), none, some (.inl s20.1)] : List (Option PV)), ([] : List PV), (s20.2 : PH), (18 : Nat), (182 : Nat)))) (F := (fun x21 : PH => ((165 : Nat), ([some (.inr (.inr a0)), none, none] : List (Option PV)), ([] : List PV), (x21 : PH), (18 : Nat), (182 : Nat)))) (fun s20 => ?_) FU ((0 : Int32), x17)) (fun x21 => ?_)
          · show PJ l G (pj_rm 15 18 182) Y_M_laws 120 [some (.inr (.inr a0)), none, some (.inl s20.1)] [] s20.2 18 182 _ _
            refine PJ.iload_n (pc := 120) d_M_laws_120 rfl ?_
            refine PJ.aload_n (pc := 121) d_M_laws_121 rfl ?_
            refine PJ.getR (pc := 122) fs_M_341 d_M_laws_122 (fun v22 => ?_)
            refine PJ.getI (pc := 125) fs_M_255 d_M_laws_125 (fun v23 => ?_)
            refine PJ.icmp_ge (pc := 128) (tgt := 165) d_M_laws_128 (by decide) (fun _ => ?_) (fun _ => ?_)
            · refine PJ.mk (L1 := [some (.inr (.inr a0)), none, none]) [true, false, false] rfl ?_
              exact PJ.done rfl
            · refine PJ.aload_n (pc := 131) d_M_laws_131 rfl ?_
              refine PJ.getR (pc := 132) fs_M_17 d_M_laws_132 (fun v24 => ?_)
              refine PJ.iconst (pc := 135) (v := 0) d_M_laws_135 (by decide) ?_
              refine PJ.iload_n (pc := 136) d_M_laws_136 rfl ?_
              refine PJ.iadd (pc := 137) d_M_laws_137 ?_
              refine PJ.aload_n (pc := 138) d_M_laws_138 rfl ?_
              refine PJ.getR (pc := 139) fs_M_341 d_M_laws_139 (fun v25 => ?_)
              refine PJ.getR (pc := 142) fs_M_270 d_M_laws_142 (fun v26 => ?_)
              refine PJ.iload_n (pc := 145) d_M_laws_145 rfl ?_
              refine PJ.iald (pc := 146) d_M_laws_146 (fun v27 => ?_)
              refine PJ.iast (pc := 147) d_M_laws_147 (fun h28 => ?_)
              refine PJ.aload_n (pc := 148) d_M_laws_148 rfl ?_
              refine PJ.getR (pc := 149) fs_M_17 d_M_laws_149 (fun v29 => ?_)
              refine PJ.bipush (pc := 152) (v := 15) d_M_laws_152 (by decide) ?_
              refine PJ.iload_n (pc := 154) d_M_laws_154 rfl ?_
              refine PJ.iadd (pc := 155) d_M_laws_155 ?_
              refine PJ.bipush (pc := 156) (v := -2) d_M_laws_156 (by decide) ?_
              refine PJ.iast (pc := 158) d_M_laws_158 (fun h30 => ?_)
              refine PJ.iinc (pc := 159) (v := 1) (L1 := [some (.inr (.inr a0)), none, some (.inl (s20.1 + (1 : Int32)))]) d_M_laws_159 rfl (by decide) (Nat.le_of_ble_eq_true rfl) rfl rfl ?_
              refine PJ.goto (pc := 162) (tgt := 120) d_M_laws_162 (by decide) ?_
              exact PJ.done rfl
          · show PJ l G (pj_rm 15 18 182) Y_M_laws 165 [some (.inr (.inr a0)), none, none] [] x21 18 182 _ _
            refine PJ.aload_n (pc := 165) d_M_laws_165 rfl ?_
            refine PJ.iconst (pc := 166) (v := 0) d_M_laws_166 (by decide) ?_
            refine PJ.putI (pc := 167) ps_M_344 d_M_laws_167 (fun h31 => ?_)
            refine PJ.aload_n (pc := 170) d_M_laws_170 rfl ?_
            refine PJ.iconst (pc := 171) (v := 0) d_M_laws_171 (by decide) ?_
            refine PJ.putI (pc := 172) ps_M_347 d_M_laws_172 (fun h32 => ?_)
            refine PJ.aload_n (pc := 175) d_M_laws_175 rfl ?_
            refine PJ.aload_n (pc := 176) d_M_laws_176 rfl ?_
            refine PJ.getR (pc := 177) fs_M_341 d_M_laws_177 (fun v33 => ?_)
            refine PJ.getI (pc := 180) fs_M_255 d_M_laws_180 (fun v34 => ?_)
            refine PJ.cVI (pc := 183) cs_M_58 (fun z hz => PM_M_good hz) (pj_fitb rfl) rfl rfl (Nat.le_of_ble_eq_true rfl) d_M_laws_183 (fun v35 => ?_)
            exact PJ.iret (pc := 186) d_M_laws_186 rfl (Nat.le_of_ble_eq_true rfl) (Nat.le_of_ble_eq_true rfl)
      · refine PJ.aload_n (pc := 74) d_M_laws_74 rfl ?_
        refine PJ.iconst (pc := 75) (v := 4) d_M_laws_75 (by decide) ?_
        refine PJ.putI (pc := 76) ps_M_49 d_M_laws_76 (fun h36 => ?_)
        refine PJ.aload_n (pc := 79) d_M_laws_79 rfl ?_
        refine PJ.aload_n (pc := 80) d_M_laws_80 rfl ?_
        refine PJ.getI (pc := 81) fs_M_109 d_M_laws_81 (fun v37 => ?_)
        refine PJ.putI (pc := 84) ps_M_9 d_M_laws_84 (fun h38 => ?_)
        refine PJ.iconst (pc := 87) (v := -1) d_M_laws_87 (by decide) ?_
        exact PJ.iret (pc := 88) d_M_laws_88 rfl (Nat.le_of_ble_eq_true rfl) (Nat.le_of_ble_eq_true rfl)
    · refine PJ.aload_n (pc := 17) d_M_laws_17 rfl ?_
      refine PJ.iconst (pc := 18) (v := 2) d_M_laws_18 (by decide) ?_
      refine PJ.cVI (pc := 19) cs_M_52 (fun z hz => PM_M_refused hz) (pj_fitb rfl) rfl rfl (Nat.le_of_ble_eq_true rfl) d_M_laws_19 (fun v39 => ?_)
      exact PJ.iret (pc := 22) d_M_laws_22 rfl (Nat.le_of_ble_eq_true rfl) (Nat.le_of_ble_eq_true rfl)
theorem d_M_fault_0 : decode Y_M_fault.2.1 0 = .ok (.aload_n 0, 1) := by decide +kernel
theorem d_M_fault_1 : decode Y_M_fault.2.1 1 = .ok (.iconst 0, 1) := by decide +kernel
theorem d_M_fault_2 : decode Y_M_fault.2.1 2 = .ok (.putfield 46, 3) := by decide +kernel
theorem d_M_fault_5 : decode Y_M_fault.2.1 5 = .ok (.aload_n 0, 1) := by decide +kernel
theorem d_M_fault_6 : decode Y_M_fault.2.1 6 = .ok (.getfield 106, 3) := by decide +kernel
theorem d_M_fault_9 : decode Y_M_fault.2.1 9 = .ok (.ireturn, 1) := by decide +kernel
def f_M_fault (h : PH) (a0 : Option Nat) : Option (Int32 × PH) := (sF h 12 a0 0 (.inl (0 : Int32))).bind fun h1 => (gI h1 12 a0 12).bind fun v2 => some (v2, h1)
set_option maxRecDepth 20000 in
theorem PM_M_fault {l : Launch} {G : Cx} {h : PH} {a0 : Option Nat} {z : (Int32 × PH)} (hz : f_M_fault h a0 = some z) : PM l G 1 0 0 Y_M_fault [.inr (.inr a0)] h (some (.inl z.1), z.2) := by
  refine PM.of (Y := Y_M_fault) (cv := (fun z : (Int32 × PH) => (((some (.inl z.1), z.2) : Option PV × PH)))) (by decide) (L0 := [some (.inr (.inr a0))]) 0 rfl (Nat.le_of_ble_eq_true rfl) ?_ hz
  unfold f_M_fault
  refine PJ.aload_n (pc := 0) d_M_fault_0 rfl ?_
  refine PJ.iconst (pc := 1) (v := 0) d_M_fault_1 (by decide) ?_
  refine PJ.putI (pc := 2) ps_M_46 d_M_fault_2 (fun h1 => ?_)
  refine PJ.aload_n (pc := 5) d_M_fault_5 rfl ?_
  refine PJ.getI (pc := 6) fs_M_106 d_M_fault_6 (fun v2 => ?_)
  exact PJ.iret (pc := 9) d_M_fault_9 rfl (Nat.le_of_ble_eq_true rfl) (Nat.le_of_ble_eq_true rfl)
theorem d_M_where_0 : decode Y_M_where.2.1 0 = .ok (.aload_n 0, 1) := by decide +kernel
theorem d_M_where_1 : decode Y_M_where.2.1 1 = .ok (.iconst 0, 1) := by decide +kernel
theorem d_M_where_2 : decode Y_M_where.2.1 2 = .ok (.putfield 46, 3) := by decide +kernel
theorem d_M_where_5 : decode Y_M_where.2.1 5 = .ok (.aload_n 0, 1) := by decide +kernel
theorem d_M_where_6 : decode Y_M_where.2.1 6 = .ok (.getfield 9, 3) := by decide +kernel
theorem d_M_where_9 : decode Y_M_where.2.1 9 = .ok (.ireturn, 1) := by decide +kernel
def f_M_where (h : PH) (a0 : Option Nat) : Option (Int32 × PH) := (sF h 12 a0 0 (.inl (0 : Int32))).bind fun h1 => (gI h1 12 a0 2).bind fun v2 => some (v2, h1)
set_option maxRecDepth 20000 in
theorem PM_M_where {l : Launch} {G : Cx} {h : PH} {a0 : Option Nat} {z : (Int32 × PH)} (hz : f_M_where h a0 = some z) : PM l G 1 0 0 Y_M_where [.inr (.inr a0)] h (some (.inl z.1), z.2) := by
  refine PM.of (Y := Y_M_where) (cv := (fun z : (Int32 × PH) => (((some (.inl z.1), z.2) : Option PV × PH)))) (by decide) (L0 := [some (.inr (.inr a0))]) 0 rfl (Nat.le_of_ble_eq_true rfl) ?_ hz
  unfold f_M_where
  refine PJ.aload_n (pc := 0) d_M_where_0 rfl ?_
  refine PJ.iconst (pc := 1) (v := 0) d_M_where_1 (by decide) ?_
  refine PJ.putI (pc := 2) ps_M_46 d_M_where_2 (fun h1 => ?_)
  refine PJ.aload_n (pc := 5) d_M_where_5 rfl ?_
  refine PJ.getI (pc := 6) fs_M_9 d_M_where_6 (fun v2 => ?_)
  exact PJ.iret (pc := 9) d_M_where_9 rfl (Nat.le_of_ble_eq_true rfl) (Nat.le_of_ble_eq_true rfl)
theorem d_M_isPerson_0 : decode Y_M_isPerson.2.1 0 = .ok (.aload_n 0, 1) := by decide +kernel
theorem d_M_isPerson_1 : decode Y_M_isPerson.2.1 1 = .ok (.getfield 341, 3) := by decide +kernel
theorem d_M_isPerson_4 : decode Y_M_isPerson.2.1 4 = .ok (.ifnull 22, 3) := by decide +kernel
theorem d_M_isPerson_7 : decode Y_M_isPerson.2.1 7 = .ok (.iload_n 1, 1) := by decide +kernel
theorem d_M_isPerson_8 : decode Y_M_isPerson.2.1 8 = .ok (.ifCond .lt 18, 3) := by decide +kernel
theorem d_M_isPerson_11 : decode Y_M_isPerson.2.1 11 = .ok (.iload_n 1, 1) := by decide +kernel
theorem d_M_isPerson_12 : decode Y_M_isPerson.2.1 12 = .ok (.aload_n 0, 1) := by decide +kernel
theorem d_M_isPerson_13 : decode Y_M_isPerson.2.1 13 = .ok (.getfield 341, 3) := by decide +kernel
theorem d_M_isPerson_16 : decode Y_M_isPerson.2.1 16 = .ok (.getfield 255, 3) := by decide +kernel
theorem d_M_isPerson_19 : decode Y_M_isPerson.2.1 19 = .ok (.if_icmp .ge 7, 3) := by decide +kernel
theorem d_M_isPerson_22 : decode Y_M_isPerson.2.1 22 = .ok (.iconst 1, 1) := by decide +kernel
theorem d_M_isPerson_23 : decode Y_M_isPerson.2.1 23 = .ok (.goto 4, 3) := by decide +kernel
theorem d_M_isPerson_26 : decode Y_M_isPerson.2.1 26 = .ok (.iconst 0, 1) := by decide +kernel
theorem d_M_isPerson_27 : decode Y_M_isPerson.2.1 27 = .ok (.ireturn, 1) := by decide +kernel
def f_M_isPerson (h : PH) (a0 : Option Nat) (a1 : Int32) : Option Int32 := (gR h 12 a0 3).bind fun v1 => if v1 = none then (some (0 : Int32)) else (if a1 < 0 then (some (0 : Int32)) else ((gR h 12 a0 3).bind fun v2 => (gI h 11 v2 3).bind fun v3 => if v3 ≤ a1 then (some (0 : Int32)) else (some (1 : Int32))))
set_option maxRecDepth 20000 in
theorem PM_M_isPerson {l : Launch} {G : Cx} {h : PH} {a0 : Option Nat} {a1 : Int32} {z : Int32} (hz : f_M_isPerson h a0 a1 = some z) : PM l G 1 0 0 Y_M_isPerson [.inr (.inr a0), .inl a1] h (some (.inl z), h) := by
  refine PM.of (Y := Y_M_isPerson) (cv := (fun z : Int32 => (((some (.inl z), h) : Option PV × PH)))) (by decide) (L0 := [some (.inr (.inr a0)), some (.inl a1)]) 0 rfl (Nat.le_of_ble_eq_true rfl) ?_ hz
  unfold f_M_isPerson
  refine PJ.aload_n (pc := 0) d_M_isPerson_0 rfl ?_
  refine PJ.getR (pc := 1) fs_M_341 d_M_isPerson_1 (fun v1 => ?_)
  refine PJ.ifnull (pc := 4) (tgt := 26) d_M_isPerson_4 (by decide) (fun _ => ?_) (fun _ => ?_)
  · refine PJ.iconst (pc := 26) (v := 0) d_M_isPerson_26 (by decide) ?_
    exact PJ.zretp (pc := 27) d_M_isPerson_27 rfl rfl (Nat.le_of_ble_eq_true rfl) (Nat.le_of_ble_eq_true rfl)
  · refine PJ.iload_n (pc := 7) d_M_isPerson_7 rfl ?_
    refine PJ.if_lt (pc := 8) (tgt := 26) d_M_isPerson_8 (by decide) (fun _ => ?_) (fun _ => ?_)
    · refine PJ.iconst (pc := 26) (v := 0) d_M_isPerson_26 (by decide) ?_
      exact PJ.zretp (pc := 27) d_M_isPerson_27 rfl rfl (Nat.le_of_ble_eq_true rfl) (Nat.le_of_ble_eq_true rfl)
    · refine PJ.iload_n (pc := 11) d_M_isPerson_11 rfl ?_
      refine PJ.aload_n (pc := 12) d_M_isPerson_12 rfl ?_
      refine PJ.getR (pc := 13) fs_M_341 d_M_isPerson_13 (fun v2 => ?_)
      refine PJ.getI (pc := 16) fs_M_255 d_M_isPerson_16 (fun v3 => ?_)
      refine PJ.icmp_ge (pc := 19) (tgt := 26) d_M_isPerson_19 (by decide) (fun _ => ?_) (fun _ => ?_)
      · refine PJ.iconst (pc := 26) (v := 0) d_M_isPerson_26 (by decide) ?_
        exact PJ.zretp (pc := 27) d_M_isPerson_27 rfl rfl (Nat.le_of_ble_eq_true rfl) (Nat.le_of_ble_eq_true rfl)
      · refine PJ.iconst (pc := 22) (v := 1) d_M_isPerson_22 (by decide) ?_
        refine PJ.goto (pc := 23) (tgt := 27) d_M_isPerson_23 (by decide) ?_
        exact PJ.zretp (pc := 27) d_M_isPerson_27 rfl rfl (Nat.le_of_ble_eq_true rfl) (Nat.le_of_ble_eq_true rfl)
theorem d_M_person_0 : decode Y_M_person.2.1 0 = .ok (.aload_n 0, 1) := by decide +kernel
theorem d_M_person_1 : decode Y_M_person.2.1 1 = .ok (.iconst 0, 1) := by decide +kernel
theorem d_M_person_2 : decode Y_M_person.2.1 2 = .ok (.putfield 46, 3) := by decide +kernel
theorem d_M_person_5 : decode Y_M_person.2.1 5 = .ok (.aload_n 0, 1) := by decide +kernel
theorem d_M_person_6 : decode Y_M_person.2.1 6 = .ok (.iload_n 1, 1) := by decide +kernel
theorem d_M_person_7 : decode Y_M_person.2.1 7 = .ok (.invokevirtual 369, 3) := by decide +kernel
theorem d_M_person_10 : decode Y_M_person.2.1 10 = .ok (.ifCond .eq 12, 3) := by decide +kernel
theorem d_M_person_13 : decode Y_M_person.2.1 13 = .ok (.iload_n 2, 1) := by decide +kernel
theorem d_M_person_14 : decode Y_M_person.2.1 14 = .ok (.iconst 0, 1) := by decide +kernel
theorem d_M_person_15 : decode Y_M_person.2.1 15 = .ok (.iconst 5, 1) := by decide +kernel
theorem d_M_person_16 : decode Y_M_person.2.1 16 = .ok (.invokestatic 127, 3) := by decide +kernel
theorem d_M_person_19 : decode Y_M_person.2.1 19 = .ok (.ifCond .ne 9, 3) := by decide +kernel
theorem d_M_person_22 : decode Y_M_person.2.1 22 = .ok (.aload_n 0, 1) := by decide +kernel
theorem d_M_person_23 : decode Y_M_person.2.1 23 = .ok (.iconst 1, 1) := by decide +kernel
theorem d_M_person_24 : decode Y_M_person.2.1 24 = .ok (.invokevirtual 52, 3) := by decide +kernel
theorem d_M_person_27 : decode Y_M_person.2.1 27 = .ok (.ireturn, 1) := by decide +kernel
theorem d_M_person_28 : decode Y_M_person.2.1 28 = .ok (.iload_n 2, 1) := by decide +kernel
theorem d_M_person_29 : decode Y_M_person.2.1 29 = .ok (.tableswitch 103 0 4 #[35, 49, 63, 76, 89], 35) := by decide +kernel
theorem d_M_person_64 : decode Y_M_person.2.1 64 = .ok (.aload_n 0, 1) := by decide +kernel
theorem d_M_person_65 : decode Y_M_person.2.1 65 = .ok (.aload_n 0, 1) := by decide +kernel
theorem d_M_person_66 : decode Y_M_person.2.1 66 = .ok (.getfield 341, 3) := by decide +kernel
theorem d_M_person_69 : decode Y_M_person.2.1 69 = .ok (.getfield 268, 3) := by decide +kernel
theorem d_M_person_72 : decode Y_M_person.2.1 72 = .ok (.iload_n 1, 1) := by decide +kernel
theorem d_M_person_73 : decode Y_M_person.2.1 73 = .ok (.iaload, 1) := by decide +kernel
theorem d_M_person_74 : decode Y_M_person.2.1 74 = .ok (.invokevirtual 58, 3) := by decide +kernel
theorem d_M_person_77 : decode Y_M_person.2.1 77 = .ok (.ireturn, 1) := by decide +kernel
theorem d_M_person_78 : decode Y_M_person.2.1 78 = .ok (.aload_n 0, 1) := by decide +kernel
theorem d_M_person_79 : decode Y_M_person.2.1 79 = .ok (.aload_n 0, 1) := by decide +kernel
theorem d_M_person_80 : decode Y_M_person.2.1 80 = .ok (.getfield 341, 3) := by decide +kernel
theorem d_M_person_83 : decode Y_M_person.2.1 83 = .ok (.getfield 270, 3) := by decide +kernel
theorem d_M_person_86 : decode Y_M_person.2.1 86 = .ok (.iload_n 1, 1) := by decide +kernel
theorem d_M_person_87 : decode Y_M_person.2.1 87 = .ok (.iaload, 1) := by decide +kernel
theorem d_M_person_88 : decode Y_M_person.2.1 88 = .ok (.invokevirtual 58, 3) := by decide +kernel
theorem d_M_person_91 : decode Y_M_person.2.1 91 = .ok (.ireturn, 1) := by decide +kernel
theorem d_M_person_92 : decode Y_M_person.2.1 92 = .ok (.aload_n 0, 1) := by decide +kernel
theorem d_M_person_93 : decode Y_M_person.2.1 93 = .ok (.aload_n 0, 1) := by decide +kernel
theorem d_M_person_94 : decode Y_M_person.2.1 94 = .ok (.getfield 17, 3) := by decide +kernel
theorem d_M_person_97 : decode Y_M_person.2.1 97 = .ok (.iconst 0, 1) := by decide +kernel
theorem d_M_person_98 : decode Y_M_person.2.1 98 = .ok (.iload_n 1, 1) := by decide +kernel
theorem d_M_person_99 : decode Y_M_person.2.1 99 = .ok (.iadd, 1) := by decide +kernel
theorem d_M_person_100 : decode Y_M_person.2.1 100 = .ok (.iaload, 1) := by decide +kernel
theorem d_M_person_101 : decode Y_M_person.2.1 101 = .ok (.invokevirtual 58, 3) := by decide +kernel
theorem d_M_person_104 : decode Y_M_person.2.1 104 = .ok (.ireturn, 1) := by decide +kernel
theorem d_M_person_105 : decode Y_M_person.2.1 105 = .ok (.aload_n 0, 1) := by decide +kernel
theorem d_M_person_106 : decode Y_M_person.2.1 106 = .ok (.aload_n 0, 1) := by decide +kernel
theorem d_M_person_107 : decode Y_M_person.2.1 107 = .ok (.getfield 17, 3) := by decide +kernel
theorem d_M_person_110 : decode Y_M_person.2.1 110 = .ok (.iconst 5, 1) := by decide +kernel
theorem d_M_person_111 : decode Y_M_person.2.1 111 = .ok (.iload_n 1, 1) := by decide +kernel
theorem d_M_person_112 : decode Y_M_person.2.1 112 = .ok (.iadd, 1) := by decide +kernel
theorem d_M_person_113 : decode Y_M_person.2.1 113 = .ok (.iaload, 1) := by decide +kernel
theorem d_M_person_114 : decode Y_M_person.2.1 114 = .ok (.invokevirtual 58, 3) := by decide +kernel
theorem d_M_person_117 : decode Y_M_person.2.1 117 = .ok (.ireturn, 1) := by decide +kernel
theorem d_M_person_118 : decode Y_M_person.2.1 118 = .ok (.aload_n 0, 1) := by decide +kernel
theorem d_M_person_119 : decode Y_M_person.2.1 119 = .ok (.aload_n 0, 1) := by decide +kernel
theorem d_M_person_120 : decode Y_M_person.2.1 120 = .ok (.getfield 17, 3) := by decide +kernel
theorem d_M_person_123 : decode Y_M_person.2.1 123 = .ok (.bipush 10, 2) := by decide +kernel
theorem d_M_person_125 : decode Y_M_person.2.1 125 = .ok (.iload_n 1, 1) := by decide +kernel
theorem d_M_person_126 : decode Y_M_person.2.1 126 = .ok (.iadd, 1) := by decide +kernel
theorem d_M_person_127 : decode Y_M_person.2.1 127 = .ok (.iaload, 1) := by decide +kernel
theorem d_M_person_128 : decode Y_M_person.2.1 128 = .ok (.invokevirtual 58, 3) := by decide +kernel
theorem d_M_person_131 : decode Y_M_person.2.1 131 = .ok (.ireturn, 1) := by decide +kernel
theorem d_M_person_132 : decode Y_M_person.2.1 132 = .ok (.aload_n 0, 1) := by decide +kernel
theorem d_M_person_133 : decode Y_M_person.2.1 133 = .ok (.aload_n 0, 1) := by decide +kernel
theorem d_M_person_134 : decode Y_M_person.2.1 134 = .ok (.getfield 17, 3) := by decide +kernel
theorem d_M_person_137 : decode Y_M_person.2.1 137 = .ok (.bipush 15, 2) := by decide +kernel
theorem d_M_person_139 : decode Y_M_person.2.1 139 = .ok (.iload_n 1, 1) := by decide +kernel
theorem d_M_person_140 : decode Y_M_person.2.1 140 = .ok (.iadd, 1) := by decide +kernel
theorem d_M_person_141 : decode Y_M_person.2.1 141 = .ok (.iaload, 1) := by decide +kernel
theorem d_M_person_142 : decode Y_M_person.2.1 142 = .ok (.invokevirtual 58, 3) := by decide +kernel
theorem d_M_person_145 : decode Y_M_person.2.1 145 = .ok (.ireturn, 1) := by decide +kernel
def f_M_person (h : PH) (a0 : Option Nat) (a1 : Int32) (a2 : Int32) : Option (Int32 × PH) := (sF h 12 a0 0 (.inl (0 : Int32))).bind fun h1 => (cl h1 12 a0 (f_M_isPerson h1 a0 a1)).bind fun v2 => if v2 = 0 then ((cl h1 12 a0 (f_M_refused h1 a0 (1 : Int32))).bind fun v3 => some (v3.1, v3.2)) else ((f_M_in h1 a2 (0 : Int32) (5 : Int32)).bind fun v4 => if ¬ v4 = 0 then (if a2.toInt < 0 ∨ 4 < a2.toInt then ((gR h1 12 a0 15).bind fun v5 => (aI h1 v5 ((15 : Int32) + a1)).bind fun v6 => (cl h1 12 a0 (f_M_good h1 a0 v6)).bind fun v7 => some (v7.1, v7.2)) else (if a2 = (0 : Int32) then ((gR h1 12 a0 3).bind fun v8 => (gR h1 11 v8 11).bind fun v9 => (aI h1 v9 a1).bind fun v10 => (cl h1 12 a0 (f_M_good h1 a0 v10)).bind fun v11 => some (v11.1, v11.2)) else (if a2 = (1 : Int32) then ((gR h1 12 a0 3).bind fun v12 => (gR h1 11 v12 12).bind fun v13 => (aI h1 v13 a1).bind fun v14 => (cl h1 12 a0 (f_M_good h1 a0 v14)).bind fun v15 => some (v15.1, v15.2)) else (if a2 = (2 : Int32) then ((gR h1 12 a0 15).bind fun v16 => (aI h1 v16 ((0 : Int32) + a1)).bind fun v17 => (cl h1 12 a0 (f_M_good h1 a0 v17)).bind fun v18 => some (v18.1, v18.2)) else (if a2 = (3 : Int32) then ((gR h1 12 a0 15).bind fun v19 => (aI h1 v19 ((5 : Int32) + a1)).bind fun v20 => (cl h1 12 a0 (f_M_good h1 a0 v20)).bind fun v21 => some (v21.1, v21.2)) else (if a2 = (4 : Int32) then ((gR h1 12 a0 15).bind fun v22 => (aI h1 v22 ((10 : Int32) + a1)).bind fun v23 => (cl h1 12 a0 (f_M_good h1 a0 v23)).bind fun v24 => some (v24.1, v24.2)) else (none))))))) else ((cl h1 12 a0 (f_M_refused h1 a0 (1 : Int32))).bind fun v25 => some (v25.1, v25.2)))
set_option maxRecDepth 20000 in
theorem PM_M_person {l : Launch} {G : Cx} {h : PH} {a0 : Option Nat} {a1 : Int32} {a2 : Int32} {z : (Int32 × PH)} (hz : f_M_person h a0 a1 a2 = some z) : PM l G 2 0 0 Y_M_person [.inr (.inr a0), .inl a1, .inl a2] h (some (.inl z.1), z.2) := by
  refine PM.of (Y := Y_M_person) (cv := (fun z : (Int32 × PH) => (((some (.inl z.1), z.2) : Option PV × PH)))) (by decide) (L0 := [some (.inr (.inr a0)), some (.inl a1), some (.inl a2)]) 0 rfl (Nat.le_of_ble_eq_true rfl) ?_ hz
  unfold f_M_person
  refine PJ.aload_n (pc := 0) d_M_person_0 rfl ?_
  refine PJ.iconst (pc := 1) (v := 0) d_M_person_1 (by decide) ?_
  refine PJ.putI (pc := 2) ps_M_46 d_M_person_2 (fun h1 => ?_)
  refine PJ.aload_n (pc := 5) d_M_person_5 rfl ?_
  refine PJ.iload_n (pc := 6) d_M_person_6 rfl ?_
  refine PJ.cVpI (pc := 7) cs_M_369 (fun z hz => PM_M_isPerson hz) (pj_fitb rfl) rfl rfl (Nat.le_of_ble_eq_true rfl) d_M_person_7 (fun v2 => ?_)
  refine PJ.if_eq (pc := 10) (tgt := 22) d_M_person_10 (by decide) (fun _ => ?_) (fun _ => ?_)
  · refine PJ.aload_n (pc := 22) d_M_person_22 rfl ?_
    refine PJ.iconst (pc := 23) (v := 1) d_M_person_23 (by decide) ?_
    refine PJ.cVI (pc := 24) cs_M_52 (fun z hz => PM_M_refused hz) (pj_fitb rfl) rfl rfl (Nat.le_of_ble_eq_true rfl) d_M_person_24 (fun v3 => ?_)
    exact PJ.iret (pc := 27) d_M_person_27 rfl (Nat.le_of_ble_eq_true rfl) (Nat.le_of_ble_eq_true rfl)
  · refine PJ.iload_n (pc := 13) d_M_person_13 rfl ?_
    refine PJ.iconst (pc := 14) (v := 0) d_M_person_14 (by decide) ?_
    refine PJ.iconst (pc := 15) (v := 5) d_M_person_15 (by decide) ?_
    refine PJ.cSpI (pc := 16) cs_M_127 (fun z hz => PM_M_in hz) (pj_fitb rfl) rfl rfl (Nat.le_of_ble_eq_true rfl) d_M_person_16 (fun v4 => ?_)
    refine PJ.if_ne (pc := 19) (tgt := 28) d_M_person_19 (by decide) (fun _ => ?_) (fun _ => ?_)
    · refine PJ.iload_n (pc := 28) d_M_person_28 rfl ?_
      refine PJ.swo (pc := 29) (tgt := 132) d_M_person_29 (by decide) (fun _ => ?_) (fun _ => ?_)
      · refine PJ.aload_n (pc := 132) d_M_person_132 rfl ?_
        refine PJ.aload_n (pc := 133) d_M_person_133 rfl ?_
        refine PJ.getR (pc := 134) fs_M_17 d_M_person_134 (fun v5 => ?_)
        refine PJ.bipush (pc := 137) (v := 15) d_M_person_137 (by decide) ?_
        refine PJ.iload_n (pc := 139) d_M_person_139 rfl ?_
        refine PJ.iadd (pc := 140) d_M_person_140 ?_
        refine PJ.iald (pc := 141) d_M_person_141 (fun v6 => ?_)
        refine PJ.cVI (pc := 142) cs_M_58 (fun z hz => PM_M_good hz) (pj_fitb rfl) rfl rfl (Nat.le_of_ble_eq_true rfl) d_M_person_142 (fun v7 => ?_)
        exact PJ.iret (pc := 145) d_M_person_145 rfl (Nat.le_of_ble_eq_true rfl) (Nat.le_of_ble_eq_true rfl)
      · refine PJ.swc (pc := 29) (tgt := 64) (off := 35) (0 : Int32) d_M_person_29 (by decide +kernel) (by decide +kernel) (by decide +kernel) (by decide) (fun _ => ?_) (fun _ => ?_)
        · refine PJ.aload_n (pc := 64) d_M_person_64 rfl ?_
          refine PJ.aload_n (pc := 65) d_M_person_65 rfl ?_
          refine PJ.getR (pc := 66) fs_M_341 d_M_person_66 (fun v8 => ?_)
          refine PJ.getR (pc := 69) fs_M_268 d_M_person_69 (fun v9 => ?_)
          refine PJ.iload_n (pc := 72) d_M_person_72 rfl ?_
          refine PJ.iald (pc := 73) d_M_person_73 (fun v10 => ?_)
          refine PJ.cVI (pc := 74) cs_M_58 (fun z hz => PM_M_good hz) (pj_fitb rfl) rfl rfl (Nat.le_of_ble_eq_true rfl) d_M_person_74 (fun v11 => ?_)
          exact PJ.iret (pc := 77) d_M_person_77 rfl (Nat.le_of_ble_eq_true rfl) (Nat.le_of_ble_eq_true rfl)
        · refine PJ.swc (pc := 29) (tgt := 78) (off := 49) (1 : Int32) d_M_person_29 (by decide +kernel) (by decide +kernel) (by decide +kernel) (by decide) (fun _ => ?_) (fun _ => ?_)
          · refine PJ.aload_n (pc := 78) d_M_person_78 rfl ?_
            refine PJ.aload_n (pc := 79) d_M_person_79 rfl ?_
            refine PJ.getR (pc := 80) fs_M_341 d_M_person_80 (fun v12 => ?_)
            refine PJ.getR (pc := 83) fs_M_270 d_M_person_83 (fun v13 => ?_)
            refine PJ.iload_n (pc := 86) d_M_person_86 rfl ?_
            refine PJ.iald (pc := 87) d_M_person_87 (fun v14 => ?_)
            refine PJ.cVI (pc := 88) cs_M_58 (fun z hz => PM_M_good hz) (pj_fitb rfl) rfl rfl (Nat.le_of_ble_eq_true rfl) d_M_person_88 (fun v15 => ?_)
            exact PJ.iret (pc := 91) d_M_person_91 rfl (Nat.le_of_ble_eq_true rfl) (Nat.le_of_ble_eq_true rfl)
          · refine PJ.swc (pc := 29) (tgt := 92) (off := 63) (2 : Int32) d_M_person_29 (by decide +kernel) (by decide +kernel) (by decide +kernel) (by decide) (fun _ => ?_) (fun _ => ?_)
            · refine PJ.aload_n (pc := 92) d_M_person_92 rfl ?_
              refine PJ.aload_n (pc := 93) d_M_person_93 rfl ?_
              refine PJ.getR (pc := 94) fs_M_17 d_M_person_94 (fun v16 => ?_)
              refine PJ.iconst (pc := 97) (v := 0) d_M_person_97 (by decide) ?_
              refine PJ.iload_n (pc := 98) d_M_person_98 rfl ?_
              refine PJ.iadd (pc := 99) d_M_person_99 ?_
              refine PJ.iald (pc := 100) d_M_person_100 (fun v17 => ?_)
              refine PJ.cVI (pc := 101) cs_M_58 (fun z hz => PM_M_good hz) (pj_fitb rfl) rfl rfl (Nat.le_of_ble_eq_true rfl) d_M_person_101 (fun v18 => ?_)
              exact PJ.iret (pc := 104) d_M_person_104 rfl (Nat.le_of_ble_eq_true rfl) (Nat.le_of_ble_eq_true rfl)
            · refine PJ.swc (pc := 29) (tgt := 105) (off := 76) (3 : Int32) d_M_person_29 (by decide +kernel) (by decide +kernel) (by decide +kernel) (by decide) (fun _ => ?_) (fun _ => ?_)
              · refine PJ.aload_n (pc := 105) d_M_person_105 rfl ?_
                refine PJ.aload_n (pc := 106) d_M_person_106 rfl ?_
                refine PJ.getR (pc := 107) fs_M_17 d_M_person_107 (fun v19 => ?_)
                refine PJ.iconst (pc := 110) (v := 5) d_M_person_110 (by decide) ?_
                refine PJ.iload_n (pc := 111) d_M_person_111 rfl ?_
                refine PJ.iadd (pc := 112) d_M_person_112 ?_
                refine PJ.iald (pc := 113) d_M_person_113 (fun v20 => ?_)
                refine PJ.cVI (pc := 114) cs_M_58 (fun z hz => PM_M_good hz) (pj_fitb rfl) rfl rfl (Nat.le_of_ble_eq_true rfl) d_M_person_114 (fun v21 => ?_)
                exact PJ.iret (pc := 117) d_M_person_117 rfl (Nat.le_of_ble_eq_true rfl) (Nat.le_of_ble_eq_true rfl)
              · refine PJ.swc (pc := 29) (tgt := 118) (off := 89) (4 : Int32) d_M_person_29 (by decide +kernel) (by decide +kernel) (by decide +kernel) (by decide) (fun _ => ?_) (fun _ => ?_)
                · refine PJ.aload_n (pc := 118) d_M_person_118 rfl ?_
                  refine PJ.aload_n (pc := 119) d_M_person_119 rfl ?_
                  refine PJ.getR (pc := 120) fs_M_17 d_M_person_120 (fun v22 => ?_)
                  refine PJ.bipush (pc := 123) (v := 10) d_M_person_123 (by decide) ?_
                  refine PJ.iload_n (pc := 125) d_M_person_125 rfl ?_
                  refine PJ.iadd (pc := 126) d_M_person_126 ?_
                  refine PJ.iald (pc := 127) d_M_person_127 (fun v23 => ?_)
                  refine PJ.cVI (pc := 128) cs_M_58 (fun z hz => PM_M_good hz) (pj_fitb rfl) rfl rfl (Nat.le_of_ble_eq_true rfl) d_M_person_128 (fun v24 => ?_)
                  exact PJ.iret (pc := 131) d_M_person_131 rfl (Nat.le_of_ble_eq_true rfl) (Nat.le_of_ble_eq_true rfl)
                · exact PJ.nn
    · refine PJ.aload_n (pc := 22) d_M_person_22 rfl ?_
      refine PJ.iconst (pc := 23) (v := 1) d_M_person_23 (by decide) ?_
      refine PJ.cVI (pc := 24) cs_M_52 (fun z hz => PM_M_refused hz) (pj_fitb rfl) rfl rfl (Nat.le_of_ble_eq_true rfl) d_M_person_24 (fun v25 => ?_)
      exact PJ.iret (pc := 27) d_M_person_27 rfl (Nat.le_of_ble_eq_true rfl) (Nat.le_of_ble_eq_true rfl)
theorem d_M_isChoice_0 : decode Y_M_isChoice.2.1 0 = .ok (.aload_n 0, 1) := by decide +kernel
theorem d_M_isChoice_1 : decode Y_M_isChoice.2.1 1 = .ok (.getfield 341, 3) := by decide +kernel
theorem d_M_isChoice_4 : decode Y_M_isChoice.2.1 4 = .ok (.ifnull 22, 3) := by decide +kernel
theorem d_M_isChoice_7 : decode Y_M_isChoice.2.1 7 = .ok (.iload_n 1, 1) := by decide +kernel
theorem d_M_isChoice_8 : decode Y_M_isChoice.2.1 8 = .ok (.ifCond .lt 18, 3) := by decide +kernel
theorem d_M_isChoice_11 : decode Y_M_isChoice.2.1 11 = .ok (.iload_n 1, 1) := by decide +kernel
theorem d_M_isChoice_12 : decode Y_M_isChoice.2.1 12 = .ok (.aload_n 0, 1) := by decide +kernel
theorem d_M_isChoice_13 : decode Y_M_isChoice.2.1 13 = .ok (.getfield 341, 3) := by decide +kernel
theorem d_M_isChoice_16 : decode Y_M_isChoice.2.1 16 = .ok (.getfield 198, 3) := by decide +kernel
theorem d_M_isChoice_19 : decode Y_M_isChoice.2.1 19 = .ok (.if_icmp .ge 7, 3) := by decide +kernel
theorem d_M_isChoice_22 : decode Y_M_isChoice.2.1 22 = .ok (.iconst 1, 1) := by decide +kernel
theorem d_M_isChoice_23 : decode Y_M_isChoice.2.1 23 = .ok (.goto 4, 3) := by decide +kernel
theorem d_M_isChoice_26 : decode Y_M_isChoice.2.1 26 = .ok (.iconst 0, 1) := by decide +kernel
theorem d_M_isChoice_27 : decode Y_M_isChoice.2.1 27 = .ok (.ireturn, 1) := by decide +kernel
def f_M_isChoice (h : PH) (a0 : Option Nat) (a1 : Int32) : Option Int32 := (gR h 12 a0 3).bind fun v1 => if v1 = none then (some (0 : Int32)) else (if a1 < 0 then (some (0 : Int32)) else ((gR h 12 a0 3).bind fun v2 => (gI h 11 v2 2).bind fun v3 => if v3 ≤ a1 then (some (0 : Int32)) else (some (1 : Int32))))
set_option maxRecDepth 20000 in
theorem PM_M_isChoice {l : Launch} {G : Cx} {h : PH} {a0 : Option Nat} {a1 : Int32} {z : Int32} (hz : f_M_isChoice h a0 a1 = some z) : PM l G 1 0 0 Y_M_isChoice [.inr (.inr a0), .inl a1] h (some (.inl z), h) := by
  refine PM.of (Y := Y_M_isChoice) (cv := (fun z : Int32 => (((some (.inl z), h) : Option PV × PH)))) (by decide) (L0 := [some (.inr (.inr a0)), some (.inl a1)]) 0 rfl (Nat.le_of_ble_eq_true rfl) ?_ hz
  unfold f_M_isChoice
  refine PJ.aload_n (pc := 0) d_M_isChoice_0 rfl ?_
  refine PJ.getR (pc := 1) fs_M_341 d_M_isChoice_1 (fun v1 => ?_)
  refine PJ.ifnull (pc := 4) (tgt := 26) d_M_isChoice_4 (by decide) (fun _ => ?_) (fun _ => ?_)
  · refine PJ.iconst (pc := 26) (v := 0) d_M_isChoice_26 (by decide) ?_
    exact PJ.zretp (pc := 27) d_M_isChoice_27 rfl rfl (Nat.le_of_ble_eq_true rfl) (Nat.le_of_ble_eq_true rfl)
  · refine PJ.iload_n (pc := 7) d_M_isChoice_7 rfl ?_
    refine PJ.if_lt (pc := 8) (tgt := 26) d_M_isChoice_8 (by decide) (fun _ => ?_) (fun _ => ?_)
    · refine PJ.iconst (pc := 26) (v := 0) d_M_isChoice_26 (by decide) ?_
      exact PJ.zretp (pc := 27) d_M_isChoice_27 rfl rfl (Nat.le_of_ble_eq_true rfl) (Nat.le_of_ble_eq_true rfl)
    · refine PJ.iload_n (pc := 11) d_M_isChoice_11 rfl ?_
      refine PJ.aload_n (pc := 12) d_M_isChoice_12 rfl ?_
      refine PJ.getR (pc := 13) fs_M_341 d_M_isChoice_13 (fun v2 => ?_)
      refine PJ.getI (pc := 16) fs_M_198 d_M_isChoice_16 (fun v3 => ?_)
      refine PJ.icmp_ge (pc := 19) (tgt := 26) d_M_isChoice_19 (by decide) (fun _ => ?_) (fun _ => ?_)
      · refine PJ.iconst (pc := 26) (v := 0) d_M_isChoice_26 (by decide) ?_
        exact PJ.zretp (pc := 27) d_M_isChoice_27 rfl rfl (Nat.le_of_ble_eq_true rfl) (Nat.le_of_ble_eq_true rfl)
      · refine PJ.iconst (pc := 22) (v := 1) d_M_isChoice_22 (by decide) ?_
        refine PJ.goto (pc := 23) (tgt := 27) d_M_isChoice_23 (by decide) ?_
        exact PJ.zretp (pc := 27) d_M_isChoice_27 rfl rfl (Nat.le_of_ble_eq_true rfl) (Nat.le_of_ble_eq_true rfl)
theorem d_ML_far_0 : decode Y_ML_far.2.1 0 = .ok (.iload_n 1, 1) := by decide +kernel
theorem d_ML_far_1 : decode Y_ML_far.2.1 1 = .ok (.iload_n 2, 1) := by decide +kernel
theorem d_ML_far_2 : decode Y_ML_far.2.1 2 = .ok (.if_icmp .ne 7, 3) := by decide +kernel
theorem d_ML_far_5 : decode Y_ML_far.2.1 5 = .ok (.iconst 0, 1) := by decide +kernel
theorem d_ML_far_6 : decode Y_ML_far.2.1 6 = .ok (.goto 30, 3) := by decide +kernel
theorem d_ML_far_9 : decode Y_ML_far.2.1 9 = .ok (.aload_n 0, 1) := by decide +kernel
theorem d_ML_far_10 : decode Y_ML_far.2.1 10 = .ok (.getfield 15, 3) := by decide +kernel
theorem d_ML_far_13 : decode Y_ML_far.2.1 13 = .ok (.iconst 5, 1) := by decide +kernel
theorem d_ML_far_14 : decode Y_ML_far.2.1 14 = .ok (.iload_n 1, 1) := by decide +kernel
theorem d_ML_far_15 : decode Y_ML_far.2.1 15 = .ok (.imul, 1) := by decide +kernel
theorem d_ML_far_16 : decode Y_ML_far.2.1 16 = .ok (.iload_n 2, 1) := by decide +kernel
theorem d_ML_far_17 : decode Y_ML_far.2.1 17 = .ok (.iadd, 1) := by decide +kernel
theorem d_ML_far_18 : decode Y_ML_far.2.1 18 = .ok (.iaload, 1) := by decide +kernel
theorem d_ML_far_19 : decode Y_ML_far.2.1 19 = .ok (.ifCond .ne 7, 3) := by decide +kernel
theorem d_ML_far_22 : decode Y_ML_far.2.1 22 = .ok (.iconst 1, 1) := by decide +kernel
theorem d_ML_far_23 : decode Y_ML_far.2.1 23 = .ok (.goto 13, 3) := by decide +kernel
theorem d_ML_far_26 : decode Y_ML_far.2.1 26 = .ok (.aload_n 0, 1) := by decide +kernel
theorem d_ML_far_27 : decode Y_ML_far.2.1 27 = .ok (.getfield 15, 3) := by decide +kernel
theorem d_ML_far_30 : decode Y_ML_far.2.1 30 = .ok (.iconst 5, 1) := by decide +kernel
theorem d_ML_far_31 : decode Y_ML_far.2.1 31 = .ok (.iload_n 1, 1) := by decide +kernel
theorem d_ML_far_32 : decode Y_ML_far.2.1 32 = .ok (.imul, 1) := by decide +kernel
theorem d_ML_far_33 : decode Y_ML_far.2.1 33 = .ok (.iload_n 2, 1) := by decide +kernel
theorem d_ML_far_34 : decode Y_ML_far.2.1 34 = .ok (.iadd, 1) := by decide +kernel
theorem d_ML_far_35 : decode Y_ML_far.2.1 35 = .ok (.iaload, 1) := by decide +kernel
theorem d_ML_far_36 : decode Y_ML_far.2.1 36 = .ok (.ireturn, 1) := by decide +kernel
def f_ML_far (h : PH) (a0 : Option Nat) (a1 : Int32) (a2 : Int32) : Option Int32 := if ¬ a1 = a2 then ((gR h 11 a0 10).bind fun v1 => (aI h v1 (((5 : Int32) * a1) + a2)).bind fun v2 => if ¬ v2 = 0 then ((gR h 11 a0 10).bind fun v3 => (aI h v3 (((5 : Int32) * a1) + a2)).bind fun v4 => some v4) else (some (1 : Int32))) else (some (0 : Int32))
set_option maxRecDepth 20000 in
theorem PM_ML_far {l : Launch} {G : Cx} {h : PH} {a0 : Option Nat} {a1 : Int32} {a2 : Int32} {z : Int32} (hz : f_ML_far h a0 a1 a2 = some z) : PM l G 1 0 0 Y_ML_far [.inr (.inr a0), .inl a1, .inl a2] h (some (.inl z), h) := by
  refine PM.of (Y := Y_ML_far) (cv := (fun z : Int32 => (((some (.inl z), h) : Option PV × PH)))) (by decide) (L0 := [some (.inr (.inr a0)), some (.inl a1), some (.inl a2)]) 0 rfl (Nat.le_of_ble_eq_true rfl) ?_ hz
  unfold f_ML_far
  refine PJ.iload_n (pc := 0) d_ML_far_0 rfl ?_
  refine PJ.iload_n (pc := 1) d_ML_far_1 rfl ?_
  refine PJ.icmp_ne (pc := 2) (tgt := 9) d_ML_far_2 (by decide) (fun _ => ?_) (fun _ => ?_)
  · refine PJ.aload_n (pc := 9) d_ML_far_9 rfl ?_
    refine PJ.getR (pc := 10) fs_ML_15 d_ML_far_10 (fun v1 => ?_)
    refine PJ.iconst (pc := 13) (v := 5) d_ML_far_13 (by decide) ?_
    refine PJ.iload_n (pc := 14) d_ML_far_14 rfl ?_
    refine PJ.imul (pc := 15) d_ML_far_15 ?_
    refine PJ.iload_n (pc := 16) d_ML_far_16 rfl ?_
    refine PJ.iadd (pc := 17) d_ML_far_17 ?_
    refine PJ.iald (pc := 18) d_ML_far_18 (fun v2 => ?_)
    refine PJ.if_ne (pc := 19) (tgt := 26) d_ML_far_19 (by decide) (fun _ => ?_) (fun _ => ?_)
    · refine PJ.aload_n (pc := 26) d_ML_far_26 rfl ?_
      refine PJ.getR (pc := 27) fs_ML_15 d_ML_far_27 (fun v3 => ?_)
      refine PJ.iconst (pc := 30) (v := 5) d_ML_far_30 (by decide) ?_
      refine PJ.iload_n (pc := 31) d_ML_far_31 rfl ?_
      refine PJ.imul (pc := 32) d_ML_far_32 ?_
      refine PJ.iload_n (pc := 33) d_ML_far_33 rfl ?_
      refine PJ.iadd (pc := 34) d_ML_far_34 ?_
      refine PJ.iald (pc := 35) d_ML_far_35 (fun v4 => ?_)
      exact PJ.iretp (pc := 36) d_ML_far_36 rfl (Nat.le_of_ble_eq_true rfl) (Nat.le_of_ble_eq_true rfl)
    · refine PJ.iconst (pc := 22) (v := 1) d_ML_far_22 (by decide) ?_
      refine PJ.goto (pc := 23) (tgt := 36) d_ML_far_23 (by decide) ?_
      exact PJ.iretp (pc := 36) d_ML_far_36 rfl (Nat.le_of_ble_eq_true rfl) (Nat.le_of_ble_eq_true rfl)
  · refine PJ.iconst (pc := 5) (v := 0) d_ML_far_5 (by decide) ?_
    refine PJ.goto (pc := 6) (tgt := 36) d_ML_far_6 (by decide) ?_
    exact PJ.iretp (pc := 36) d_ML_far_36 rfl (Nat.le_of_ble_eq_true rfl) (Nat.le_of_ble_eq_true rfl)
theorem d_M_far_0 : decode Y_M_far.2.1 0 = .ok (.aload_n 0, 1) := by decide +kernel
theorem d_M_far_1 : decode Y_M_far.2.1 1 = .ok (.iconst 0, 1) := by decide +kernel
theorem d_M_far_2 : decode Y_M_far.2.1 2 = .ok (.putfield 46, 3) := by decide +kernel
theorem d_M_far_5 : decode Y_M_far.2.1 5 = .ok (.aload_n 0, 1) := by decide +kernel
theorem d_M_far_6 : decode Y_M_far.2.1 6 = .ok (.iload_n 1, 1) := by decide +kernel
theorem d_M_far_7 : decode Y_M_far.2.1 7 = .ok (.invokevirtual 372, 3) := by decide +kernel
theorem d_M_far_10 : decode Y_M_far.2.1 10 = .ok (.ifCond .eq 27, 3) := by decide +kernel
theorem d_M_far_13 : decode Y_M_far.2.1 13 = .ok (.aload_n 0, 1) := by decide +kernel
theorem d_M_far_14 : decode Y_M_far.2.1 14 = .ok (.iload_n 2, 1) := by decide +kernel
theorem d_M_far_15 : decode Y_M_far.2.1 15 = .ok (.invokevirtual 372, 3) := by decide +kernel
theorem d_M_far_18 : decode Y_M_far.2.1 18 = .ok (.ifCond .eq 19, 3) := by decide +kernel
theorem d_M_far_21 : decode Y_M_far.2.1 21 = .ok (.aload_n 0, 1) := by decide +kernel
theorem d_M_far_22 : decode Y_M_far.2.1 22 = .ok (.aload_n 0, 1) := by decide +kernel
theorem d_M_far_23 : decode Y_M_far.2.1 23 = .ok (.getfield 341, 3) := by decide +kernel
theorem d_M_far_26 : decode Y_M_far.2.1 26 = .ok (.iload_n 1, 1) := by decide +kernel
theorem d_M_far_27 : decode Y_M_far.2.1 27 = .ok (.iload_n 2, 1) := by decide +kernel
theorem d_M_far_28 : decode Y_M_far.2.1 28 = .ok (.invokevirtual 353, 3) := by decide +kernel
theorem d_M_far_31 : decode Y_M_far.2.1 31 = .ok (.invokevirtual 58, 3) := by decide +kernel
theorem d_M_far_34 : decode Y_M_far.2.1 34 = .ok (.goto 8, 3) := by decide +kernel
theorem d_M_far_37 : decode Y_M_far.2.1 37 = .ok (.aload_n 0, 1) := by decide +kernel
theorem d_M_far_38 : decode Y_M_far.2.1 38 = .ok (.iconst 1, 1) := by decide +kernel
theorem d_M_far_39 : decode Y_M_far.2.1 39 = .ok (.invokevirtual 52, 3) := by decide +kernel
theorem d_M_far_42 : decode Y_M_far.2.1 42 = .ok (.ireturn, 1) := by decide +kernel
def f_M_far (h : PH) (a0 : Option Nat) (a1 : Int32) (a2 : Int32) : Option (Int32 × PH) := (sF h 12 a0 0 (.inl (0 : Int32))).bind fun h1 => (cl h1 12 a0 (f_M_isChoice h1 a0 a1)).bind fun v2 => if v2 = 0 then ((cl h1 12 a0 (f_M_refused h1 a0 (1 : Int32))).bind fun v3 => some (v3.1, v3.2)) else ((cl h1 12 a0 (f_M_isChoice h1 a0 a2)).bind fun v4 => if v4 = 0 then ((cl h1 12 a0 (f_M_refused h1 a0 (1 : Int32))).bind fun v5 => some (v5.1, v5.2)) else ((gR h1 12 a0 3).bind fun v6 => (cl h1 11 v6 (f_ML_far h1 v6 a1 a2)).bind fun v7 => (cl h1 12 a0 (f_M_good h1 a0 v7)).bind fun v8 => some (v8.1, v8.2)))
set_option maxRecDepth 20000 in
theorem PM_M_far {l : Launch} {G : Cx} {h : PH} {a0 : Option Nat} {a1 : Int32} {a2 : Int32} {z : (Int32 × PH)} (hz : f_M_far h a0 a1 a2 = some z) : PM l G 2 0 0 Y_M_far [.inr (.inr a0), .inl a1, .inl a2] h (some (.inl z.1), z.2) := by
  refine PM.of (Y := Y_M_far) (cv := (fun z : (Int32 × PH) => (((some (.inl z.1), z.2) : Option PV × PH)))) (by decide) (L0 := [some (.inr (.inr a0)), some (.inl a1), some (.inl a2)]) 0 rfl (Nat.le_of_ble_eq_true rfl) ?_ hz
  unfold f_M_far
  refine PJ.aload_n (pc := 0) d_M_far_0 rfl ?_
  refine PJ.iconst (pc := 1) (v := 0) d_M_far_1 (by decide) ?_
  refine PJ.putI (pc := 2) ps_M_46 d_M_far_2 (fun h1 => ?_)
  refine PJ.aload_n (pc := 5) d_M_far_5 rfl ?_
  refine PJ.iload_n (pc := 6) d_M_far_6 rfl ?_
  refine PJ.cVpI (pc := 7) cs_M_372 (fun z hz => PM_M_isChoice hz) (pj_fitb rfl) rfl rfl (Nat.le_of_ble_eq_true rfl) d_M_far_7 (fun v2 => ?_)
  refine PJ.if_eq (pc := 10) (tgt := 37) d_M_far_10 (by decide) (fun _ => ?_) (fun _ => ?_)
  · refine PJ.aload_n (pc := 37) d_M_far_37 rfl ?_
    refine PJ.iconst (pc := 38) (v := 1) d_M_far_38 (by decide) ?_
    refine PJ.cVI (pc := 39) cs_M_52 (fun z hz => PM_M_refused hz) (pj_fitb rfl) rfl rfl (Nat.le_of_ble_eq_true rfl) d_M_far_39 (fun v3 => ?_)
    exact PJ.iret (pc := 42) d_M_far_42 rfl (Nat.le_of_ble_eq_true rfl) (Nat.le_of_ble_eq_true rfl)
  · refine PJ.aload_n (pc := 13) d_M_far_13 rfl ?_
    refine PJ.iload_n (pc := 14) d_M_far_14 rfl ?_
    refine PJ.cVpI (pc := 15) cs_M_372 (fun z hz => PM_M_isChoice hz) (pj_fitb rfl) rfl rfl (Nat.le_of_ble_eq_true rfl) d_M_far_15 (fun v4 => ?_)
    refine PJ.if_eq (pc := 18) (tgt := 37) d_M_far_18 (by decide) (fun _ => ?_) (fun _ => ?_)
    · refine PJ.aload_n (pc := 37) d_M_far_37 rfl ?_
      refine PJ.iconst (pc := 38) (v := 1) d_M_far_38 (by decide) ?_
      refine PJ.cVI (pc := 39) cs_M_52 (fun z hz => PM_M_refused hz) (pj_fitb rfl) rfl rfl (Nat.le_of_ble_eq_true rfl) d_M_far_39 (fun v5 => ?_)
      exact PJ.iret (pc := 42) d_M_far_42 rfl (Nat.le_of_ble_eq_true rfl) (Nat.le_of_ble_eq_true rfl)
    · refine PJ.aload_n (pc := 21) d_M_far_21 rfl ?_
      refine PJ.aload_n (pc := 22) d_M_far_22 rfl ?_
      refine PJ.getR (pc := 23) fs_M_341 d_M_far_23 (fun v6 => ?_)
      refine PJ.iload_n (pc := 26) d_M_far_26 rfl ?_
      refine PJ.iload_n (pc := 27) d_M_far_27 rfl ?_
      refine PJ.cVpI (pc := 28) cs_M_353 (fun z hz => PM_ML_far hz) (pj_fitb rfl) rfl rfl (Nat.le_of_ble_eq_true rfl) d_M_far_28 (fun v7 => ?_)
      refine PJ.cVI (pc := 31) cs_M_58 (fun z hz => PM_M_good hz) (pj_fitb rfl) rfl rfl (Nat.le_of_ble_eq_true rfl) d_M_far_31 (fun v8 => ?_)
      refine PJ.goto (pc := 34) (tgt := 42) d_M_far_34 (by decide) ?_
      exact PJ.iret (pc := 42) d_M_far_42 rfl (Nat.le_of_ble_eq_true rfl) (Nat.le_of_ble_eq_true rfl)
theorem d_ML_likes_0 : decode Y_ML_likes.2.1 0 = .ok (.aload_n 0, 1) := by decide +kernel
theorem d_ML_likes_1 : decode Y_ML_likes.2.1 1 = .ok (.getfield 25, 3) := by decide +kernel
theorem d_ML_likes_4 : decode Y_ML_likes.2.1 4 = .ok (.iconst 5, 1) := by decide +kernel
theorem d_ML_likes_5 : decode Y_ML_likes.2.1 5 = .ok (.iload_n 1, 1) := by decide +kernel
theorem d_ML_likes_6 : decode Y_ML_likes.2.1 6 = .ok (.imul, 1) := by decide +kernel
theorem d_ML_likes_7 : decode Y_ML_likes.2.1 7 = .ok (.iload_n 2, 1) := by decide +kernel
theorem d_ML_likes_8 : decode Y_ML_likes.2.1 8 = .ok (.iadd, 1) := by decide +kernel
theorem d_ML_likes_9 : decode Y_ML_likes.2.1 9 = .ok (.iaload, 1) := by decide +kernel
theorem d_ML_likes_10 : decode Y_ML_likes.2.1 10 = .ok (.iconst (-1), 1) := by decide +kernel
theorem d_ML_likes_11 : decode Y_ML_likes.2.1 11 = .ok (.if_icmp .ne 7, 3) := by decide +kernel
theorem d_ML_likes_14 : decode Y_ML_likes.2.1 14 = .ok (.iconst 0, 1) := by decide +kernel
theorem d_ML_likes_15 : decode Y_ML_likes.2.1 15 = .ok (.goto 13, 3) := by decide +kernel
theorem d_ML_likes_18 : decode Y_ML_likes.2.1 18 = .ok (.aload_n 0, 1) := by decide +kernel
theorem d_ML_likes_19 : decode Y_ML_likes.2.1 19 = .ok (.getfield 25, 3) := by decide +kernel
theorem d_ML_likes_22 : decode Y_ML_likes.2.1 22 = .ok (.iconst 5, 1) := by decide +kernel
theorem d_ML_likes_23 : decode Y_ML_likes.2.1 23 = .ok (.iload_n 1, 1) := by decide +kernel
theorem d_ML_likes_24 : decode Y_ML_likes.2.1 24 = .ok (.imul, 1) := by decide +kernel
theorem d_ML_likes_25 : decode Y_ML_likes.2.1 25 = .ok (.iload_n 2, 1) := by decide +kernel
theorem d_ML_likes_26 : decode Y_ML_likes.2.1 26 = .ok (.iadd, 1) := by decide +kernel
theorem d_ML_likes_27 : decode Y_ML_likes.2.1 27 = .ok (.iaload, 1) := by decide +kernel
theorem d_ML_likes_28 : decode Y_ML_likes.2.1 28 = .ok (.ireturn, 1) := by decide +kernel
def f_ML_likes (h : PH) (a0 : Option Nat) (a1 : Int32) (a2 : Int32) : Option Int32 := (gR h 11 a0 13).bind fun v1 => (aI h v1 (((5 : Int32) * a1) + a2)).bind fun v2 => if ¬ v2 = (-1 : Int32) then ((gR h 11 a0 13).bind fun v3 => (aI h v3 (((5 : Int32) * a1) + a2)).bind fun v4 => some v4) else (some (0 : Int32))
set_option maxRecDepth 20000 in
theorem PM_ML_likes {l : Launch} {G : Cx} {h : PH} {a0 : Option Nat} {a1 : Int32} {a2 : Int32} {z : Int32} (hz : f_ML_likes h a0 a1 a2 = some z) : PM l G 1 0 0 Y_ML_likes [.inr (.inr a0), .inl a1, .inl a2] h (some (.inl z), h) := by
  refine PM.of (Y := Y_ML_likes) (cv := (fun z : Int32 => (((some (.inl z), h) : Option PV × PH)))) (by decide) (L0 := [some (.inr (.inr a0)), some (.inl a1), some (.inl a2)]) 0 rfl (Nat.le_of_ble_eq_true rfl) ?_ hz
  unfold f_ML_likes
  refine PJ.aload_n (pc := 0) d_ML_likes_0 rfl ?_
  refine PJ.getR (pc := 1) fs_ML_25 d_ML_likes_1 (fun v1 => ?_)
  refine PJ.iconst (pc := 4) (v := 5) d_ML_likes_4 (by decide) ?_
  refine PJ.iload_n (pc := 5) d_ML_likes_5 rfl ?_
  refine PJ.imul (pc := 6) d_ML_likes_6 ?_
  refine PJ.iload_n (pc := 7) d_ML_likes_7 rfl ?_
  refine PJ.iadd (pc := 8) d_ML_likes_8 ?_
  refine PJ.iald (pc := 9) d_ML_likes_9 (fun v2 => ?_)
  refine PJ.iconst (pc := 10) (v := -1) d_ML_likes_10 (by decide) ?_
  refine PJ.icmp_ne (pc := 11) (tgt := 18) d_ML_likes_11 (by decide) (fun _ => ?_) (fun _ => ?_)
  · refine PJ.aload_n (pc := 18) d_ML_likes_18 rfl ?_
    refine PJ.getR (pc := 19) fs_ML_25 d_ML_likes_19 (fun v3 => ?_)
    refine PJ.iconst (pc := 22) (v := 5) d_ML_likes_22 (by decide) ?_
    refine PJ.iload_n (pc := 23) d_ML_likes_23 rfl ?_
    refine PJ.imul (pc := 24) d_ML_likes_24 ?_
    refine PJ.iload_n (pc := 25) d_ML_likes_25 rfl ?_
    refine PJ.iadd (pc := 26) d_ML_likes_26 ?_
    refine PJ.iald (pc := 27) d_ML_likes_27 (fun v4 => ?_)
    exact PJ.iretp (pc := 28) d_ML_likes_28 rfl (Nat.le_of_ble_eq_true rfl) (Nat.le_of_ble_eq_true rfl)
  · refine PJ.iconst (pc := 14) (v := 0) d_ML_likes_14 (by decide) ?_
    refine PJ.goto (pc := 15) (tgt := 28) d_ML_likes_15 (by decide) ?_
    exact PJ.iretp (pc := 28) d_ML_likes_28 rfl (Nat.le_of_ble_eq_true rfl) (Nat.le_of_ble_eq_true rfl)
theorem d_M_worthBy_0 : decode Y_M_worthBy.2.1 0 = .ok (.aload_n 0, 1) := by decide +kernel
theorem d_M_worthBy_1 : decode Y_M_worthBy.2.1 1 = .ok (.getfield 341, 3) := by decide +kernel
theorem d_M_worthBy_4 : decode Y_M_worthBy.2.1 4 = .ok (.iload_n 1, 1) := by decide +kernel
theorem d_M_worthBy_5 : decode Y_M_worthBy.2.1 5 = .ok (.iload_n 2, 1) := by decide +kernel
theorem d_M_worthBy_6 : decode Y_M_worthBy.2.1 6 = .ok (.invokevirtual 359, 3) := by decide +kernel
theorem d_M_worthBy_9 : decode Y_M_worthBy.2.1 9 = .ok (.istore 4, 2) := by decide +kernel
theorem d_M_worthBy_11 : decode Y_M_worthBy.2.1 11 = .ok (.iconst 0, 1) := by decide +kernel
theorem d_M_worthBy_12 : decode Y_M_worthBy.2.1 12 = .ok (.istore 5, 2) := by decide +kernel
theorem d_M_worthBy_14 : decode Y_M_worthBy.2.1 14 = .ok (.iload 5, 2) := by decide +kernel
theorem d_M_worthBy_16 : decode Y_M_worthBy.2.1 16 = .ok (.aload_n 0, 1) := by decide +kernel
theorem d_M_worthBy_17 : decode Y_M_worthBy.2.1 17 = .ok (.getfield 341, 3) := by decide +kernel
theorem d_M_worthBy_20 : decode Y_M_worthBy.2.1 20 = .ok (.getfield 280, 3) := by decide +kernel
theorem d_M_worthBy_23 : decode Y_M_worthBy.2.1 23 = .ok (.if_icmp .ge 61, 3) := by decide +kernel
theorem d_M_worthBy_26 : decode Y_M_worthBy.2.1 26 = .ok (.iload_n 3, 1) := by decide +kernel
theorem d_M_worthBy_27 : decode Y_M_worthBy.2.1 27 = .ok (.iload 5, 2) := by decide +kernel
theorem d_M_worthBy_29 : decode Y_M_worthBy.2.1 29 = .ok (.invokestatic 330, 3) := by decide +kernel
theorem d_M_worthBy_32 : decode Y_M_worthBy.2.1 32 = .ok (.ifCond .eq 46, 3) := by decide +kernel
theorem d_M_worthBy_35 : decode Y_M_worthBy.2.1 35 = .ok (.aload_n 0, 1) := by decide +kernel
theorem d_M_worthBy_36 : decode Y_M_worthBy.2.1 36 = .ok (.getfield 341, 3) := by decide +kernel
theorem d_M_worthBy_39 : decode Y_M_worthBy.2.1 39 = .ok (.getfield 289, 3) := by decide +kernel
theorem d_M_worthBy_42 : decode Y_M_worthBy.2.1 42 = .ok (.iload 5, 2) := by decide +kernel
theorem d_M_worthBy_44 : decode Y_M_worthBy.2.1 44 = .ok (.iaload, 1) := by decide +kernel
theorem d_M_worthBy_45 : decode Y_M_worthBy.2.1 45 = .ok (.iload_n 1, 1) := by decide +kernel
theorem d_M_worthBy_46 : decode Y_M_worthBy.2.1 46 = .ok (.if_icmp .ne 32, 3) := by decide +kernel
theorem d_M_worthBy_49 : decode Y_M_worthBy.2.1 49 = .ok (.aload_n 0, 1) := by decide +kernel
theorem d_M_worthBy_50 : decode Y_M_worthBy.2.1 50 = .ok (.getfield 341, 3) := by decide +kernel
theorem d_M_worthBy_53 : decode Y_M_worthBy.2.1 53 = .ok (.getfield 292, 3) := by decide +kernel
theorem d_M_worthBy_56 : decode Y_M_worthBy.2.1 56 = .ok (.iload 5, 2) := by decide +kernel
theorem d_M_worthBy_58 : decode Y_M_worthBy.2.1 58 = .ok (.iaload, 1) := by decide +kernel
theorem d_M_worthBy_59 : decode Y_M_worthBy.2.1 59 = .ok (.iload_n 2, 1) := by decide +kernel
theorem d_M_worthBy_60 : decode Y_M_worthBy.2.1 60 = .ok (.if_icmp .ne 18, 3) := by decide +kernel
theorem d_M_worthBy_63 : decode Y_M_worthBy.2.1 63 = .ok (.iload 4, 2) := by decide +kernel
theorem d_M_worthBy_65 : decode Y_M_worthBy.2.1 65 = .ok (.aload_n 0, 1) := by decide +kernel
theorem d_M_worthBy_66 : decode Y_M_worthBy.2.1 66 = .ok (.getfield 341, 3) := by decide +kernel
theorem d_M_worthBy_69 : decode Y_M_worthBy.2.1 69 = .ok (.getfield 300, 3) := by decide +kernel
theorem d_M_worthBy_72 : decode Y_M_worthBy.2.1 72 = .ok (.iload 5, 2) := by decide +kernel
theorem d_M_worthBy_74 : decode Y_M_worthBy.2.1 74 = .ok (.iaload, 1) := by decide +kernel
theorem d_M_worthBy_75 : decode Y_M_worthBy.2.1 75 = .ok (.iadd, 1) := by decide +kernel
theorem d_M_worthBy_76 : decode Y_M_worthBy.2.1 76 = .ok (.istore 4, 2) := by decide +kernel
theorem d_M_worthBy_78 : decode Y_M_worthBy.2.1 78 = .ok (.iinc 5 1, 3) := by decide +kernel
theorem d_M_worthBy_81 : decode Y_M_worthBy.2.1 81 = .ok (.goto (-67), 3) := by decide +kernel
theorem d_M_worthBy_84 : decode Y_M_worthBy.2.1 84 = .ok (.iload 4, 2) := by decide +kernel
theorem d_M_worthBy_86 : decode Y_M_worthBy.2.1 86 = .ok (.ireturn, 1) := by decide +kernel
def f_M_worthBy (h : PH) (a0 : Option Nat) (a1 : Int32) (a2 : Int32) (a3 : Int32) : Option Int32 := (gR h 12 a0 3).bind fun v1 => (cl h 11 v1 (f_ML_likes h v1 a1 a2)).bind fun v2 => (pj_it (X := Int32) (fun s3 : Int32 × Int32 => (gR h 12 a0 3).bind fun v5 => (gI h 11 v5 5).bind fun v6 => if v6 ≤ s3.2 then (some (.inr s3.1)) else ((f_M_bit h a3 s3.2).bind fun v7 => if v7 = 0 then (some (.inl (s3.1, (s3.2 + (1 : Int32))))) else ((gR h 12 a0 3).bind fun v8 => (gR h 11 v8 14).bind fun v9 => (aI h v9 s3.2).bind fun v10 => if ¬ v10 = a1 then (some (.inl (s3.1, (s3.2 + (1 : Int32))))) else ((gR h 12 a0 3).bind fun v11 => (gR h 11 v11 15).bind fun v12 => (aI h v12 s3.2).bind fun v13 => if ¬ v13 = a2 then (some (.inl (s3.1, (s3.2 + (1 : Int32))))) else ((gR h 12 a0 3).bind fun v14 => (gR h 11 v14 18).bind fun v15 => (aI h v15 s3.2).bind fun v16 => some (.inl ((s3.1 + v16), (s3.2 + (1 : Int32))))))))) FU (v2, (0 : Int32))).bind fun x4 => some x4
set_option maxRecDepth 20000 in
theorem PM_M_worthBy {l : Launch} {G : Cx} {h : PH} {a0 : Option Nat} {a1 : Int32} {a2 : Int32} {a3 : Int32} {z : Int32} (hz : f_M_worthBy h a0 a1 a2 a3 = some z) : PM l G 2 0 0 Y_M_worthBy [.inr (.inr a0), .inl a1, .inl a2, .inl a3] h (some (.inl z), h) := by
  refine PM.of (Y := Y_M_worthBy) (cv := (fun z : Int32 => (((some (.inl z), h) : Option PV × PH)))) (by decide) (L0 := [some (.inr (.inr a0)), some (.inl a1), some (.inl a2), some (.inl a3), none, none]) 2 rfl (Nat.le_of_ble_eq_true rfl) ?_ hz
  unfold f_M_worthBy
  refine PJ.aload_n (pc := 0) d_M_worthBy_0 rfl ?_
  refine PJ.getR (pc := 1) fs_M_341 d_M_worthBy_1 (fun v1 => ?_)
  refine PJ.iload_n (pc := 4) d_M_worthBy_4 rfl ?_
  refine PJ.iload_n (pc := 5) d_M_worthBy_5 rfl ?_
  refine PJ.cVpI (pc := 6) cs_M_359 (fun z hz => PM_ML_likes hz) (pj_fitb rfl) rfl rfl (Nat.le_of_ble_eq_true rfl) d_M_worthBy_6 (fun v2 => ?_)
  refine PJ.istore (pc := 9) (L1 := [some (.inr (.inr a0)), some (.inl a1), some (.inl a2), some (.inl a3), some (.inl v2), none]) d_M_worthBy_9 (Nat.le_of_ble_eq_true rfl) rfl rfl ?_
  refine PJ.iconst (pc := 11) (v := 0) d_M_worthBy_11 (by decide) ?_
  refine PJ.istore (pc := 12) (L1 := [some (.inr (.inr a0)), some (.inl a1), some (.inl a2), some (.inl a3), some (.inl v2), some (.inl (0 : Int32))]) d_M_worthBy_12 (Nat.le_of_ble_eq_true rfl) rfl rfl ?_
  refine PJ.bind (fun x4 : Int32 => ((84 : Nat), ([none, none, none, none, some (.inl x4), none] : List (Option PV)), ([] : List PV), (h : PH), (0 : Nat), (0 : Nat))) (PJ.it (E := (fun s3 : Int32 × Int32 => ((14 : Nat), ([some (.inr (.inr a0)), some (.inl a1), some (.inl a2), some (.inl a3), some (.inl s3.1), some (.inl s3.2)] : List (Option PV)), ([] : List PV), (h : PH), (0 : Nat), (0 : Nat)))) (F := (fun x4 : Int32 => ((84 : Nat), ([none, none, none, none, some (.inl x4), none] : List (Option PV)), ([] : List PV), (h : PH), (0 : Nat), (0 : Nat)))) (fun s3 => ?_) FU (v2, (0 : Int32))) (fun x4 => ?_)
  · show PJ l G (pj_rm 2 0 0) Y_M_worthBy 14 [some (.inr (.inr a0)), some (.inl a1), some (.inl a2), some (.inl a3), some (.inl s3.1), some (.inl s3.2)] [] h 0 0 _ _
    refine PJ.iload (pc := 14) d_M_worthBy_14 rfl ?_
    refine PJ.aload_n (pc := 16) d_M_worthBy_16 rfl ?_
    refine PJ.getR (pc := 17) fs_M_341 d_M_worthBy_17 (fun v5 => ?_)
    refine PJ.getI (pc := 20) fs_M_280 d_M_worthBy_20 (fun v6 => ?_)
    refine PJ.icmp_ge (pc := 23) (tgt := 84) d_M_worthBy_23 (by decide) (fun _ => ?_) (fun _ => ?_)
    · refine PJ.mk (L1 := [none, none, none, none, some (.inl s3.1), none]) [false, false, false, false, true, false] rfl ?_
      exact PJ.done rfl
    · refine PJ.iload_n (pc := 26) d_M_worthBy_26 rfl ?_
      refine PJ.iload (pc := 27) d_M_worthBy_27 rfl ?_
      refine PJ.cSpI (pc := 29) cs_M_330 (fun z hz => PM_M_bit hz) (pj_fitb rfl) rfl rfl (Nat.le_of_ble_eq_true rfl) d_M_worthBy_29 (fun v7 => ?_)
      refine PJ.if_eq (pc := 32) (tgt := 78) d_M_worthBy_32 (by decide) (fun _ => ?_) (fun _ => ?_)
      · refine PJ.iinc (pc := 78) (v := 1) (L1 := [some (.inr (.inr a0)), some (.inl a1), some (.inl a2), some (.inl a3), some (.inl s3.1), some (.inl (s3.2 + (1 : Int32)))]) d_M_worthBy_78 rfl (by decide) (Nat.le_of_ble_eq_true rfl) rfl rfl ?_
        refine PJ.goto (pc := 81) (tgt := 14) d_M_worthBy_81 (by decide) ?_
        exact PJ.done rfl
      · refine PJ.aload_n (pc := 35) d_M_worthBy_35 rfl ?_
        refine PJ.getR (pc := 36) fs_M_341 d_M_worthBy_36 (fun v8 => ?_)
        refine PJ.getR (pc := 39) fs_M_289 d_M_worthBy_39 (fun v9 => ?_)
        refine PJ.iload (pc := 42) d_M_worthBy_42 rfl ?_
        refine PJ.iald (pc := 44) d_M_worthBy_44 (fun v10 => ?_)
        refine PJ.iload_n (pc := 45) d_M_worthBy_45 rfl ?_
        refine PJ.icmp_ne (pc := 46) (tgt := 78) d_M_worthBy_46 (by decide) (fun _ => ?_) (fun _ => ?_)
        · refine PJ.iinc (pc := 78) (v := 1) (L1 := [some (.inr (.inr a0)), some (.inl a1), some (.inl a2), some (.inl a3), some (.inl s3.1), some (.inl (s3.2 + (1 : Int32)))]) d_M_worthBy_78 rfl (by decide) (Nat.le_of_ble_eq_true rfl) rfl rfl ?_
          refine PJ.goto (pc := 81) (tgt := 14) d_M_worthBy_81 (by decide) ?_
          exact PJ.done rfl
        · refine PJ.aload_n (pc := 49) d_M_worthBy_49 rfl ?_
          refine PJ.getR (pc := 50) fs_M_341 d_M_worthBy_50 (fun v11 => ?_)
          refine PJ.getR (pc := 53) fs_M_292 d_M_worthBy_53 (fun v12 => ?_)
          refine PJ.iload (pc := 56) d_M_worthBy_56 rfl ?_
          refine PJ.iald (pc := 58) d_M_worthBy_58 (fun v13 => ?_)
          refine PJ.iload_n (pc := 59) d_M_worthBy_59 rfl ?_
          refine PJ.icmp_ne (pc := 60) (tgt := 78) d_M_worthBy_60 (by decide) (fun _ => ?_) (fun _ => ?_)
          · refine PJ.iinc (pc := 78) (v := 1) (L1 := [some (.inr (.inr a0)), some (.inl a1), some (.inl a2), some (.inl a3), some (.inl s3.1), some (.inl (s3.2 + (1 : Int32)))]) d_M_worthBy_78 rfl (by decide) (Nat.le_of_ble_eq_true rfl) rfl rfl ?_
            refine PJ.goto (pc := 81) (tgt := 14) d_M_worthBy_81 (by decide) ?_
            exact PJ.done rfl
          · refine PJ.iload (pc := 63) d_M_worthBy_63 rfl ?_
            refine PJ.aload_n (pc := 65) d_M_worthBy_65 rfl ?_
            refine PJ.getR (pc := 66) fs_M_341 d_M_worthBy_66 (fun v14 => ?_)
            refine PJ.getR (pc := 69) fs_M_300 d_M_worthBy_69 (fun v15 => ?_)
            refine PJ.iload (pc := 72) d_M_worthBy_72 rfl ?_
            refine PJ.iald (pc := 74) d_M_worthBy_74 (fun v16 => ?_)
            refine PJ.iadd (pc := 75) d_M_worthBy_75 ?_
            refine PJ.istore (pc := 76) (L1 := [some (.inr (.inr a0)), some (.inl a1), some (.inl a2), some (.inl a3), some (.inl (s3.1 + v16)), some (.inl s3.2)]) d_M_worthBy_76 (Nat.le_of_ble_eq_true rfl) rfl rfl ?_
            refine PJ.iinc (pc := 78) (v := 1) (L1 := [some (.inr (.inr a0)), some (.inl a1), some (.inl a2), some (.inl a3), some (.inl (s3.1 + v16)), some (.inl (s3.2 + (1 : Int32)))]) d_M_worthBy_78 rfl (by decide) (Nat.le_of_ble_eq_true rfl) rfl rfl ?_
            refine PJ.goto (pc := 81) (tgt := 14) d_M_worthBy_81 (by decide) ?_
            exact PJ.done rfl
  · show PJ l G (pj_rm 2 0 0) Y_M_worthBy 84 [none, none, none, none, some (.inl x4), none] [] h 0 0 _ _
    refine PJ.iload (pc := 84) d_M_worthBy_84 rfl ?_
    exact PJ.iretp (pc := 86) d_M_worthBy_86 rfl (Nat.le_of_ble_eq_true rfl) (Nat.le_of_ble_eq_true rfl)
theorem d_M_worth_0 : decode Y_M_worth.2.1 0 = .ok (.aload_n 0, 1) := by decide +kernel
theorem d_M_worth_1 : decode Y_M_worth.2.1 1 = .ok (.iconst 0, 1) := by decide +kernel
theorem d_M_worth_2 : decode Y_M_worth.2.1 2 = .ok (.putfield 46, 3) := by decide +kernel
theorem d_M_worth_5 : decode Y_M_worth.2.1 5 = .ok (.aload_n 0, 1) := by decide +kernel
theorem d_M_worth_6 : decode Y_M_worth.2.1 6 = .ok (.iload_n 1, 1) := by decide +kernel
theorem d_M_worth_7 : decode Y_M_worth.2.1 7 = .ok (.invokevirtual 369, 3) := by decide +kernel
theorem d_M_worth_10 : decode Y_M_worth.2.1 10 = .ok (.ifCond .eq 31, 3) := by decide +kernel
theorem d_M_worth_13 : decode Y_M_worth.2.1 13 = .ok (.aload_n 0, 1) := by decide +kernel
theorem d_M_worth_14 : decode Y_M_worth.2.1 14 = .ok (.iload_n 2, 1) := by decide +kernel
theorem d_M_worth_15 : decode Y_M_worth.2.1 15 = .ok (.invokevirtual 372, 3) := by decide +kernel
theorem d_M_worth_18 : decode Y_M_worth.2.1 18 = .ok (.ifCond .eq 23, 3) := by decide +kernel
theorem d_M_worth_21 : decode Y_M_worth.2.1 21 = .ok (.aload_n 0, 1) := by decide +kernel
theorem d_M_worth_22 : decode Y_M_worth.2.1 22 = .ok (.aload_n 0, 1) := by decide +kernel
theorem d_M_worth_23 : decode Y_M_worth.2.1 23 = .ok (.iload_n 1, 1) := by decide +kernel
theorem d_M_worth_24 : decode Y_M_worth.2.1 24 = .ok (.iload_n 2, 1) := by decide +kernel
theorem d_M_worth_25 : decode Y_M_worth.2.1 25 = .ok (.aload_n 0, 1) := by decide +kernel
theorem d_M_worth_26 : decode Y_M_worth.2.1 26 = .ok (.getfield 17, 3) := by decide +kernel
theorem d_M_worth_29 : decode Y_M_worth.2.1 29 = .ok (.bipush 20, 2) := by decide +kernel
theorem d_M_worth_31 : decode Y_M_worth.2.1 31 = .ok (.iaload, 1) := by decide +kernel
theorem d_M_worth_32 : decode Y_M_worth.2.1 32 = .ok (.invokevirtual 361, 3) := by decide +kernel
theorem d_M_worth_35 : decode Y_M_worth.2.1 35 = .ok (.invokevirtual 58, 3) := by decide +kernel
theorem d_M_worth_38 : decode Y_M_worth.2.1 38 = .ok (.goto 8, 3) := by decide +kernel
theorem d_M_worth_41 : decode Y_M_worth.2.1 41 = .ok (.aload_n 0, 1) := by decide +kernel
theorem d_M_worth_42 : decode Y_M_worth.2.1 42 = .ok (.iconst 1, 1) := by decide +kernel
theorem d_M_worth_43 : decode Y_M_worth.2.1 43 = .ok (.invokevirtual 52, 3) := by decide +kernel
theorem d_M_worth_46 : decode Y_M_worth.2.1 46 = .ok (.ireturn, 1) := by decide +kernel
def f_M_worth (h : PH) (a0 : Option Nat) (a1 : Int32) (a2 : Int32) : Option (Int32 × PH) := (sF h 12 a0 0 (.inl (0 : Int32))).bind fun h1 => (cl h1 12 a0 (f_M_isPerson h1 a0 a1)).bind fun v2 => if v2 = 0 then ((cl h1 12 a0 (f_M_refused h1 a0 (1 : Int32))).bind fun v3 => some (v3.1, v3.2)) else ((cl h1 12 a0 (f_M_isChoice h1 a0 a2)).bind fun v4 => if v4 = 0 then ((cl h1 12 a0 (f_M_refused h1 a0 (1 : Int32))).bind fun v5 => some (v5.1, v5.2)) else ((gR h1 12 a0 15).bind fun v6 => (aI h1 v6 (20 : Int32)).bind fun v7 => (cl h1 12 a0 (f_M_worthBy h1 a0 a1 a2 v7)).bind fun v8 => (cl h1 12 a0 (f_M_good h1 a0 v8)).bind fun v9 => some (v9.1, v9.2)))
set_option maxRecDepth 20000 in
theorem PM_M_worth {l : Launch} {G : Cx} {h : PH} {a0 : Option Nat} {a1 : Int32} {a2 : Int32} {z : (Int32 × PH)} (hz : f_M_worth h a0 a1 a2 = some z) : PM l G 3 0 0 Y_M_worth [.inr (.inr a0), .inl a1, .inl a2] h (some (.inl z.1), z.2) := by
  refine PM.of (Y := Y_M_worth) (cv := (fun z : (Int32 × PH) => (((some (.inl z.1), z.2) : Option PV × PH)))) (by decide) (L0 := [some (.inr (.inr a0)), some (.inl a1), some (.inl a2)]) 0 rfl (Nat.le_of_ble_eq_true rfl) ?_ hz
  unfold f_M_worth
  refine PJ.aload_n (pc := 0) d_M_worth_0 rfl ?_
  refine PJ.iconst (pc := 1) (v := 0) d_M_worth_1 (by decide) ?_
  refine PJ.putI (pc := 2) ps_M_46 d_M_worth_2 (fun h1 => ?_)
  refine PJ.aload_n (pc := 5) d_M_worth_5 rfl ?_
  refine PJ.iload_n (pc := 6) d_M_worth_6 rfl ?_
  refine PJ.cVpI (pc := 7) cs_M_369 (fun z hz => PM_M_isPerson hz) (pj_fitb rfl) rfl rfl (Nat.le_of_ble_eq_true rfl) d_M_worth_7 (fun v2 => ?_)
  refine PJ.if_eq (pc := 10) (tgt := 41) d_M_worth_10 (by decide) (fun _ => ?_) (fun _ => ?_)
  · refine PJ.aload_n (pc := 41) d_M_worth_41 rfl ?_
    refine PJ.iconst (pc := 42) (v := 1) d_M_worth_42 (by decide) ?_
    refine PJ.cVI (pc := 43) cs_M_52 (fun z hz => PM_M_refused hz) (pj_fitb rfl) rfl rfl (Nat.le_of_ble_eq_true rfl) d_M_worth_43 (fun v3 => ?_)
    exact PJ.iret (pc := 46) d_M_worth_46 rfl (Nat.le_of_ble_eq_true rfl) (Nat.le_of_ble_eq_true rfl)
  · refine PJ.aload_n (pc := 13) d_M_worth_13 rfl ?_
    refine PJ.iload_n (pc := 14) d_M_worth_14 rfl ?_
    refine PJ.cVpI (pc := 15) cs_M_372 (fun z hz => PM_M_isChoice hz) (pj_fitb rfl) rfl rfl (Nat.le_of_ble_eq_true rfl) d_M_worth_15 (fun v4 => ?_)
    refine PJ.if_eq (pc := 18) (tgt := 41) d_M_worth_18 (by decide) (fun _ => ?_) (fun _ => ?_)
    · refine PJ.aload_n (pc := 41) d_M_worth_41 rfl ?_
      refine PJ.iconst (pc := 42) (v := 1) d_M_worth_42 (by decide) ?_
      refine PJ.cVI (pc := 43) cs_M_52 (fun z hz => PM_M_refused hz) (pj_fitb rfl) rfl rfl (Nat.le_of_ble_eq_true rfl) d_M_worth_43 (fun v5 => ?_)
      exact PJ.iret (pc := 46) d_M_worth_46 rfl (Nat.le_of_ble_eq_true rfl) (Nat.le_of_ble_eq_true rfl)
    · refine PJ.aload_n (pc := 21) d_M_worth_21 rfl ?_
      refine PJ.aload_n (pc := 22) d_M_worth_22 rfl ?_
      refine PJ.iload_n (pc := 23) d_M_worth_23 rfl ?_
      refine PJ.iload_n (pc := 24) d_M_worth_24 rfl ?_
      refine PJ.aload_n (pc := 25) d_M_worth_25 rfl ?_
      refine PJ.getR (pc := 26) fs_M_17 d_M_worth_26 (fun v6 => ?_)
      refine PJ.bipush (pc := 29) (v := 20) d_M_worth_29 (by decide) ?_
      refine PJ.iald (pc := 31) d_M_worth_31 (fun v7 => ?_)
      refine PJ.cVpI (pc := 32) cs_M_361 (fun z hz => PM_M_worthBy hz) (pj_fitb rfl) rfl rfl (Nat.le_of_ble_eq_true rfl) d_M_worth_32 (fun v8 => ?_)
      refine PJ.cVI (pc := 35) cs_M_58 (fun z hz => PM_M_good hz) (pj_fitb rfl) rfl rfl (Nat.le_of_ble_eq_true rfl) d_M_worth_35 (fun v9 => ?_)
      refine PJ.goto (pc := 38) (tgt := 46) d_M_worth_38 (by decide) ?_
      exact PJ.iret (pc := 46) d_M_worth_46 rfl (Nat.le_of_ble_eq_true rfl) (Nat.le_of_ble_eq_true rfl)
theorem d_M_asTold_0 : decode Y_M_asTold.2.1 0 = .ok (.aload_n 0, 1) := by decide +kernel
theorem d_M_asTold_1 : decode Y_M_asTold.2.1 1 = .ok (.iconst (-1), 1) := by decide +kernel
theorem d_M_asTold_2 : decode Y_M_asTold.2.1 2 = .ok (.putfield 30, 3) := by decide +kernel
theorem d_M_asTold_5 : decode Y_M_asTold.2.1 5 = .ok (.aload_n 0, 1) := by decide +kernel
theorem d_M_asTold_6 : decode Y_M_asTold.2.1 6 = .ok (.aload_n 0, 1) := by decide +kernel
theorem d_M_asTold_7 : decode Y_M_asTold.2.1 7 = .ok (.getfield 341, 3) := by decide +kernel
theorem d_M_asTold_10 : decode Y_M_asTold.2.1 10 = .ok (.getfield 235, 3) := by decide +kernel
theorem d_M_asTold_13 : decode Y_M_asTold.2.1 13 = .ok (.putfield 350, 3) := by decide +kernel
theorem d_M_asTold_16 : decode Y_M_asTold.2.1 16 = .ok (.return_, 1) := by decide +kernel
def f_M_asTold (h : PH) (a0 : Option Nat) : Option PH := (sF h 12 a0 21 (.inl (-1 : Int32))).bind fun h1 => (gR h1 12 a0 3).bind fun v2 => (gI h1 11 v2 1).bind fun v3 => (sF h1 12 a0 22 (.inl v3)).bind fun h4 => some h4
set_option maxRecDepth 20000 in
theorem PM_M_asTold {l : Launch} {G : Cx} {h : PH} {a0 : Option Nat} {z : PH} (hz : f_M_asTold h a0 = some z) : PM l G 1 0 0 Y_M_asTold [.inr (.inr a0)] h (none, z) := by
  refine PM.of (Y := Y_M_asTold) (cv := (fun z : PH => (((none, z) : Option PV × PH)))) (by decide) (L0 := [some (.inr (.inr a0))]) 0 rfl (Nat.le_of_ble_eq_true rfl) ?_ hz
  unfold f_M_asTold
  refine PJ.aload_n (pc := 0) d_M_asTold_0 rfl ?_
  refine PJ.iconst (pc := 1) (v := -1) d_M_asTold_1 (by decide) ?_
  refine PJ.putI (pc := 2) ps_M_30 d_M_asTold_2 (fun h1 => ?_)
  refine PJ.aload_n (pc := 5) d_M_asTold_5 rfl ?_
  refine PJ.aload_n (pc := 6) d_M_asTold_6 rfl ?_
  refine PJ.getR (pc := 7) fs_M_341 d_M_asTold_7 (fun v2 => ?_)
  refine PJ.getI (pc := 10) fs_M_235 d_M_asTold_10 (fun v3 => ?_)
  refine PJ.putI (pc := 13) ps_M_350 d_M_asTold_13 (fun h4 => ?_)
  exact PJ.vret (pc := 16) d_M_asTold_16 rfl (Nat.le_of_ble_eq_true rfl) (Nat.le_of_ble_eq_true rfl)
theorem d_M_taxBy_0 : decode Y_M_taxBy.2.1 0 = .ok (.iload_n 2, 1) := by decide +kernel
theorem d_M_taxBy_1 : decode Y_M_taxBy.2.1 1 = .ok (.iload_n 3, 1) := by decide +kernel
theorem d_M_taxBy_2 : decode Y_M_taxBy.2.1 2 = .ok (.if_icmp .eq 29, 3) := by decide +kernel
theorem d_M_taxBy_5 : decode Y_M_taxBy.2.1 5 = .ok (.aload_n 0, 1) := by decide +kernel
theorem d_M_taxBy_6 : decode Y_M_taxBy.2.1 6 = .ok (.getfield 341, 3) := by decide +kernel
theorem d_M_taxBy_9 : decode Y_M_taxBy.2.1 9 = .ok (.getfield 268, 3) := by decide +kernel
theorem d_M_taxBy_12 : decode Y_M_taxBy.2.1 12 = .ok (.iload_n 1, 1) := by decide +kernel
theorem d_M_taxBy_13 : decode Y_M_taxBy.2.1 13 = .ok (.iaload, 1) := by decide +kernel
theorem d_M_taxBy_14 : decode Y_M_taxBy.2.1 14 = .ok (.iconst 1, 1) := by decide +kernel
theorem d_M_taxBy_15 : decode Y_M_taxBy.2.1 15 = .ok (.if_icmp .eq 16, 3) := by decide +kernel
theorem d_M_taxBy_18 : decode Y_M_taxBy.2.1 18 = .ok (.aload_n 0, 1) := by decide +kernel
theorem d_M_taxBy_19 : decode Y_M_taxBy.2.1 19 = .ok (.getfield 341, 3) := by decide +kernel
theorem d_M_taxBy_22 : decode Y_M_taxBy.2.1 22 = .ok (.getfield 268, 3) := by decide +kernel
theorem d_M_taxBy_25 : decode Y_M_taxBy.2.1 25 = .ok (.iload_n 1, 1) := by decide +kernel
theorem d_M_taxBy_26 : decode Y_M_taxBy.2.1 26 = .ok (.iaload, 1) := by decide +kernel
theorem d_M_taxBy_27 : decode Y_M_taxBy.2.1 27 = .ok (.iconst 2, 1) := by decide +kernel
theorem d_M_taxBy_28 : decode Y_M_taxBy.2.1 28 = .ok (.if_icmp .ne 5, 3) := by decide +kernel
theorem d_M_taxBy_31 : decode Y_M_taxBy.2.1 31 = .ok (.iconst 0, 1) := by decide +kernel
theorem d_M_taxBy_32 : decode Y_M_taxBy.2.1 32 = .ok (.ireturn, 1) := by decide +kernel
theorem d_M_taxBy_33 : decode Y_M_taxBy.2.1 33 = .ok (.aload_n 0, 1) := by decide +kernel
theorem d_M_taxBy_34 : decode Y_M_taxBy.2.1 34 = .ok (.getfield 30, 3) := by decide +kernel
theorem d_M_taxBy_37 : decode Y_M_taxBy.2.1 37 = .ok (.iconst (-1), 1) := by decide +kernel
theorem d_M_taxBy_38 : decode Y_M_taxBy.2.1 38 = .ok (.if_icmp .ne 15, 3) := by decide +kernel
theorem d_M_taxBy_41 : decode Y_M_taxBy.2.1 41 = .ok (.aload_n 0, 1) := by decide +kernel
theorem d_M_taxBy_42 : decode Y_M_taxBy.2.1 42 = .ok (.getfield 341, 3) := by decide +kernel
theorem d_M_taxBy_45 : decode Y_M_taxBy.2.1 45 = .ok (.iload_n 2, 1) := by decide +kernel
theorem d_M_taxBy_46 : decode Y_M_taxBy.2.1 46 = .ok (.iload_n 3, 1) := by decide +kernel
theorem d_M_taxBy_47 : decode Y_M_taxBy.2.1 47 = .ok (.invokevirtual 353, 3) := by decide +kernel
theorem d_M_taxBy_50 : decode Y_M_taxBy.2.1 50 = .ok (.goto 7, 3) := by decide +kernel
theorem d_M_taxBy_53 : decode Y_M_taxBy.2.1 53 = .ok (.aload_n 0, 1) := by decide +kernel
theorem d_M_taxBy_54 : decode Y_M_taxBy.2.1 54 = .ok (.getfield 30, 3) := by decide +kernel
theorem d_M_taxBy_57 : decode Y_M_taxBy.2.1 57 = .ok (.istore 6, 2) := by decide +kernel
theorem d_M_taxBy_59 : decode Y_M_taxBy.2.1 59 = .ok (.iload 5, 2) := by decide +kernel
theorem d_M_taxBy_61 : decode Y_M_taxBy.2.1 61 = .ok (.iconst (-1), 1) := by decide +kernel
theorem d_M_taxBy_62 : decode Y_M_taxBy.2.1 62 = .ok (.if_icmp .eq 21, 3) := by decide +kernel
theorem d_M_taxBy_65 : decode Y_M_taxBy.2.1 65 = .ok (.iload 5, 2) := by decide +kernel
theorem d_M_taxBy_67 : decode Y_M_taxBy.2.1 67 = .ok (.aload_n 0, 1) := by decide +kernel
theorem d_M_taxBy_68 : decode Y_M_taxBy.2.1 68 = .ok (.getfield 341, 3) := by decide +kernel
theorem d_M_taxBy_71 : decode Y_M_taxBy.2.1 71 = .ok (.getfield 164, 3) := by decide +kernel
theorem d_M_taxBy_74 : decode Y_M_taxBy.2.1 74 = .ok (.if_icmp .ge 9, 3) := by decide +kernel
theorem d_M_taxBy_77 : decode Y_M_taxBy.2.1 77 = .ok (.iload 6, 2) := by decide +kernel
theorem d_M_taxBy_79 : decode Y_M_taxBy.2.1 79 = .ok (.iconst 2, 1) := by decide +kernel
theorem d_M_taxBy_80 : decode Y_M_taxBy.2.1 80 = .ok (.imul, 1) := by decide +kernel
theorem d_M_taxBy_81 : decode Y_M_taxBy.2.1 81 = .ok (.istore 6, 2) := by decide +kernel
theorem d_M_taxBy_83 : decode Y_M_taxBy.2.1 83 = .ok (.iload 4, 2) := by decide +kernel
theorem d_M_taxBy_85 : decode Y_M_taxBy.2.1 85 = .ok (.iconst 2, 1) := by decide +kernel
theorem d_M_taxBy_86 : decode Y_M_taxBy.2.1 86 = .ok (.if_icmp .lt 12, 3) := by decide +kernel
theorem d_M_taxBy_89 : decode Y_M_taxBy.2.1 89 = .ok (.iload 6, 2) := by decide +kernel
theorem d_M_taxBy_91 : decode Y_M_taxBy.2.1 91 = .ok (.aload_n 0, 1) := by decide +kernel
theorem d_M_taxBy_92 : decode Y_M_taxBy.2.1 92 = .ok (.getfield 350, 3) := by decide +kernel
theorem d_M_taxBy_95 : decode Y_M_taxBy.2.1 95 = .ok (.imul, 1) := by decide +kernel
theorem d_M_taxBy_96 : decode Y_M_taxBy.2.1 96 = .ok (.istore 6, 2) := by decide +kernel
theorem d_M_taxBy_98 : decode Y_M_taxBy.2.1 98 = .ok (.iload_n 3, 1) := by decide +kernel
theorem d_M_taxBy_99 : decode Y_M_taxBy.2.1 99 = .ok (.aload_n 0, 1) := by decide +kernel
theorem d_M_taxBy_100 : decode Y_M_taxBy.2.1 100 = .ok (.getfield 341, 3) := by decide +kernel
theorem d_M_taxBy_103 : decode Y_M_taxBy.2.1 103 = .ok (.getfield 270, 3) := by decide +kernel
theorem d_M_taxBy_106 : decode Y_M_taxBy.2.1 106 = .ok (.iload_n 1, 1) := by decide +kernel
theorem d_M_taxBy_107 : decode Y_M_taxBy.2.1 107 = .ok (.iaload, 1) := by decide +kernel
theorem d_M_taxBy_108 : decode Y_M_taxBy.2.1 108 = .ok (.if_icmp .ne 9, 3) := by decide +kernel
theorem d_M_taxBy_111 : decode Y_M_taxBy.2.1 111 = .ok (.iload 6, 2) := by decide +kernel
theorem d_M_taxBy_113 : decode Y_M_taxBy.2.1 113 = .ok (.iconst 2, 1) := by decide +kernel
theorem d_M_taxBy_114 : decode Y_M_taxBy.2.1 114 = .ok (.idiv, 1) := by decide +kernel
theorem d_M_taxBy_115 : decode Y_M_taxBy.2.1 115 = .ok (.istore 6, 2) := by decide +kernel
theorem d_M_taxBy_117 : decode Y_M_taxBy.2.1 117 = .ok (.aload_n 0, 1) := by decide +kernel
theorem d_M_taxBy_118 : decode Y_M_taxBy.2.1 118 = .ok (.getfield 341, 3) := by decide +kernel
theorem d_M_taxBy_121 : decode Y_M_taxBy.2.1 121 = .ok (.getfield 268, 3) := by decide +kernel
theorem d_M_taxBy_124 : decode Y_M_taxBy.2.1 124 = .ok (.iload_n 1, 1) := by decide +kernel
theorem d_M_taxBy_125 : decode Y_M_taxBy.2.1 125 = .ok (.iaload, 1) := by decide +kernel
theorem d_M_taxBy_126 : decode Y_M_taxBy.2.1 126 = .ok (.iconst 3, 1) := by decide +kernel
theorem d_M_taxBy_127 : decode Y_M_taxBy.2.1 127 = .ok (.if_icmp .ne 10, 3) := by decide +kernel
theorem d_M_taxBy_130 : decode Y_M_taxBy.2.1 130 = .ok (.iconst 2, 1) := by decide +kernel
theorem d_M_taxBy_131 : decode Y_M_taxBy.2.1 131 = .ok (.iload 6, 2) := by decide +kernel
theorem d_M_taxBy_133 : decode Y_M_taxBy.2.1 133 = .ok (.imul, 1) := by decide +kernel
theorem d_M_taxBy_134 : decode Y_M_taxBy.2.1 134 = .ok (.goto 5, 3) := by decide +kernel
theorem d_M_taxBy_137 : decode Y_M_taxBy.2.1 137 = .ok (.iload 6, 2) := by decide +kernel
theorem d_M_taxBy_139 : decode Y_M_taxBy.2.1 139 = .ok (.ireturn, 1) := by decide +kernel
def f_M_taxBy (h : PH) (a0 : Option Nat) (a1 : Int32) (a2 : Int32) (a3 : Int32) (a4 : Int32) (a5 : Int32) : Option Int32 := if a2 = a3 then (some (0 : Int32)) else ((gR h 12 a0 3).bind fun v1 => (gR h 11 v1 11).bind fun v2 => (aI h v2 a1).bind fun v3 => if v3 = (1 : Int32) then (some (0 : Int32)) else ((gR h 12 a0 3).bind fun v4 => (gR h 11 v4 11).bind fun v5 => (aI h v5 a1).bind fun v6 => if ¬ v6 = (2 : Int32) then ((gI h 12 a0 21).bind fun v7 => (if ¬ v7 = (-1 : Int32) then ((gI h 12 a0 21).bind fun v9 => some v9) else ((gR h 12 a0 3).bind fun v10 => (cl h 11 v10 (f_ML_far h v10 a2 a3)).bind fun v11 => some v11) : Option (Int32)).bind fun j8 => (if a5 = (-1 : Int32) then (some j8) else ((gR h 12 a0 3).bind fun v13 => (gI h 11 v13 0).bind fun v14 => if v14 ≤ a5 then (some j8) else (some (j8 * (2 : Int32)))) : Option (Int32)).bind fun j12 => (if a4 < (2 : Int32) then (some j12) else ((gI h 12 a0 22).bind fun v16 => some (j12 * v16)) : Option (Int32)).bind fun j15 => (gR h 12 a0 3).bind fun v17 => (gR h 11 v17 12).bind fun v18 => (aI h v18 a1).bind fun v19 => (if ¬ a3 = v19 then (some j15) else (if (2 : Int32) = 0 then none else (some (j15 / (2 : Int32)))) : Option (Int32)).bind fun j20 => (gR h 12 a0 3).bind fun v21 => (gR h 11 v21 11).bind fun v22 => (aI h v22 a1).bind fun v23 => if ¬ v23 = (3 : Int32) then (some j20) else (some ((2 : Int32) * j20))) else (some (0 : Int32))))
set_option maxRecDepth 20000 in
theorem PM_M_taxBy {l : Launch} {G : Cx} {h : PH} {a0 : Option Nat} {a1 : Int32} {a2 : Int32} {a3 : Int32} {a4 : Int32} {a5 : Int32} {z : Int32} (hz : f_M_taxBy h a0 a1 a2 a3 a4 a5 = some z) : PM l G 2 0 0 Y_M_taxBy [.inr (.inr a0), .inl a1, .inl a2, .inl a3, .inl a4, .inl a5] h (some (.inl z), h) := by
  refine PM.of (Y := Y_M_taxBy) (cv := (fun z : Int32 => (((some (.inl z), h) : Option PV × PH)))) (by decide) (L0 := [some (.inr (.inr a0)), some (.inl a1), some (.inl a2), some (.inl a3), some (.inl a4), some (.inl a5), none]) 1 rfl (Nat.le_of_ble_eq_true rfl) ?_ hz
  unfold f_M_taxBy
  refine PJ.iload_n (pc := 0) d_M_taxBy_0 rfl ?_
  refine PJ.iload_n (pc := 1) d_M_taxBy_1 rfl ?_
  refine PJ.icmp_eq (pc := 2) (tgt := 31) d_M_taxBy_2 (by decide) (fun _ => ?_) (fun _ => ?_)
  · refine PJ.iconst (pc := 31) (v := 0) d_M_taxBy_31 (by decide) ?_
    exact PJ.iretp (pc := 32) d_M_taxBy_32 rfl (Nat.le_of_ble_eq_true rfl) (Nat.le_of_ble_eq_true rfl)
  · refine PJ.aload_n (pc := 5) d_M_taxBy_5 rfl ?_
    refine PJ.getR (pc := 6) fs_M_341 d_M_taxBy_6 (fun v1 => ?_)
    refine PJ.getR (pc := 9) fs_M_268 d_M_taxBy_9 (fun v2 => ?_)
    refine PJ.iload_n (pc := 12) d_M_taxBy_12 rfl ?_
    refine PJ.iald (pc := 13) d_M_taxBy_13 (fun v3 => ?_)
    refine PJ.iconst (pc := 14) (v := 1) d_M_taxBy_14 (by decide) ?_
    refine PJ.icmp_eq (pc := 15) (tgt := 31) d_M_taxBy_15 (by decide) (fun _ => ?_) (fun _ => ?_)
    · refine PJ.iconst (pc := 31) (v := 0) d_M_taxBy_31 (by decide) ?_
      exact PJ.iretp (pc := 32) d_M_taxBy_32 rfl (Nat.le_of_ble_eq_true rfl) (Nat.le_of_ble_eq_true rfl)
    · refine PJ.aload_n (pc := 18) d_M_taxBy_18 rfl ?_
      refine PJ.getR (pc := 19) fs_M_341 d_M_taxBy_19 (fun v4 => ?_)
      refine PJ.getR (pc := 22) fs_M_268 d_M_taxBy_22 (fun v5 => ?_)
      refine PJ.iload_n (pc := 25) d_M_taxBy_25 rfl ?_
      refine PJ.iald (pc := 26) d_M_taxBy_26 (fun v6 => ?_)
      refine PJ.iconst (pc := 27) (v := 2) d_M_taxBy_27 (by decide) ?_
      refine PJ.icmp_ne (pc := 28) (tgt := 33) d_M_taxBy_28 (by decide) (fun _ => ?_) (fun _ => ?_)
      · refine PJ.aload_n (pc := 33) d_M_taxBy_33 rfl ?_
        refine PJ.getI (pc := 34) fs_M_30 d_M_taxBy_34 (fun v7 => ?_)
        refine PJ.iconst (pc := 37) (v := -1) d_M_taxBy_37 (by decide) ?_
        refine PJ.bind (fun j8 : Int32 => ((57 : Nat), ([some (.inr (.inr a0)), some (.inl a1), none, some (.inl a3), some (.inl a4), some (.inl a5), none] : List (Option PV)), ([.inl j8] : List PV), (h : PH), (0 : Nat), (0 : Nat))) ?_ (fun j8 => ?_)
        · refine PJ.icmp_ne (pc := 38) (tgt := 53) d_M_taxBy_38 (by decide) (fun _ => ?_) (fun _ => ?_)
          · refine PJ.aload_n (pc := 53) d_M_taxBy_53 rfl ?_
            refine PJ.getI (pc := 54) fs_M_30 d_M_taxBy_54 (fun v9 => ?_)
            refine PJ.mk (L1 := [some (.inr (.inr a0)), some (.inl a1), none, some (.inl a3), some (.inl a4), some (.inl a5), none]) [true, true, false, true, true, true, false] rfl ?_
            exact PJ.done rfl
          · refine PJ.aload_n (pc := 41) d_M_taxBy_41 rfl ?_
            refine PJ.getR (pc := 42) fs_M_341 d_M_taxBy_42 (fun v10 => ?_)
            refine PJ.iload_n (pc := 45) d_M_taxBy_45 rfl ?_
            refine PJ.iload_n (pc := 46) d_M_taxBy_46 rfl ?_
            refine PJ.cVpI (pc := 47) cs_M_353 (fun z hz => PM_ML_far hz) (pj_fitb rfl) rfl rfl (Nat.le_of_ble_eq_true rfl) d_M_taxBy_47 (fun v11 => ?_)
            refine PJ.goto (pc := 50) (tgt := 57) d_M_taxBy_50 (by decide) ?_
            refine PJ.mk (L1 := [some (.inr (.inr a0)), some (.inl a1), none, some (.inl a3), some (.inl a4), some (.inl a5), none]) [true, true, false, true, true, true, false] rfl ?_
            exact PJ.done rfl
        · show PJ l G (pj_rm 2 0 0) Y_M_taxBy 57 [some (.inr (.inr a0)), some (.inl a1), none, some (.inl a3), some (.inl a4), some (.inl a5), none] [.inl j8] h 0 0 _ _
          refine PJ.istore (pc := 57) (L1 := [some (.inr (.inr a0)), some (.inl a1), none, some (.inl a3), some (.inl a4), some (.inl a5), some (.inl j8)]) d_M_taxBy_57 (Nat.le_of_ble_eq_true rfl) rfl rfl ?_
          refine PJ.iload (pc := 59) d_M_taxBy_59 rfl ?_
          refine PJ.iconst (pc := 61) (v := -1) d_M_taxBy_61 (by decide) ?_
          refine PJ.bind (fun j12 : Int32 => ((83 : Nat), ([some (.inr (.inr a0)), some (.inl a1), none, some (.inl a3), some (.inl a4), none, some (.inl j12)] : List (Option PV)), ([] : List PV), (h : PH), (0 : Nat), (0 : Nat))) ?_ (fun j12 => ?_)
          · refine PJ.icmp_eq (pc := 62) (tgt := 83) d_M_taxBy_62 (by decide) (fun _ => ?_) (fun _ => ?_)
            · refine PJ.mk (L1 := [some (.inr (.inr a0)), some (.inl a1), none, some (.inl a3), some (.inl a4), none, some (.inl j8)]) [true, true, false, true, true, false, true] rfl ?_
              exact PJ.done rfl
            · refine PJ.iload (pc := 65) d_M_taxBy_65 rfl ?_
              refine PJ.aload_n (pc := 67) d_M_taxBy_67 rfl ?_
              refine PJ.getR (pc := 68) fs_M_341 d_M_taxBy_68 (fun v13 => ?_)
              refine PJ.getI (pc := 71) fs_M_164 d_M_taxBy_71 (fun v14 => ?_)
              refine PJ.icmp_ge (pc := 74) (tgt := 83) d_M_taxBy_74 (by decide) (fun _ => ?_) (fun _ => ?_)
              · refine PJ.mk (L1 := [some (.inr (.inr a0)), some (.inl a1), none, some (.inl a3), some (.inl a4), none, some (.inl j8)]) [true, true, false, true, true, false, true] rfl ?_
                exact PJ.done rfl
              · refine PJ.iload (pc := 77) d_M_taxBy_77 rfl ?_
                refine PJ.iconst (pc := 79) (v := 2) d_M_taxBy_79 (by decide) ?_
                refine PJ.imul (pc := 80) d_M_taxBy_80 ?_
                refine PJ.istore (pc := 81) (L1 := [some (.inr (.inr a0)), some (.inl a1), none, some (.inl a3), some (.inl a4), some (.inl a5), some (.inl (j8 * (2 : Int32)))]) d_M_taxBy_81 (Nat.le_of_ble_eq_true rfl) rfl rfl ?_
                refine PJ.mk (L1 := [some (.inr (.inr a0)), some (.inl a1), none, some (.inl a3), some (.inl a4), none, some (.inl (j8 * (2 : Int32)))]) [true, true, false, true, true, false, true] rfl ?_
                exact PJ.done rfl
          · show PJ l G (pj_rm 2 0 0) Y_M_taxBy 83 [some (.inr (.inr a0)), some (.inl a1), none, some (.inl a3), some (.inl a4), none, some (.inl j12)] [] h 0 0 _ _
            refine PJ.iload (pc := 83) d_M_taxBy_83 rfl ?_
            refine PJ.iconst (pc := 85) (v := 2) d_M_taxBy_85 (by decide) ?_
            refine PJ.bind (fun j15 : Int32 => ((98 : Nat), ([some (.inr (.inr a0)), some (.inl a1), none, some (.inl a3), none, none, some (.inl j15)] : List (Option PV)), ([] : List PV), (h : PH), (0 : Nat), (0 : Nat))) ?_ (fun j15 => ?_)
            · refine PJ.icmp_lt (pc := 86) (tgt := 98) d_M_taxBy_86 (by decide) (fun _ => ?_) (fun _ => ?_)
              · refine PJ.mk (L1 := [some (.inr (.inr a0)), some (.inl a1), none, some (.inl a3), none, none, some (.inl j12)]) [true, true, false, true, false, false, true] rfl ?_
                exact PJ.done rfl
              · refine PJ.iload (pc := 89) d_M_taxBy_89 rfl ?_
                refine PJ.aload_n (pc := 91) d_M_taxBy_91 rfl ?_
                refine PJ.getI (pc := 92) fs_M_350 d_M_taxBy_92 (fun v16 => ?_)
                refine PJ.imul (pc := 95) d_M_taxBy_95 ?_
                refine PJ.istore (pc := 96) (L1 := [some (.inr (.inr a0)), some (.inl a1), none, some (.inl a3), some (.inl a4), none, some (.inl (j12 * v16))]) d_M_taxBy_96 (Nat.le_of_ble_eq_true rfl) rfl rfl ?_
                refine PJ.mk (L1 := [some (.inr (.inr a0)), some (.inl a1), none, some (.inl a3), none, none, some (.inl (j12 * v16))]) [true, true, false, true, false, false, true] rfl ?_
                exact PJ.done rfl
            · show PJ l G (pj_rm 2 0 0) Y_M_taxBy 98 [some (.inr (.inr a0)), some (.inl a1), none, some (.inl a3), none, none, some (.inl j15)] [] h 0 0 _ _
              refine PJ.iload_n (pc := 98) d_M_taxBy_98 rfl ?_
              refine PJ.aload_n (pc := 99) d_M_taxBy_99 rfl ?_
              refine PJ.getR (pc := 100) fs_M_341 d_M_taxBy_100 (fun v17 => ?_)
              refine PJ.getR (pc := 103) fs_M_270 d_M_taxBy_103 (fun v18 => ?_)
              refine PJ.iload_n (pc := 106) d_M_taxBy_106 rfl ?_
              refine PJ.iald (pc := 107) d_M_taxBy_107 (fun v19 => ?_)
              refine PJ.bind (fun j20 : Int32 => ((117 : Nat), ([some (.inr (.inr a0)), some (.inl a1), none, none, none, none, some (.inl j20)] : List (Option PV)), ([] : List PV), (h : PH), (0 : Nat), (0 : Nat))) ?_ (fun j20 => ?_)
              · refine PJ.icmp_ne (pc := 108) (tgt := 117) d_M_taxBy_108 (by decide) (fun _ => ?_) (fun _ => ?_)
                · refine PJ.mk (L1 := [some (.inr (.inr a0)), some (.inl a1), none, none, none, none, some (.inl j15)]) [true, true, false, false, false, false, true] rfl ?_
                  exact PJ.done rfl
                · refine PJ.iload (pc := 111) d_M_taxBy_111 rfl ?_
                  refine PJ.iconst (pc := 113) (v := 2) d_M_taxBy_113 (by decide) ?_
                  refine PJ.idiv (pc := 114) d_M_taxBy_114 (fun _ => ?_)
                  refine PJ.istore (pc := 115) (L1 := [some (.inr (.inr a0)), some (.inl a1), none, some (.inl a3), none, none, some (.inl (j15 / (2 : Int32)))]) d_M_taxBy_115 (Nat.le_of_ble_eq_true rfl) rfl rfl ?_
                  refine PJ.mk (L1 := [some (.inr (.inr a0)), some (.inl a1), none, none, none, none, some (.inl (j15 / (2 : Int32)))]) [true, true, false, false, false, false, true] rfl ?_
                  exact PJ.done rfl
              · show PJ l G (pj_rm 2 0 0) Y_M_taxBy 117 [some (.inr (.inr a0)), some (.inl a1), none, none, none, none, some (.inl j20)] [] h 0 0 _ _
                refine PJ.aload_n (pc := 117) d_M_taxBy_117 rfl ?_
                refine PJ.getR (pc := 118) fs_M_341 d_M_taxBy_118 (fun v21 => ?_)
                refine PJ.getR (pc := 121) fs_M_268 d_M_taxBy_121 (fun v22 => ?_)
                refine PJ.iload_n (pc := 124) d_M_taxBy_124 rfl ?_
                refine PJ.iald (pc := 125) d_M_taxBy_125 (fun v23 => ?_)
                refine PJ.iconst (pc := 126) (v := 3) d_M_taxBy_126 (by decide) ?_
                refine PJ.icmp_ne (pc := 127) (tgt := 137) d_M_taxBy_127 (by decide) (fun _ => ?_) (fun _ => ?_)
                · refine PJ.iload (pc := 137) d_M_taxBy_137 rfl ?_
                  exact PJ.iretp (pc := 139) d_M_taxBy_139 rfl (Nat.le_of_ble_eq_true rfl) (Nat.le_of_ble_eq_true rfl)
                · refine PJ.iconst (pc := 130) (v := 2) d_M_taxBy_130 (by decide) ?_
                  refine PJ.iload (pc := 131) d_M_taxBy_131 rfl ?_
                  refine PJ.imul (pc := 133) d_M_taxBy_133 ?_
                  refine PJ.goto (pc := 134) (tgt := 139) d_M_taxBy_134 (by decide) ?_
                  exact PJ.iretp (pc := 139) d_M_taxBy_139 rfl (Nat.le_of_ble_eq_true rfl) (Nat.le_of_ble_eq_true rfl)
      · refine PJ.iconst (pc := 31) (v := 0) d_M_taxBy_31 (by decide) ?_
        exact PJ.iretp (pc := 32) d_M_taxBy_32 rfl (Nat.le_of_ble_eq_true rfl) (Nat.le_of_ble_eq_true rfl)
