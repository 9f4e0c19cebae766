-- sites and methods: meth
abbrev Y_M_readLikes : MI := (⟨"WaverTaxModel", "readLikes", "()V"⟩, prog_13_method_39_code, 4, (none : Option FieldType))
abbrev Y_M_readReason : MI := (⟨"WaverTaxModel", "readReason", "()V"⟩, prog_13_method_40_code, 7, (none : Option FieldType))
abbrev Y_ML_latest : MI := (⟨"WaverTaxModel$Law", "latest", "(I)I"⟩, prog_14_method_5_code, 4, (some .int))
abbrev Y_M_readPaid : MI := (⟨"WaverTaxModel", "readPaid", "()V"⟩, prog_13_method_41_code, 4, (none : Option FieldType))
abbrev Y_M_readShop : MI := (⟨"WaverTaxModel", "readShop", "()V"⟩, prog_13_method_42_code, 4, (none : Option FieldType))
abbrev Y_M_bit : MI := (⟨"WaverTaxModel", "bit", "(II)Z"⟩, prog_13_method_10_code, 2, (some .boolean))
abbrev Y_M_readLane : MI := (⟨"WaverTaxModel", "readLane", "()V"⟩, prog_13_method_43_code, 3, (none : Option FieldType))
abbrev Y_M_readLine : MI := (⟨"WaverTaxModel", "readLine", "()V"⟩, prog_13_method_34_code, 1, (none : Option FieldType))
abbrev Y_M_eatsSemicolon : MI := (⟨"WaverTaxModel", "eatsSemicolon", "()Z"⟩, prog_13_method_22_code, 2, (some .boolean))
theorem cm_M_readTax : (Cond.code Y_M_readTax.1 Y_M_readTax.2.1 Y_M_readTax.2.2.1 Y_M_readTax.2.2.2 ∈ pj_ws) ∧ (Cond.initialized Y_M_readTax.1.cls ∈ pj_ws) ∧ (Y_M_readTax.1.cls ≠ "java/lang/invoke/MethodHandle" ∧ Y_M_readTax.1.cls ≠ "java/lang/invoke/VarHandle" ∧ (parseMethodDescriptor Y_M_readTax.1.desc).map (fun d => d.parameters.length) = some 0) ∧ (Cond.instanceMethod Y_M_readTax.1 ∈ pj_ws) ∧ (Cond.selects Y_M_readTax.1.cls Y_M_readTax.1 Y_M_readTax.1 ∈ pj_ws) := ⟨pj_mem 1645 (by decide +kernel) rfl, pj_mem 141 (by decide +kernel) rfl, ⟨by decide +kernel, by decide +kernel, by decide +kernel⟩, pj_mem 1644 (by decide +kernel) rfl, pj_mem 58 (by decide +kernel) rfl⟩
theorem cm_M_readChoice : (Cond.code Y_M_readChoice.1 Y_M_readChoice.2.1 Y_M_readChoice.2.2.1 Y_M_readChoice.2.2.2 ∈ pj_ws) ∧ (Cond.initialized Y_M_readChoice.1.cls ∈ pj_ws) ∧ (Y_M_readChoice.1.cls ≠ "java/lang/invoke/MethodHandle" ∧ Y_M_readChoice.1.cls ≠ "java/lang/invoke/VarHandle" ∧ (parseMethodDescriptor Y_M_readChoice.1.desc).map (fun d => d.parameters.length) = some 0) ∧ (Cond.instanceMethod Y_M_readChoice.1 ∈ pj_ws) ∧ (Cond.selects Y_M_readChoice.1.cls Y_M_readChoice.1 Y_M_readChoice.1 ∈ pj_ws) := ⟨pj_mem 1675 (by decide +kernel) rfl, pj_mem 141 (by decide +kernel) rfl, ⟨by decide +kernel, by decide +kernel, by decide +kernel⟩, pj_mem 1674 (by decide +kernel) rfl, pj_mem 64 (by decide +kernel) rfl⟩
theorem cm_M_readFar : (Cond.code Y_M_readFar.1 Y_M_readFar.2.1 Y_M_readFar.2.2.1 Y_M_readFar.2.2.2 ∈ pj_ws) ∧ (Cond.initialized Y_M_readFar.1.cls ∈ pj_ws) ∧ (Y_M_readFar.1.cls ≠ "java/lang/invoke/MethodHandle" ∧ Y_M_readFar.1.cls ≠ "java/lang/invoke/VarHandle" ∧ (parseMethodDescriptor Y_M_readFar.1.desc).map (fun d => d.parameters.length) = some 0) ∧ (Cond.instanceMethod Y_M_readFar.1 ∈ pj_ws) ∧ (Cond.selects Y_M_readFar.1.cls Y_M_readFar.1 Y_M_readFar.1 ∈ pj_ws) := ⟨pj_mem 1706 (by decide +kernel) rfl, pj_mem 141 (by decide +kernel) rfl, ⟨by decide +kernel, by decide +kernel, by decide +kernel⟩, pj_mem 1705 (by decide +kernel) rfl, pj_mem 69 (by decide +kernel) rfl⟩
theorem cm_M_readPerson : (Cond.code Y_M_readPerson.1 Y_M_readPerson.2.1 Y_M_readPerson.2.2.1 Y_M_readPerson.2.2.2 ∈ pj_ws) ∧ (Cond.initialized Y_M_readPerson.1.cls ∈ pj_ws) ∧ (Y_M_readPerson.1.cls ≠ "java/lang/invoke/MethodHandle" ∧ Y_M_readPerson.1.cls ≠ "java/lang/invoke/VarHandle" ∧ (parseMethodDescriptor Y_M_readPerson.1.desc).map (fun d => d.parameters.length) = some 0) ∧ (Cond.instanceMethod Y_M_readPerson.1 ∈ pj_ws) ∧ (Cond.selects Y_M_readPerson.1.cls Y_M_readPerson.1 Y_M_readPerson.1 ∈ pj_ws) := ⟨pj_mem 1719 (by decide +kernel) rfl, pj_mem 141 (by decide +kernel) rfl, ⟨by decide +kernel, by decide +kernel, by decide +kernel⟩, pj_mem 1718 (by decide +kernel) rfl, pj_mem 72 (by decide +kernel) rfl⟩
theorem cm_M_readLikes : (Cond.code Y_M_readLikes.1 Y_M_readLikes.2.1 Y_M_readLikes.2.2.1 Y_M_readLikes.2.2.2 ∈ pj_ws) ∧ (Cond.initialized Y_M_readLikes.1.cls ∈ pj_ws) ∧ (Y_M_readLikes.1.cls ≠ "java/lang/invoke/MethodHandle" ∧ Y_M_readLikes.1.cls ≠ "java/lang/invoke/VarHandle" ∧ (parseMethodDescriptor Y_M_readLikes.1.desc).map (fun d => d.parameters.length) = some 0) ∧ (Cond.instanceMethod Y_M_readLikes.1 ∈ pj_ws) ∧ (Cond.selects Y_M_readLikes.1.cls Y_M_readLikes.1 Y_M_readLikes.1 ∈ pj_ws) := ⟨pj_mem 1728 (by decide +kernel) rfl, pj_mem 141 (by decide +kernel) rfl, ⟨by decide +kernel, by decide +kernel, by decide +kernel⟩, pj_mem 1727 (by decide +kernel) rfl, pj_mem 73 (by decide +kernel) rfl⟩
theorem cm_M_readReason : (Cond.code Y_M_readReason.1 Y_M_readReason.2.1 Y_M_readReason.2.2.1 Y_M_readReason.2.2.2 ∈ pj_ws) ∧ (Cond.initialized Y_M_readReason.1.cls ∈ pj_ws) ∧ (Y_M_readReason.1.cls ≠ "java/lang/invoke/MethodHandle" ∧ Y_M_readReason.1.cls ≠ "java/lang/invoke/VarHandle" ∧ (parseMethodDescriptor Y_M_readReason.1.desc).map (fun d => d.parameters.length) = some 0) ∧ (Cond.instanceMethod Y_M_readReason.1 ∈ pj_ws) ∧ (Cond.selects Y_M_readReason.1.cls Y_M_readReason.1 Y_M_readReason.1 ∈ pj_ws) := ⟨pj_mem 1733 (by decide +kernel) rfl, pj_mem 141 (by decide +kernel) rfl, ⟨by decide +kernel, by decide +kernel, by decide +kernel⟩, pj_mem 1732 (by decide +kernel) rfl, pj_mem 74 (by decide +kernel) rfl⟩
theorem cm_M_readPaid : (Cond.code Y_M_readPaid.1 Y_M_readPaid.2.1 Y_M_readPaid.2.2.1 Y_M_readPaid.2.2.2 ∈ pj_ws) ∧ (Cond.initialized Y_M_readPaid.1.cls ∈ pj_ws) ∧ (Y_M_readPaid.1.cls ≠ "java/lang/invoke/MethodHandle" ∧ Y_M_readPaid.1.cls ≠ "java/lang/invoke/VarHandle" ∧ (parseMethodDescriptor Y_M_readPaid.1.desc).map (fun d => d.parameters.length) = some 0) ∧ (Cond.instanceMethod Y_M_readPaid.1 ∈ pj_ws) ∧ (Cond.selects Y_M_readPaid.1.cls Y_M_readPaid.1 Y_M_readPaid.1 ∈ pj_ws) := ⟨pj_mem 1740 (by decide +kernel) rfl, pj_mem 141 (by decide +kernel) rfl, ⟨by decide +kernel, by decide +kernel, by decide +kernel⟩, pj_mem 1739 (by decide +kernel) rfl, pj_mem 75 (by decide +kernel) rfl⟩
theorem cm_M_readShop : (Cond.code Y_M_readShop.1 Y_M_readShop.2.1 Y_M_readShop.2.2.1 Y_M_readShop.2.2.2 ∈ pj_ws) ∧ (Cond.initialized Y_M_readShop.1.cls ∈ pj_ws) ∧ (Y_M_readShop.1.cls ≠ "java/lang/invoke/MethodHandle" ∧ Y_M_readShop.1.cls ≠ "java/lang/invoke/VarHandle" ∧ (parseMethodDescriptor Y_M_readShop.1.desc).map (fun d => d.parameters.length) = some 0) ∧ (Cond.instanceMethod Y_M_readShop.1 ∈ pj_ws) ∧ (Cond.selects Y_M_readShop.1.cls Y_M_readShop.1 Y_M_readShop.1 ∈ pj_ws) := ⟨pj_mem 1749 (by decide +kernel) rfl, pj_mem 141 (by decide +kernel) rfl, ⟨by decide +kernel, by decide +kernel, by decide +kernel⟩, pj_mem 1748 (by decide +kernel) rfl, pj_mem 76 (by decide +kernel) rfl⟩
theorem cm_M_readLane : (Cond.code Y_M_readLane.1 Y_M_readLane.2.1 Y_M_readLane.2.2.1 Y_M_readLane.2.2.2 ∈ pj_ws) ∧ (Cond.initialized Y_M_readLane.1.cls ∈ pj_ws) ∧ (Y_M_readLane.1.cls ≠ "java/lang/invoke/MethodHandle" ∧ Y_M_readLane.1.cls ≠ "java/lang/invoke/VarHandle" ∧ (parseMethodDescriptor Y_M_readLane.1.desc).map (fun d => d.parameters.length) = some 0) ∧ (Cond.instanceMethod Y_M_readLane.1 ∈ pj_ws) ∧ (Cond.selects Y_M_readLane.1.cls Y_M_readLane.1 Y_M_readLane.1 ∈ pj_ws) := ⟨pj_mem 1754 (by decide +kernel) rfl, pj_mem 141 (by decide +kernel) rfl, ⟨by decide +kernel, by decide +kernel, by decide +kernel⟩, pj_mem 1753 (by decide +kernel) rfl, pj_mem 77 (by decide +kernel) rfl⟩
theorem cm_ML_latest : (Cond.code Y_ML_latest.1 Y_ML_latest.2.1 Y_ML_latest.2.2.1 Y_ML_latest.2.2.2 ∈ pj_ws) ∧ (Cond.initialized Y_ML_latest.1.cls ∈ pj_ws) ∧ (Y_ML_latest.1.cls ≠ "java/lang/invoke/MethodHandle" ∧ Y_ML_latest.1.cls ≠ "java/lang/invoke/VarHandle" ∧ (parseMethodDescriptor Y_ML_latest.1.desc).map (fun d => d.parameters.length) = some 1) ∧ (Cond.instanceMethod Y_ML_latest.1 ∈ pj_ws) ∧ (Cond.selects Y_ML_latest.1.cls Y_ML_latest.1 Y_ML_latest.1 ∈ pj_ws) := ⟨pj_mem 1745 (by decide +kernel) rfl, pj_mem 149 (by decide +kernel) rfl, ⟨by decide +kernel, by decide +kernel, by decide +kernel⟩, pj_mem 1743 (by decide +kernel) rfl, pj_mem 1744 (by decide +kernel) rfl⟩
theorem cm_M_bit : (Cond.code Y_M_bit.1 Y_M_bit.2.1 Y_M_bit.2.2.1 Y_M_bit.2.2.2 ∈ pj_ws) ∧ (Cond.initialized Y_M_bit.1.cls ∈ pj_ws) ∧ (Y_M_bit.1.cls ≠ "java/lang/invoke/MethodHandle" ∧ Y_M_bit.1.cls ≠ "java/lang/invoke/VarHandle" ∧ (parseMethodDescriptor Y_M_bit.1.desc).map (fun d => d.parameters.length) = some 2) ∧ (Cond.static Y_M_bit.1 ∈ pj_ws) := ⟨pj_mem 1757 (by decide +kernel) rfl, pj_mem 141 (by decide +kernel) rfl, ⟨by decide +kernel, by decide +kernel, by decide +kernel⟩, pj_mem 1756 (by decide +kernel) rfl⟩
theorem cs_M_201 : pj_cV "WaverTaxModel" 201 Y_M_readTax 0 12 := ⟨⟨cm_M_readTax.1, cm_M_readTax.2.1, cm_M_readTax.2.2.1, Or.inl (pj_mem 1642 (by decide +kernel) rfl)⟩, by decide, cm_M_readTax.2.2.2.1, cm_M_readTax.2.2.2.2, ⟨_, rfl, rfl⟩⟩
theorem cs_M_204 : pj_cV "WaverTaxModel" 204 Y_M_readChoice 0 12 := ⟨⟨cm_M_readChoice.1, cm_M_readChoice.2.1, cm_M_readChoice.2.2.1, Or.inl (pj_mem 1672 (by decide +kernel) rfl)⟩, by decide, cm_M_readChoice.2.2.2.1, cm_M_readChoice.2.2.2.2, ⟨_, rfl, rfl⟩⟩
theorem cs_M_207 : pj_cV "WaverTaxModel" 207 Y_M_readFar 0 12 := ⟨⟨cm_M_readFar.1, cm_M_readFar.2.1, cm_M_readFar.2.2.1, Or.inl (pj_mem 1703 (by decide +kernel) rfl)⟩, by decide, cm_M_readFar.2.2.2.1, cm_M_readFar.2.2.2.2, ⟨_, rfl, rfl⟩⟩
theorem cs_M_210 : pj_cV "WaverTaxModel" 210 Y_M_readPerson 0 12 := ⟨⟨cm_M_readPerson.1, cm_M_readPerson.2.1, cm_M_readPerson.2.2.1, Or.inl (pj_mem 1716 (by decide +kernel) rfl)⟩, by decide, cm_M_readPerson.2.2.2.1, cm_M_readPerson.2.2.2.2, ⟨_, rfl, rfl⟩⟩
theorem cs_M_213 : pj_cV "WaverTaxModel" 213 Y_M_readLikes 0 12 := ⟨⟨cm_M_readLikes.1, cm_M_readLikes.2.1, cm_M_readLikes.2.2.1, Or.inl (pj_mem 1725 (by decide +kernel) rfl)⟩, by decide, cm_M_readLikes.2.2.2.1, cm_M_readLikes.2.2.2.2, ⟨_, rfl, rfl⟩⟩
theorem cs_M_216 : pj_cV "WaverTaxModel" 216 Y_M_readReason 0 12 := ⟨⟨cm_M_readReason.1, cm_M_readReason.2.1, cm_M_readReason.2.2.1, Or.inl (pj_mem 1730 (by decide +kernel) rfl)⟩, by decide, cm_M_readReason.2.2.2.1, cm_M_readReason.2.2.2.2, ⟨_, rfl, rfl⟩⟩
theorem cs_M_219 : pj_cV "WaverTaxModel" 219 Y_M_readPaid 0 12 := ⟨⟨cm_M_readPaid.1, cm_M_readPaid.2.1, cm_M_readPaid.2.2.1, Or.inl (pj_mem 1737 (by decide +kernel) rfl)⟩, by decide, cm_M_readPaid.2.2.2.1, cm_M_readPaid.2.2.2.2, ⟨_, rfl, rfl⟩⟩
theorem cs_M_222 : pj_cV "WaverTaxModel" 222 Y_M_readShop 0 12 := ⟨⟨cm_M_readShop.1, cm_M_readShop.2.1, cm_M_readShop.2.2.1, Or.inl (pj_mem 1746 (by decide +kernel) rfl)⟩, by decide, cm_M_readShop.2.2.2.1, cm_M_readShop.2.2.2.2, ⟨_, rfl, rfl⟩⟩
theorem cs_M_225 : pj_cV "WaverTaxModel" 225 Y_M_readLane 0 12 := ⟨⟨cm_M_readLane.1, cm_M_readLane.2.1, cm_M_readLane.2.2.1, Or.inl (pj_mem 1751 (by decide +kernel) rfl)⟩, by decide, cm_M_readLane.2.2.2.1, cm_M_readLane.2.2.2.2, ⟨_, rfl, rfl⟩⟩
theorem cs_M_306 : pj_cV "WaverTaxModel" 306 Y_ML_latest 1 11 := ⟨⟨cm_ML_latest.1, cm_ML_latest.2.1, cm_ML_latest.2.2.1, Or.inl (pj_mem 1742 (by decide +kernel) rfl)⟩, by decide, cm_ML_latest.2.2.2.1, cm_ML_latest.2.2.2.2, ⟨_, rfl, rfl⟩⟩
theorem cs_M_330 : pj_cS "WaverTaxModel" 330 Y_M_bit 2 := ⟨⟨cm_M_bit.1, cm_M_bit.2.1, cm_M_bit.2.2.1, Or.inl (pj_mem 1755 (by decide +kernel) rfl)⟩, cm_M_bit.2.2.2⟩
theorem fs_ML_43 : pj_fs "WaverTaxModel$Law" 11 19 43 (.array (.int)) := ⟨_, _, _, _, cd_11, by decide, rfl, Or.inl (pj_mem 1538 (by decide +kernel) rfl)⟩
theorem fs_ML_49 : pj_fs "WaverTaxModel$Law" 11 21 49 (.array (.int)) := ⟨_, _, _, _, cd_11, by decide, rfl, Or.inl (pj_mem 1542 (by decide +kernel) rfl)⟩
theorem fs_ML_71 : pj_fs "WaverTaxModel$Law" 11 6 71 (.int) := ⟨_, _, _, _, cd_11, by decide, rfl, Or.inl (pj_mem 1514 (by decide +kernel) rfl)⟩
theorem fs_M_273 : pj_fs "WaverTaxModel" 11 4 273 (.int) := ⟨_, _, _, _, cd_11, by decide, rfl, Or.inr ⟨_, List.mem_of_getElem? (i := 12) rfl⟩⟩
theorem fs_M_276 : pj_fs "WaverTaxModel" 11 13 276 (.array (.int)) := ⟨_, _, _, _, cd_11, by decide, rfl, Or.inr ⟨_, List.mem_of_getElem? (i := 21) rfl⟩⟩
theorem fs_M_280 : pj_fs "WaverTaxModel" 11 5 280 (.int) := ⟨_, _, _, _, cd_11, by decide, rfl, Or.inr ⟨_, List.mem_of_getElem? (i := 13) rfl⟩⟩
theorem fs_M_289 : pj_fs "WaverTaxModel" 11 14 289 (.array (.int)) := ⟨_, _, _, _, cd_11, by decide, rfl, Or.inr ⟨_, List.mem_of_getElem? (i := 22) rfl⟩⟩
theorem fs_M_292 : pj_fs "WaverTaxModel" 11 15 292 (.array (.int)) := ⟨_, _, _, _, cd_11, by decide, rfl, Or.inr ⟨_, List.mem_of_getElem? (i := 23) rfl⟩⟩
theorem fs_M_295 : pj_fs "WaverTaxModel" 11 16 295 (.array (.int)) := ⟨_, _, _, _, cd_11, by decide, rfl, Or.inr ⟨_, List.mem_of_getElem? (i := 24) rfl⟩⟩
theorem fs_M_298 : pj_fs "WaverTaxModel" 11 17 298 (.array (.int)) := ⟨_, _, _, _, cd_11, by decide, rfl, Or.inr ⟨_, List.mem_of_getElem? (i := 25) rfl⟩⟩
theorem fs_M_300 : pj_fs "WaverTaxModel" 11 18 300 (.array (.int)) := ⟨_, _, _, _, cd_11, by decide, rfl, Or.inr ⟨_, List.mem_of_getElem? (i := 26) rfl⟩⟩
theorem fs_M_302 : pj_fs "WaverTaxModel" 11 6 302 (.int) := ⟨_, _, _, _, cd_11, by decide, rfl, Or.inr ⟨_, List.mem_of_getElem? (i := 14) rfl⟩⟩
theorem fs_M_309 : pj_fs "WaverTaxModel" 11 19 309 (.array (.int)) := ⟨_, _, _, _, cd_11, by decide, rfl, Or.inr ⟨_, List.mem_of_getElem? (i := 27) rfl⟩⟩
theorem fs_M_312 : pj_fs "WaverTaxModel" 11 20 312 (.array (.int)) := ⟨_, _, _, _, cd_11, by decide, rfl, Or.inr ⟨_, List.mem_of_getElem? (i := 28) rfl⟩⟩
theorem fs_M_315 : pj_fs "WaverTaxModel" 11 21 315 (.array (.int)) := ⟨_, _, _, _, cd_11, by decide, rfl, Or.inr ⟨_, List.mem_of_getElem? (i := 29) rfl⟩⟩
theorem fs_M_318 : pj_fs "WaverTaxModel" 11 7 318 (.int) := ⟨_, _, _, _, cd_11, by decide, rfl, Or.inr ⟨_, List.mem_of_getElem? (i := 15) rfl⟩⟩
theorem fs_M_323 : pj_fs "WaverTaxModel" 11 22 323 (.array (.int)) := ⟨_, _, _, _, cd_11, by decide, rfl, Or.inr ⟨_, List.mem_of_getElem? (i := 30) rfl⟩⟩
theorem fs_M_325 : pj_fs "WaverTaxModel" 11 23 325 (.array (.int)) := ⟨_, _, _, _, cd_11, by decide, rfl, Or.inr ⟨_, List.mem_of_getElem? (i := 31) rfl⟩⟩
theorem fs_M_327 : pj_fs "WaverTaxModel" 11 8 327 (.int) := ⟨_, _, _, _, cd_11, by decide, rfl, Or.inr ⟨_, List.mem_of_getElem? (i := 16) rfl⟩⟩
theorem ps_M_273 {mn : String} : pj_ps "WaverTaxModel" mn 11 4 273 (.int) := ⟨_, _, _, _, cd_11, by decide, rfl, Or.inl ⟨rfl, Or.inr ⟨_, List.mem_of_getElem? (i := 12) rfl⟩⟩⟩
theorem ps_M_280 {mn : String} : pj_ps "WaverTaxModel" mn 11 5 280 (.int) := ⟨_, _, _, _, cd_11, by decide, rfl, Or.inl ⟨rfl, Or.inr ⟨_, List.mem_of_getElem? (i := 13) rfl⟩⟩⟩
theorem ps_M_302 {mn : String} : pj_ps "WaverTaxModel" mn 11 6 302 (.int) := ⟨_, _, _, _, cd_11, by decide, rfl, Or.inl ⟨rfl, Or.inr ⟨_, List.mem_of_getElem? (i := 14) rfl⟩⟩⟩
theorem ps_M_318 {mn : String} : pj_ps "WaverTaxModel" mn 11 7 318 (.int) := ⟨_, _, _, _, cd_11, by decide, rfl, Or.inl ⟨rfl, Or.inr ⟨_, List.mem_of_getElem? (i := 15) rfl⟩⟩⟩
theorem ps_M_327 {mn : String} : pj_ps "WaverTaxModel" mn 11 8 327 (.int) := ⟨_, _, _, _, cd_11, by decide, rfl, Or.inl ⟨rfl, Or.inr ⟨_, List.mem_of_getElem? (i := 16) rfl⟩⟩⟩
theorem d_M_readLikes_0 : decode Y_M_readLikes.2.1 0 = .ok (.aload_n 0, 1) := by decide +kernel
theorem d_M_readLikes_1 : decode Y_M_readLikes.2.1 1 = .ok (.aload_n 0, 1) := by decide +kernel
theorem d_M_readLikes_2 : decode Y_M_readLikes.2.1 2 = .ok (.getfield 160, 3) := by decide +kernel
theorem d_M_readLikes_5 : decode Y_M_readLikes.2.1 5 = .ok (.getfield 273, 3) := by decide +kernel
theorem d_M_readLikes_8 : decode Y_M_readLikes.2.1 8 = .ok (.bipush 12, 2) := by decide +kernel
theorem d_M_readLikes_10 : decode Y_M_readLikes.2.1 10 = .ok (.invokevirtual 237, 3) := by decide +kernel
theorem d_M_readLikes_13 : decode Y_M_readLikes.2.1 13 = .ok (.aload_n 0, 1) := by decide +kernel
theorem d_M_readLikes_14 : decode Y_M_readLikes.2.1 14 = .ok (.iconst 1, 1) := by decide +kernel
theorem d_M_readLikes_15 : decode Y_M_readLikes.2.1 15 = .ok (.invokevirtual 248, 3) := by decide +kernel
theorem d_M_readLikes_18 : decode Y_M_readLikes.2.1 18 = .ok (.istore_n 1, 1) := by decide +kernel
theorem d_M_readLikes_19 : decode Y_M_readLikes.2.1 19 = .ok (.aload_n 0, 1) := by decide +kernel
theorem d_M_readLikes_20 : decode Y_M_readLikes.2.1 20 = .ok (.iconst 0, 1) := by decide +kernel
theorem d_M_readLikes_21 : decode Y_M_readLikes.2.1 21 = .ok (.invokevirtual 189, 3) := by decide +kernel
theorem d_M_readLikes_24 : decode Y_M_readLikes.2.1 24 = .ok (.istore_n 2, 1) := by decide +kernel
theorem d_M_readLikes_25 : decode Y_M_readLikes.2.1 25 = .ok (.aload_n 0, 1) := by decide +kernel
theorem d_M_readLikes_26 : decode Y_M_readLikes.2.1 26 = .ok (.getfield 80, 3) := by decide +kernel
theorem d_M_readLikes_29 : decode Y_M_readLikes.2.1 29 = .ok (.iconst 5, 1) := by decide +kernel
theorem d_M_readLikes_30 : decode Y_M_readLikes.2.1 30 = .ok (.if_icmp .eq 25, 3) := by decide +kernel
theorem d_M_readLikes_33 : decode Y_M_readLikes.2.1 33 = .ok (.aload_n 0, 1) := by decide +kernel
theorem d_M_readLikes_34 : decode Y_M_readLikes.2.1 34 = .ok (.getfield 160, 3) := by decide +kernel
theorem d_M_readLikes_37 : decode Y_M_readLikes.2.1 37 = .ok (.getfield 276, 3) := by decide +kernel
theorem d_M_readLikes_40 : decode Y_M_readLikes.2.1 40 = .ok (.iconst 5, 1) := by decide +kernel
theorem d_M_readLikes_41 : decode Y_M_readLikes.2.1 41 = .ok (.iload_n 1, 1) := by decide +kernel
theorem d_M_readLikes_42 : decode Y_M_readLikes.2.1 42 = .ok (.imul, 1) := by decide +kernel
theorem d_M_readLikes_43 : decode Y_M_readLikes.2.1 43 = .ok (.iload_n 2, 1) := by decide +kernel
theorem d_M_readLikes_44 : decode Y_M_readLikes.2.1 44 = .ok (.iadd, 1) := by decide +kernel
theorem d_M_readLikes_45 : decode Y_M_readLikes.2.1 45 = .ok (.iaload, 1) := by decide +kernel
theorem d_M_readLikes_46 : decode Y_M_readLikes.2.1 46 = .ok (.iconst (-1), 1) := by decide +kernel
theorem d_M_readLikes_47 : decode Y_M_readLikes.2.1 47 = .ok (.if_icmp .eq 8, 3) := by decide +kernel
theorem d_M_readLikes_50 : decode Y_M_readLikes.2.1 50 = .ok (.aload_n 0, 1) := by decide +kernel
theorem d_M_readLikes_51 : decode Y_M_readLikes.2.1 51 = .ok (.iconst 3, 1) := by decide +kernel
theorem d_M_readLikes_52 : decode Y_M_readLikes.2.1 52 = .ok (.invokevirtual 123, 3) := by decide +kernel
theorem d_M_readLikes_55 : decode Y_M_readLikes.2.1 55 = .ok (.aload_n 0, 1) := by decide +kernel
theorem d_M_readLikes_56 : decode Y_M_readLikes.2.1 56 = .ok (.invokevirtual 116, 3) := by decide +kernel
theorem d_M_readLikes_59 : decode Y_M_readLikes.2.1 59 = .ok (.aload_n 0, 1) := by decide +kernel
theorem d_M_readLikes_60 : decode Y_M_readLikes.2.1 60 = .ok (.ldc_w 278, 3) := by decide +kernel
theorem d_M_readLikes_63 : decode Y_M_readLikes.2.1 63 = .ok (.iconst 0, 1) := by decide +kernel
theorem d_M_readLikes_64 : decode Y_M_readLikes.2.1 64 = .ok (.bipush 99, 2) := by decide +kernel
theorem d_M_readLikes_66 : decode Y_M_readLikes.2.1 66 = .ok (.invokevirtual 229, 3) := by decide +kernel
theorem d_M_readLikes_69 : decode Y_M_readLikes.2.1 69 = .ok (.istore_n 3, 1) := by decide +kernel
theorem d_M_readLikes_70 : decode Y_M_readLikes.2.1 70 = .ok (.aload_n 0, 1) := by decide +kernel
theorem d_M_readLikes_71 : decode Y_M_readLikes.2.1 71 = .ok (.getfield 80, 3) := by decide +kernel
theorem d_M_readLikes_74 : decode Y_M_readLikes.2.1 74 = .ok (.iconst 5, 1) := by decide +kernel
theorem d_M_readLikes_75 : decode Y_M_readLikes.2.1 75 = .ok (.if_icmp .ne 4, 3) := by decide +kernel
theorem d_M_readLikes_78 : decode Y_M_readLikes.2.1 78 = .ok (.return_, 1) := by decide +kernel
theorem d_M_readLikes_79 : decode Y_M_readLikes.2.1 79 = .ok (.aload_n 0, 1) := by decide +kernel
theorem d_M_readLikes_80 : decode Y_M_readLikes.2.1 80 = .ok (.getfield 160, 3) := by decide +kernel
theorem d_M_readLikes_83 : decode Y_M_readLikes.2.1 83 = .ok (.getfield 276, 3) := by decide +kernel
theorem d_M_readLikes_86 : decode Y_M_readLikes.2.1 86 = .ok (.iconst 5, 1) := by decide +kernel
theorem d_M_readLikes_87 : decode Y_M_readLikes.2.1 87 = .ok (.iload_n 1, 1) := by decide +kernel
theorem d_M_readLikes_88 : decode Y_M_readLikes.2.1 88 = .ok (.imul, 1) := by decide +kernel
theorem d_M_readLikes_89 : decode Y_M_readLikes.2.1 89 = .ok (.iload_n 2, 1) := by decide +kernel
theorem d_M_readLikes_90 : decode Y_M_readLikes.2.1 90 = .ok (.iadd, 1) := by decide +kernel
theorem d_M_readLikes_91 : decode Y_M_readLikes.2.1 91 = .ok (.iload_n 3, 1) := by decide +kernel
theorem d_M_readLikes_92 : decode Y_M_readLikes.2.1 92 = .ok (.iastore, 1) := by decide +kernel
theorem d_M_readLikes_93 : decode Y_M_readLikes.2.1 93 = .ok (.aload_n 0, 1) := by decide +kernel
theorem d_M_readLikes_94 : decode Y_M_readLikes.2.1 94 = .ok (.getfield 160, 3) := by decide +kernel
theorem d_M_readLikes_97 : decode Y_M_readLikes.2.1 97 = .ok (.dup, 1) := by decide +kernel
theorem d_M_readLikes_98 : decode Y_M_readLikes.2.1 98 = .ok (.getfield 273, 3) := by decide +kernel
theorem d_M_readLikes_101 : decode Y_M_readLikes.2.1 101 = .ok (.iconst 1, 1) := by decide +kernel
theorem d_M_readLikes_102 : decode Y_M_readLikes.2.1 102 = .ok (.iadd, 1) := by decide +kernel
theorem d_M_readLikes_103 : decode Y_M_readLikes.2.1 103 = .ok (.putfield 273, 3) := by decide +kernel
theorem d_M_readLikes_106 : decode Y_M_readLikes.2.1 106 = .ok (.return_, 1) := by decide +kernel
def f_M_readLikes (h : PH) (a0 : Option Nat) : Option PH := (gR h 12 a0 4).bind fun v1 => (gI h 11 v1 4).bind fun v2 => (cl h 12 a0 (f_M_lineBegins h a0 v2 (12 : Int32))).bind fun h3 => (cl h3 12 a0 (f_M_readKnown h3 a0 (1 : Int32))).bind fun v4 => (cl v4.2 12 a0 (f_M_knownOne v4.2 a0 (0 : Int32))).bind fun v5 => (gI v5.2 12 a0 9).bind fun v6 => (if v6 = (5 : Int32) then (some v5.2) else ((gR v5.2 12 a0 4).bind fun v8 => (gR v5.2 11 v8 13).bind fun v9 => (aI v5.2 v9 (((5 : Int32) * v4.1) + v5.1)).bind fun v10 => if v10 = (-1 : Int32) then (some v5.2) else ((cl v5.2 12 a0 (f_M_flaw v5.2 a0 (3 : Int32))).bind fun h11 => some h11)) : Option (PH)).bind fun j7 => (cl j7 12 a0 (f_M_goesOn j7 a0)).bind fun h12 => (cl h12 12 a0 (f_M_readPart h12 a0 (some 17) (0 : Int32) (99 : Int32))).bind fun v13 => (gI v13.2 12 a0 9).bind fun v14 => if ¬ v14 = (5 : Int32) then ((gR v13.2 12 a0 4).bind fun v15 => (gR v13.2 11 v15 13).bind fun v16 => (sA v13.2 50 v16 (((5 : Int32) * v4.1) + v5.1) (.inl v13.1)).bind fun h17 => (gR h17 12 a0 4).bind fun v18 => (gI h17 11 v18 4).bind fun v19 => (sF h17 11 v18 4 (.inl (v19 + (1 : Int32)))).bind fun h20 => some h20) else (some v13.2)
set_option maxRecDepth 20000 in
theorem PM_M_readLikes {l : Launch} {G : Cx} {h : PH} {a0 : Option Nat} {z : PH} (hz : f_M_readLikes h a0 = some z) : PM l G 12 0 0 Y_M_readLikes [.inr (.inr a0)] h (none, z) := by
  refine PM.of (Y := Y_M_readLikes) (cv := (fun z : PH => (((none, z) : Option PV × PH)))) (by decide) (L0 := [some (.inr (.inr a0)), none, none, none]) 3 rfl (Nat.le_of_ble_eq_true rfl) ?_ hz
  unfold f_M_readLikes
  refine PJ.aload_n (pc := 0) d_M_readLikes_0 rfl ?_
  refine PJ.aload_n (pc := 1) d_M_readLikes_1 rfl ?_
  refine PJ.getR (pc := 2) fs_M_160 d_M_readLikes_2 (fun v1 => ?_)
  refine PJ.getI (pc := 5) fs_M_273 d_M_readLikes_5 (fun v2 => ?_)
  refine PJ.bipush (pc := 8) (v := 12) d_M_readLikes_8 (by decide) ?_
  refine PJ.cVV (pc := 10) cs_M_237 (fun z hz => PM_M_lineBegins hz) (pj_fitb rfl) rfl rfl (Nat.le_of_ble_eq_true rfl) d_M_readLikes_10 (fun h3 => ?_)
  refine PJ.aload_n (pc := 13) d_M_readLikes_13 rfl ?_
  refine PJ.iconst (pc := 14) (v := 1) d_M_readLikes_14 (by decide) ?_
  refine PJ.cVI (pc := 15) cs_M_248 (fun z hz => PM_M_readKnown hz) (pj_fitb rfl) rfl rfl (Nat.le_of_ble_eq_true rfl) d_M_readLikes_15 (fun v4 => ?_)
  refine PJ.istore_n (pc := 18) (L1 := [some (.inr (.inr a0)), some (.inl v4.1), none, none]) d_M_readLikes_18 (Nat.le_of_ble_eq_true rfl) rfl rfl ?_
  refine PJ.aload_n (pc := 19) d_M_readLikes_19 rfl ?_
  refine PJ.iconst (pc := 20) (v := 0) d_M_readLikes_20 (by decide) ?_
  refine PJ.cVI (pc := 21) cs_M_189 (fun z hz => PM_M_knownOne hz) (pj_fitb rfl) rfl rfl (Nat.le_of_ble_eq_true rfl) d_M_readLikes_21 (fun v5 => ?_)
  refine PJ.istore_n (pc := 24) (L1 := [some (.inr (.inr a0)), some (.inl v4.1), some (.inl v5.1), none]) d_M_readLikes_24 (Nat.le_of_ble_eq_true rfl) rfl rfl ?_
  refine PJ.aload_n (pc := 25) d_M_readLikes_25 rfl ?_
  refine PJ.getI (pc := 26) fs_M_80 d_M_readLikes_26 (fun v6 => ?_)
  refine PJ.iconst (pc := 29) (v := 5) d_M_readLikes_29 (by decide) ?_
  refine PJ.bind (fun j7 : PH => ((55 : Nat), ([some (.inr (.inr a0)), some (.inl v4.1), some (.inl v5.1), none] : List (Option PV)), ([] : List PV), (j7 : PH), (0 : Nat), (0 : Nat))) ?_ (fun j7 => ?_)
  · refine PJ.icmp_eq (pc := 30) (tgt := 55) d_M_readLikes_30 (by decide) (fun _ => ?_) (fun _ => ?_)
    · exact PJ.done rfl
    · refine PJ.aload_n (pc := 33) d_M_readLikes_33 rfl ?_
      refine PJ.getR (pc := 34) fs_M_160 d_M_readLikes_34 (fun v8 => ?_)
      refine PJ.getR (pc := 37) fs_M_276 d_M_readLikes_37 (fun v9 => ?_)
      refine PJ.iconst (pc := 40) (v := 5) d_M_readLikes_40 (by decide) ?_
      refine PJ.iload_n (pc := 41) d_M_readLikes_41 rfl ?_
      refine PJ.imul (pc := 42) d_M_readLikes_42 ?_
      refine PJ.iload_n (pc := 43) d_M_readLikes_43 rfl ?_
      refine PJ.iadd (pc := 44) d_M_readLikes_44 ?_
      refine PJ.iald (pc := 45) d_M_readLikes_45 (fun v10 => ?_)
      refine PJ.iconst (pc := 46) (v := -1) d_M_readLikes_46 (by decide) ?_
      refine PJ.icmp_eq (pc := 47) (tgt := 55) d_M_readLikes_47 (by decide) (fun _ => ?_) (fun _ => ?_)
      · exact PJ.done rfl
      · refine PJ.aload_n (pc := 50) d_M_readLikes_50 rfl ?_
        refine PJ.iconst (pc := 51) (v := 3) d_M_readLikes_51 (by decide) ?_
        refine PJ.cVV (pc := 52) cs_M_123 (fun z hz => PM_M_flaw hz) (pj_fitb rfl) rfl rfl (Nat.le_of_ble_eq_true rfl) d_M_readLikes_52 (fun h11 => ?_)
        exact PJ.done rfl
  · show PJ l G (pj_rm 12 0 0) Y_M_readLikes 55 [some (.inr (.inr a0)), some (.inl v4.1), some (.inl v5.1), none] [] j7 0 0 _ _
    refine PJ.aload_n (pc := 55) d_M_readLikes_55 rfl ?_
    refine PJ.cVV (pc := 56) cs_M_116 (fun z hz => PM_M_goesOn hz) (pj_fitb rfl) rfl rfl (Nat.le_of_ble_eq_true rfl) d_M_readLikes_56 (fun h12 => ?_)
    refine PJ.aload_n (pc := 59) d_M_readLikes_59 rfl ?_
    refine PJ.ldcwS (pc := 60) (i := 17) d_M_readLikes_60 (by decide) (List.mem_of_getElem? (i := 41) rfl) ?_
    refine PJ.iconst (pc := 63) (v := 0) d_M_readLikes_63 (by decide) ?_
    refine PJ.bipush (pc := 64) (v := 99) d_M_readLikes_64 (by decide) ?_
    refine PJ.cVI (pc := 66) cs_M_229 (fun z hz => PM_M_readPart hz) (pj_fitb rfl) rfl rfl (Nat.le_of_ble_eq_true rfl) d_M_readLikes_66 (fun v13 => ?_)
    refine PJ.istore_n (pc := 69) (L1 := [some (.inr (.inr a0)), some (.inl v4.1), some (.inl v5.1), some (.inl v13.1)]) d_M_readLikes_69 (Nat.le_of_ble_eq_true rfl) rfl rfl ?_
    refine PJ.aload_n (pc := 70) d_M_readLikes_70 rfl ?_
    refine PJ.getI (pc := 71) fs_M_80 d_M_readLikes_71 (fun v14 => ?_)
    refine PJ.iconst (pc := 74) (v := 5) d_M_readLikes_74 (by decide) ?_
    refine PJ.icmp_ne (pc := 75) (tgt := 79) d_M_readLikes_75 (by decide) (fun _ => ?_) (fun _ => ?_)
    · refine PJ.aload_n (pc := 79) d_M_readLikes_79 rfl ?_
      refine PJ.getR (pc := 80) fs_M_160 d_M_readLikes_80 (fun v15 => ?_)
      refine PJ.getR (pc := 83) fs_M_276 d_M_readLikes_83 (fun v16 => ?_)
      refine PJ.iconst (pc := 86) (v := 5) d_M_readLikes_86 (by decide) ?_
      refine PJ.iload_n (pc := 87) d_M_readLikes_87 rfl ?_
      refine PJ.imul (pc := 88) d_M_readLikes_88 ?_
      refine PJ.iload_n (pc := 89) d_M_readLikes_89 rfl ?_
      refine PJ.iadd (pc := 90) d_M_readLikes_90 ?_
      refine PJ.iload_n (pc := 91) d_M_readLikes_91 rfl ?_
      refine PJ.iast (pc := 92) d_M_readLikes_92 (fun h17 => ?_)
      refine PJ.aload_n (pc := 93) d_M_readLikes_93 rfl ?_
      refine PJ.getR (pc := 94) fs_M_160 d_M_readLikes_94 (fun v18 => ?_)
      refine PJ.dup (pc := 97) d_M_readLikes_97 rfl ?_
      refine PJ.getI (pc := 98) fs_M_273 d_M_readLikes_98 (fun v19 => ?_)
      refine PJ.iconst (pc := 101) (v := 1) d_M_readLikes_101 (by decide) ?_
      refine PJ.iadd (pc := 102) d_M_readLikes_102 ?_
      refine PJ.putI (pc := 103) ps_M_273 d_M_readLikes_103 (fun h20 => ?_)
      exact PJ.vret (pc := 106) d_M_readLikes_106 rfl (Nat.le_of_ble_eq_true rfl) (Nat.le_of_ble_eq_true rfl)
    · exact PJ.vret (pc := 78) d_M_readLikes_78 rfl (Nat.le_of_ble_eq_true rfl) (Nat.le_of_ble_eq_true rfl)
theorem d_M_readReason_0 : decode Y_M_readReason.2.1 0 = .ok (.aload_n 0, 1) := by decide +kernel
theorem d_M_readReason_1 : decode Y_M_readReason.2.1 1 = .ok (.aload_n 0, 1) := by decide +kernel
theorem d_M_readReason_2 : decode Y_M_readReason.2.1 2 = .ok (.getfield 160, 3) := by decide +kernel
theorem d_M_readReason_5 : decode Y_M_readReason.2.1 5 = .ok (.getfield 280, 3) := by decide +kernel
theorem d_M_readReason_8 : decode Y_M_readReason.2.1 8 = .ok (.iconst 4, 1) := by decide +kernel
theorem d_M_readReason_9 : decode Y_M_readReason.2.1 9 = .ok (.invokevirtual 237, 3) := by decide +kernel
theorem d_M_readReason_12 : decode Y_M_readReason.2.1 12 = .ok (.aload_n 0, 1) := by decide +kernel
theorem d_M_readReason_13 : decode Y_M_readReason.2.1 13 = .ok (.iconst 1, 1) := by decide +kernel
theorem d_M_readReason_14 : decode Y_M_readReason.2.1 14 = .ok (.invokevirtual 248, 3) := by decide +kernel
theorem d_M_readReason_17 : decode Y_M_readReason.2.1 17 = .ok (.istore_n 1, 1) := by decide +kernel
theorem d_M_readReason_18 : decode Y_M_readReason.2.1 18 = .ok (.aload_n 0, 1) := by decide +kernel
theorem d_M_readReason_19 : decode Y_M_readReason.2.1 19 = .ok (.iconst 0, 1) := by decide +kernel
theorem d_M_readReason_20 : decode Y_M_readReason.2.1 20 = .ok (.invokevirtual 248, 3) := by decide +kernel
theorem d_M_readReason_23 : decode Y_M_readReason.2.1 23 = .ok (.istore_n 2, 1) := by decide +kernel
theorem d_M_readReason_24 : decode Y_M_readReason.2.1 24 = .ok (.aload_n 0, 1) := by decide +kernel
theorem d_M_readReason_25 : decode Y_M_readReason.2.1 25 = .ok (.ldc_w 283, 3) := by decide +kernel
theorem d_M_readReason_28 : decode Y_M_readReason.2.1 28 = .ok (.iconst 1, 1) := by decide +kernel
theorem d_M_readReason_29 : decode Y_M_readReason.2.1 29 = .ok (.bipush 12, 2) := by decide +kernel
theorem d_M_readReason_31 : decode Y_M_readReason.2.1 31 = .ok (.invokevirtual 229, 3) := by decide +kernel
theorem d_M_readReason_34 : decode Y_M_readReason.2.1 34 = .ok (.istore_n 3, 1) := by decide +kernel
theorem d_M_readReason_35 : decode Y_M_readReason.2.1 35 = .ok (.aload_n 0, 1) := by decide +kernel
theorem d_M_readReason_36 : decode Y_M_readReason.2.1 36 = .ok (.ldc_w 285, 3) := by decide +kernel
theorem d_M_readReason_39 : decode Y_M_readReason.2.1 39 = .ok (.iconst 0, 1) := by decide +kernel
theorem d_M_readReason_40 : decode Y_M_readReason.2.1 40 = .ok (.bipush 100, 2) := by decide +kernel
theorem d_M_readReason_42 : decode Y_M_readReason.2.1 42 = .ok (.invokevirtual 229, 3) := by decide +kernel
theorem d_M_readReason_45 : decode Y_M_readReason.2.1 45 = .ok (.istore 4, 2) := by decide +kernel
theorem d_M_readReason_47 : decode Y_M_readReason.2.1 47 = .ok (.aload_n 0, 1) := by decide +kernel
theorem d_M_readReason_48 : decode Y_M_readReason.2.1 48 = .ok (.ldc_w 287, 3) := by decide +kernel
theorem d_M_readReason_51 : decode Y_M_readReason.2.1 51 = .ok (.iconst 1, 1) := by decide +kernel
theorem d_M_readReason_52 : decode Y_M_readReason.2.1 52 = .ok (.bipush 50, 2) := by decide +kernel
theorem d_M_readReason_54 : decode Y_M_readReason.2.1 54 = .ok (.invokevirtual 229, 3) := by decide +kernel
theorem d_M_readReason_57 : decode Y_M_readReason.2.1 57 = .ok (.istore 5, 2) := by decide +kernel
theorem d_M_readReason_59 : decode Y_M_readReason.2.1 59 = .ok (.aload_n 0, 1) := by decide +kernel
theorem d_M_readReason_60 : decode Y_M_readReason.2.1 60 = .ok (.getfield 80, 3) := by decide +kernel
theorem d_M_readReason_63 : decode Y_M_readReason.2.1 63 = .ok (.iconst 5, 1) := by decide +kernel
theorem d_M_readReason_64 : decode Y_M_readReason.2.1 64 = .ok (.if_icmp .ne 4, 3) := by decide +kernel
theorem d_M_readReason_67 : decode Y_M_readReason.2.1 67 = .ok (.return_, 1) := by decide +kernel
theorem d_M_readReason_68 : decode Y_M_readReason.2.1 68 = .ok (.aload_n 0, 1) := by decide +kernel
theorem d_M_readReason_69 : decode Y_M_readReason.2.1 69 = .ok (.getfield 160, 3) := by decide +kernel
theorem d_M_readReason_72 : decode Y_M_readReason.2.1 72 = .ok (.getfield 280, 3) := by decide +kernel
theorem d_M_readReason_75 : decode Y_M_readReason.2.1 75 = .ok (.istore 6, 2) := by decide +kernel
theorem d_M_readReason_77 : decode Y_M_readReason.2.1 77 = .ok (.aload_n 0, 1) := by decide +kernel
theorem d_M_readReason_78 : decode Y_M_readReason.2.1 78 = .ok (.getfield 160, 3) := by decide +kernel
theorem d_M_readReason_81 : decode Y_M_readReason.2.1 81 = .ok (.getfield 289, 3) := by decide +kernel
theorem d_M_readReason_84 : decode Y_M_readReason.2.1 84 = .ok (.iload 6, 2) := by decide +kernel
theorem d_M_readReason_86 : decode Y_M_readReason.2.1 86 = .ok (.iload_n 1, 1) := by decide +kernel
theorem d_M_readReason_87 : decode Y_M_readReason.2.1 87 = .ok (.iastore, 1) := by decide +kernel
theorem d_M_readReason_88 : decode Y_M_readReason.2.1 88 = .ok (.aload_n 0, 1) := by decide +kernel
theorem d_M_readReason_89 : decode Y_M_readReason.2.1 89 = .ok (.getfield 160, 3) := by decide +kernel
theorem d_M_readReason_92 : decode Y_M_readReason.2.1 92 = .ok (.getfield 292, 3) := by decide +kernel
theorem d_M_readReason_95 : decode Y_M_readReason.2.1 95 = .ok (.iload 6, 2) := by decide +kernel
theorem d_M_readReason_97 : decode Y_M_readReason.2.1 97 = .ok (.iload_n 2, 1) := by decide +kernel
theorem d_M_readReason_98 : decode Y_M_readReason.2.1 98 = .ok (.iastore, 1) := by decide +kernel
theorem d_M_readReason_99 : decode Y_M_readReason.2.1 99 = .ok (.aload_n 0, 1) := by decide +kernel
theorem d_M_readReason_100 : decode Y_M_readReason.2.1 100 = .ok (.getfield 160, 3) := by decide +kernel
theorem d_M_readReason_103 : decode Y_M_readReason.2.1 103 = .ok (.getfield 295, 3) := by decide +kernel
theorem d_M_readReason_106 : decode Y_M_readReason.2.1 106 = .ok (.iload 6, 2) := by decide +kernel
theorem d_M_readReason_108 : decode Y_M_readReason.2.1 108 = .ok (.iload_n 3, 1) := by decide +kernel
theorem d_M_readReason_109 : decode Y_M_readReason.2.1 109 = .ok (.iastore, 1) := by decide +kernel
theorem d_M_readReason_110 : decode Y_M_readReason.2.1 110 = .ok (.aload_n 0, 1) := by decide +kernel
theorem d_M_readReason_111 : decode Y_M_readReason.2.1 111 = .ok (.getfield 160, 3) := by decide +kernel
theorem d_M_readReason_114 : decode Y_M_readReason.2.1 114 = .ok (.getfield 298, 3) := by decide +kernel
theorem d_M_readReason_117 : decode Y_M_readReason.2.1 117 = .ok (.iload 6, 2) := by decide +kernel
theorem d_M_readReason_119 : decode Y_M_readReason.2.1 119 = .ok (.iload 4, 2) := by decide +kernel
theorem d_M_readReason_121 : decode Y_M_readReason.2.1 121 = .ok (.iastore, 1) := by decide +kernel
theorem d_M_readReason_122 : decode Y_M_readReason.2.1 122 = .ok (.aload_n 0, 1) := by decide +kernel
theorem d_M_readReason_123 : decode Y_M_readReason.2.1 123 = .ok (.getfield 160, 3) := by decide +kernel
theorem d_M_readReason_126 : decode Y_M_readReason.2.1 126 = .ok (.getfield 300, 3) := by decide +kernel
theorem d_M_readReason_129 : decode Y_M_readReason.2.1 129 = .ok (.iload 6, 2) := by decide +kernel
theorem d_M_readReason_131 : decode Y_M_readReason.2.1 131 = .ok (.iload 5, 2) := by decide +kernel
theorem d_M_readReason_133 : decode Y_M_readReason.2.1 133 = .ok (.iastore, 1) := by decide +kernel
theorem d_M_readReason_134 : decode Y_M_readReason.2.1 134 = .ok (.aload_n 0, 1) := by decide +kernel
theorem d_M_readReason_135 : decode Y_M_readReason.2.1 135 = .ok (.getfield 160, 3) := by decide +kernel
theorem d_M_readReason_138 : decode Y_M_readReason.2.1 138 = .ok (.dup, 1) := by decide +kernel
theorem d_M_readReason_139 : decode Y_M_readReason.2.1 139 = .ok (.getfield 280, 3) := by decide +kernel
theorem d_M_readReason_142 : decode Y_M_readReason.2.1 142 = .ok (.iconst 1, 1) := by decide +kernel
theorem d_M_readReason_143 : decode Y_M_readReason.2.1 143 = .ok (.iadd, 1) := by decide +kernel
theorem d_M_readReason_144 : decode Y_M_readReason.2.1 144 = .ok (.putfield 280, 3) := by decide +kernel
theorem d_M_readReason_147 : decode Y_M_readReason.2.1 147 = .ok (.return_, 1) := by decide +kernel
def f_M_readReason (h : PH) (a0 : Option Nat) : Option PH := (gR h 12 a0 4).bind fun v1 => (gI h 11 v1 5).bind fun v2 => (cl h 12 a0 (f_M_lineBegins h a0 v2 (4 : Int32))).bind fun h3 => (cl h3 12 a0 (f_M_readKnown h3 a0 (1 : Int32))).bind fun v4 => (cl v4.2 12 a0 (f_M_readKnown v4.2 a0 (0 : Int32))).bind fun v5 => (cl v5.2 12 a0 (f_M_readPart v5.2 a0 (some 18) (1 : Int32) (12 : Int32))).bind fun v6 => (cl v6.2 12 a0 (f_M_readPart v6.2 a0 (some 19) (0 : Int32) (100 : Int32))).bind fun v7 => (cl v7.2 12 a0 (f_M_readPart v7.2 a0 (some 20) (1 : Int32) (50 : Int32))).bind fun v8 => (gI v8.2 12 a0 9).bind fun v9 => if ¬ v9 = (5 : Int32) then ((gR v8.2 12 a0 4).bind fun v10 => (gI v8.2 11 v10 5).bind fun v11 => (gR v8.2 12 a0 4).bind fun v12 => (gR v8.2 11 v12 14).bind fun v13 => (sA v8.2 50 v13 v11 (.inl v4.1)).bind fun h14 => (gR h14 12 a0 4).bind fun v15 => (gR h14 11 v15 15).bind fun v16 => (sA h14 50 v16 v11 (.inl v5.1)).bind fun h17 => (gR h17 12 a0 4).bind fun v18 => (gR h17 11 v18 16).bind fun v19 => (sA h17 50 v19 v11 (.inl v6.1)).bind fun h20 => (gR h20 12 a0 4).bind fun v21 => (gR h20 11 v21 17).bind fun v22 => (sA h20 50 v22 v11 (.inl v7.1)).bind fun h23 => (gR h23 12 a0 4).bind fun v24 => (gR h23 11 v24 18).bind fun v25 => (sA h23 50 v25 v11 (.inl v8.1)).bind fun h26 => (gR h26 12 a0 4).bind fun v27 => (gI h26 11 v27 5).bind fun v28 => (sF h26 11 v27 5 (.inl (v28 + (1 : Int32)))).bind fun h29 => some h29) else (some v8.2)
set_option maxRecDepth 20000 in
theorem PM_M_readReason {l : Launch} {G : Cx} {h : PH} {a0 : Option Nat} {z : PH} (hz : f_M_readReason h a0 = some z) : PM l G 12 0 0 Y_M_readReason [.inr (.inr a0)] h (none, z) := by
  refine PM.of (Y := Y_M_readReason) (cv := (fun z : PH => (((none, z) : Option PV × PH)))) (by decide) (L0 := [some (.inr (.inr a0)), none, none, none, none, none, none]) 6 rfl (Nat.le_of_ble_eq_true rfl) ?_ hz
  unfold f_M_readReason
  refine PJ.aload_n (pc := 0) d_M_readReason_0 rfl ?_
  refine PJ.aload_n (pc := 1) d_M_readReason_1 rfl ?_
  refine PJ.getR (pc := 2) fs_M_160 d_M_readReason_2 (fun v1 => ?_)
  refine PJ.getI (pc := 5) fs_M_280 d_M_readReason_5 (fun v2 => ?_)
  refine PJ.iconst (pc := 8) (v := 4) d_M_readReason_8 (by decide) ?_
  refine PJ.cVV (pc := 9) cs_M_237 (fun z hz => PM_M_lineBegins hz) (pj_fitb rfl) rfl rfl (Nat.le_of_ble_eq_true rfl) d_M_readReason_9 (fun h3 => ?_)
  refine PJ.aload_n (pc := 12) d_M_readReason_12 rfl ?_
  refine PJ.iconst (pc := 13) (v := 1) d_M_readReason_13 (by decide) ?_
  refine PJ.cVI (pc := 14) cs_M_248 (fun z hz => PM_M_readKnown hz) (pj_fitb rfl) rfl rfl (Nat.le_of_ble_eq_true rfl) d_M_readReason_14 (fun v4 => ?_)
  refine PJ.istore_n (pc := 17) (L1 := [some (.inr (.inr a0)), some (.inl v4.1), none, none, none, none, none]) d_M_readReason_17 (Nat.le_of_ble_eq_true rfl) rfl rfl ?_
  refine PJ.aload_n (pc := 18) d_M_readReason_18 rfl ?_
  refine PJ.iconst (pc := 19) (v := 0) d_M_readReason_19 (by decide) ?_
  refine PJ.cVI (pc := 20) cs_M_248 (fun z hz => PM_M_readKnown hz) (pj_fitb rfl) rfl rfl (Nat.le_of_ble_eq_true rfl) d_M_readReason_20 (fun v5 => ?_)
  refine PJ.istore_n (pc := 23) (L1 := [some (.inr (.inr a0)), some (.inl v4.1), some (.inl v5.1), none, none, none, none]) d_M_readReason_23 (Nat.le_of_ble_eq_true rfl) rfl rfl ?_
  refine PJ.aload_n (pc := 24) d_M_readReason_24 rfl ?_
  refine PJ.ldcwS (pc := 25) (i := 18) d_M_readReason_25 (by decide) (List.mem_of_getElem? (i := 42) rfl) ?_
  refine PJ.iconst (pc := 28) (v := 1) d_M_readReason_28 (by decide) ?_
  refine PJ.bipush (pc := 29) (v := 12) d_M_readReason_29 (by decide) ?_
  refine PJ.cVI (pc := 31) cs_M_229 (fun z hz => PM_M_readPart hz) (pj_fitb rfl) rfl rfl (Nat.le_of_ble_eq_true rfl) d_M_readReason_31 (fun v6 => ?_)
  refine PJ.istore_n (pc := 34) (L1 := [some (.inr (.inr a0)), some (.inl v4.1), some (.inl v5.1), some (.inl v6.1), none, none, none]) d_M_readReason_34 (Nat.le_of_ble_eq_true rfl) rfl rfl ?_
  refine PJ.aload_n (pc := 35) d_M_readReason_35 rfl ?_
  refine PJ.ldcwS (pc := 36) (i := 19) d_M_readReason_36 (by decide) (List.mem_of_getElem? (i := 43) rfl) ?_
  refine PJ.iconst (pc := 39) (v := 0) d_M_readReason_39 (by decide) ?_
  refine PJ.bipush (pc := 40) (v := 100) d_M_readReason_40 (by decide) ?_
  refine PJ.cVI (pc := 42) cs_M_229 (fun z hz => PM_M_readPart hz) (pj_fitb rfl) rfl rfl (Nat.le_of_ble_eq_true rfl) d_M_readReason_42 (fun v7 => ?_)
  refine PJ.istore (pc := 45) (L1 := [some (.inr (.inr a0)), some (.inl v4.1), some (.inl v5.1), some (.inl v6.1), some (.inl v7.1), none, none]) d_M_readReason_45 (Nat.le_of_ble_eq_true rfl) rfl rfl ?_
  refine PJ.aload_n (pc := 47) d_M_readReason_47 rfl ?_
  refine PJ.ldcwS (pc := 48) (i := 20) d_M_readReason_48 (by decide) (List.mem_of_getElem? (i := 44) rfl) ?_
  refine PJ.iconst (pc := 51) (v := 1) d_M_readReason_51 (by decide) ?_
  refine PJ.bipush (pc := 52) (v := 50) d_M_readReason_52 (by decide) ?_
  refine PJ.cVI (pc := 54) cs_M_229 (fun z hz => PM_M_readPart hz) (pj_fitb rfl) rfl rfl (Nat.le_of_ble_eq_true rfl) d_M_readReason_54 (fun v8 => ?_)
  refine PJ.istore (pc := 57) (L1 := [some (.inr (.inr a0)), some (.inl v4.1), some (.inl v5.1), some (.inl v6.1), some (.inl v7.1), some (.inl v8.1), none]) d_M_readReason_57 (Nat.le_of_ble_eq_true rfl) rfl rfl ?_
  refine PJ.aload_n (pc := 59) d_M_readReason_59 rfl ?_
  refine PJ.getI (pc := 60) fs_M_80 d_M_readReason_60 (fun v9 => ?_)
  refine PJ.iconst (pc := 63) (v := 5) d_M_readReason_63 (by decide) ?_
  refine PJ.icmp_ne (pc := 64) (tgt := 68) d_M_readReason_64 (by decide) (fun _ => ?_) (fun _ => ?_)
  · refine PJ.aload_n (pc := 68) d_M_readReason_68 rfl ?_
    refine PJ.getR (pc := 69) fs_M_160 d_M_readReason_69 (fun v10 => ?_)
    refine PJ.getI (pc := 72) fs_M_280 d_M_readReason_72 (fun v11 => ?_)
    refine PJ.istore (pc := 75) (L1 := [some (.inr (.inr a0)), some (.inl v4.1), some (.inl v5.1), some (.inl v6.1), some (.inl v7.1), some (.inl v8.1), some (.inl v11)]) d_M_readReason_75 (Nat.le_of_ble_eq_true rfl) rfl rfl ?_
    refine PJ.aload_n (pc := 77) d_M_readReason_77 rfl ?_
    refine PJ.getR (pc := 78) fs_M_160 d_M_readReason_78 (fun v12 => ?_)
    refine PJ.getR (pc := 81) fs_M_289 d_M_readReason_81 (fun v13 => ?_)
    refine PJ.iload (pc := 84) d_M_readReason_84 rfl ?_
    refine PJ.iload_n (pc := 86) d_M_readReason_86 rfl ?_
    refine PJ.iast (pc := 87) d_M_readReason_87 (fun h14 => ?_)
    refine PJ.aload_n (pc := 88) d_M_readReason_88 rfl ?_
    refine PJ.getR (pc := 89) fs_M_160 d_M_readReason_89 (fun v15 => ?_)
    refine PJ.getR (pc := 92) fs_M_292 d_M_readReason_92 (fun v16 => ?_)
    refine PJ.iload (pc := 95) d_M_readReason_95 rfl ?_
    refine PJ.iload_n (pc := 97) d_M_readReason_97 rfl ?_
    refine PJ.iast (pc := 98) d_M_readReason_98 (fun h17 => ?_)
    refine PJ.aload_n (pc := 99) d_M_readReason_99 rfl ?_
    refine PJ.getR (pc := 100) fs_M_160 d_M_readReason_100 (fun v18 => ?_)
    refine PJ.getR (pc := 103) fs_M_295 d_M_readReason_103 (fun v19 => ?_)
    refine PJ.iload (pc := 106) d_M_readReason_106 rfl ?_
    refine PJ.iload_n (pc := 108) d_M_readReason_108 rfl ?_
    refine PJ.iast (pc := 109) d_M_readReason_109 (fun h20 => ?_)
    refine PJ.aload_n (pc := 110) d_M_readReason_110 rfl ?_
    refine PJ.getR (pc := 111) fs_M_160 d_M_readReason_111 (fun v21 => ?_)
    refine PJ.getR (pc := 114) fs_M_298 d_M_readReason_114 (fun v22 => ?_)
    refine PJ.iload (pc := 117) d_M_readReason_117 rfl ?_
    refine PJ.iload (pc := 119) d_M_readReason_119 rfl ?_
    refine PJ.iast (pc := 121) d_M_readReason_121 (fun h23 => ?_)
    refine PJ.aload_n (pc := 122) d_M_readReason_122 rfl ?_
    refine PJ.getR (pc := 123) fs_M_160 d_M_readReason_123 (fun v24 => ?_)
    refine PJ.getR (pc := 126) fs_M_300 d_M_readReason_126 (fun v25 => ?_)
    refine PJ.iload (pc := 129) d_M_readReason_129 rfl ?_
    refine PJ.iload (pc := 131) d_M_readReason_131 rfl ?_
    refine PJ.iast (pc := 133) d_M_readReason_133 (fun h26 => ?_)
    refine PJ.aload_n (pc := 134) d_M_readReason_134 rfl ?_
    refine PJ.getR (pc := 135) fs_M_160 d_M_readReason_135 (fun v27 => ?_)
    refine PJ.dup (pc := 138) d_M_readReason_138 rfl ?_
    refine PJ.getI (pc := 139) fs_M_280 d_M_readReason_139 (fun v28 => ?_)
    refine PJ.iconst (pc := 142) (v := 1) d_M_readReason_142 (by decide) ?_
    refine PJ.iadd (pc := 143) d_M_readReason_143 ?_
    refine PJ.putI (pc := 144) ps_M_280 d_M_readReason_144 (fun h29 => ?_)
    exact PJ.vret (pc := 147) d_M_readReason_147 rfl (Nat.le_of_ble_eq_true rfl) (Nat.le_of_ble_eq_true rfl)
  · exact PJ.vret (pc := 67) d_M_readReason_67 rfl (Nat.le_of_ble_eq_true rfl) (Nat.le_of_ble_eq_true rfl)
theorem d_ML_latest_0 : decode Y_ML_latest.2.1 0 = .ok (.iconst (-1), 1) := by decide +kernel
theorem d_ML_latest_1 : decode Y_ML_latest.2.1 1 = .ok (.istore_n 2, 1) := by decide +kernel
theorem d_ML_latest_2 : decode Y_ML_latest.2.1 2 = .ok (.iconst 0, 1) := by decide +kernel
theorem d_ML_latest_3 : decode Y_ML_latest.2.1 3 = .ok (.istore_n 3, 1) := by decide +kernel
theorem d_ML_latest_4 : decode Y_ML_latest.2.1 4 = .ok (.iload_n 3, 1) := by decide +kernel
theorem d_ML_latest_5 : decode Y_ML_latest.2.1 5 = .ok (.aload_n 0, 1) := by decide +kernel
theorem d_ML_latest_6 : decode Y_ML_latest.2.1 6 = .ok (.getfield 71, 3) := by decide +kernel
theorem d_ML_latest_9 : decode Y_ML_latest.2.1 9 = .ok (.if_icmp .ge 26, 3) := by decide +kernel
theorem d_ML_latest_12 : decode Y_ML_latest.2.1 12 = .ok (.aload_n 0, 1) := by decide +kernel
theorem d_ML_latest_13 : decode Y_ML_latest.2.1 13 = .ok (.getfield 43, 3) := by decide +kernel
theorem d_ML_latest_16 : decode Y_ML_latest.2.1 16 = .ok (.iload_n 3, 1) := by decide +kernel
theorem d_ML_latest_17 : decode Y_ML_latest.2.1 17 = .ok (.iaload, 1) := by decide +kernel
theorem d_ML_latest_18 : decode Y_ML_latest.2.1 18 = .ok (.iload_n 1, 1) := by decide +kernel
theorem d_ML_latest_19 : decode Y_ML_latest.2.1 19 = .ok (.if_icmp .ne 10, 3) := by decide +kernel
theorem d_ML_latest_22 : decode Y_ML_latest.2.1 22 = .ok (.aload_n 0, 1) := by decide +kernel
theorem d_ML_latest_23 : decode Y_ML_latest.2.1 23 = .ok (.getfield 49, 3) := by decide +kernel
theorem d_ML_latest_26 : decode Y_ML_latest.2.1 26 = .ok (.iload_n 3, 1) := by decide +kernel
theorem d_ML_latest_27 : decode Y_ML_latest.2.1 27 = .ok (.iaload, 1) := by decide +kernel
theorem d_ML_latest_28 : decode Y_ML_latest.2.1 28 = .ok (.istore_n 2, 1) := by decide +kernel
theorem d_ML_latest_29 : decode Y_ML_latest.2.1 29 = .ok (.iinc 3 1, 3) := by decide +kernel
theorem d_ML_latest_32 : decode Y_ML_latest.2.1 32 = .ok (.goto (-28), 3) := by decide +kernel
theorem d_ML_latest_35 : decode Y_ML_latest.2.1 35 = .ok (.iload_n 2, 1) := by decide +kernel
theorem d_ML_latest_36 : decode Y_ML_latest.2.1 36 = .ok (.ireturn, 1) := by decide +kernel
def f_ML_latest (h : PH) (a0 : Option Nat) (a1 : Int32) : Option Int32 := (pj_it (X := Int32) (fun s1 : Int32 × Int32 => (gI h 11 a0 6).bind fun v3 => if v3 ≤ s1.2 then (some (.inr s1.1)) else ((gR h 11 a0 19).bind fun v4 => (aI h v4 s1.2).bind fun v5 => if ¬ v5 = a1 then (some (.inl (s1.1, (s1.2 + (1 : Int32))))) else ((gR h 11 a0 21).bind fun v6 => (aI h v6 s1.2).bind fun v7 => some (.inl (v7, (s1.2 + (1 : Int32))))))) FU ((-1 : Int32), (0 : Int32))).bind fun x2 => some x2
set_option maxRecDepth 20000 in
theorem PM_ML_latest {l : Launch} {G : Cx} {h : PH} {a0 : Option Nat} {a1 : Int32} {z : Int32} (hz : f_ML_latest h a0 a1 = some z) : PM l G 1 0 0 Y_ML_latest [.inr (.inr a0), .inl a1] h (some (.inl z), h) := by
  refine PM.of (Y := Y_ML_latest) (cv := (fun z : Int32 => (((some (.inl z), h) : Option PV × PH)))) (by decide) (L0 := [some (.inr (.inr a0)), some (.inl a1), none, none]) 2 rfl (Nat.le_of_ble_eq_true rfl) ?_ hz
  unfold f_ML_latest
  refine PJ.iconst (pc := 0) (v := -1) d_ML_latest_0 (by decide) ?_
  refine PJ.istore_n (pc := 1) (L1 := [some (.inr (.inr a0)), some (.inl a1), some (.inl (-1 : Int32)), none]) d_ML_latest_1 (Nat.le_of_ble_eq_true rfl) rfl rfl ?_
  refine PJ.iconst (pc := 2) (v := 0) d_ML_latest_2 (by decide) ?_
  refine PJ.istore_n (pc := 3) (L1 := [some (.inr (.inr a0)), some (.inl a1), some (.inl (-1 : Int32)), some (.inl (0 : Int32))]) d_ML_latest_3 (Nat.le_of_ble_eq_true rfl) rfl rfl ?_
  refine PJ.bind (fun x2 : Int32 => ((35 : Nat), ([none, none, some (.inl x2), none] : List (Option PV)), ([] : List PV), (h : PH), (0 : Nat), (0 : Nat))) (PJ.it (E := (fun s1 : Int32 × Int32 => ((4 : Nat), ([some (.inr (.inr a0)), some (.inl a1), some (.inl s1.1), some (.inl s1.2)] : List (Option PV)), ([] : List PV), (h : PH), (0 : Nat), (0 : Nat)))) (F := (fun x2 : Int32 => ((35 : Nat), ([none, none, some (.inl x2), none] : List (Option PV)), ([] : List PV), (h : PH), (0 : Nat), (0 : Nat)))) (fun s1 => ?_) FU ((-1 : Int32), (0 : Int32))) (fun x2 => ?_)
  · show PJ l G (pj_rm 1 0 0) Y_ML_latest 4 [some (.inr (.inr a0)), some (.inl a1), some (.inl s1.1), some (.inl s1.2)] [] h 0 0 _ _
    refine PJ.iload_n (pc := 4) d_ML_latest_4 rfl ?_
    refine PJ.aload_n (pc := 5) d_ML_latest_5 rfl ?_
    refine PJ.getI (pc := 6) fs_ML_71 d_ML_latest_6 (fun v3 => ?_)
    refine PJ.icmp_ge (pc := 9) (tgt := 35) d_ML_latest_9 (by decide) (fun _ => ?_) (fun _ => ?_)
    · refine PJ.mk (L1 := [none, none, some (.inl s1.1), none]) [false, false, true, false] rfl ?_
      exact PJ.done rfl
    · refine PJ.aload_n (pc := 12) d_ML_latest_12 rfl ?_
      refine PJ.getR (pc := 13) fs_ML_43 d_ML_latest_13 (fun v4 => ?_)
      refine PJ.iload_n (pc := 16) d_ML_latest_16 rfl ?_
      refine PJ.iald (pc := 17) d_ML_latest_17 (fun v5 => ?_)
      refine PJ.iload_n (pc := 18) d_ML_latest_18 rfl ?_
      refine PJ.icmp_ne (pc := 19) (tgt := 29) d_ML_latest_19 (by decide) (fun _ => ?_) (fun _ => ?_)
      · refine PJ.iinc (pc := 29) (v := 1) (L1 := [some (.inr (.inr a0)), some (.inl a1), some (.inl s1.1), some (.inl (s1.2 + (1 : Int32)))]) d_ML_latest_29 rfl (by decide) (Nat.le_of_ble_eq_true rfl) rfl rfl ?_
        refine PJ.goto (pc := 32) (tgt := 4) d_ML_latest_32 (by decide) ?_
        exact PJ.done rfl
      · refine PJ.aload_n (pc := 22) d_ML_latest_22 rfl ?_
        refine PJ.getR (pc := 23) fs_ML_49 d_ML_latest_23 (fun v6 => ?_)
        refine PJ.iload_n (pc := 26) d_ML_latest_26 rfl ?_
        refine PJ.iald (pc := 27) d_ML_latest_27 (fun v7 => ?_)
        refine PJ.istore_n (pc := 28) (L1 := [some (.inr (.inr a0)), some (.inl a1), some (.inl v7), some (.inl s1.2)]) d_ML_latest_28 (Nat.le_of_ble_eq_true rfl) rfl rfl ?_
        refine PJ.iinc (pc := 29) (v := 1) (L1 := [some (.inr (.inr a0)), some (.inl a1), some (.inl v7), some (.inl (s1.2 + (1 : Int32)))]) d_ML_latest_29 rfl (by decide) (Nat.le_of_ble_eq_true rfl) rfl rfl ?_
        refine PJ.goto (pc := 32) (tgt := 4) d_ML_latest_32 (by decide) ?_
        exact PJ.done rfl
  · show PJ l G (pj_rm 1 0 0) Y_ML_latest 35 [none, none, some (.inl x2), none] [] h 0 0 _ _
    refine PJ.iload_n (pc := 35) d_ML_latest_35 rfl ?_
    exact PJ.iretp (pc := 36) d_ML_latest_36 rfl (Nat.le_of_ble_eq_true rfl) (Nat.le_of_ble_eq_true rfl)
theorem d_M_readPaid_0 : decode Y_M_readPaid.2.1 0 = .ok (.aload_n 0, 1) := by decide +kernel
theorem d_M_readPaid_1 : decode Y_M_readPaid.2.1 1 = .ok (.aload_n 0, 1) := by decide +kernel
theorem d_M_readPaid_2 : decode Y_M_readPaid.2.1 2 = .ok (.getfield 160, 3) := by decide +kernel
theorem d_M_readPaid_5 : decode Y_M_readPaid.2.1 5 = .ok (.getfield 302, 3) := by decide +kernel
theorem d_M_readPaid_8 : decode Y_M_readPaid.2.1 8 = .ok (.iconst 5, 1) := by decide +kernel
theorem d_M_readPaid_9 : decode Y_M_readPaid.2.1 9 = .ok (.invokevirtual 237, 3) := by decide +kernel
theorem d_M_readPaid_12 : decode Y_M_readPaid.2.1 12 = .ok (.aload_n 0, 1) := by decide +kernel
theorem d_M_readPaid_13 : decode Y_M_readPaid.2.1 13 = .ok (.iconst 1, 1) := by decide +kernel
theorem d_M_readPaid_14 : decode Y_M_readPaid.2.1 14 = .ok (.invokevirtual 248, 3) := by decide +kernel
theorem d_M_readPaid_17 : decode Y_M_readPaid.2.1 17 = .ok (.istore_n 1, 1) := by decide +kernel
theorem d_M_readPaid_18 : decode Y_M_readPaid.2.1 18 = .ok (.aload_n 0, 1) := by decide +kernel
theorem d_M_readPaid_19 : decode Y_M_readPaid.2.1 19 = .ok (.iconst 0, 1) := by decide +kernel
theorem d_M_readPaid_20 : decode Y_M_readPaid.2.1 20 = .ok (.sipush 999, 3) := by decide +kernel
theorem d_M_readPaid_23 : decode Y_M_readPaid.2.1 23 = .ok (.invokevirtual 139, 3) := by decide +kernel
theorem d_M_readPaid_26 : decode Y_M_readPaid.2.1 26 = .ok (.istore_n 2, 1) := by decide +kernel
theorem d_M_readPaid_27 : decode Y_M_readPaid.2.1 27 = .ok (.aload_n 0, 1) := by decide +kernel
theorem d_M_readPaid_28 : decode Y_M_readPaid.2.1 28 = .ok (.ldc_w 305, 3) := by decide +kernel
theorem d_M_readPaid_31 : decode Y_M_readPaid.2.1 31 = .ok (.invokevirtual 135, 3) := by decide +kernel
theorem d_M_readPaid_34 : decode Y_M_readPaid.2.1 34 = .ok (.aload_n 0, 1) := by decide +kernel
theorem d_M_readPaid_35 : decode Y_M_readPaid.2.1 35 = .ok (.iconst 0, 1) := by decide +kernel
theorem d_M_readPaid_36 : decode Y_M_readPaid.2.1 36 = .ok (.bipush 99, 2) := by decide +kernel
theorem d_M_readPaid_38 : decode Y_M_readPaid.2.1 38 = .ok (.invokevirtual 131, 3) := by decide +kernel
theorem d_M_readPaid_41 : decode Y_M_readPaid.2.1 41 = .ok (.istore_n 3, 1) := by decide +kernel
theorem d_M_readPaid_42 : decode Y_M_readPaid.2.1 42 = .ok (.aload_n 0, 1) := by decide +kernel
theorem d_M_readPaid_43 : decode Y_M_readPaid.2.1 43 = .ok (.getfield 80, 3) := by decide +kernel
theorem d_M_readPaid_46 : decode Y_M_readPaid.2.1 46 = .ok (.iconst 5, 1) := by decide +kernel
theorem d_M_readPaid_47 : decode Y_M_readPaid.2.1 47 = .ok (.if_icmp .eq 20, 3) := by decide +kernel
theorem d_M_readPaid_50 : decode Y_M_readPaid.2.1 50 = .ok (.iload_n 3, 1) := by decide +kernel
theorem d_M_readPaid_51 : decode Y_M_readPaid.2.1 51 = .ok (.aload_n 0, 1) := by decide +kernel
theorem d_M_readPaid_52 : decode Y_M_readPaid.2.1 52 = .ok (.getfield 160, 3) := by decide +kernel
theorem d_M_readPaid_55 : decode Y_M_readPaid.2.1 55 = .ok (.iload_n 1, 1) := by decide +kernel
theorem d_M_readPaid_56 : decode Y_M_readPaid.2.1 56 = .ok (.invokevirtual 306, 3) := by decide +kernel
theorem d_M_readPaid_59 : decode Y_M_readPaid.2.1 59 = .ok (.if_icmp .gt 8, 3) := by decide +kernel
theorem d_M_readPaid_62 : decode Y_M_readPaid.2.1 62 = .ok (.aload_n 0, 1) := by decide +kernel
theorem d_M_readPaid_63 : decode Y_M_readPaid.2.1 63 = .ok (.iconst 4, 1) := by decide +kernel
theorem d_M_readPaid_64 : decode Y_M_readPaid.2.1 64 = .ok (.invokevirtual 123, 3) := by decide +kernel
theorem d_M_readPaid_67 : decode Y_M_readPaid.2.1 67 = .ok (.aload_n 0, 1) := by decide +kernel
theorem d_M_readPaid_68 : decode Y_M_readPaid.2.1 68 = .ok (.invokevirtual 116, 3) := by decide +kernel
theorem d_M_readPaid_71 : decode Y_M_readPaid.2.1 71 = .ok (.aload_n 0, 1) := by decide +kernel
theorem d_M_readPaid_72 : decode Y_M_readPaid.2.1 72 = .ok (.getfield 80, 3) := by decide +kernel
theorem d_M_readPaid_75 : decode Y_M_readPaid.2.1 75 = .ok (.iconst 5, 1) := by decide +kernel
theorem d_M_readPaid_76 : decode Y_M_readPaid.2.1 76 = .ok (.if_icmp .ne 4, 3) := by decide +kernel
theorem d_M_readPaid_79 : decode Y_M_readPaid.2.1 79 = .ok (.return_, 1) := by decide +kernel
theorem d_M_readPaid_80 : decode Y_M_readPaid.2.1 80 = .ok (.aload_n 0, 1) := by decide +kernel
theorem d_M_readPaid_81 : decode Y_M_readPaid.2.1 81 = .ok (.getfield 160, 3) := by decide +kernel
theorem d_M_readPaid_84 : decode Y_M_readPaid.2.1 84 = .ok (.getfield 309, 3) := by decide +kernel
theorem d_M_readPaid_87 : decode Y_M_readPaid.2.1 87 = .ok (.aload_n 0, 1) := by decide +kernel
theorem d_M_readPaid_88 : decode Y_M_readPaid.2.1 88 = .ok (.getfield 160, 3) := by decide +kernel
theorem d_M_readPaid_91 : decode Y_M_readPaid.2.1 91 = .ok (.getfield 302, 3) := by decide +kernel
theorem d_M_readPaid_94 : decode Y_M_readPaid.2.1 94 = .ok (.iload_n 1, 1) := by decide +kernel
theorem d_M_readPaid_95 : decode Y_M_readPaid.2.1 95 = .ok (.iastore, 1) := by decide +kernel
theorem d_M_readPaid_96 : decode Y_M_readPaid.2.1 96 = .ok (.aload_n 0, 1) := by decide +kernel
theorem d_M_readPaid_97 : decode Y_M_readPaid.2.1 97 = .ok (.getfield 160, 3) := by decide +kernel
theorem d_M_readPaid_100 : decode Y_M_readPaid.2.1 100 = .ok (.getfield 312, 3) := by decide +kernel
theorem d_M_readPaid_103 : decode Y_M_readPaid.2.1 103 = .ok (.aload_n 0, 1) := by decide +kernel
theorem d_M_readPaid_104 : decode Y_M_readPaid.2.1 104 = .ok (.getfield 160, 3) := by decide +kernel
theorem d_M_readPaid_107 : decode Y_M_readPaid.2.1 107 = .ok (.getfield 302, 3) := by decide +kernel
theorem d_M_readPaid_110 : decode Y_M_readPaid.2.1 110 = .ok (.iload_n 2, 1) := by decide +kernel
theorem d_M_readPaid_111 : decode Y_M_readPaid.2.1 111 = .ok (.iastore, 1) := by decide +kernel
theorem d_M_readPaid_112 : decode Y_M_readPaid.2.1 112 = .ok (.aload_n 0, 1) := by decide +kernel
theorem d_M_readPaid_113 : decode Y_M_readPaid.2.1 113 = .ok (.getfield 160, 3) := by decide +kernel
theorem d_M_readPaid_116 : decode Y_M_readPaid.2.1 116 = .ok (.getfield 315, 3) := by decide +kernel
theorem d_M_readPaid_119 : decode Y_M_readPaid.2.1 119 = .ok (.aload_n 0, 1) := by decide +kernel
theorem d_M_readPaid_120 : decode Y_M_readPaid.2.1 120 = .ok (.getfield 160, 3) := by decide +kernel
theorem d_M_readPaid_123 : decode Y_M_readPaid.2.1 123 = .ok (.getfield 302, 3) := by decide +kernel
theorem d_M_readPaid_126 : decode Y_M_readPaid.2.1 126 = .ok (.iload_n 3, 1) := by decide +kernel
theorem d_M_readPaid_127 : decode Y_M_readPaid.2.1 127 = .ok (.iastore, 1) := by decide +kernel
theorem d_M_readPaid_128 : decode Y_M_readPaid.2.1 128 = .ok (.aload_n 0, 1) := by decide +kernel
theorem d_M_readPaid_129 : decode Y_M_readPaid.2.1 129 = .ok (.getfield 160, 3) := by decide +kernel
theorem d_M_readPaid_132 : decode Y_M_readPaid.2.1 132 = .ok (.dup, 1) := by decide +kernel
theorem d_M_readPaid_133 : decode Y_M_readPaid.2.1 133 = .ok (.getfield 302, 3) := by decide +kernel
theorem d_M_readPaid_136 : decode Y_M_readPaid.2.1 136 = .ok (.iconst 1, 1) := by decide +kernel
theorem d_M_readPaid_137 : decode Y_M_readPaid.2.1 137 = .ok (.iadd, 1) := by decide +kernel
theorem d_M_readPaid_138 : decode Y_M_readPaid.2.1 138 = .ok (.putfield 302, 3) := by decide +kernel
theorem d_M_readPaid_141 : decode Y_M_readPaid.2.1 141 = .ok (.return_, 1) := by decide +kernel
def f_M_readPaid (h : PH) (a0 : Option Nat) : Option PH := (gR h 12 a0 4).bind fun v1 => (gI h 11 v1 6).bind fun v2 => (cl h 12 a0 (f_M_lineBegins h a0 v2 (5 : Int32))).bind fun h3 => (cl h3 12 a0 (f_M_readKnown h3 a0 (1 : Int32))).bind fun v4 => (cl v4.2 12 a0 (f_M_readWhole v4.2 a0 (0 : Int32) (999 : Int32))).bind fun v5 => (cl v5.2 12 a0 (f_M_needs v5.2 a0 (some 21))).bind fun h6 => (cl h6 12 a0 (f_M_bounded h6 a0 (0 : Int32) (99 : Int32))).bind fun v7 => (gI v7.2 12 a0 9).bind fun v8 => (if v8 = (5 : Int32) then (some v7.2) else ((gR v7.2 12 a0 4).bind fun v10 => (cl v7.2 11 v10 (f_ML_latest v7.2 v10 v4.1)).bind fun v11 => if v11 < v7.1 then (some v7.2) else ((cl v7.2 12 a0 (f_M_flaw v7.2 a0 (4 : Int32))).bind fun h12 => some h12)) : Option (PH)).bind fun j9 => (cl j9 12 a0 (f_M_goesOn j9 a0)).bind fun h13 => (gI h13 12 a0 9).bind fun v14 => if ¬ v14 = (5 : Int32) then ((gR h13 12 a0 4).bind fun v15 => (gR h13 11 v15 19).bind fun v16 => (gR h13 12 a0 4).bind fun v17 => (gI h13 11 v17 6).bind fun v18 => (sA h13 50 v16 v18 (.inl v4.1)).bind fun h19 => (gR h19 12 a0 4).bind fun v20 => (gR h19 11 v20 20).bind fun v21 => (gR h19 12 a0 4).bind fun v22 => (gI h19 11 v22 6).bind fun v23 => (sA h19 50 v21 v23 (.inl v5.1)).bind fun h24 => (gR h24 12 a0 4).bind fun v25 => (gR h24 11 v25 21).bind fun v26 => (gR h24 12 a0 4).bind fun v27 => (gI h24 11 v27 6).bind fun v28 => (sA h24 50 v26 v28 (.inl v7.1)).bind fun h29 => (gR h29 12 a0 4).bind fun v30 => (gI h29 11 v30 6).bind fun v31 => (sF h29 11 v30 6 (.inl (v31 + (1 : Int32)))).bind fun h32 => some h32) else (some h13)
set_option maxRecDepth 20000 in
theorem PM_M_readPaid {l : Launch} {G : Cx} {h : PH} {a0 : Option Nat} {z : PH} (hz : f_M_readPaid h a0 = some z) : PM l G 12 0 0 Y_M_readPaid [.inr (.inr a0)] h (none, z) := by
  refine PM.of (Y := Y_M_readPaid) (cv := (fun z : PH => (((none, z) : Option PV × PH)))) (by decide) (L0 := [some (.inr (.inr a0)), none, none, none]) 3 rfl (Nat.le_of_ble_eq_true rfl) ?_ hz
  unfold f_M_readPaid
  refine PJ.aload_n (pc := 0) d_M_readPaid_0 rfl ?_
  refine PJ.aload_n (pc := 1) d_M_readPaid_1 rfl ?_
  refine PJ.getR (pc := 2) fs_M_160 d_M_readPaid_2 (fun v1 => ?_)
  refine PJ.getI (pc := 5) fs_M_302 d_M_readPaid_5 (fun v2 => ?_)
  refine PJ.iconst (pc := 8) (v := 5) d_M_readPaid_8 (by decide) ?_
  refine PJ.cVV (pc := 9) cs_M_237 (fun z hz => PM_M_lineBegins hz) (pj_fitb rfl) rfl rfl (Nat.le_of_ble_eq_true rfl) d_M_readPaid_9 (fun h3 => ?_)
  refine PJ.aload_n (pc := 12) d_M_readPaid_12 rfl ?_
  refine PJ.iconst (pc := 13) (v := 1) d_M_readPaid_13 (by decide) ?_
  refine PJ.cVI (pc := 14) cs_M_248 (fun z hz => PM_M_readKnown hz) (pj_fitb rfl) rfl rfl (Nat.le_of_ble_eq_true rfl) d_M_readPaid_14 (fun v4 => ?_)
  refine PJ.istore_n (pc := 17) (L1 := [some (.inr (.inr a0)), some (.inl v4.1), none, none]) d_M_readPaid_17 (Nat.le_of_ble_eq_true rfl) rfl rfl ?_
  refine PJ.aload_n (pc := 18) d_M_readPaid_18 rfl ?_
  refine PJ.iconst (pc := 19) (v := 0) d_M_readPaid_19 (by decide) ?_
  refine PJ.sipush (pc := 20) (v := 999) d_M_readPaid_20 (by decide) ?_
  refine PJ.cVI (pc := 23) cs_M_139 (fun z hz => PM_M_readWhole hz) (pj_fitb rfl) rfl rfl (Nat.le_of_ble_eq_true rfl) d_M_readPaid_23 (fun v5 => ?_)
  refine PJ.istore_n (pc := 26) (L1 := [some (.inr (.inr a0)), some (.inl v4.1), some (.inl v5.1), none]) d_M_readPaid_26 (Nat.le_of_ble_eq_true rfl) rfl rfl ?_
  refine PJ.aload_n (pc := 27) d_M_readPaid_27 rfl ?_
  refine PJ.ldcwS (pc := 28) (i := 21) d_M_readPaid_28 (by decide) (List.mem_of_getElem? (i := 45) rfl) ?_
  refine PJ.cVV (pc := 31) cs_M_135 (fun z hz => PM_M_needs hz) (pj_fitb rfl) rfl rfl (Nat.le_of_ble_eq_true rfl) d_M_readPaid_31 (fun h6 => ?_)
  refine PJ.aload_n (pc := 34) d_M_readPaid_34 rfl ?_
  refine PJ.iconst (pc := 35) (v := 0) d_M_readPaid_35 (by decide) ?_
  refine PJ.bipush (pc := 36) (v := 99) d_M_readPaid_36 (by decide) ?_
  refine PJ.cVI (pc := 38) cs_M_131 (fun z hz => PM_M_bounded hz) (pj_fitb rfl) rfl rfl (Nat.le_of_ble_eq_true rfl) d_M_readPaid_38 (fun v7 => ?_)
  refine PJ.istore_n (pc := 41) (L1 := [some (.inr (.inr a0)), some (.inl v4.1), some (.inl v5.1), some (.inl v7.1)]) d_M_readPaid_41 (Nat.le_of_ble_eq_true rfl) rfl rfl ?_
  refine PJ.aload_n (pc := 42) d_M_readPaid_42 rfl ?_
  refine PJ.getI (pc := 43) fs_M_80 d_M_readPaid_43 (fun v8 => ?_)
  refine PJ.iconst (pc := 46) (v := 5) d_M_readPaid_46 (by decide) ?_
  refine PJ.bind (fun j9 : PH => ((67 : Nat), ([some (.inr (.inr a0)), some (.inl v4.1), some (.inl v5.1), some (.inl v7.1)] : List (Option PV)), ([] : List PV), (j9 : PH), (0 : Nat), (0 : Nat))) ?_ (fun j9 => ?_)
  · refine PJ.icmp_eq (pc := 47) (tgt := 67) d_M_readPaid_47 (by decide) (fun _ => ?_) (fun _ => ?_)
    · exact PJ.done rfl
    · refine PJ.iload_n (pc := 50) d_M_readPaid_50 rfl ?_
      refine PJ.aload_n (pc := 51) d_M_readPaid_51 rfl ?_
      refine PJ.getR (pc := 52) fs_M_160 d_M_readPaid_52 (fun v10 => ?_)
      refine PJ.iload_n (pc := 55) d_M_readPaid_55 rfl ?_
      refine PJ.cVpI (pc := 56) cs_M_306 (fun z hz => PM_ML_latest hz) (pj_fitb rfl) rfl rfl (Nat.le_of_ble_eq_true rfl) d_M_readPaid_56 (fun v11 => ?_)
      refine PJ.icmp_gt (pc := 59) (tgt := 67) d_M_readPaid_59 (by decide) (fun _ => ?_) (fun _ => ?_)
      · exact PJ.done rfl
      · refine PJ.aload_n (pc := 62) d_M_readPaid_62 rfl ?_
        refine PJ.iconst (pc := 63) (v := 4) d_M_readPaid_63 (by decide) ?_
        refine PJ.cVV (pc := 64) cs_M_123 (fun z hz => PM_M_flaw hz) (pj_fitb rfl) rfl rfl (Nat.le_of_ble_eq_true rfl) d_M_readPaid_64 (fun h12 => ?_)
        exact PJ.done rfl
  · show PJ l G (pj_rm 12 0 0) Y_M_readPaid 67 [some (.inr (.inr a0)), some (.inl v4.1), some (.inl v5.1), some (.inl v7.1)] [] j9 0 0 _ _
    refine PJ.aload_n (pc := 67) d_M_readPaid_67 rfl ?_
    refine PJ.cVV (pc := 68) cs_M_116 (fun z hz => PM_M_goesOn hz) (pj_fitb rfl) rfl rfl (Nat.le_of_ble_eq_true rfl) d_M_readPaid_68 (fun h13 => ?_)
    refine PJ.aload_n (pc := 71) d_M_readPaid_71 rfl ?_
    refine PJ.getI (pc := 72) fs_M_80 d_M_readPaid_72 (fun v14 => ?_)
    refine PJ.iconst (pc := 75) (v := 5) d_M_readPaid_75 (by decide) ?_
    refine PJ.icmp_ne (pc := 76) (tgt := 80) d_M_readPaid_76 (by decide) (fun _ => ?_) (fun _ => ?_)
    · refine PJ.aload_n (pc := 80) d_M_readPaid_80 rfl ?_
      refine PJ.getR (pc := 81) fs_M_160 d_M_readPaid_81 (fun v15 => ?_)
      refine PJ.getR (pc := 84) fs_M_309 d_M_readPaid_84 (fun v16 => ?_)
      refine PJ.aload_n (pc := 87) d_M_readPaid_87 rfl ?_
      refine PJ.getR (pc := 88) fs_M_160 d_M_readPaid_88 (fun v17 => ?_)
      refine PJ.getI (pc := 91) fs_M_302 d_M_readPaid_91 (fun v18 => ?_)
      refine PJ.iload_n (pc := 94) d_M_readPaid_94 rfl ?_
      refine PJ.iast (pc := 95) d_M_readPaid_95 (fun h19 => ?_)
      refine PJ.aload_n (pc := 96) d_M_readPaid_96 rfl ?_
      refine PJ.getR (pc := 97) fs_M_160 d_M_readPaid_97 (fun v20 => ?_)
      refine PJ.getR (pc := 100) fs_M_312 d_M_readPaid_100 (fun v21 => ?_)
      refine PJ.aload_n (pc := 103) d_M_readPaid_103 rfl ?_
      refine PJ.getR (pc := 104) fs_M_160 d_M_readPaid_104 (fun v22 => ?_)
      refine PJ.getI (pc := 107) fs_M_302 d_M_readPaid_107 (fun v23 => ?_)
      refine PJ.iload_n (pc := 110) d_M_readPaid_110 rfl ?_
      refine PJ.iast (pc := 111) d_M_readPaid_111 (fun h24 => ?_)
      refine PJ.aload_n (pc := 112) d_M_readPaid_112 rfl ?_
      refine PJ.getR (pc := 113) fs_M_160 d_M_readPaid_113 (fun v25 => ?_)
      refine PJ.getR (pc := 116) fs_M_315 d_M_readPaid_116 (fun v26 => ?_)
      refine PJ.aload_n (pc := 119) d_M_readPaid_119 rfl ?_
      refine PJ.getR (pc := 120) fs_M_160 d_M_readPaid_120 (fun v27 => ?_)
      refine PJ.getI (pc := 123) fs_M_302 d_M_readPaid_123 (fun v28 => ?_)
      refine PJ.iload_n (pc := 126) d_M_readPaid_126 rfl ?_
      refine PJ.iast (pc := 127) d_M_readPaid_127 (fun h29 => ?_)
      refine PJ.aload_n (pc := 128) d_M_readPaid_128 rfl ?_
      refine PJ.getR (pc := 129) fs_M_160 d_M_readPaid_129 (fun v30 => ?_)
      refine PJ.dup (pc := 132) d_M_readPaid_132 rfl ?_
      refine PJ.getI (pc := 133) fs_M_302 d_M_readPaid_133 (fun v31 => ?_)
      refine PJ.iconst (pc := 136) (v := 1) d_M_readPaid_136 (by decide) ?_
      refine PJ.iadd (pc := 137) d_M_readPaid_137 ?_
      refine PJ.putI (pc := 138) ps_M_302 d_M_readPaid_138 (fun h32 => ?_)
      exact PJ.vret (pc := 141) d_M_readPaid_141 rfl (Nat.le_of_ble_eq_true rfl) (Nat.le_of_ble_eq_true rfl)
    · exact PJ.vret (pc := 79) d_M_readPaid_79 rfl (Nat.le_of_ble_eq_true rfl) (Nat.le_of_ble_eq_true rfl)
theorem d_M_readShop_0 : decode Y_M_readShop.2.1 0 = .ok (.aload_n 0, 1) := by decide +kernel
theorem d_M_readShop_1 : decode Y_M_readShop.2.1 1 = .ok (.aload_n 0, 1) := by decide +kernel
theorem d_M_readShop_2 : decode Y_M_readShop.2.1 2 = .ok (.getfield 160, 3) := by decide +kernel
theorem d_M_readShop_5 : decode Y_M_readShop.2.1 5 = .ok (.getfield 318, 3) := by decide +kernel
theorem d_M_readShop_8 : decode Y_M_readShop.2.1 8 = .ok (.bipush 6, 2) := by decide +kernel
theorem d_M_readShop_10 : decode Y_M_readShop.2.1 10 = .ok (.invokevirtual 237, 3) := by decide +kernel
theorem d_M_readShop_13 : decode Y_M_readShop.2.1 13 = .ok (.aload_n 0, 1) := by decide +kernel
theorem d_M_readShop_14 : decode Y_M_readShop.2.1 14 = .ok (.invokevirtual 241, 3) := by decide +kernel
theorem d_M_readShop_17 : decode Y_M_readShop.2.1 17 = .ok (.lstore_n 1, 1) := by decide +kernel
theorem d_M_readShop_18 : decode Y_M_readShop.2.1 18 = .ok (.aload_n 0, 1) := by decide +kernel
theorem d_M_readShop_19 : decode Y_M_readShop.2.1 19 = .ok (.ldc_w 321, 3) := by decide +kernel
theorem d_M_readShop_22 : decode Y_M_readShop.2.1 22 = .ok (.iconst 0, 1) := by decide +kernel
theorem d_M_readShop_23 : decode Y_M_readShop.2.1 23 = .ok (.bipush 99, 2) := by decide +kernel
theorem d_M_readShop_25 : decode Y_M_readShop.2.1 25 = .ok (.invokevirtual 229, 3) := by decide +kernel
theorem d_M_readShop_28 : decode Y_M_readShop.2.1 28 = .ok (.istore_n 3, 1) := by decide +kernel
theorem d_M_readShop_29 : decode Y_M_readShop.2.1 29 = .ok (.aload_n 0, 1) := by decide +kernel
theorem d_M_readShop_30 : decode Y_M_readShop.2.1 30 = .ok (.getfield 80, 3) := by decide +kernel
theorem d_M_readShop_33 : decode Y_M_readShop.2.1 33 = .ok (.iconst 5, 1) := by decide +kernel
theorem d_M_readShop_34 : decode Y_M_readShop.2.1 34 = .ok (.if_icmp .ne 4, 3) := by decide +kernel
theorem d_M_readShop_37 : decode Y_M_readShop.2.1 37 = .ok (.return_, 1) := by decide +kernel
theorem d_M_readShop_38 : decode Y_M_readShop.2.1 38 = .ok (.aload_n 0, 1) := by decide +kernel
theorem d_M_readShop_39 : decode Y_M_readShop.2.1 39 = .ok (.lload_n 1, 1) := by decide +kernel
theorem d_M_readShop_40 : decode Y_M_readShop.2.1 40 = .ok (.iconst 2, 1) := by decide +kernel
theorem d_M_readShop_41 : decode Y_M_readShop.2.1 41 = .ok (.aload_n 0, 1) := by decide +kernel
theorem d_M_readShop_42 : decode Y_M_readShop.2.1 42 = .ok (.getfield 160, 3) := by decide +kernel
theorem d_M_readShop_45 : decode Y_M_readShop.2.1 45 = .ok (.getfield 318, 3) := by decide +kernel
theorem d_M_readShop_48 : decode Y_M_readShop.2.1 48 = .ok (.invokevirtual 245, 3) := by decide +kernel
theorem d_M_readShop_51 : decode Y_M_readShop.2.1 51 = .ok (.aload_n 0, 1) := by decide +kernel
theorem d_M_readShop_52 : decode Y_M_readShop.2.1 52 = .ok (.getfield 160, 3) := by decide +kernel
theorem d_M_readShop_55 : decode Y_M_readShop.2.1 55 = .ok (.getfield 323, 3) := by decide +kernel
theorem d_M_readShop_58 : decode Y_M_readShop.2.1 58 = .ok (.aload_n 0, 1) := by decide +kernel
theorem d_M_readShop_59 : decode Y_M_readShop.2.1 59 = .ok (.getfield 160, 3) := by decide +kernel
theorem d_M_readShop_62 : decode Y_M_readShop.2.1 62 = .ok (.getfield 318, 3) := by decide +kernel
theorem d_M_readShop_65 : decode Y_M_readShop.2.1 65 = .ok (.iload_n 3, 1) := by decide +kernel
theorem d_M_readShop_66 : decode Y_M_readShop.2.1 66 = .ok (.iastore, 1) := by decide +kernel
theorem d_M_readShop_67 : decode Y_M_readShop.2.1 67 = .ok (.aload_n 0, 1) := by decide +kernel
theorem d_M_readShop_68 : decode Y_M_readShop.2.1 68 = .ok (.getfield 160, 3) := by decide +kernel
theorem d_M_readShop_71 : decode Y_M_readShop.2.1 71 = .ok (.getfield 325, 3) := by decide +kernel
theorem d_M_readShop_74 : decode Y_M_readShop.2.1 74 = .ok (.aload_n 0, 1) := by decide +kernel
theorem d_M_readShop_75 : decode Y_M_readShop.2.1 75 = .ok (.getfield 160, 3) := by decide +kernel
theorem d_M_readShop_78 : decode Y_M_readShop.2.1 78 = .ok (.getfield 318, 3) := by decide +kernel
theorem d_M_readShop_81 : decode Y_M_readShop.2.1 81 = .ok (.iconst 1, 1) := by decide +kernel
theorem d_M_readShop_82 : decode Y_M_readShop.2.1 82 = .ok (.aload_n 0, 1) := by decide +kernel
theorem d_M_readShop_83 : decode Y_M_readShop.2.1 83 = .ok (.getfield 160, 3) := by decide +kernel
theorem d_M_readShop_86 : decode Y_M_readShop.2.1 86 = .ok (.getfield 318, 3) := by decide +kernel
theorem d_M_readShop_89 : decode Y_M_readShop.2.1 89 = .ok (.ishl, 1) := by decide +kernel
theorem d_M_readShop_90 : decode Y_M_readShop.2.1 90 = .ok (.iastore, 1) := by decide +kernel
theorem d_M_readShop_91 : decode Y_M_readShop.2.1 91 = .ok (.aload_n 0, 1) := by decide +kernel
theorem d_M_readShop_92 : decode Y_M_readShop.2.1 92 = .ok (.getfield 160, 3) := by decide +kernel
theorem d_M_readShop_95 : decode Y_M_readShop.2.1 95 = .ok (.dup, 1) := by decide +kernel
theorem d_M_readShop_96 : decode Y_M_readShop.2.1 96 = .ok (.getfield 318, 3) := by decide +kernel
theorem d_M_readShop_99 : decode Y_M_readShop.2.1 99 = .ok (.iconst 1, 1) := by decide +kernel
theorem d_M_readShop_100 : decode Y_M_readShop.2.1 100 = .ok (.iadd, 1) := by decide +kernel
theorem d_M_readShop_101 : decode Y_M_readShop.2.1 101 = .ok (.putfield 318, 3) := by decide +kernel
theorem d_M_readShop_104 : decode Y_M_readShop.2.1 104 = .ok (.return_, 1) := by decide +kernel
def f_M_readShop (h : PH) (a0 : Option Nat) : Option PH := (gR h 12 a0 4).bind fun v1 => (gI h 11 v1 7).bind fun v2 => (cl h 12 a0 (f_M_lineBegins h a0 v2 (6 : Int32))).bind fun h3 => (cl h3 12 a0 (f_M_readFresh h3 a0)).bind fun v4 => (cl v4.2 12 a0 (f_M_readPart v4.2 a0 (some 22) (0 : Int32) (99 : Int32))).bind fun v5 => (gI v5.2 12 a0 9).bind fun v6 => if ¬ v6 = (5 : Int32) then ((gR v5.2 12 a0 4).bind fun v7 => (gI v5.2 11 v7 7).bind fun v8 => (cl v5.2 12 a0 (f_M_names v5.2 a0 v4.1 (2 : Int32) v8)).bind fun h9 => (gR h9 12 a0 4).bind fun v10 => (gR h9 11 v10 22).bind fun v11 => (gR h9 12 a0 4).bind fun v12 => (gI h9 11 v12 7).bind fun v13 => (sA h9 50 v11 v13 (.inl v5.1)).bind fun h14 => (gR h14 12 a0 4).bind fun v15 => (gR h14 11 v15 23).bind fun v16 => (gR h14 12 a0 4).bind fun v17 => (gI h14 11 v17 7).bind fun v18 => (gR h14 12 a0 4).bind fun v19 => (gI h14 11 v19 7).bind fun v20 => (sA h14 50 v16 v18 (.inl ((1 : Int32) <<< (v20 &&& 31)))).bind fun h21 => (gR h21 12 a0 4).bind fun v22 => (gI h21 11 v22 7).bind fun v23 => (sF h21 11 v22 7 (.inl (v23 + (1 : Int32)))).bind fun h24 => some h24) else (some v5.2)
set_option maxRecDepth 20000 in
theorem PM_M_readShop {l : Launch} {G : Cx} {h : PH} {a0 : Option Nat} {z : PH} (hz : f_M_readShop h a0 = some z) : PM l G 11 0 0 Y_M_readShop [.inr (.inr a0)] h (none, z) := by
  refine PM.of (Y := Y_M_readShop) (cv := (fun z : PH => (((none, z) : Option PV × PH)))) (by decide) (L0 := [some (.inr (.inr a0)), none, none, none]) 3 rfl (Nat.le_of_ble_eq_true rfl) ?_ hz
  unfold f_M_readShop
  refine PJ.aload_n (pc := 0) d_M_readShop_0 rfl ?_
  refine PJ.aload_n (pc := 1) d_M_readShop_1 rfl ?_
  refine PJ.getR (pc := 2) fs_M_160 d_M_readShop_2 (fun v1 => ?_)
  refine PJ.getI (pc := 5) fs_M_318 d_M_readShop_5 (fun v2 => ?_)
  refine PJ.bipush (pc := 8) (v := 6) d_M_readShop_8 (by decide) ?_
  refine PJ.cVV (pc := 10) cs_M_237 (fun z hz => PM_M_lineBegins hz) (pj_fitb rfl) rfl rfl (Nat.le_of_ble_eq_true rfl) d_M_readShop_10 (fun h3 => ?_)
  refine PJ.aload_n (pc := 13) d_M_readShop_13 rfl ?_
  refine PJ.cVL (pc := 14) cs_M_241 (fun z hz => PM_M_readFresh hz) (pj_fitb rfl) rfl rfl (Nat.le_of_ble_eq_true rfl) d_M_readShop_14 (fun v4 => ?_)
  refine PJ.lstore_n (pc := 17) (L1 := [some (.inr (.inr a0)), some (.inr (.inl v4.1)), none, none]) d_M_readShop_17 (Nat.le_of_ble_eq_true rfl) rfl rfl ?_
  refine PJ.aload_n (pc := 18) d_M_readShop_18 rfl ?_
  refine PJ.ldcwS (pc := 19) (i := 22) d_M_readShop_19 (by decide) (List.mem_of_getElem? (i := 46) rfl) ?_
  refine PJ.iconst (pc := 22) (v := 0) d_M_readShop_22 (by decide) ?_
  refine PJ.bipush (pc := 23) (v := 99) d_M_readShop_23 (by decide) ?_
  refine PJ.cVI (pc := 25) cs_M_229 (fun z hz => PM_M_readPart hz) (pj_fitb rfl) rfl rfl (Nat.le_of_ble_eq_true rfl) d_M_readShop_25 (fun v5 => ?_)
  refine PJ.istore_n (pc := 28) (L1 := [some (.inr (.inr a0)), some (.inr (.inl v4.1)), none, some (.inl v5.1)]) d_M_readShop_28 (Nat.le_of_ble_eq_true rfl) rfl rfl ?_
  refine PJ.aload_n (pc := 29) d_M_readShop_29 rfl ?_
  refine PJ.getI (pc := 30) fs_M_80 d_M_readShop_30 (fun v6 => ?_)
  refine PJ.iconst (pc := 33) (v := 5) d_M_readShop_33 (by decide) ?_
  refine PJ.icmp_ne (pc := 34) (tgt := 38) d_M_readShop_34 (by decide) (fun _ => ?_) (fun _ => ?_)
  · refine PJ.aload_n (pc := 38) d_M_readShop_38 rfl ?_
    refine PJ.lload_n (pc := 39) d_M_readShop_39 rfl ?_
    refine PJ.iconst (pc := 40) (v := 2) d_M_readShop_40 (by decide) ?_
    refine PJ.aload_n (pc := 41) d_M_readShop_41 rfl ?_
    refine PJ.getR (pc := 42) fs_M_160 d_M_readShop_42 (fun v7 => ?_)
    refine PJ.getI (pc := 45) fs_M_318 d_M_readShop_45 (fun v8 => ?_)
    refine PJ.cVV (pc := 48) cs_M_245 (fun z hz => PM_M_names hz) (pj_fitb rfl) rfl rfl (Nat.le_of_ble_eq_true rfl) d_M_readShop_48 (fun h9 => ?_)
    refine PJ.aload_n (pc := 51) d_M_readShop_51 rfl ?_
    refine PJ.getR (pc := 52) fs_M_160 d_M_readShop_52 (fun v10 => ?_)
    refine PJ.getR (pc := 55) fs_M_323 d_M_readShop_55 (fun v11 => ?_)
    refine PJ.aload_n (pc := 58) d_M_readShop_58 rfl ?_
    refine PJ.getR (pc := 59) fs_M_160 d_M_readShop_59 (fun v12 => ?_)
    refine PJ.getI (pc := 62) fs_M_318 d_M_readShop_62 (fun v13 => ?_)
    refine PJ.iload_n (pc := 65) d_M_readShop_65 rfl ?_
    refine PJ.iast (pc := 66) d_M_readShop_66 (fun h14 => ?_)
    refine PJ.aload_n (pc := 67) d_M_readShop_67 rfl ?_
    refine PJ.getR (pc := 68) fs_M_160 d_M_readShop_68 (fun v15 => ?_)
    refine PJ.getR (pc := 71) fs_M_325 d_M_readShop_71 (fun v16 => ?_)
    refine PJ.aload_n (pc := 74) d_M_readShop_74 rfl ?_
    refine PJ.getR (pc := 75) fs_M_160 d_M_readShop_75 (fun v17 => ?_)
    refine PJ.getI (pc := 78) fs_M_318 d_M_readShop_78 (fun v18 => ?_)
    refine PJ.iconst (pc := 81) (v := 1) d_M_readShop_81 (by decide) ?_
    refine PJ.aload_n (pc := 82) d_M_readShop_82 rfl ?_
    refine PJ.getR (pc := 83) fs_M_160 d_M_readShop_83 (fun v19 => ?_)
    refine PJ.getI (pc := 86) fs_M_318 d_M_readShop_86 (fun v20 => ?_)
    refine PJ.ishl (pc := 89) d_M_readShop_89 ?_
    refine PJ.iast (pc := 90) d_M_readShop_90 (fun h21 => ?_)
    refine PJ.aload_n (pc := 91) d_M_readShop_91 rfl ?_
    refine PJ.getR (pc := 92) fs_M_160 d_M_readShop_92 (fun v22 => ?_)
    refine PJ.dup (pc := 95) d_M_readShop_95 rfl ?_
    refine PJ.getI (pc := 96) fs_M_318 d_M_readShop_96 (fun v23 => ?_)
    refine PJ.iconst (pc := 99) (v := 1) d_M_readShop_99 (by decide) ?_
    refine PJ.iadd (pc := 100) d_M_readShop_100 ?_
    refine PJ.putI (pc := 101) ps_M_318 d_M_readShop_101 (fun h24 => ?_)
    exact PJ.vret (pc := 104) d_M_readShop_104 rfl (Nat.le_of_ble_eq_true rfl) (Nat.le_of_ble_eq_true rfl)
  · exact PJ.vret (pc := 37) d_M_readShop_37 rfl (Nat.le_of_ble_eq_true rfl) (Nat.le_of_ble_eq_true rfl)
theorem d_M_bit_0 : decode Y_M_bit.2.1 0 = .ok (.iload_n 0, 1) := by decide +kernel
theorem d_M_bit_1 : decode Y_M_bit.2.1 1 = .ok (.iload_n 1, 1) := by decide +kernel
theorem d_M_bit_2 : decode Y_M_bit.2.1 2 = .ok (.ishr, 1) := by decide +kernel
theorem d_M_bit_3 : decode Y_M_bit.2.1 3 = .ok (.iconst 1, 1) := by decide +kernel
theorem d_M_bit_4 : decode Y_M_bit.2.1 4 = .ok (.iand, 1) := by decide +kernel
theorem d_M_bit_5 : decode Y_M_bit.2.1 5 = .ok (.iconst 1, 1) := by decide +kernel
theorem d_M_bit_6 : decode Y_M_bit.2.1 6 = .ok (.if_icmp .ne 7, 3) := by decide +kernel
theorem d_M_bit_9 : decode Y_M_bit.2.1 9 = .ok (.iconst 1, 1) := by decide +kernel
theorem d_M_bit_10 : decode Y_M_bit.2.1 10 = .ok (.goto 4, 3) := by decide +kernel
theorem d_M_bit_13 : decode Y_M_bit.2.1 13 = .ok (.iconst 0, 1) := by decide +kernel
theorem d_M_bit_14 : decode Y_M_bit.2.1 14 = .ok (.ireturn, 1) := by decide +kernel
def f_M_bit (h : PH) (a0 : Int32) (a1 : Int32) : Option Int32 := if ¬ ((a0 >>> (a1 &&& 31)) &&& (1 : Int32)) = (1 : Int32) then (some (0 : Int32)) else (some (1 : Int32))
set_option maxRecDepth 20000 in
theorem PM_M_bit {l : Launch} {G : Cx} {h : PH} {a0 : Int32} {a1 : Int32} {z : Int32} (hz : f_M_bit h a0 a1 = some z) : PM l G 1 0 0 Y_M_bit [.inl a0, .inl a1] h (some (.inl z), h) := by
  refine PM.of (Y := Y_M_bit) (cv := (fun z : Int32 => (((some (.inl z), h) : Option PV × PH)))) (by decide) (L0 := [some (.inl a0), some (.inl a1)]) 0 rfl (Nat.le_of_ble_eq_true rfl) ?_ hz
  unfold f_M_bit
  refine PJ.iload_n (pc := 0) d_M_bit_0 rfl ?_
  refine PJ.iload_n (pc := 1) d_M_bit_1 rfl ?_
  refine PJ.ishr (pc := 2) d_M_bit_2 ?_
  refine PJ.iconst (pc := 3) (v := 1) d_M_bit_3 (by decide) ?_
  refine PJ.iand (pc := 4) d_M_bit_4 ?_
  refine PJ.iconst (pc := 5) (v := 1) d_M_bit_5 (by decide) ?_
  refine PJ.icmp_ne (pc := 6) (tgt := 13) d_M_bit_6 (by decide) (fun _ => ?_) (fun _ => ?_)
  · refine PJ.iconst (pc := 13) (v := 0) d_M_bit_13 (by decide) ?_
    exact PJ.zretp (pc := 14) d_M_bit_14 rfl rfl (Nat.le_of_ble_eq_true rfl) (Nat.le_of_ble_eq_true rfl)
  · refine PJ.iconst (pc := 9) (v := 1) d_M_bit_9 (by decide) ?_
    refine PJ.goto (pc := 10) (tgt := 14) d_M_bit_10 (by decide) ?_
    exact PJ.zretp (pc := 14) d_M_bit_14 rfl rfl (Nat.le_of_ble_eq_true rfl) (Nat.le_of_ble_eq_true rfl)
theorem d_M_readLane_0 : decode Y_M_readLane.2.1 0 = .ok (.aload_n 0, 1) := by decide +kernel
theorem d_M_readLane_1 : decode Y_M_readLane.2.1 1 = .ok (.aload_n 0, 1) := by decide +kernel
theorem d_M_readLane_2 : decode Y_M_readLane.2.1 2 = .ok (.getfield 160, 3) := by decide +kernel
theorem d_M_readLane_5 : decode Y_M_readLane.2.1 5 = .ok (.getfield 327, 3) := by decide +kernel
theorem d_M_readLane_8 : decode Y_M_readLane.2.1 8 = .ok (.bipush 8, 2) := by decide +kernel
theorem d_M_readLane_10 : decode Y_M_readLane.2.1 10 = .ok (.invokevirtual 237, 3) := by decide +kernel
theorem d_M_readLane_13 : decode Y_M_readLane.2.1 13 = .ok (.aload_n 0, 1) := by decide +kernel
theorem d_M_readLane_14 : decode Y_M_readLane.2.1 14 = .ok (.iconst 2, 1) := by decide +kernel
theorem d_M_readLane_15 : decode Y_M_readLane.2.1 15 = .ok (.invokevirtual 248, 3) := by decide +kernel
theorem d_M_readLane_18 : decode Y_M_readLane.2.1 18 = .ok (.istore_n 1, 1) := by decide +kernel
theorem d_M_readLane_19 : decode Y_M_readLane.2.1 19 = .ok (.aload_n 0, 1) := by decide +kernel
theorem d_M_readLane_20 : decode Y_M_readLane.2.1 20 = .ok (.iconst 2, 1) := by decide +kernel
theorem d_M_readLane_21 : decode Y_M_readLane.2.1 21 = .ok (.invokevirtual 189, 3) := by decide +kernel
theorem d_M_readLane_24 : decode Y_M_readLane.2.1 24 = .ok (.istore_n 2, 1) := by decide +kernel
theorem d_M_readLane_25 : decode Y_M_readLane.2.1 25 = .ok (.aload_n 0, 1) := by decide +kernel
theorem d_M_readLane_26 : decode Y_M_readLane.2.1 26 = .ok (.getfield 80, 3) := by decide +kernel
theorem d_M_readLane_29 : decode Y_M_readLane.2.1 29 = .ok (.iconst 5, 1) := by decide +kernel
theorem d_M_readLane_30 : decode Y_M_readLane.2.1 30 = .ok (.if_icmp .eq 24, 3) := by decide +kernel
theorem d_M_readLane_33 : decode Y_M_readLane.2.1 33 = .ok (.aload_n 0, 1) := by decide +kernel
theorem d_M_readLane_34 : decode Y_M_readLane.2.1 34 = .ok (.getfield 160, 3) := by decide +kernel
theorem d_M_readLane_37 : decode Y_M_readLane.2.1 37 = .ok (.getfield 325, 3) := by decide +kernel
theorem d_M_readLane_40 : decode Y_M_readLane.2.1 40 = .ok (.iload_n 1, 1) := by decide +kernel
theorem d_M_readLane_41 : decode Y_M_readLane.2.1 41 = .ok (.iaload, 1) := by decide +kernel
theorem d_M_readLane_42 : decode Y_M_readLane.2.1 42 = .ok (.iload_n 2, 1) := by decide +kernel
theorem d_M_readLane_43 : decode Y_M_readLane.2.1 43 = .ok (.invokestatic 330, 3) := by decide +kernel
theorem d_M_readLane_46 : decode Y_M_readLane.2.1 46 = .ok (.ifCond .eq 8, 3) := by decide +kernel
theorem d_M_readLane_49 : decode Y_M_readLane.2.1 49 = .ok (.aload_n 0, 1) := by decide +kernel
theorem d_M_readLane_50 : decode Y_M_readLane.2.1 50 = .ok (.iconst 3, 1) := by decide +kernel
theorem d_M_readLane_51 : decode Y_M_readLane.2.1 51 = .ok (.invokevirtual 123, 3) := by decide +kernel
theorem d_M_readLane_54 : decode Y_M_readLane.2.1 54 = .ok (.aload_n 0, 1) := by decide +kernel
theorem d_M_readLane_55 : decode Y_M_readLane.2.1 55 = .ok (.invokevirtual 116, 3) := by decide +kernel
theorem d_M_readLane_58 : decode Y_M_readLane.2.1 58 = .ok (.aload_n 0, 1) := by decide +kernel
theorem d_M_readLane_59 : decode Y_M_readLane.2.1 59 = .ok (.getfield 80, 3) := by decide +kernel
theorem d_M_readLane_62 : decode Y_M_readLane.2.1 62 = .ok (.iconst 5, 1) := by decide +kernel
theorem d_M_readLane_63 : decode Y_M_readLane.2.1 63 = .ok (.if_icmp .ne 4, 3) := by decide +kernel
theorem d_M_readLane_66 : decode Y_M_readLane.2.1 66 = .ok (.return_, 1) := by decide +kernel
theorem d_M_readLane_67 : decode Y_M_readLane.2.1 67 = .ok (.aload_n 0, 1) := by decide +kernel
theorem d_M_readLane_68 : decode Y_M_readLane.2.1 68 = .ok (.getfield 160, 3) := by decide +kernel
theorem d_M_readLane_71 : decode Y_M_readLane.2.1 71 = .ok (.getfield 325, 3) := by decide +kernel
theorem d_M_readLane_74 : decode Y_M_readLane.2.1 74 = .ok (.iload_n 1, 1) := by decide +kernel
theorem d_M_readLane_75 : decode Y_M_readLane.2.1 75 = .ok (.dup2, 1) := by decide +kernel
theorem d_M_readLane_76 : decode Y_M_readLane.2.1 76 = .ok (.iaload, 1) := by decide +kernel
theorem d_M_readLane_77 : decode Y_M_readLane.2.1 77 = .ok (.iconst 1, 1) := by decide +kernel
theorem d_M_readLane_78 : decode Y_M_readLane.2.1 78 = .ok (.iload_n 2, 1) := by decide +kernel
theorem d_M_readLane_79 : decode Y_M_readLane.2.1 79 = .ok (.ishl, 1) := by decide +kernel
theorem d_M_readLane_80 : decode Y_M_readLane.2.1 80 = .ok (.ior, 1) := by decide +kernel
theorem d_M_readLane_81 : decode Y_M_readLane.2.1 81 = .ok (.iastore, 1) := by decide +kernel
theorem d_M_readLane_82 : decode Y_M_readLane.2.1 82 = .ok (.aload_n 0, 1) := by decide +kernel
theorem d_M_readLane_83 : decode Y_M_readLane.2.1 83 = .ok (.getfield 160, 3) := by decide +kernel
theorem d_M_readLane_86 : decode Y_M_readLane.2.1 86 = .ok (.getfield 325, 3) := by decide +kernel
theorem d_M_readLane_89 : decode Y_M_readLane.2.1 89 = .ok (.iload_n 2, 1) := by decide +kernel
theorem d_M_readLane_90 : decode Y_M_readLane.2.1 90 = .ok (.dup2, 1) := by decide +kernel
theorem d_M_readLane_91 : decode Y_M_readLane.2.1 91 = .ok (.iaload, 1) := by decide +kernel
theorem d_M_readLane_92 : decode Y_M_readLane.2.1 92 = .ok (.iconst 1, 1) := by decide +kernel
theorem d_M_readLane_93 : decode Y_M_readLane.2.1 93 = .ok (.iload_n 1, 1) := by decide +kernel
theorem d_M_readLane_94 : decode Y_M_readLane.2.1 94 = .ok (.ishl, 1) := by decide +kernel
theorem d_M_readLane_95 : decode Y_M_readLane.2.1 95 = .ok (.ior, 1) := by decide +kernel
theorem d_M_readLane_96 : decode Y_M_readLane.2.1 96 = .ok (.iastore, 1) := by decide +kernel
theorem d_M_readLane_97 : decode Y_M_readLane.2.1 97 = .ok (.aload_n 0, 1) := by decide +kernel
theorem d_M_readLane_98 : decode Y_M_readLane.2.1 98 = .ok (.getfield 160, 3) := by decide +kernel
theorem d_M_readLane_101 : decode Y_M_readLane.2.1 101 = .ok (.dup, 1) := by decide +kernel
theorem d_M_readLane_102 : decode Y_M_readLane.2.1 102 = .ok (.getfield 327, 3) := by decide +kernel
theorem d_M_readLane_105 : decode Y_M_readLane.2.1 105 = .ok (.iconst 1, 1) := by decide +kernel
theorem d_M_readLane_106 : decode Y_M_readLane.2.1 106 = .ok (.iadd, 1) := by decide +kernel
theorem d_M_readLane_107 : decode Y_M_readLane.2.1 107 = .ok (.putfield 327, 3) := by decide +kernel
theorem d_M_readLane_110 : decode Y_M_readLane.2.1 110 = .ok (.return_, 1) := by decide +kernel
def f_M_readLane (h : PH) (a0 : Option Nat) : Option PH := (gR h 12 a0 4).bind fun v1 => (gI h 11 v1 8).bind fun v2 => (cl h 12 a0 (f_M_lineBegins h a0 v2 (8 : Int32))).bind fun h3 => (cl h3 12 a0 (f_M_readKnown h3 a0 (2 : Int32))).bind fun v4 => (cl v4.2 12 a0 (f_M_knownOne v4.2 a0 (2 : Int32))).bind fun v5 => (gI v5.2 12 a0 9).bind fun v6 => (if v6 = (5 : Int32) then (some v5.2) else ((gR v5.2 12 a0 4).bind fun v8 => (gR v5.2 11 v8 23).bind fun v9 => (aI v5.2 v9 v4.1).bind fun v10 => (f_M_bit v5.2 v10 v5.1).bind fun v11 => if v11 = 0 then (some v5.2) else ((cl v5.2 12 a0 (f_M_flaw v5.2 a0 (3 : Int32))).bind fun h12 => some h12)) : Option (PH)).bind fun j7 => (cl j7 12 a0 (f_M_goesOn j7 a0)).bind fun h13 => (gI h13 12 a0 9).bind fun v14 => if ¬ v14 = (5 : Int32) then ((gR h13 12 a0 4).bind fun v15 => (gR h13 11 v15 23).bind fun v16 => (aI h13 v16 v4.1).bind fun v17 => (sA h13 50 v16 v4.1 (.inl (v17 ||| ((1 : Int32) <<< (v5.1 &&& 31))))).bind fun h18 => (gR h18 12 a0 4).bind fun v19 => (gR h18 11 v19 23).bind fun v20 => (aI h18 v20 v5.1).bind fun v21 => (sA h18 50 v20 v5.1 (.inl (v21 ||| ((1 : Int32) <<< (v4.1 &&& 31))))).bind fun h22 => (gR h22 12 a0 4).bind fun v23 => (gI h22 11 v23 8).bind fun v24 => (sF h22 11 v23 8 (.inl (v24 + (1 : Int32)))).bind fun h25 => some h25) else (some h13)
set_option maxRecDepth 20000 in
theorem PM_M_readLane {l : Launch} {G : Cx} {h : PH} {a0 : Option Nat} {z : PH} (hz : f_M_readLane h a0 = some z) : PM l G 12 0 0 Y_M_readLane [.inr (.inr a0)] h (none, z) := by
  refine PM.of (Y := Y_M_readLane) (cv := (fun z : PH => (((none, z) : Option PV × PH)))) (by decide) (L0 := [some (.inr (.inr a0)), none, none]) 2 rfl (Nat.le_of_ble_eq_true rfl) ?_ hz
  unfold f_M_readLane
  refine PJ.aload_n (pc := 0) d_M_readLane_0 rfl ?_
  refine PJ.aload_n (pc := 1) d_M_readLane_1 rfl ?_
  refine PJ.getR (pc := 2) fs_M_160 d_M_readLane_2 (fun v1 => ?_)
  refine PJ.getI (pc := 5) fs_M_327 d_M_readLane_5 (fun v2 => ?_)
  refine PJ.bipush (pc := 8) (v := 8) d_M_readLane_8 (by decide) ?_
  refine PJ.cVV (pc := 10) cs_M_237 (fun z hz => PM_M_lineBegins hz) (pj_fitb rfl) rfl rfl (Nat.le_of_ble_eq_true rfl) d_M_readLane_10 (fun h3 => ?_)
  refine PJ.aload_n (pc := 13) d_M_readLane_13 rfl ?_
  refine PJ.iconst (pc := 14) (v := 2) d_M_readLane_14 (by decide) ?_
  refine PJ.cVI (pc := 15) cs_M_248 (fun z hz => PM_M_readKnown hz) (pj_fitb rfl) rfl rfl (Nat.le_of_ble_eq_true rfl) d_M_readLane_15 (fun v4 => ?_)
  refine PJ.istore_n (pc := 18) (L1 := [some (.inr (.inr a0)), some (.inl v4.1), none]) d_M_readLane_18 (Nat.le_of_ble_eq_true rfl) rfl rfl ?_
  refine PJ.aload_n (pc := 19) d_M_readLane_19 rfl ?_
  refine PJ.iconst (pc := 20) (v := 2) d_M_readLane_20 (by decide) ?_
  refine PJ.cVI (pc := 21) cs_M_189 (fun z hz => PM_M_knownOne hz) (pj_fitb rfl) rfl rfl (Nat.le_of_ble_eq_true rfl) d_M_readLane_21 (fun v5 => ?_)
  refine PJ.istore_n (pc := 24) (L1 := [some (.inr (.inr a0)), some (.inl v4.1), some (.inl v5.1)]) d_M_readLane_24 (Nat.le_of_ble_eq_true rfl) rfl rfl ?_
  refine PJ.aload_n (pc := 25) d_M_readLane_25 rfl ?_
  refine PJ.getI (pc := 26) fs_M_80 d_M_readLane_26 (fun v6 => ?_)
  refine PJ.iconst (pc := 29) (v := 5) d_M_readLane_29 (by decide) ?_
  refine PJ.bind (fun j7 : PH => ((54 : Nat), ([some (.inr (.inr a0)), some (.inl v4.1), some (.inl v5.1)] : List (Option PV)), ([] : List PV), (j7 : PH), (0 : Nat), (0 : Nat))) ?_ (fun j7 => ?_)
  · refine PJ.icmp_eq (pc := 30) (tgt := 54) d_M_readLane_30 (by decide) (fun _ => ?_) (fun _ => ?_)
    · exact PJ.done rfl
    · refine PJ.aload_n (pc := 33) d_M_readLane_33 rfl ?_
      refine PJ.getR (pc := 34) fs_M_160 d_M_readLane_34 (fun v8 => ?_)
      refine PJ.getR (pc := 37) fs_M_325 d_M_readLane_37 (fun v9 => ?_)
      refine PJ.iload_n (pc := 40) d_M_readLane_40 rfl ?_
      refine PJ.iald (pc := 41) d_M_readLane_41 (fun v10 => ?_)
      refine PJ.iload_n (pc := 42) d_M_readLane_42 rfl ?_
      refine PJ.cSpI (pc := 43) cs_M_330 (fun z hz => PM_M_bit hz) (pj_fitb rfl) rfl rfl (Nat.le_of_ble_eq_true rfl) d_M_readLane_43 (fun v11 => ?_)
      refine PJ.if_eq (pc := 46) (tgt := 54) d_M_readLane_46 (by decide) (fun _ => ?_) (fun _ => ?_)
      · exact PJ.done rfl
      · refine PJ.aload_n (pc := 49) d_M_readLane_49 rfl ?_
        refine PJ.iconst (pc := 50) (v := 3) d_M_readLane_50 (by decide) ?_
        refine PJ.cVV (pc := 51) cs_M_123 (fun z hz => PM_M_flaw hz) (pj_fitb rfl) rfl rfl (Nat.le_of_ble_eq_true rfl) d_M_readLane_51 (fun h12 => ?_)
        exact PJ.done rfl
  · show PJ l G (pj_rm 12 0 0) Y_M_readLane 54 [some (.inr (.inr a0)), some (.inl v4.1), some (.inl v5.1)] [] j7 0 0 _ _
    refine PJ.aload_n (pc := 54) d_M_readLane_54 rfl ?_
    refine PJ.cVV (pc := 55) cs_M_116 (fun z hz => PM_M_goesOn hz) (pj_fitb rfl) rfl rfl (Nat.le_of_ble_eq_true rfl) d_M_readLane_55 (fun h13 => ?_)
    refine PJ.aload_n (pc := 58) d_M_readLane_58 rfl ?_
    refine PJ.getI (pc := 59) fs_M_80 d_M_readLane_59 (fun v14 => ?_)
    refine PJ.iconst (pc := 62) (v := 5) d_M_readLane_62 (by decide) ?_
    refine PJ.icmp_ne (pc := 63) (tgt := 67) d_M_readLane_63 (by decide) (fun _ => ?_) (fun _ => ?_)
    · refine PJ.aload_n (pc := 67) d_M_readLane_67 rfl ?_
      refine PJ.getR (pc := 68) fs_M_160 d_M_readLane_68 (fun v15 => ?_)
      refine PJ.getR (pc := 71) fs_M_325 d_M_readLane_71 (fun v16 => ?_)
      refine PJ.iload_n (pc := 74) d_M_readLane_74 rfl ?_
      refine PJ.dup2 (pc := 75) d_M_readLane_75 rfl rfl ?_
      refine PJ.iald (pc := 76) d_M_readLane_76 (fun v17 => ?_)
      refine PJ.iconst (pc := 77) (v := 1) d_M_readLane_77 (by decide) ?_
      refine PJ.iload_n (pc := 78) d_M_readLane_78 rfl ?_
      refine PJ.ishl (pc := 79) d_M_readLane_79 ?_
      refine PJ.ior (pc := 80) d_M_readLane_80 ?_
      refine PJ.iast (pc := 81) d_M_readLane_81 (fun h18 => ?_)
      refine PJ.aload_n (pc := 82) d_M_readLane_82 rfl ?_
      refine PJ.getR (pc := 83) fs_M_160 d_M_readLane_83 (fun v19 => ?_)
      refine PJ.getR (pc := 86) fs_M_325 d_M_readLane_86 (fun v20 => ?_)
      refine PJ.iload_n (pc := 89) d_M_readLane_89 rfl ?_
      refine PJ.dup2 (pc := 90) d_M_readLane_90 rfl rfl ?_
      refine PJ.iald (pc := 91) d_M_readLane_91 (fun v21 => ?_)
      refine PJ.iconst (pc := 92) (v := 1) d_M_readLane_92 (by decide) ?_
      refine PJ.iload_n (pc := 93) d_M_readLane_93 rfl ?_
      refine PJ.ishl (pc := 94) d_M_readLane_94 ?_
      refine PJ.ior (pc := 95) d_M_readLane_95 ?_
      refine PJ.iast (pc := 96) d_M_readLane_96 (fun h22 => ?_)
      refine PJ.aload_n (pc := 97) d_M_readLane_97 rfl ?_
      refine PJ.getR (pc := 98) fs_M_160 d_M_readLane_98 (fun v23 => ?_)
      refine PJ.dup (pc := 101) d_M_readLane_101 rfl ?_
      refine PJ.getI (pc := 102) fs_M_327 d_M_readLane_102 (fun v24 => ?_)
      refine PJ.iconst (pc := 105) (v := 1) d_M_readLane_105 (by decide) ?_
      refine PJ.iadd (pc := 106) d_M_readLane_106 ?_
      refine PJ.putI (pc := 107) ps_M_327 d_M_readLane_107 (fun h25 => ?_)
      exact PJ.vret (pc := 110) d_M_readLane_110 rfl (Nat.le_of_ble_eq_true rfl) (Nat.le_of_ble_eq_true rfl)
    · exact PJ.vret (pc := 66) d_M_readLane_66 rfl (Nat.le_of_ble_eq_true rfl) (Nat.le_of_ble_eq_true rfl)
theorem d_M_readLine_0 : decode Y_M_readLine.2.1 0 = .ok (.aload_n 0, 1) := by decide +kernel
theorem d_M_readLine_1 : decode Y_M_readLine.2.1 1 = .ok (.ldc 142, 2) := by decide +kernel
theorem d_M_readLine_3 : decode Y_M_readLine.2.1 3 = .ok (.invokevirtual 119, 3) := by decide +kernel
theorem d_M_readLine_6 : decode Y_M_readLine.2.1 6 = .ok (.ifCond .eq 10, 3) := by decide +kernel
theorem d_M_readLine_9 : decode Y_M_readLine.2.1 9 = .ok (.aload_n 0, 1) := by decide +kernel
theorem d_M_readLine_10 : decode Y_M_readLine.2.1 10 = .ok (.invokevirtual 201, 3) := by decide +kernel
theorem d_M_readLine_13 : decode Y_M_readLine.2.1 13 = .ok (.goto 136, 3) := by decide +kernel
theorem d_M_readLine_16 : decode Y_M_readLine.2.1 16 = .ok (.aload_n 0, 1) := by decide +kernel
theorem d_M_readLine_17 : decode Y_M_readLine.2.1 17 = .ok (.ldc 144, 2) := by decide +kernel
theorem d_M_readLine_19 : decode Y_M_readLine.2.1 19 = .ok (.invokevirtual 119, 3) := by decide +kernel
theorem d_M_readLine_22 : decode Y_M_readLine.2.1 22 = .ok (.ifCond .eq 10, 3) := by decide +kernel
theorem d_M_readLine_25 : decode Y_M_readLine.2.1 25 = .ok (.aload_n 0, 1) := by decide +kernel
theorem d_M_readLine_26 : decode Y_M_readLine.2.1 26 = .ok (.invokevirtual 204, 3) := by decide +kernel
theorem d_M_readLine_29 : decode Y_M_readLine.2.1 29 = .ok (.goto 120, 3) := by decide +kernel
theorem d_M_readLine_32 : decode Y_M_readLine.2.1 32 = .ok (.aload_n 0, 1) := by decide +kernel
theorem d_M_readLine_33 : decode Y_M_readLine.2.1 33 = .ok (.ldc 146, 2) := by decide +kernel
theorem d_M_readLine_35 : decode Y_M_readLine.2.1 35 = .ok (.invokevirtual 119, 3) := by decide +kernel
theorem d_M_readLine_38 : decode Y_M_readLine.2.1 38 = .ok (.ifCond .eq 10, 3) := by decide +kernel
theorem d_M_readLine_41 : decode Y_M_readLine.2.1 41 = .ok (.aload_n 0, 1) := by decide +kernel
theorem d_M_readLine_42 : decode Y_M_readLine.2.1 42 = .ok (.invokevirtual 207, 3) := by decide +kernel
theorem d_M_readLine_45 : decode Y_M_readLine.2.1 45 = .ok (.goto 104, 3) := by decide +kernel
theorem d_M_readLine_48 : decode Y_M_readLine.2.1 48 = .ok (.aload_n 0, 1) := by decide +kernel
theorem d_M_readLine_49 : decode Y_M_readLine.2.1 49 = .ok (.ldc 148, 2) := by decide +kernel
theorem d_M_readLine_51 : decode Y_M_readLine.2.1 51 = .ok (.invokevirtual 119, 3) := by decide +kernel
theorem d_M_readLine_54 : decode Y_M_readLine.2.1 54 = .ok (.ifCond .eq 10, 3) := by decide +kernel
theorem d_M_readLine_57 : decode Y_M_readLine.2.1 57 = .ok (.aload_n 0, 1) := by decide +kernel
theorem d_M_readLine_58 : decode Y_M_readLine.2.1 58 = .ok (.invokevirtual 210, 3) := by decide +kernel
theorem d_M_readLine_61 : decode Y_M_readLine.2.1 61 = .ok (.goto 88, 3) := by decide +kernel
theorem d_M_readLine_64 : decode Y_M_readLine.2.1 64 = .ok (.aload_n 0, 1) := by decide +kernel
theorem d_M_readLine_65 : decode Y_M_readLine.2.1 65 = .ok (.ldc 150, 2) := by decide +kernel
theorem d_M_readLine_67 : decode Y_M_readLine.2.1 67 = .ok (.invokevirtual 119, 3) := by decide +kernel
theorem d_M_readLine_70 : decode Y_M_readLine.2.1 70 = .ok (.ifCond .eq 10, 3) := by decide +kernel
theorem d_M_readLine_73 : decode Y_M_readLine.2.1 73 = .ok (.aload_n 0, 1) := by decide +kernel
theorem d_M_readLine_74 : decode Y_M_readLine.2.1 74 = .ok (.invokevirtual 213, 3) := by decide +kernel
theorem d_M_readLine_77 : decode Y_M_readLine.2.1 77 = .ok (.goto 72, 3) := by decide +kernel
theorem d_M_readLine_80 : decode Y_M_readLine.2.1 80 = .ok (.aload_n 0, 1) := by decide +kernel
theorem d_M_readLine_81 : decode Y_M_readLine.2.1 81 = .ok (.ldc 152, 2) := by decide +kernel
theorem d_M_readLine_83 : decode Y_M_readLine.2.1 83 = .ok (.invokevirtual 119, 3) := by decide +kernel
theorem d_M_readLine_86 : decode Y_M_readLine.2.1 86 = .ok (.ifCond .eq 10, 3) := by decide +kernel
theorem d_M_readLine_89 : decode Y_M_readLine.2.1 89 = .ok (.aload_n 0, 1) := by decide +kernel
theorem d_M_readLine_90 : decode Y_M_readLine.2.1 90 = .ok (.invokevirtual 216, 3) := by decide +kernel
theorem d_M_readLine_93 : decode Y_M_readLine.2.1 93 = .ok (.goto 56, 3) := by decide +kernel
theorem d_M_readLine_96 : decode Y_M_readLine.2.1 96 = .ok (.aload_n 0, 1) := by decide +kernel
theorem d_M_readLine_97 : decode Y_M_readLine.2.1 97 = .ok (.ldc 154, 2) := by decide +kernel
theorem d_M_readLine_99 : decode Y_M_readLine.2.1 99 = .ok (.invokevirtual 119, 3) := by decide +kernel
theorem d_M_readLine_102 : decode Y_M_readLine.2.1 102 = .ok (.ifCond .eq 10, 3) := by decide +kernel
theorem d_M_readLine_105 : decode Y_M_readLine.2.1 105 = .ok (.aload_n 0, 1) := by decide +kernel
theorem d_M_readLine_106 : decode Y_M_readLine.2.1 106 = .ok (.invokevirtual 219, 3) := by decide +kernel
theorem d_M_readLine_109 : decode Y_M_readLine.2.1 109 = .ok (.goto 40, 3) := by decide +kernel
theorem d_M_readLine_112 : decode Y_M_readLine.2.1 112 = .ok (.aload_n 0, 1) := by decide +kernel
theorem d_M_readLine_113 : decode Y_M_readLine.2.1 113 = .ok (.ldc 156, 2) := by decide +kernel
theorem d_M_readLine_115 : decode Y_M_readLine.2.1 115 = .ok (.invokevirtual 119, 3) := by decide +kernel
theorem d_M_readLine_118 : decode Y_M_readLine.2.1 118 = .ok (.ifCond .eq 10, 3) := by decide +kernel
theorem d_M_readLine_121 : decode Y_M_readLine.2.1 121 = .ok (.aload_n 0, 1) := by decide +kernel
theorem d_M_readLine_122 : decode Y_M_readLine.2.1 122 = .ok (.invokevirtual 222, 3) := by decide +kernel
theorem d_M_readLine_125 : decode Y_M_readLine.2.1 125 = .ok (.goto 24, 3) := by decide +kernel
theorem d_M_readLine_128 : decode Y_M_readLine.2.1 128 = .ok (.aload_n 0, 1) := by decide +kernel
theorem d_M_readLine_129 : decode Y_M_readLine.2.1 129 = .ok (.ldc 158, 2) := by decide +kernel
theorem d_M_readLine_131 : decode Y_M_readLine.2.1 131 = .ok (.invokevirtual 119, 3) := by decide +kernel
theorem d_M_readLine_134 : decode Y_M_readLine.2.1 134 = .ok (.ifCond .eq 10, 3) := by decide +kernel
theorem d_M_readLine_137 : decode Y_M_readLine.2.1 137 = .ok (.aload_n 0, 1) := by decide +kernel
theorem d_M_readLine_138 : decode Y_M_readLine.2.1 138 = .ok (.invokevirtual 225, 3) := by decide +kernel
theorem d_M_readLine_141 : decode Y_M_readLine.2.1 141 = .ok (.goto 8, 3) := by decide +kernel
theorem d_M_readLine_144 : decode Y_M_readLine.2.1 144 = .ok (.aload_n 0, 1) := by decide +kernel
theorem d_M_readLine_145 : decode Y_M_readLine.2.1 145 = .ok (.iconst 1, 1) := by decide +kernel
theorem d_M_readLine_146 : decode Y_M_readLine.2.1 146 = .ok (.invokevirtual 123, 3) := by decide +kernel
theorem d_M_readLine_149 : decode Y_M_readLine.2.1 149 = .ok (.return_, 1) := by decide +kernel
def f_M_readLine (h : PH) (a0 : Option Nat) : Option PH := (cl h 12 a0 (f_M_isWord h a0 (some 0))).bind fun v1 => if v1 = 0 then ((cl h 12 a0 (f_M_isWord h a0 (some 1))).bind fun v2 => if v2 = 0 then ((cl h 12 a0 (f_M_isWord h a0 (some 2))).bind fun v3 => if v3 = 0 then ((cl h 12 a0 (f_M_isWord h a0 (some 3))).bind fun v4 => if v4 = 0 then ((cl h 12 a0 (f_M_isWord h a0 (some 4))).bind fun v5 => if v5 = 0 then ((cl h 12 a0 (f_M_isWord h a0 (some 5))).bind fun v6 => if v6 = 0 then ((cl h 12 a0 (f_M_isWord h a0 (some 6))).bind fun v7 => if v7 = 0 then ((cl h 12 a0 (f_M_isWord h a0 (some 7))).bind fun v8 => if v8 = 0 then ((cl h 12 a0 (f_M_isWord h a0 (some 8))).bind fun v9 => if v9 = 0 then ((cl h 12 a0 (f_M_flaw h a0 (1 : Int32))).bind fun h10 => some h10) else ((cl h 12 a0 (f_M_readLane h a0)).bind fun h11 => some h11)) else ((cl h 12 a0 (f_M_readShop h a0)).bind fun h12 => some h12)) else ((cl h 12 a0 (f_M_readPaid h a0)).bind fun h13 => some h13)) else ((cl h 12 a0 (f_M_readReason h a0)).bind fun h14 => some h14)) else ((cl h 12 a0 (f_M_readLikes h a0)).bind fun h15 => some h15)) else ((cl h 12 a0 (f_M_readPerson h a0)).bind fun h16 => some h16)) else ((cl h 12 a0 (f_M_readFar h a0)).bind fun h17 => some h17)) else ((cl h 12 a0 (f_M_readChoice h a0)).bind fun h18 => some h18)) else ((cl h 12 a0 (f_M_readTax h a0)).bind fun h19 => some h19)
set_option maxRecDepth 20000 in
theorem PM_M_readLine {l : Launch} {G : Cx} {h : PH} {a0 : Option Nat} {z : PH} (hz : f_M_readLine h a0 = some z) : PM l G 13 0 0 Y_M_readLine [.inr (.inr a0)] h (none, z) := by
  refine PM.of (Y := Y_M_readLine) (cv := (fun z : PH => (((none, z) : Option PV × PH)))) (by decide) (L0 := [some (.inr (.inr a0))]) 0 rfl (Nat.le_of_ble_eq_true rfl) ?_ hz
  unfold f_M_readLine
  refine PJ.aload_n (pc := 0) d_M_readLine_0 rfl ?_
  refine PJ.ldcS (pc := 1) (i := 0) d_M_readLine_1 (by decide) (List.mem_of_getElem? (i := 24) rfl) ?_
  refine PJ.cVpI (pc := 3) cs_M_119 (fun z hz => PM_M_isWord hz) (pj_fitb rfl) rfl rfl (Nat.le_of_ble_eq_true rfl) d_M_readLine_3 (fun v1 => ?_)
  refine PJ.if_eq (pc := 6) (tgt := 16) d_M_readLine_6 (by decide) (fun _ => ?_) (fun _ => ?_)
  · refine PJ.aload_n (pc := 16) d_M_readLine_16 rfl ?_
    refine PJ.ldcS (pc := 17) (i := 1) d_M_readLine_17 (by decide) (List.mem_of_getElem? (i := 27) rfl) ?_
    refine PJ.cVpI (pc := 19) cs_M_119 (fun z hz => PM_M_isWord hz) (pj_fitb rfl) rfl rfl (Nat.le_of_ble_eq_true rfl) d_M_readLine_19 (fun v2 => ?_)
    refine PJ.if_eq (pc := 22) (tgt := 32) d_M_readLine_22 (by decide) (fun _ => ?_) (fun _ => ?_)
    · refine PJ.aload_n (pc := 32) d_M_readLine_32 rfl ?_
      refine PJ.ldcS (pc := 33) (i := 2) d_M_readLine_33 (by decide) (List.mem_of_getElem? (i := 28) rfl) ?_
      refine PJ.cVpI (pc := 35) cs_M_119 (fun z hz => PM_M_isWord hz) (pj_fitb rfl) rfl rfl (Nat.le_of_ble_eq_true rfl) d_M_readLine_35 (fun v3 => ?_)
      refine PJ.if_eq (pc := 38) (tgt := 48) d_M_readLine_38 (by decide) (fun _ => ?_) (fun _ => ?_)
      · refine PJ.aload_n (pc := 48) d_M_readLine_48 rfl ?_
        refine PJ.ldcS (pc := 49) (i := 3) d_M_readLine_49 (by decide) (List.mem_of_getElem? (i := 29) rfl) ?_
        refine PJ.cVpI (pc := 51) cs_M_119 (fun z hz => PM_M_isWord hz) (pj_fitb rfl) rfl rfl (Nat.le_of_ble_eq_true rfl) d_M_readLine_51 (fun v4 => ?_)
        refine PJ.if_eq (pc := 54) (tgt := 64) d_M_readLine_54 (by decide) (fun _ => ?_) (fun _ => ?_)
        · refine PJ.aload_n (pc := 64) d_M_readLine_64 rfl ?_
          refine PJ.ldcS (pc := 65) (i := 4) d_M_readLine_65 (by decide) (List.mem_of_getElem? (i := 30) rfl) ?_
          refine PJ.cVpI (pc := 67) cs_M_119 (fun z hz => PM_M_isWord hz) (pj_fitb rfl) rfl rfl (Nat.le_of_ble_eq_true rfl) d_M_readLine_67 (fun v5 => ?_)
          refine PJ.if_eq (pc := 70) (tgt := 80) d_M_readLine_70 (by decide) (fun _ => ?_) (fun _ => ?_)
          · refine PJ.aload_n (pc := 80) d_M_readLine_80 rfl ?_
            refine PJ.ldcS (pc := 81) (i := 5) d_M_readLine_81 (by decide) (List.mem_of_getElem? (i := 31) rfl) ?_
            refine PJ.cVpI (pc := 83) cs_M_119 (fun z hz => PM_M_isWord hz) (pj_fitb rfl) rfl rfl (Nat.le_of_ble_eq_true rfl) d_M_readLine_83 (fun v6 => ?_)
            refine PJ.if_eq (pc := 86) (tgt := 96) d_M_readLine_86 (by decide) (fun _ => ?_) (fun _ => ?_)
            · refine PJ.aload_n (pc := 96) d_M_readLine_96 rfl ?_
              refine PJ.ldcS (pc := 97) (i := 6) d_M_readLine_97 (by decide) (List.mem_of_getElem? (i := 32) rfl) ?_
              refine PJ.cVpI (pc := 99) cs_M_119 (fun z hz => PM_M_isWord hz) (pj_fitb rfl) rfl rfl (Nat.le_of_ble_eq_true rfl) d_M_readLine_99 (fun v7 => ?_)
              refine PJ.if_eq (pc := 102) (tgt := 112) d_M_readLine_102 (by decide) (fun _ => ?_) (fun _ => ?_)
              · refine PJ.aload_n (pc := 112) d_M_readLine_112 rfl ?_
                refine PJ.ldcS (pc := 113) (i := 7) d_M_readLine_113 (by decide) (List.mem_of_getElem? (i := 33) rfl) ?_
                refine PJ.cVpI (pc := 115) cs_M_119 (fun z hz => PM_M_isWord hz) (pj_fitb rfl) rfl rfl (Nat.le_of_ble_eq_true rfl) d_M_readLine_115 (fun v8 => ?_)
                refine PJ.if_eq (pc := 118) (tgt := 128) d_M_readLine_118 (by decide) (fun _ => ?_) (fun _ => ?_)
                · refine PJ.aload_n (pc := 128) d_M_readLine_128 rfl ?_
                  refine PJ.ldcS (pc := 129) (i := 8) d_M_readLine_129 (by decide) (List.mem_of_getElem? (i := 34) rfl) ?_
                  refine PJ.cVpI (pc := 131) cs_M_119 (fun z hz => PM_M_isWord hz) (pj_fitb rfl) rfl rfl (Nat.le_of_ble_eq_true rfl) d_M_readLine_131 (fun v9 => ?_)
                  refine PJ.if_eq (pc := 134) (tgt := 144) d_M_readLine_134 (by decide) (fun _ => ?_) (fun _ => ?_)
                  · refine PJ.aload_n (pc := 144) d_M_readLine_144 rfl ?_
                    refine PJ.iconst (pc := 145) (v := 1) d_M_readLine_145 (by decide) ?_
                    refine PJ.cVV (pc := 146) cs_M_123 (fun z hz => PM_M_flaw hz) (pj_fitb rfl) rfl rfl (Nat.le_of_ble_eq_true rfl) d_M_readLine_146 (fun h10 => ?_)
                    exact PJ.vret (pc := 149) d_M_readLine_149 rfl (Nat.le_of_ble_eq_true rfl) (Nat.le_of_ble_eq_true rfl)
                  · refine PJ.aload_n (pc := 137) d_M_readLine_137 rfl ?_
                    refine PJ.cVV (pc := 138) cs_M_225 (fun z hz => PM_M_readLane hz) (pj_fitb rfl) rfl rfl (Nat.le_of_ble_eq_true rfl) d_M_readLine_138 (fun h11 => ?_)
                    refine PJ.goto (pc := 141) (tgt := 149) d_M_readLine_141 (by decide) ?_
                    exact PJ.vret (pc := 149) d_M_readLine_149 rfl (Nat.le_of_ble_eq_true rfl) (Nat.le_of_ble_eq_true rfl)
                · refine PJ.aload_n (pc := 121) d_M_readLine_121 rfl ?_
                  refine PJ.cVV (pc := 122) cs_M_222 (fun z hz => PM_M_readShop hz) (pj_fitb rfl) rfl rfl (Nat.le_of_ble_eq_true rfl) d_M_readLine_122 (fun h12 => ?_)
                  refine PJ.goto (pc := 125) (tgt := 149) d_M_readLine_125 (by decide) ?_
                  exact PJ.vret (pc := 149) d_M_readLine_149 rfl (Nat.le_of_ble_eq_true rfl) (Nat.le_of_ble_eq_true rfl)
              · refine PJ.aload_n (pc := 105) d_M_readLine_105 rfl ?_
                refine PJ.cVV (pc := 106) cs_M_219 (fun z hz => PM_M_readPaid hz) (pj_fitb rfl) rfl rfl (Nat.le_of_ble_eq_true rfl) d_M_readLine_106 (fun h13 => ?_)
                refine PJ.goto (pc := 109) (tgt := 149) d_M_readLine_109 (by decide) ?_
                exact PJ.vret (pc := 149) d_M_readLine_149 rfl (Nat.le_of_ble_eq_true rfl) (Nat.le_of_ble_eq_true rfl)
            · refine PJ.aload_n (pc := 89) d_M_readLine_89 rfl ?_
              refine PJ.cVV (pc := 90) cs_M_216 (fun z hz => PM_M_readReason hz) (pj_fitb rfl) rfl rfl (Nat.le_of_ble_eq_true rfl) d_M_readLine_90 (fun h14 => ?_)
              refine PJ.goto (pc := 93) (tgt := 149) d_M_readLine_93 (by decide) ?_
              exact PJ.vret (pc := 149) d_M_readLine_149 rfl (Nat.le_of_ble_eq_true rfl) (Nat.le_of_ble_eq_true rfl)
          · refine PJ.aload_n (pc := 73) d_M_readLine_73 rfl ?_
            refine PJ.cVV (pc := 74) cs_M_213 (fun z hz => PM_M_readLikes hz) (pj_fitb rfl) rfl rfl (Nat.le_of_ble_eq_true rfl) d_M_readLine_74 (fun h15 => ?_)
            refine PJ.goto (pc := 77) (tgt := 149) d_M_readLine_77 (by decide) ?_
            exact PJ.vret (pc := 149) d_M_readLine_149 rfl (Nat.le_of_ble_eq_true rfl) (Nat.le_of_ble_eq_true rfl)
        · refine PJ.aload_n (pc := 57) d_M_readLine_57 rfl ?_
          refine PJ.cVV (pc := 58) cs_M_210 (fun z hz => PM_M_readPerson hz) (pj_fitb rfl) rfl rfl (Nat.le_of_ble_eq_true rfl) d_M_readLine_58 (fun h16 => ?_)
          refine PJ.goto (pc := 61) (tgt := 149) d_M_readLine_61 (by decide) ?_
          exact PJ.vret (pc := 149) d_M_readLine_149 rfl (Nat.le_of_ble_eq_true rfl) (Nat.le_of_ble_eq_true rfl)
      · refine PJ.aload_n (pc := 41) d_M_readLine_41 rfl ?_
        refine PJ.cVV (pc := 42) cs_M_207 (fun z hz => PM_M_readFar hz) (pj_fitb rfl) rfl rfl (Nat.le_of_ble_eq_true rfl) d_M_readLine_42 (fun h17 => ?_)
        refine PJ.goto (pc := 45) (tgt := 149) d_M_readLine_45 (by decide) ?_
        exact PJ.vret (pc := 149) d_M_readLine_149 rfl (Nat.le_of_ble_eq_true rfl) (Nat.le_of_ble_eq_true rfl)
    · refine PJ.aload_n (pc := 25) d_M_readLine_25 rfl ?_
      refine PJ.cVV (pc := 26) cs_M_204 (fun z hz => PM_M_readChoice hz) (pj_fitb rfl) rfl rfl (Nat.le_of_ble_eq_true rfl) d_M_readLine_26 (fun h18 => ?_)
      refine PJ.goto (pc := 29) (tgt := 149) d_M_readLine_29 (by decide) ?_
      exact PJ.vret (pc := 149) d_M_readLine_149 rfl (Nat.le_of_ble_eq_true rfl) (Nat.le_of_ble_eq_true rfl)
  · refine PJ.aload_n (pc := 9) d_M_readLine_9 rfl ?_
    refine PJ.cVV (pc := 10) cs_M_201 (fun z hz => PM_M_readTax hz) (pj_fitb rfl) rfl rfl (Nat.le_of_ble_eq_true rfl) d_M_readLine_10 (fun h19 => ?_)
    refine PJ.goto (pc := 13) (tgt := 149) d_M_readLine_13 (by decide) ?_
    exact PJ.vret (pc := 149) d_M_readLine_149 rfl (Nat.le_of_ble_eq_true rfl) (Nat.le_of_ble_eq_true rfl)
theorem d_M_eatsSemicolon_0 : decode Y_M_eatsSemicolon.2.1 0 = .ok (.aload_n 0, 1) := by decide +kernel
theorem d_M_eatsSemicolon_1 : decode Y_M_eatsSemicolon.2.1 1 = .ok (.getfield 80, 3) := by decide +kernel
theorem d_M_eatsSemicolon_4 : decode Y_M_eatsSemicolon.2.1 4 = .ok (.iconst 4, 1) := by decide +kernel
theorem d_M_eatsSemicolon_5 : decode Y_M_eatsSemicolon.2.1 5 = .ok (.if_icmp .ne 7, 3) := by decide +kernel
theorem d_M_eatsSemicolon_8 : decode Y_M_eatsSemicolon.2.1 8 = .ok (.iconst 1, 1) := by decide +kernel
theorem d_M_eatsSemicolon_9 : decode Y_M_eatsSemicolon.2.1 9 = .ok (.goto 4, 3) := by decide +kernel
theorem d_M_eatsSemicolon_12 : decode Y_M_eatsSemicolon.2.1 12 = .ok (.iconst 0, 1) := by decide +kernel
theorem d_M_eatsSemicolon_13 : decode Y_M_eatsSemicolon.2.1 13 = .ok (.istore_n 1, 1) := by decide +kernel
theorem d_M_eatsSemicolon_14 : decode Y_M_eatsSemicolon.2.1 14 = .ok (.iload_n 1, 1) := by decide +kernel
theorem d_M_eatsSemicolon_15 : decode Y_M_eatsSemicolon.2.1 15 = .ok (.ifCond .eq 7, 3) := by decide +kernel
theorem d_M_eatsSemicolon_18 : decode Y_M_eatsSemicolon.2.1 18 = .ok (.aload_n 0, 1) := by decide +kernel
theorem d_M_eatsSemicolon_19 : decode Y_M_eatsSemicolon.2.1 19 = .ok (.invokevirtual 116, 3) := by decide +kernel
theorem d_M_eatsSemicolon_22 : decode Y_M_eatsSemicolon.2.1 22 = .ok (.iload_n 1, 1) := by decide +kernel
theorem d_M_eatsSemicolon_23 : decode Y_M_eatsSemicolon.2.1 23 = .ok (.ireturn, 1) := by decide +kernel
def f_M_eatsSemicolon (h : PH) (a0 : Option Nat) : Option (Int32 × PH) := (gI h 12 a0 9).bind fun v1 => (if ¬ v1 = (4 : Int32) then (some (0 : Int32)) else (some (1 : Int32)) : Option (Int32)).bind fun j2 => if j2 = 0 then (rZ j2 h) else ((cl h 12 a0 (f_M_goesOn h a0)).bind fun h3 => rZ j2 h3)
set_option maxRecDepth 20000 in
theorem PM_M_eatsSemicolon {l : Launch} {G : Cx} {h : PH} {a0 : Option Nat} {z : (Int32 × PH)} (hz : f_M_eatsSemicolon h a0 = some z) : PM l G 3 0 0 Y_M_eatsSemicolon [.inr (.inr a0)] h (some (.inl z.1), z.2) := by
  refine PM.of (Y := Y_M_eatsSemicolon) (cv := (fun z : (Int32 × PH) => (((some (.inl z.1), z.2) : Option PV × PH)))) (by decide) (L0 := [some (.inr (.inr a0)), none]) 1 rfl (Nat.le_of_ble_eq_true rfl) ?_ hz
  unfold f_M_eatsSemicolon
  refine PJ.aload_n (pc := 0) d_M_eatsSemicolon_0 rfl ?_
  refine PJ.getI (pc := 1) fs_M_80 d_M_eatsSemicolon_1 (fun v1 => ?_)
  refine PJ.iconst (pc := 4) (v := 4) d_M_eatsSemicolon_4 (by decide) ?_
  refine PJ.bind (fun j2 : Int32 => ((13 : Nat), ([some (.inr (.inr a0)), none] : List (Option PV)), ([.inl j2] : List PV), (h : PH), (0 : Nat), (0 : Nat))) ?_ (fun j2 => ?_)
  · refine PJ.icmp_ne (pc := 5) (tgt := 12) d_M_eatsSemicolon_5 (by decide) (fun _ => ?_) (fun _ => ?_)
    · refine PJ.iconst (pc := 12) (v := 0) d_M_eatsSemicolon_12 (by decide) ?_
      exact PJ.done rfl
    · refine PJ.iconst (pc := 8) (v := 1) d_M_eatsSemicolon_8 (by decide) ?_
      refine PJ.goto (pc := 9) (tgt := 13) d_M_eatsSemicolon_9 (by decide) ?_
      exact PJ.done rfl
  · show PJ l G (pj_rm 3 0 0) Y_M_eatsSemicolon 13 [some (.inr (.inr a0)), none] [.inl j2] h 0 0 _ _
    refine PJ.istore_n (pc := 13) (L1 := [some (.inr (.inr a0)), some (.inl j2)]) d_M_eatsSemicolon_13 (Nat.le_of_ble_eq_true rfl) rfl rfl ?_
    refine PJ.iload_n (pc := 14) d_M_eatsSemicolon_14 rfl ?_
    refine PJ.if_eq (pc := 15) (tgt := 22) d_M_eatsSemicolon_15 (by decide) (fun _ => ?_) (fun _ => ?_)
    · refine PJ.iload_n (pc := 22) d_M_eatsSemicolon_22 rfl ?_
      exact PJ.zretC (pc := 23) d_M_eatsSemicolon_23 rfl (Nat.le_of_ble_eq_true rfl) (Nat.le_of_ble_eq_true rfl)
    · refine PJ.aload_n (pc := 18) d_M_eatsSemicolon_18 rfl ?_
      refine PJ.cVV (pc := 19) cs_M_116 (fun z hz => PM_M_goesOn hz) (pj_fitb rfl) rfl rfl (Nat.le_of_ble_eq_true rfl) d_M_eatsSemicolon_19 (fun h3 => ?_)
      refine PJ.iload_n (pc := 22) d_M_eatsSemicolon_22 rfl ?_
      exact PJ.zretC (pc := 23) d_M_eatsSemicolon_23 rfl (Nat.le_of_ble_eq_true rfl) (Nat.le_of_ble_eq_true rfl)
