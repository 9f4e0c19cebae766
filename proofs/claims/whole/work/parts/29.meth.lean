-- sites and methods: meth
abbrev Y_T_undo : MI := (⟨"WaverTax", "undo", "()Z"⟩, prog_1_method_62_code, 1, (some .boolean))
abbrev Y_Past_putMark : MI := (⟨"WaverTax$Past", "putMark", "(LWaverTax$Now;)I"⟩, prog_5_method_5_code, 2, (some .int))
abbrev Y_T_mark : MI := (⟨"WaverTax", "mark", "()I"⟩, prog_1_method_63_code, 2, (some .int))
abbrev Y_Past_goBack : MI := (⟨"WaverTax$Past", "goBack", "(ILWaverTax$Now;)Z"⟩, prog_5_method_6_code, 3, (some .boolean))
abbrev Y_T_back : MI := (⟨"WaverTax", "back", "(I)Z"⟩, prog_1_method_64_code, 2, (some .boolean))
abbrev Y_T_size : MI := (⟨"WaverTax", "size", "(I)I"⟩, prog_1_method_66_code, 2, (some .int))
abbrev Y_T_trouble : MI := (⟨"WaverTax", "trouble", "()I"⟩, prog_1_method_67_code, 1, (some .int))
abbrev Y_M_init : MI := (⟨"WaverTaxModel", "<init>", "()V"⟩, prog_13_method_1_code, 1, (none : Option FieldType))
abbrev Y_M_thrown : MI := (⟨"WaverTaxModel", "thrown", "()I"⟩, prog_13_method_2_code, 1, (some .int))
abbrev Y_M_feed : MI := (⟨"WaverTaxModel", "feed", "(IIIII)I"⟩, prog_13_method_44_code, 8, (some .int))
abbrev Y_M_refused : MI := (⟨"WaverTaxModel", "refused", "(I)I"⟩, prog_13_method_3_code, 2, (some .int))
abbrev Y_ML_init : MI := (⟨"WaverTaxModel$Law", "<init>", "()V"⟩, prog_14_method_1_code, 2, (none : Option FieldType))
abbrev Y_M_byteAt : MI := (⟨"WaverTaxModel", "byteAt", "(I)I"⟩, prog_13_method_15_code, 2, (some .int))
abbrev Y_M_isLetter : MI := (⟨"WaverTaxModel", "isLetter", "(I)Z"⟩, prog_13_method_16_code, 1, (some .boolean))
abbrev Y_M_isDigit : MI := (⟨"WaverTaxModel", "isDigit", "(I)Z"⟩, prog_13_method_17_code, 1, (some .boolean))
abbrev Y_M_goesOn : MI := (⟨"WaverTaxModel", "goesOn", "()V"⟩, prog_13_method_19_code, 3, (none : Option FieldType))
theorem cm_Past_takeBack : (Cond.code Y_Past_takeBack.1 Y_Past_takeBack.2.1 Y_Past_takeBack.2.2.1 Y_Past_takeBack.2.2.2 ∈ pj_ws) ∧ (Cond.initialized Y_Past_takeBack.1.cls ∈ pj_ws) ∧ (Y_Past_takeBack.1.cls ≠ "java/lang/invoke/MethodHandle" ∧ Y_Past_takeBack.1.cls ≠ "java/lang/invoke/VarHandle" ∧ (parseMethodDescriptor Y_Past_takeBack.1.desc).map (fun d => d.parameters.length) = some 1) ∧ (Cond.instanceMethod Y_Past_takeBack.1 ∈ pj_ws) ∧ (Cond.selects Y_Past_takeBack.1.cls Y_Past_takeBack.1 Y_Past_takeBack.1 ∈ pj_ws) := ⟨pj_mem 1283 (by decide +kernel) rfl, pj_mem 140 (by decide +kernel) rfl, ⟨by decide +kernel, by decide +kernel, by decide +kernel⟩, pj_mem 1281 (by decide +kernel) rfl, pj_mem 1282 (by decide +kernel) rfl⟩
theorem cm_Past_putMark : (Cond.code Y_Past_putMark.1 Y_Past_putMark.2.1 Y_Past_putMark.2.2.1 Y_Past_putMark.2.2.2 ∈ pj_ws) ∧ (Cond.initialized Y_Past_putMark.1.cls ∈ pj_ws) ∧ (Y_Past_putMark.1.cls ≠ "java/lang/invoke/MethodHandle" ∧ Y_Past_putMark.1.cls ≠ "java/lang/invoke/VarHandle" ∧ (parseMethodDescriptor Y_Past_putMark.1.desc).map (fun d => d.parameters.length) = some 1) ∧ (Cond.instanceMethod Y_Past_putMark.1 ∈ pj_ws) ∧ (Cond.selects Y_Past_putMark.1.cls Y_Past_putMark.1 Y_Past_putMark.1 ∈ pj_ws) := ⟨pj_mem 1291 (by decide +kernel) rfl, pj_mem 140 (by decide +kernel) rfl, ⟨by decide +kernel, by decide +kernel, by decide +kernel⟩, pj_mem 1289 (by decide +kernel) rfl, pj_mem 1290 (by decide +kernel) rfl⟩
theorem cm_Past_goBack : (Cond.code Y_Past_goBack.1 Y_Past_goBack.2.1 Y_Past_goBack.2.2.1 Y_Past_goBack.2.2.2 ∈ pj_ws) ∧ (Cond.initialized Y_Past_goBack.1.cls ∈ pj_ws) ∧ (Y_Past_goBack.1.cls ≠ "java/lang/invoke/MethodHandle" ∧ Y_Past_goBack.1.cls ≠ "java/lang/invoke/VarHandle" ∧ (parseMethodDescriptor Y_Past_goBack.1.desc).map (fun d => d.parameters.length) = some 2) ∧ (Cond.instanceMethod Y_Past_goBack.1 ∈ pj_ws) ∧ (Cond.selects Y_Past_goBack.1.cls Y_Past_goBack.1 Y_Past_goBack.1 ∈ pj_ws) := ⟨pj_mem 1299 (by decide +kernel) rfl, pj_mem 140 (by decide +kernel) rfl, ⟨by decide +kernel, by decide +kernel, by decide +kernel⟩, pj_mem 1297 (by decide +kernel) rfl, pj_mem 1298 (by decide +kernel) rfl⟩
theorem cm_M_isDigit : (Cond.code Y_M_isDigit.1 Y_M_isDigit.2.1 Y_M_isDigit.2.2.1 Y_M_isDigit.2.2.2 ∈ pj_ws) ∧ (Cond.initialized Y_M_isDigit.1.cls ∈ pj_ws) ∧ (Y_M_isDigit.1.cls ≠ "java/lang/invoke/MethodHandle" ∧ Y_M_isDigit.1.cls ≠ "java/lang/invoke/VarHandle" ∧ (parseMethodDescriptor Y_M_isDigit.1.desc).map (fun d => d.parameters.length) = some 1) ∧ (Cond.static Y_M_isDigit.1 ∈ pj_ws) := ⟨pj_mem 1623 (by decide +kernel) rfl, pj_mem 141 (by decide +kernel) rfl, ⟨by decide +kernel, by decide +kernel, by decide +kernel⟩, pj_mem 1622 (by decide +kernel) rfl⟩
theorem cm_M_byteAt : (Cond.code Y_M_byteAt.1 Y_M_byteAt.2.1 Y_M_byteAt.2.2.1 Y_M_byteAt.2.2.2 ∈ pj_ws) ∧ (Cond.initialized Y_M_byteAt.1.cls ∈ pj_ws) ∧ (Y_M_byteAt.1.cls ≠ "java/lang/invoke/MethodHandle" ∧ Y_M_byteAt.1.cls ≠ "java/lang/invoke/VarHandle" ∧ (parseMethodDescriptor Y_M_byteAt.1.desc).map (fun d => d.parameters.length) = some 1) ∧ (Cond.instanceMethod Y_M_byteAt.1 ∈ pj_ws) ∧ (Cond.selects Y_M_byteAt.1.cls Y_M_byteAt.1 Y_M_byteAt.1 ∈ pj_ws) := ⟨pj_mem 1616 (by decide +kernel) rfl, pj_mem 141 (by decide +kernel) rfl, ⟨by decide +kernel, by decide +kernel, by decide +kernel⟩, pj_mem 1615 (by decide +kernel) rfl, pj_mem 54 (by decide +kernel) rfl⟩
theorem cm_M_isLetter : (Cond.code Y_M_isLetter.1 Y_M_isLetter.2.1 Y_M_isLetter.2.2.1 Y_M_isLetter.2.2.2 ∈ pj_ws) ∧ (Cond.initialized Y_M_isLetter.1.cls ∈ pj_ws) ∧ (Y_M_isLetter.1.cls ≠ "java/lang/invoke/MethodHandle" ∧ Y_M_isLetter.1.cls ≠ "java/lang/invoke/VarHandle" ∧ (parseMethodDescriptor Y_M_isLetter.1.desc).map (fun d => d.parameters.length) = some 1) ∧ (Cond.static Y_M_isLetter.1 ∈ pj_ws) := ⟨pj_mem 1619 (by decide +kernel) rfl, pj_mem 141 (by decide +kernel) rfl, ⟨by decide +kernel, by decide +kernel, by decide +kernel⟩, pj_mem 1618 (by decide +kernel) rfl⟩
theorem cs_T_363 : pj_cV "WaverTax" 363 Y_Past_takeBack 1 3 := ⟨⟨cm_Past_takeBack.1, cm_Past_takeBack.2.1, cm_Past_takeBack.2.2.1, Or.inl (pj_mem 1280 (by decide +kernel) rfl)⟩, by decide, cm_Past_takeBack.2.2.2.1, cm_Past_takeBack.2.2.2.2, ⟨_, rfl, rfl⟩⟩
theorem cs_T_367 : pj_cV "WaverTax" 367 Y_Past_putMark 1 3 := ⟨⟨cm_Past_putMark.1, cm_Past_putMark.2.1, cm_Past_putMark.2.2.1, Or.inl (pj_mem 1288 (by decide +kernel) rfl)⟩, by decide, cm_Past_putMark.2.2.2.1, cm_Past_putMark.2.2.2.2, ⟨_, rfl, rfl⟩⟩
theorem cs_T_371 : pj_cV "WaverTax" 371 Y_Past_goBack 2 3 := ⟨⟨cm_Past_goBack.1, cm_Past_goBack.2.1, cm_Past_goBack.2.2.1, Or.inl (pj_mem 1296 (by decide +kernel) rfl)⟩, by decide, cm_Past_goBack.2.2.2.1, cm_Past_goBack.2.2.2.2, ⟨_, rfl, rfl⟩⟩
theorem cs_M_100 : pj_cS "WaverTaxModel" 100 Y_M_isDigit 1 := ⟨⟨cm_M_isDigit.1, cm_M_isDigit.2.1, cm_M_isDigit.2.2.1, Or.inl (pj_mem 1621 (by decide +kernel) rfl)⟩, cm_M_isDigit.2.2.2⟩
theorem cs_M_86 : pj_cV "WaverTaxModel" 86 Y_M_byteAt 1 12 := ⟨⟨cm_M_byteAt.1, cm_M_byteAt.2.1, cm_M_byteAt.2.2.1, Or.inl (pj_mem 1613 (by decide +kernel) rfl)⟩, by decide, cm_M_byteAt.2.2.2.1, cm_M_byteAt.2.2.2.2, ⟨_, rfl, rfl⟩⟩
theorem cs_M_92 : pj_cS "WaverTaxModel" 92 Y_M_isLetter 1 := ⟨⟨cm_M_isLetter.1, cm_M_isLetter.2.1, cm_M_isLetter.2.2.1, Or.inl (pj_mem 1617 (by decide +kernel) rfl)⟩, cm_M_isLetter.2.2.2⟩
theorem fs_Past_24 : pj_fs "WaverTax$Past" 3 3 24 (.int) := ⟨_, _, _, _, cd_3, by decide, rfl, Or.inl (pj_mem 539 (by decide +kernel) rfl)⟩
theorem fs_T_261 : pj_fs "WaverTax" 1 11 261 (.object "WaverTax$Receipts") := ⟨_, _, _, _, cd_1, by decide, rfl, Or.inl (pj_mem 320 (by decide +kernel) rfl)⟩
theorem fs_T_293 : pj_fs "WaverTax" 7 0 293 (.int) := ⟨_, _, _, _, cd_7, by decide, rfl, Or.inl (pj_mem 229 (by decide +kernel) rfl)⟩
theorem fs_T_343 : pj_fs "WaverTax" 2 1 343 (.int) := ⟨_, _, _, _, cd_2, by decide, rfl, Or.inl (pj_mem 413 (by decide +kernel) rfl)⟩
theorem fs_T_382 : pj_fs "WaverTax" 1 0 382 (.int) := ⟨_, _, _, _, cd_1, by decide, rfl, Or.inl (pj_mem 277 (by decide +kernel) rfl)⟩
theorem fs_T_385 : pj_fs "WaverTax" 1 1 385 (.int) := ⟨_, _, _, _, cd_1, by decide, rfl, Or.inl (pj_mem 281 (by decide +kernel) rfl)⟩
theorem fs_T_386 : pj_fs "WaverTax" 1 4 386 (.int) := ⟨_, _, _, _, cd_1, by decide, rfl, Or.inl (pj_mem 295 (by decide +kernel) rfl)⟩
theorem fs_T_389 : pj_fs "WaverTax" 9 1 389 (.int) := ⟨_, _, _, _, cd_9, by decide, rfl, Or.inl (pj_mem 260 (by decide +kernel) rfl)⟩
theorem fs_T_392 : pj_fs "WaverTax" 3 2 392 (.int) := ⟨_, _, _, _, cd_3, by decide, rfl, Or.inl (pj_mem 538 (by decide +kernel) rfl)⟩
theorem fs_T_395 : pj_fs "WaverTax" 3 3 395 (.int) := ⟨_, _, _, _, cd_3, by decide, rfl, Or.inl (pj_mem 540 (by decide +kernel) rfl)⟩
theorem fs_ML_25 : pj_fs "WaverTaxModel$Law" 11 13 25 (.array (.int)) := ⟨_, _, _, _, cd_11, by decide, rfl, Or.inl (pj_mem 1526 (by decide +kernel) rfl)⟩
theorem fs_M_103 : pj_fs "WaverTaxModel" 12 11 103 (.int) := ⟨_, _, _, _, cd_12, by decide, rfl, Or.inl (pj_mem 1398 (by decide +kernel) rfl)⟩
theorem fs_M_13 : pj_fs "WaverTaxModel" 12 5 13 (.array (.byte)) := ⟨_, _, _, _, cd_12, by decide, rfl, Or.inl (pj_mem 1392 (by decide +kernel) rfl)⟩
theorem fs_M_334 : pj_fs "WaverTaxModel" 12 6 334 (.int) := ⟨_, _, _, _, cd_12, by decide, rfl, Or.inl (pj_mem 1393 (by decide +kernel) rfl)⟩
theorem fs_M_46 : pj_fs "WaverTaxModel" 12 0 46 (.int) := ⟨_, _, _, _, cd_12, by decide, rfl, Or.inl (pj_mem 1387 (by decide +kernel) rfl)⟩
theorem fs_M_65 : pj_fs "WaverTaxModel" 12 7 65 (.int) := ⟨_, _, _, _, cd_12, by decide, rfl, Or.inl (pj_mem 1394 (by decide +kernel) rfl)⟩
theorem fs_M_80 : pj_fs "WaverTaxModel" 12 9 80 (.int) := ⟨_, _, _, _, cd_12, by decide, rfl, Or.inl (pj_mem 1396 (by decide +kernel) rfl)⟩
theorem fs_M_83 : pj_fs "WaverTaxModel" 12 8 83 (.int) := ⟨_, _, _, _, cd_12, by decide, rfl, Or.inl (pj_mem 1395 (by decide +kernel) rfl)⟩
theorem fs_M_96 : pj_fs "WaverTaxModel" 12 14 96 (.long) := ⟨_, _, _, _, cd_12, by decide, rfl, Or.inl (pj_mem 1401 (by decide +kernel) rfl)⟩
theorem ps_ML_15 : pj_ps "WaverTaxModel$Law" "<init>" 11 10 15 (.array (.int)) := ⟨_, _, _, _, cd_11, by decide, rfl, Or.inr ⟨rfl, rfl, rfl, pj_mem 1520 (by decide +kernel) rfl⟩⟩
theorem ps_ML_19 : pj_ps "WaverTaxModel$Law" "<init>" 11 11 19 (.array (.int)) := ⟨_, _, _, _, cd_11, by decide, rfl, Or.inr ⟨rfl, rfl, rfl, pj_mem 1522 (by decide +kernel) rfl⟩⟩
theorem ps_ML_22 : pj_ps "WaverTaxModel$Law" "<init>" 11 12 22 (.array (.int)) := ⟨_, _, _, _, cd_11, by decide, rfl, Or.inr ⟨rfl, rfl, rfl, pj_mem 1524 (by decide +kernel) rfl⟩⟩
theorem ps_ML_25 : pj_ps "WaverTaxModel$Law" "<init>" 11 13 25 (.array (.int)) := ⟨_, _, _, _, cd_11, by decide, rfl, Or.inr ⟨rfl, rfl, rfl, pj_mem 1526 (by decide +kernel) rfl⟩⟩
theorem ps_ML_28 : pj_ps "WaverTaxModel$Law" "<init>" 11 14 28 (.array (.int)) := ⟨_, _, _, _, cd_11, by decide, rfl, Or.inr ⟨rfl, rfl, rfl, pj_mem 1528 (by decide +kernel) rfl⟩⟩
theorem ps_ML_31 : pj_ps "WaverTaxModel$Law" "<init>" 11 15 31 (.array (.int)) := ⟨_, _, _, _, cd_11, by decide, rfl, Or.inr ⟨rfl, rfl, rfl, pj_mem 1530 (by decide +kernel) rfl⟩⟩
theorem ps_ML_34 : pj_ps "WaverTaxModel$Law" "<init>" 11 16 34 (.array (.int)) := ⟨_, _, _, _, cd_11, by decide, rfl, Or.inr ⟨rfl, rfl, rfl, pj_mem 1532 (by decide +kernel) rfl⟩⟩
theorem ps_ML_37 : pj_ps "WaverTaxModel$Law" "<init>" 11 17 37 (.array (.int)) := ⟨_, _, _, _, cd_11, by decide, rfl, Or.inr ⟨rfl, rfl, rfl, pj_mem 1534 (by decide +kernel) rfl⟩⟩
theorem ps_ML_40 : pj_ps "WaverTaxModel$Law" "<init>" 11 18 40 (.array (.int)) := ⟨_, _, _, _, cd_11, by decide, rfl, Or.inr ⟨rfl, rfl, rfl, pj_mem 1536 (by decide +kernel) rfl⟩⟩
theorem ps_ML_43 : pj_ps "WaverTaxModel$Law" "<init>" 11 19 43 (.array (.int)) := ⟨_, _, _, _, cd_11, by decide, rfl, Or.inr ⟨rfl, rfl, rfl, pj_mem 1538 (by decide +kernel) rfl⟩⟩
theorem ps_ML_46 : pj_ps "WaverTaxModel$Law" "<init>" 11 20 46 (.array (.int)) := ⟨_, _, _, _, cd_11, by decide, rfl, Or.inr ⟨rfl, rfl, rfl, pj_mem 1540 (by decide +kernel) rfl⟩⟩
theorem ps_ML_49 : pj_ps "WaverTaxModel$Law" "<init>" 11 21 49 (.array (.int)) := ⟨_, _, _, _, cd_11, by decide, rfl, Or.inr ⟨rfl, rfl, rfl, pj_mem 1542 (by decide +kernel) rfl⟩⟩
theorem ps_ML_52 : pj_ps "WaverTaxModel$Law" "<init>" 11 22 52 (.array (.int)) := ⟨_, _, _, _, cd_11, by decide, rfl, Or.inr ⟨rfl, rfl, rfl, pj_mem 1544 (by decide +kernel) rfl⟩⟩
theorem ps_ML_55 : pj_ps "WaverTaxModel$Law" "<init>" 11 23 55 (.array (.int)) := ⟨_, _, _, _, cd_11, by decide, rfl, Or.inr ⟨rfl, rfl, rfl, pj_mem 1546 (by decide +kernel) rfl⟩⟩
theorem ps_ML_58 : pj_ps "WaverTaxModel$Law" "<init>" 11 24 58 (.array (.long)) := ⟨_, _, _, _, cd_11, by decide, rfl, Or.inr ⟨rfl, rfl, rfl, pj_mem 1548 (by decide +kernel) rfl⟩⟩
theorem ps_ML_62 : pj_ps "WaverTaxModel$Law" "<init>" 11 25 62 (.array (.int)) := ⟨_, _, _, _, cd_11, by decide, rfl, Or.inr ⟨rfl, rfl, rfl, pj_mem 1550 (by decide +kernel) rfl⟩⟩
theorem ps_ML_65 : pj_ps "WaverTaxModel$Law" "<init>" 11 26 65 (.array (.int)) := ⟨_, _, _, _, cd_11, by decide, rfl, Or.inr ⟨rfl, rfl, rfl, pj_mem 1552 (by decide +kernel) rfl⟩⟩
theorem ps_ML_9 {mn : String} : pj_ps "WaverTaxModel$Law" mn 11 0 9 (.int) := ⟨_, _, _, _, cd_11, by decide, rfl, Or.inl ⟨rfl, Or.inl (pj_mem 1507 (by decide +kernel) rfl)⟩⟩
theorem ps_M_103 {mn : String} : pj_ps "WaverTaxModel" mn 12 11 103 (.int) := ⟨_, _, _, _, cd_12, by decide, rfl, Or.inl ⟨rfl, Or.inl (pj_mem 1398 (by decide +kernel) rfl)⟩⟩
theorem ps_M_13 : pj_ps "WaverTaxModel" "<init>" 12 5 13 (.array (.byte)) := ⟨_, _, _, _, cd_12, by decide, rfl, Or.inr ⟨rfl, rfl, rfl, pj_mem 1392 (by decide +kernel) rfl⟩⟩
theorem ps_M_17 : pj_ps "WaverTaxModel" "<init>" 12 15 17 (.array (.int)) := ⟨_, _, _, _, cd_12, by decide, rfl, Or.inr ⟨rfl, rfl, rfl, pj_mem 1402 (by decide +kernel) rfl⟩⟩
theorem ps_M_21 : pj_ps "WaverTaxModel" "<init>" 12 16 21 (.array (.int)) := ⟨_, _, _, _, cd_12, by decide, rfl, Or.inr ⟨rfl, rfl, rfl, pj_mem 1403 (by decide +kernel) rfl⟩⟩
theorem ps_M_24 : pj_ps "WaverTaxModel" "<init>" 12 17 24 (.array (.int)) := ⟨_, _, _, _, cd_12, by decide, rfl, Or.inr ⟨rfl, rfl, rfl, pj_mem 1404 (by decide +kernel) rfl⟩⟩
theorem ps_M_27 : pj_ps "WaverTaxModel" "<init>" 12 18 27 (.array (.int)) := ⟨_, _, _, _, cd_12, by decide, rfl, Or.inr ⟨rfl, rfl, rfl, pj_mem 1405 (by decide +kernel) rfl⟩⟩
theorem ps_M_30 {mn : String} : pj_ps "WaverTaxModel" mn 12 21 30 (.int) := ⟨_, _, _, _, cd_12, by decide, rfl, Or.inl ⟨rfl, Or.inl (pj_mem 1408 (by decide +kernel) rfl)⟩⟩
theorem ps_M_33 : pj_ps "WaverTaxModel" "<init>" 12 23 33 (.array (.long)) := ⟨_, _, _, _, cd_12, by decide, rfl, Or.inr ⟨rfl, rfl, rfl, pj_mem 1410 (by decide +kernel) rfl⟩⟩
theorem ps_M_334 {mn : String} : pj_ps "WaverTaxModel" mn 12 6 334 (.int) := ⟨_, _, _, _, cd_12, by decide, rfl, Or.inl ⟨rfl, Or.inl (pj_mem 1393 (by decide +kernel) rfl)⟩⟩
theorem ps_M_37 : pj_ps "WaverTaxModel" "<init>" 12 25 37 (.array (.int)) := ⟨_, _, _, _, cd_12, by decide, rfl, Or.inr ⟨rfl, rfl, rfl, pj_mem 1412 (by decide +kernel) rfl⟩⟩
theorem ps_M_40 : pj_ps "WaverTaxModel" "<init>" 12 26 40 (.array (.int)) := ⟨_, _, _, _, cd_12, by decide, rfl, Or.inr ⟨rfl, rfl, rfl, pj_mem 1413 (by decide +kernel) rfl⟩⟩
theorem ps_M_43 : pj_ps "WaverTaxModel" "<init>" 12 27 43 (.array (.int)) := ⟨_, _, _, _, cd_12, by decide, rfl, Or.inr ⟨rfl, rfl, rfl, pj_mem 1414 (by decide +kernel) rfl⟩⟩
theorem ps_M_46 {mn : String} : pj_ps "WaverTaxModel" mn 12 0 46 (.int) := ⟨_, _, _, _, cd_12, by decide, rfl, Or.inl ⟨rfl, Or.inl (pj_mem 1387 (by decide +kernel) rfl)⟩⟩
theorem ps_M_49 {mn : String} : pj_ps "WaverTaxModel" mn 12 1 49 (.int) := ⟨_, _, _, _, cd_12, by decide, rfl, Or.inl ⟨rfl, Or.inl (pj_mem 1388 (by decide +kernel) rfl)⟩⟩
theorem ps_M_80 {mn : String} : pj_ps "WaverTaxModel" mn 12 9 80 (.int) := ⟨_, _, _, _, cd_12, by decide, rfl, Or.inl ⟨rfl, Or.inl (pj_mem 1396 (by decide +kernel) rfl)⟩⟩
theorem ps_M_83 {mn : String} : pj_ps "WaverTaxModel" mn 12 8 83 (.int) := ⟨_, _, _, _, cd_12, by decide, rfl, Or.inl ⟨rfl, Or.inl (pj_mem 1395 (by decide +kernel) rfl)⟩⟩
theorem ps_M_89 {mn : String} : pj_ps "WaverTaxModel" mn 12 10 89 (.int) := ⟨_, _, _, _, cd_12, by decide, rfl, Or.inl ⟨rfl, Or.inl (pj_mem 1397 (by decide +kernel) rfl)⟩⟩
theorem ps_M_9 {mn : String} : pj_ps "WaverTaxModel" mn 12 2 9 (.int) := ⟨_, _, _, _, cd_12, by decide, rfl, Or.inl ⟨rfl, Or.inl (pj_mem 1389 (by decide +kernel) rfl)⟩⟩
theorem ps_M_96 {mn : String} : pj_ps "WaverTaxModel" mn 12 14 96 (.long) := ⟨_, _, _, _, cd_12, by decide, rfl, Or.inl ⟨rfl, Or.inl (pj_mem 1401 (by decide +kernel) rfl)⟩⟩
theorem wd_1484 : (Jvm.Cond.arrayClass Jvm.ClassFile.FieldType.long) ∈ pj_ws := pj_mem 1484 (by decide +kernel) rfl
theorem wd_1620 : (Jvm.Cond.constantLong "WaverTaxModel" (74 : Nat) (32 : Int64)) ∈ pj_ws := pj_mem 1620 (by decide +kernel) rfl
theorem wd_1386 : (Jvm.Cond.methodLink "WaverTaxModel" (3 : Nat) ({ cls := "java/lang/Object", name := "<init>", desc := "()V" } : Jvm.MethodName)) ∈ pj_ws := pj_mem 1386 (by decide +kernel) rfl
theorem wd_1506 : (Jvm.Cond.methodLink "WaverTaxModel$Law" (3 : Nat) ({ cls := "java/lang/Object", name := "<init>", desc := "()V" } : Jvm.MethodName)) ∈ pj_ws := pj_mem 1506 (by decide +kernel) rfl
theorem d_T_undo_0 : decode Y_T_undo.2.1 0 = .ok (.aload_n 0, 1) := by decide +kernel
theorem d_T_undo_1 : decode Y_T_undo.2.1 1 = .ok (.aload_n 0, 1) := by decide +kernel
theorem d_T_undo_2 : decode Y_T_undo.2.1 2 = .ok (.getfield 78, 3) := by decide +kernel
theorem d_T_undo_5 : decode Y_T_undo.2.1 5 = .ok (.aload_n 0, 1) := by decide +kernel
theorem d_T_undo_6 : decode Y_T_undo.2.1 6 = .ok (.getfield 43, 3) := by decide +kernel
theorem d_T_undo_9 : decode Y_T_undo.2.1 9 = .ok (.invokevirtual 363, 3) := by decide +kernel
theorem d_T_undo_12 : decode Y_T_undo.2.1 12 = .ok (.ifCond .eq 7, 3) := by decide +kernel
theorem d_T_undo_15 : decode Y_T_undo.2.1 15 = .ok (.iconst 0, 1) := by decide +kernel
theorem d_T_undo_16 : decode Y_T_undo.2.1 16 = .ok (.goto 5, 3) := by decide +kernel
theorem d_T_undo_19 : decode Y_T_undo.2.1 19 = .ok (.bipush 6, 2) := by decide +kernel
theorem d_T_undo_21 : decode Y_T_undo.2.1 21 = .ok (.invokevirtual 360, 3) := by decide +kernel
theorem d_T_undo_24 : decode Y_T_undo.2.1 24 = .ok (.ireturn, 1) := by decide +kernel
def f_T_undo (h : PH) (a0 : Option Nat) : Option (Int32 × PH) := (gR h 10 a0 11).bind fun v1 => (gR h 10 a0 6).bind fun v2 => (cl h 3 v1 (f_Past_takeBack h v1 v2)).bind fun v3 => (if v3.1 = 0 then (some (6 : Int32)) else (some (0 : Int32)) : Option (Int32)).bind fun j4 => (cl v3.2 10 a0 (f_T_answered v3.2 a0 j4)).bind fun v5 => rZ v5.1 v5.2
set_option maxRecDepth 20000 in
theorem PM_T_undo {l : Launch} {G : Cx} {h : PH} {a0 : Option Nat} {z : (Int32 × PH)} (hz : f_T_undo h a0 = some z) : PM l G 3 0 0 Y_T_undo [.inr (.inr a0)] h (some (.inl z.1), z.2) := by
  refine PM.of (Y := Y_T_undo) (cv := (fun z : (Int32 × PH) => (((some (.inl z.1), z.2) : Option PV × PH)))) (by decide) (L0 := [some (.inr (.inr a0))]) 0 rfl (Nat.le_of_ble_eq_true rfl) ?_ hz
  unfold f_T_undo
  refine PJ.aload_n (pc := 0) d_T_undo_0 rfl ?_
  refine PJ.aload_n (pc := 1) d_T_undo_1 rfl ?_
  refine PJ.getR (pc := 2) fs_T_78 d_T_undo_2 (fun v1 => ?_)
  refine PJ.aload_n (pc := 5) d_T_undo_5 rfl ?_
  refine PJ.getR (pc := 6) fs_T_43 d_T_undo_6 (fun v2 => ?_)
  refine PJ.cVI (pc := 9) cs_T_363 (fun z hz => PM_Past_takeBack hz) (pj_fitb rfl) rfl rfl (Nat.le_of_ble_eq_true rfl) d_T_undo_9 (fun v3 => ?_)
  refine PJ.bind (fun j4 : Int32 => ((21 : Nat), ([none] : List (Option PV)), ([.inl j4, .inr (.inr a0)] : List PV), (v3.2 : PH), (0 : Nat), (0 : Nat))) ?_ (fun j4 => ?_)
  · refine PJ.if_eq (pc := 12) (tgt := 19) d_T_undo_12 (by decide) (fun _ => ?_) (fun _ => ?_)
    · refine PJ.bipush (pc := 19) (v := 6) d_T_undo_19 (by decide) ?_
      refine PJ.mk (L1 := [none]) [false] rfl ?_
      exact PJ.done rfl
    · refine PJ.iconst (pc := 15) (v := 0) d_T_undo_15 (by decide) ?_
      refine PJ.goto (pc := 16) (tgt := 21) d_T_undo_16 (by decide) ?_
      refine PJ.mk (L1 := [none]) [false] rfl ?_
      exact PJ.done rfl
  · show PJ l G (pj_rm 3 0 0) Y_T_undo 21 [none] [.inl j4, .inr (.inr a0)] v3.2 0 0 _ _
    refine PJ.cVI (pc := 21) cs_T_360 (fun z hz => PM_T_answered hz) (pj_fitb rfl) rfl rfl (Nat.le_of_ble_eq_true rfl) d_T_undo_21 (fun v5 => ?_)
    exact PJ.zretC (pc := 24) d_T_undo_24 rfl (Nat.le_of_ble_eq_true rfl) (Nat.le_of_ble_eq_true rfl)
theorem d_Past_putMark_0 : decode Y_Past_putMark.2.1 0 = .ok (.aload_n 0, 1) := by decide +kernel
theorem d_Past_putMark_1 : decode Y_Past_putMark.2.1 1 = .ok (.getfield 24, 3) := by decide +kernel
theorem d_Past_putMark_4 : decode Y_Past_putMark.2.1 4 = .ok (.iconst 3, 1) := by decide +kernel
theorem d_Past_putMark_5 : decode Y_Past_putMark.2.1 5 = .ok (.if_icmp .lt 5, 3) := by decide +kernel
theorem d_Past_putMark_8 : decode Y_Past_putMark.2.1 8 = .ok (.iconst (-1), 1) := by decide +kernel
theorem d_Past_putMark_9 : decode Y_Past_putMark.2.1 9 = .ok (.ireturn, 1) := by decide +kernel
theorem d_Past_putMark_10 : decode Y_Past_putMark.2.1 10 = .ok (.aload_n 0, 1) := by decide +kernel
theorem d_Past_putMark_11 : decode Y_Past_putMark.2.1 11 = .ok (.getfield 17, 3) := by decide +kernel
theorem d_Past_putMark_14 : decode Y_Past_putMark.2.1 14 = .ok (.aload_n 0, 1) := by decide +kernel
theorem d_Past_putMark_15 : decode Y_Past_putMark.2.1 15 = .ok (.getfield 24, 3) := by decide +kernel
theorem d_Past_putMark_18 : decode Y_Past_putMark.2.1 18 = .ok (.aaload, 1) := by decide +kernel
theorem d_Past_putMark_19 : decode Y_Past_putMark.2.1 19 = .ok (.aload_n 1, 1) := by decide +kernel
theorem d_Past_putMark_20 : decode Y_Past_putMark.2.1 20 = .ok (.invokevirtual 28, 3) := by decide +kernel
theorem d_Past_putMark_23 : decode Y_Past_putMark.2.1 23 = .ok (.aload_n 0, 1) := by decide +kernel
theorem d_Past_putMark_24 : decode Y_Past_putMark.2.1 24 = .ok (.dup, 1) := by decide +kernel
theorem d_Past_putMark_25 : decode Y_Past_putMark.2.1 25 = .ok (.getfield 24, 3) := by decide +kernel
theorem d_Past_putMark_28 : decode Y_Past_putMark.2.1 28 = .ok (.iconst 1, 1) := by decide +kernel
theorem d_Past_putMark_29 : decode Y_Past_putMark.2.1 29 = .ok (.iadd, 1) := by decide +kernel
theorem d_Past_putMark_30 : decode Y_Past_putMark.2.1 30 = .ok (.putfield 24, 3) := by decide +kernel
theorem d_Past_putMark_33 : decode Y_Past_putMark.2.1 33 = .ok (.aload_n 0, 1) := by decide +kernel
theorem d_Past_putMark_34 : decode Y_Past_putMark.2.1 34 = .ok (.getfield 24, 3) := by decide +kernel
theorem d_Past_putMark_37 : decode Y_Past_putMark.2.1 37 = .ok (.iconst 1, 1) := by decide +kernel
theorem d_Past_putMark_38 : decode Y_Past_putMark.2.1 38 = .ok (.isub, 1) := by decide +kernel
theorem d_Past_putMark_39 : decode Y_Past_putMark.2.1 39 = .ok (.ireturn, 1) := by decide +kernel
def f_Past_putMark (h : PH) (a0 : Option Nat) (a1 : Option Nat) : Option (Int32 × PH) := (gI h 3 a0 3).bind fun v1 => if v1 < (3 : Int32) then ((gR h 3 a0 1).bind fun v2 => (gI h 3 a0 3).bind fun v3 => (aR h 54 v2 v3).bind fun v4 => (cl h 2 v4 (f_Now_become h v4 a1)).bind fun h5 => (gI h5 3 a0 3).bind fun v6 => (sF h5 3 a0 3 (.inl (v6 + (1 : Int32)))).bind fun h7 => (gI h7 3 a0 3).bind fun v8 => some ((v8 - (1 : Int32)), h7)) else (some ((-1 : Int32), h))
set_option maxRecDepth 20000 in
theorem PM_Past_putMark {l : Launch} {G : Cx} {h : PH} {a0 : Option Nat} {a1 : Option Nat} {z : (Int32 × PH)} (hz : f_Past_putMark h a0 a1 = some z) : PM l G 2 0 0 Y_Past_putMark [.inr (.inr a0), .inr (.inr a1)] h (some (.inl z.1), z.2) := by
  refine PM.of (Y := Y_Past_putMark) (cv := (fun z : (Int32 × PH) => (((some (.inl z.1), z.2) : Option PV × PH)))) (by decide) (L0 := [some (.inr (.inr a0)), some (.inr (.inr a1))]) 0 rfl (Nat.le_of_ble_eq_true rfl) ?_ hz
  unfold f_Past_putMark
  refine PJ.aload_n (pc := 0) d_Past_putMark_0 rfl ?_
  refine PJ.getI (pc := 1) fs_Past_24 d_Past_putMark_1 (fun v1 => ?_)
  refine PJ.iconst (pc := 4) (v := 3) d_Past_putMark_4 (by decide) ?_
  refine PJ.icmp_lt (pc := 5) (tgt := 10) d_Past_putMark_5 (by decide) (fun _ => ?_) (fun _ => ?_)
  · refine PJ.aload_n (pc := 10) d_Past_putMark_10 rfl ?_
    refine PJ.getR (pc := 11) fs_Past_17 d_Past_putMark_11 (fun v2 => ?_)
    refine PJ.aload_n (pc := 14) d_Past_putMark_14 rfl ?_
    refine PJ.getI (pc := 15) fs_Past_24 d_Past_putMark_15 (fun v3 => ?_)
    refine PJ.aald (pc := 18) 54 (by decide) d_Past_putMark_18 (fun v4 => ?_)
    refine PJ.aload_n (pc := 19) d_Past_putMark_19 rfl ?_
    refine PJ.cVV (pc := 20) cs_Past_28 (fun z hz => PM_Now_become hz) (pj_fitb rfl) rfl rfl (Nat.le_of_ble_eq_true rfl) d_Past_putMark_20 (fun h5 => ?_)
    refine PJ.aload_n (pc := 23) d_Past_putMark_23 rfl ?_
    refine PJ.dup (pc := 24) d_Past_putMark_24 rfl ?_
    refine PJ.getI (pc := 25) fs_Past_24 d_Past_putMark_25 (fun v6 => ?_)
    refine PJ.iconst (pc := 28) (v := 1) d_Past_putMark_28 (by decide) ?_
    refine PJ.iadd (pc := 29) d_Past_putMark_29 ?_
    refine PJ.putI (pc := 30) ps_Past_24 d_Past_putMark_30 (fun h7 => ?_)
    refine PJ.aload_n (pc := 33) d_Past_putMark_33 rfl ?_
    refine PJ.getI (pc := 34) fs_Past_24 d_Past_putMark_34 (fun v8 => ?_)
    refine PJ.iconst (pc := 37) (v := 1) d_Past_putMark_37 (by decide) ?_
    refine PJ.isub (pc := 38) d_Past_putMark_38 ?_
    exact PJ.iret (pc := 39) d_Past_putMark_39 rfl (Nat.le_of_ble_eq_true rfl) (Nat.le_of_ble_eq_true rfl)
  · refine PJ.iconst (pc := 8) (v := -1) d_Past_putMark_8 (by decide) ?_
    exact PJ.iret (pc := 9) d_Past_putMark_9 rfl (Nat.le_of_ble_eq_true rfl) (Nat.le_of_ble_eq_true rfl)
theorem d_T_mark_0 : decode Y_T_mark.2.1 0 = .ok (.aload_n 0, 1) := by decide +kernel
theorem d_T_mark_1 : decode Y_T_mark.2.1 1 = .ok (.getfield 36, 3) := by decide +kernel
theorem d_T_mark_4 : decode Y_T_mark.2.1 4 = .ok (.ifCond .ne 9, 3) := by decide +kernel
theorem d_T_mark_7 : decode Y_T_mark.2.1 7 = .ok (.aload_n 0, 1) := by decide +kernel
theorem d_T_mark_8 : decode Y_T_mark.2.1 8 = .ok (.iconst 1, 1) := by decide +kernel
theorem d_T_mark_9 : decode Y_T_mark.2.1 9 = .ok (.invokevirtual 95, 3) := by decide +kernel
theorem d_T_mark_12 : decode Y_T_mark.2.1 12 = .ok (.ireturn, 1) := by decide +kernel
theorem d_T_mark_13 : decode Y_T_mark.2.1 13 = .ok (.aload_n 0, 1) := by decide +kernel
theorem d_T_mark_14 : decode Y_T_mark.2.1 14 = .ok (.getfield 78, 3) := by decide +kernel
theorem d_T_mark_17 : decode Y_T_mark.2.1 17 = .ok (.aload_n 0, 1) := by decide +kernel
theorem d_T_mark_18 : decode Y_T_mark.2.1 18 = .ok (.getfield 43, 3) := by decide +kernel
theorem d_T_mark_21 : decode Y_T_mark.2.1 21 = .ok (.invokevirtual 367, 3) := by decide +kernel
theorem d_T_mark_24 : decode Y_T_mark.2.1 24 = .ok (.istore_n 1, 1) := by decide +kernel
theorem d_T_mark_25 : decode Y_T_mark.2.1 25 = .ok (.iload_n 1, 1) := by decide +kernel
theorem d_T_mark_26 : decode Y_T_mark.2.1 26 = .ok (.ifCond .ge 11, 3) := by decide +kernel
theorem d_T_mark_29 : decode Y_T_mark.2.1 29 = .ok (.aload_n 0, 1) := by decide +kernel
theorem d_T_mark_30 : decode Y_T_mark.2.1 30 = .ok (.iconst 3, 1) := by decide +kernel
theorem d_T_mark_31 : decode Y_T_mark.2.1 31 = .ok (.invokevirtual 95, 3) := by decide +kernel
theorem d_T_mark_34 : decode Y_T_mark.2.1 34 = .ok (.goto 8, 3) := by decide +kernel
theorem d_T_mark_37 : decode Y_T_mark.2.1 37 = .ok (.aload_n 0, 1) := by decide +kernel
theorem d_T_mark_38 : decode Y_T_mark.2.1 38 = .ok (.iload_n 1, 1) := by decide +kernel
theorem d_T_mark_39 : decode Y_T_mark.2.1 39 = .ok (.invokevirtual 114, 3) := by decide +kernel
theorem d_T_mark_42 : decode Y_T_mark.2.1 42 = .ok (.ireturn, 1) := by decide +kernel
def f_T_mark (h : PH) (a0 : Option Nat) : Option (Int32 × PH) := (gI h 10 a0 5).bind fun v1 => if ¬ v1 = 0 then ((gR h 10 a0 11).bind fun v2 => (gR h 10 a0 6).bind fun v3 => (cl h 3 v2 (f_Past_putMark h v2 v3)).bind fun v4 => if 0 ≤ v4.1 then ((cl v4.2 10 a0 (f_T_fine v4.2 a0 v4.1)).bind fun v5 => some (v5.1, v5.2)) else ((cl v4.2 10 a0 (f_T_refuse v4.2 a0 (3 : Int32))).bind fun v6 => some (v6.1, v6.2))) else ((cl h 10 a0 (f_T_refuse h a0 (1 : Int32))).bind fun v7 => some (v7.1, v7.2))
set_option maxRecDepth 20000 in
theorem PM_T_mark {l : Launch} {G : Cx} {h : PH} {a0 : Option Nat} {z : (Int32 × PH)} (hz : f_T_mark h a0 = some z) : PM l G 3 0 0 Y_T_mark [.inr (.inr a0)] h (some (.inl z.1), z.2) := by
  refine PM.of (Y := Y_T_mark) (cv := (fun z : (Int32 × PH) => (((some (.inl z.1), z.2) : Option PV × PH)))) (by decide) (L0 := [some (.inr (.inr a0)), none]) 1 rfl (Nat.le_of_ble_eq_true rfl) ?_ hz
  unfold f_T_mark
  refine PJ.aload_n (pc := 0) d_T_mark_0 rfl ?_
  refine PJ.getI (pc := 1) fs_T_36 d_T_mark_1 (fun v1 => ?_)
  refine PJ.if_ne (pc := 4) (tgt := 13) d_T_mark_4 (by decide) (fun _ => ?_) (fun _ => ?_)
  · refine PJ.aload_n (pc := 13) d_T_mark_13 rfl ?_
    refine PJ.getR (pc := 14) fs_T_78 d_T_mark_14 (fun v2 => ?_)
    refine PJ.aload_n (pc := 17) d_T_mark_17 rfl ?_
    refine PJ.getR (pc := 18) fs_T_43 d_T_mark_18 (fun v3 => ?_)
    refine PJ.cVI (pc := 21) cs_T_367 (fun z hz => PM_Past_putMark hz) (pj_fitb rfl) rfl rfl (Nat.le_of_ble_eq_true rfl) d_T_mark_21 (fun v4 => ?_)
    refine PJ.istore_n (pc := 24) (L1 := [some (.inr (.inr a0)), some (.inl v4.1)]) d_T_mark_24 (Nat.le_of_ble_eq_true rfl) rfl rfl ?_
    refine PJ.iload_n (pc := 25) d_T_mark_25 rfl ?_
    refine PJ.if_ge (pc := 26) (tgt := 37) d_T_mark_26 (by decide) (fun _ => ?_) (fun _ => ?_)
    · refine PJ.aload_n (pc := 37) d_T_mark_37 rfl ?_
      refine PJ.iload_n (pc := 38) d_T_mark_38 rfl ?_
      refine PJ.cVI (pc := 39) cs_T_114 (fun z hz => PM_T_fine hz) (pj_fitb rfl) rfl rfl (Nat.le_of_ble_eq_true rfl) d_T_mark_39 (fun v5 => ?_)
      exact PJ.iret (pc := 42) d_T_mark_42 rfl (Nat.le_of_ble_eq_true rfl) (Nat.le_of_ble_eq_true rfl)
    · refine PJ.aload_n (pc := 29) d_T_mark_29 rfl ?_
      refine PJ.iconst (pc := 30) (v := 3) d_T_mark_30 (by decide) ?_
      refine PJ.cVI (pc := 31) cs_T_95 (fun z hz => PM_T_refuse hz) (pj_fitb rfl) rfl rfl (Nat.le_of_ble_eq_true rfl) d_T_mark_31 (fun v6 => ?_)
      refine PJ.goto (pc := 34) (tgt := 42) d_T_mark_34 (by decide) ?_
      exact PJ.iret (pc := 42) d_T_mark_42 rfl (Nat.le_of_ble_eq_true rfl) (Nat.le_of_ble_eq_true rfl)
  · refine PJ.aload_n (pc := 7) d_T_mark_7 rfl ?_
    refine PJ.iconst (pc := 8) (v := 1) d_T_mark_8 (by decide) ?_
    refine PJ.cVI (pc := 9) cs_T_95 (fun z hz => PM_T_refuse hz) (pj_fitb rfl) rfl rfl (Nat.le_of_ble_eq_true rfl) d_T_mark_9 (fun v7 => ?_)
    exact PJ.iret (pc := 12) d_T_mark_12 rfl (Nat.le_of_ble_eq_true rfl) (Nat.le_of_ble_eq_true rfl)
theorem d_Past_goBack_0 : decode Y_Past_goBack.2.1 0 = .ok (.iload_n 1, 1) := by decide +kernel
theorem d_Past_goBack_1 : decode Y_Past_goBack.2.1 1 = .ok (.ifCond .lt 11, 3) := by decide +kernel
theorem d_Past_goBack_4 : decode Y_Past_goBack.2.1 4 = .ok (.iload_n 1, 1) := by decide +kernel
theorem d_Past_goBack_5 : decode Y_Past_goBack.2.1 5 = .ok (.aload_n 0, 1) := by decide +kernel
theorem d_Past_goBack_6 : decode Y_Past_goBack.2.1 6 = .ok (.getfield 24, 3) := by decide +kernel
theorem d_Past_goBack_9 : decode Y_Past_goBack.2.1 9 = .ok (.if_icmp .lt 5, 3) := by decide +kernel
theorem d_Past_goBack_12 : decode Y_Past_goBack.2.1 12 = .ok (.iconst 0, 1) := by decide +kernel
theorem d_Past_goBack_13 : decode Y_Past_goBack.2.1 13 = .ok (.ireturn, 1) := by decide +kernel
theorem d_Past_goBack_14 : decode Y_Past_goBack.2.1 14 = .ok (.aload_n 2, 1) := by decide +kernel
theorem d_Past_goBack_15 : decode Y_Past_goBack.2.1 15 = .ok (.aload_n 0, 1) := by decide +kernel
theorem d_Past_goBack_16 : decode Y_Past_goBack.2.1 16 = .ok (.getfield 17, 3) := by decide +kernel
theorem d_Past_goBack_19 : decode Y_Past_goBack.2.1 19 = .ok (.iload_n 1, 1) := by decide +kernel
theorem d_Past_goBack_20 : decode Y_Past_goBack.2.1 20 = .ok (.aaload, 1) := by decide +kernel
theorem d_Past_goBack_21 : decode Y_Past_goBack.2.1 21 = .ok (.invokevirtual 28, 3) := by decide +kernel
theorem d_Past_goBack_24 : decode Y_Past_goBack.2.1 24 = .ok (.aload_n 0, 1) := by decide +kernel
theorem d_Past_goBack_25 : decode Y_Past_goBack.2.1 25 = .ok (.iconst 0, 1) := by decide +kernel
theorem d_Past_goBack_26 : decode Y_Past_goBack.2.1 26 = .ok (.putfield 20, 3) := by decide +kernel
theorem d_Past_goBack_29 : decode Y_Past_goBack.2.1 29 = .ok (.iconst 1, 1) := by decide +kernel
theorem d_Past_goBack_30 : decode Y_Past_goBack.2.1 30 = .ok (.ireturn, 1) := by decide +kernel
def f_Past_goBack (h : PH) (a0 : Option Nat) (a1 : Int32) (a2 : Option Nat) : Option (Int32 × PH) := if a1 < 0 then (some ((0 : Int32), h)) else ((gI h 3 a0 3).bind fun v1 => if a1 < v1 then ((gR h 3 a0 1).bind fun v2 => (aR h 54 v2 a1).bind fun v3 => (cl h 2 a2 (f_Now_become h a2 v3)).bind fun h4 => (sF h4 3 a0 2 (.inl (0 : Int32))).bind fun h5 => some ((1 : Int32), h5)) else (some ((0 : Int32), h)))
set_option maxRecDepth 20000 in
theorem PM_Past_goBack {l : Launch} {G : Cx} {h : PH} {a0 : Option Nat} {a1 : Int32} {a2 : Option Nat} {z : (Int32 × PH)} (hz : f_Past_goBack h a0 a1 a2 = some z) : PM l G 2 0 0 Y_Past_goBack [.inr (.inr a0), .inl a1, .inr (.inr a2)] h (some (.inl z.1), z.2) := by
  refine PM.of (Y := Y_Past_goBack) (cv := (fun z : (Int32 × PH) => (((some (.inl z.1), z.2) : Option PV × PH)))) (by decide) (L0 := [some (.inr (.inr a0)), some (.inl a1), some (.inr (.inr a2))]) 0 rfl (Nat.le_of_ble_eq_true rfl) ?_ hz
  unfold f_Past_goBack
  refine PJ.iload_n (pc := 0) d_Past_goBack_0 rfl ?_
  refine PJ.if_lt (pc := 1) (tgt := 12) d_Past_goBack_1 (by decide) (fun _ => ?_) (fun _ => ?_)
  · refine PJ.iconst (pc := 12) (v := 0) d_Past_goBack_12 (by decide) ?_
    exact PJ.zret (pc := 13) d_Past_goBack_13 rfl rfl (Nat.le_of_ble_eq_true rfl) (Nat.le_of_ble_eq_true rfl)
  · refine PJ.iload_n (pc := 4) d_Past_goBack_4 rfl ?_
    refine PJ.aload_n (pc := 5) d_Past_goBack_5 rfl ?_
    refine PJ.getI (pc := 6) fs_Past_24 d_Past_goBack_6 (fun v1 => ?_)
    refine PJ.icmp_lt (pc := 9) (tgt := 14) d_Past_goBack_9 (by decide) (fun _ => ?_) (fun _ => ?_)
    · refine PJ.aload_n (pc := 14) d_Past_goBack_14 rfl ?_
      refine PJ.aload_n (pc := 15) d_Past_goBack_15 rfl ?_
      refine PJ.getR (pc := 16) fs_Past_17 d_Past_goBack_16 (fun v2 => ?_)
      refine PJ.iload_n (pc := 19) d_Past_goBack_19 rfl ?_
      refine PJ.aald (pc := 20) 54 (by decide) d_Past_goBack_20 (fun v3 => ?_)
      refine PJ.cVV (pc := 21) cs_Past_28 (fun z hz => PM_Now_become hz) (pj_fitb rfl) rfl rfl (Nat.le_of_ble_eq_true rfl) d_Past_goBack_21 (fun h4 => ?_)
      refine PJ.aload_n (pc := 24) d_Past_goBack_24 rfl ?_
      refine PJ.iconst (pc := 25) (v := 0) d_Past_goBack_25 (by decide) ?_
      refine PJ.putI (pc := 26) ps_Past_20 d_Past_goBack_26 (fun h5 => ?_)
      refine PJ.iconst (pc := 29) (v := 1) d_Past_goBack_29 (by decide) ?_
      exact PJ.zret (pc := 30) d_Past_goBack_30 rfl rfl (Nat.le_of_ble_eq_true rfl) (Nat.le_of_ble_eq_true rfl)
    · refine PJ.iconst (pc := 12) (v := 0) d_Past_goBack_12 (by decide) ?_
      exact PJ.zret (pc := 13) d_Past_goBack_13 rfl rfl (Nat.le_of_ble_eq_true rfl) (Nat.le_of_ble_eq_true rfl)
theorem d_T_back_0 : decode Y_T_back.2.1 0 = .ok (.aload_n 0, 1) := by decide +kernel
theorem d_T_back_1 : decode Y_T_back.2.1 1 = .ok (.aload_n 0, 1) := by decide +kernel
theorem d_T_back_2 : decode Y_T_back.2.1 2 = .ok (.getfield 78, 3) := by decide +kernel
theorem d_T_back_5 : decode Y_T_back.2.1 5 = .ok (.iload_n 1, 1) := by decide +kernel
theorem d_T_back_6 : decode Y_T_back.2.1 6 = .ok (.aload_n 0, 1) := by decide +kernel
theorem d_T_back_7 : decode Y_T_back.2.1 7 = .ok (.getfield 43, 3) := by decide +kernel
theorem d_T_back_10 : decode Y_T_back.2.1 10 = .ok (.invokevirtual 371, 3) := by decide +kernel
theorem d_T_back_13 : decode Y_T_back.2.1 13 = .ok (.ifCond .eq 7, 3) := by decide +kernel
theorem d_T_back_16 : decode Y_T_back.2.1 16 = .ok (.iconst 0, 1) := by decide +kernel
theorem d_T_back_17 : decode Y_T_back.2.1 17 = .ok (.goto 4, 3) := by decide +kernel
theorem d_T_back_20 : decode Y_T_back.2.1 20 = .ok (.iconst 1, 1) := by decide +kernel
theorem d_T_back_21 : decode Y_T_back.2.1 21 = .ok (.invokevirtual 360, 3) := by decide +kernel
theorem d_T_back_24 : decode Y_T_back.2.1 24 = .ok (.ireturn, 1) := by decide +kernel
def f_T_back (h : PH) (a0 : Option Nat) (a1 : Int32) : Option (Int32 × PH) := (gR h 10 a0 11).bind fun v1 => (gR h 10 a0 6).bind fun v2 => (cl h 3 v1 (f_Past_goBack h v1 a1 v2)).bind fun v3 => (if v3.1 = 0 then (some (1 : Int32)) else (some (0 : Int32)) : Option (Int32)).bind fun j4 => (cl v3.2 10 a0 (f_T_answered v3.2 a0 j4)).bind fun v5 => rZ v5.1 v5.2
set_option maxRecDepth 20000 in
theorem PM_T_back {l : Launch} {G : Cx} {h : PH} {a0 : Option Nat} {a1 : Int32} {z : (Int32 × PH)} (hz : f_T_back h a0 a1 = some z) : PM l G 3 0 0 Y_T_back [.inr (.inr a0), .inl a1] h (some (.inl z.1), z.2) := by
  refine PM.of (Y := Y_T_back) (cv := (fun z : (Int32 × PH) => (((some (.inl z.1), z.2) : Option PV × PH)))) (by decide) (L0 := [some (.inr (.inr a0)), some (.inl a1)]) 0 rfl (Nat.le_of_ble_eq_true rfl) ?_ hz
  unfold f_T_back
  refine PJ.aload_n (pc := 0) d_T_back_0 rfl ?_
  refine PJ.aload_n (pc := 1) d_T_back_1 rfl ?_
  refine PJ.getR (pc := 2) fs_T_78 d_T_back_2 (fun v1 => ?_)
  refine PJ.iload_n (pc := 5) d_T_back_5 rfl ?_
  refine PJ.aload_n (pc := 6) d_T_back_6 rfl ?_
  refine PJ.getR (pc := 7) fs_T_43 d_T_back_7 (fun v2 => ?_)
  refine PJ.cVI (pc := 10) cs_T_371 (fun z hz => PM_Past_goBack hz) (pj_fitb rfl) rfl rfl (Nat.le_of_ble_eq_true rfl) d_T_back_10 (fun v3 => ?_)
  refine PJ.bind (fun j4 : Int32 => ((21 : Nat), ([none, none] : List (Option PV)), ([.inl j4, .inr (.inr a0)] : List PV), (v3.2 : PH), (0 : Nat), (0 : Nat))) ?_ (fun j4 => ?_)
  · refine PJ.if_eq (pc := 13) (tgt := 20) d_T_back_13 (by decide) (fun _ => ?_) (fun _ => ?_)
    · refine PJ.iconst (pc := 20) (v := 1) d_T_back_20 (by decide) ?_
      refine PJ.mk (L1 := [none, none]) [false, false] rfl ?_
      exact PJ.done rfl
    · refine PJ.iconst (pc := 16) (v := 0) d_T_back_16 (by decide) ?_
      refine PJ.goto (pc := 17) (tgt := 21) d_T_back_17 (by decide) ?_
      refine PJ.mk (L1 := [none, none]) [false, false] rfl ?_
      exact PJ.done rfl
  · show PJ l G (pj_rm 3 0 0) Y_T_back 21 [none, none] [.inl j4, .inr (.inr a0)] v3.2 0 0 _ _
    refine PJ.cVI (pc := 21) cs_T_360 (fun z hz => PM_T_answered hz) (pj_fitb rfl) rfl rfl (Nat.le_of_ble_eq_true rfl) d_T_back_21 (fun v5 => ?_)
    exact PJ.zretC (pc := 24) d_T_back_24 rfl (Nat.le_of_ble_eq_true rfl) (Nat.le_of_ble_eq_true rfl)
theorem d_T_size_0 : decode Y_T_size.2.1 0 = .ok (.iload_n 1, 1) := by decide +kernel
theorem d_T_size_1 : decode Y_T_size.2.1 1 = .ok (.tableswitch 192 0 13 #[71, 79, 87, 95, 103, 111, 122, 133, 144, 155, 163, 171, 179, 187], 71) := by decide +kernel
theorem d_T_size_72 : decode Y_T_size.2.1 72 = .ok (.aload_n 0, 1) := by decide +kernel
theorem d_T_size_73 : decode Y_T_size.2.1 73 = .ok (.getfield 20, 3) := by decide +kernel
theorem d_T_size_76 : decode Y_T_size.2.1 76 = .ok (.getfield 382, 3) := by decide +kernel
theorem d_T_size_79 : decode Y_T_size.2.1 79 = .ok (.ireturn, 1) := by decide +kernel
theorem d_T_size_80 : decode Y_T_size.2.1 80 = .ok (.aload_n 0, 1) := by decide +kernel
theorem d_T_size_81 : decode Y_T_size.2.1 81 = .ok (.getfield 20, 3) := by decide +kernel
theorem d_T_size_84 : decode Y_T_size.2.1 84 = .ok (.getfield 385, 3) := by decide +kernel
theorem d_T_size_87 : decode Y_T_size.2.1 87 = .ok (.ireturn, 1) := by decide +kernel
theorem d_T_size_88 : decode Y_T_size.2.1 88 = .ok (.aload_n 0, 1) := by decide +kernel
theorem d_T_size_89 : decode Y_T_size.2.1 89 = .ok (.getfield 20, 3) := by decide +kernel
theorem d_T_size_92 : decode Y_T_size.2.1 92 = .ok (.getfield 167, 3) := by decide +kernel
theorem d_T_size_95 : decode Y_T_size.2.1 95 = .ok (.ireturn, 1) := by decide +kernel
theorem d_T_size_96 : decode Y_T_size.2.1 96 = .ok (.aload_n 0, 1) := by decide +kernel
theorem d_T_size_97 : decode Y_T_size.2.1 97 = .ok (.getfield 20, 3) := by decide +kernel
theorem d_T_size_100 : decode Y_T_size.2.1 100 = .ok (.getfield 111, 3) := by decide +kernel
theorem d_T_size_103 : decode Y_T_size.2.1 103 = .ok (.ireturn, 1) := by decide +kernel
theorem d_T_size_104 : decode Y_T_size.2.1 104 = .ok (.aload_n 0, 1) := by decide +kernel
theorem d_T_size_105 : decode Y_T_size.2.1 105 = .ok (.getfield 20, 3) := by decide +kernel
theorem d_T_size_108 : decode Y_T_size.2.1 108 = .ok (.getfield 386, 3) := by decide +kernel
theorem d_T_size_111 : decode Y_T_size.2.1 111 = .ok (.ireturn, 1) := by decide +kernel
theorem d_T_size_112 : decode Y_T_size.2.1 112 = .ok (.aload_n 0, 1) := by decide +kernel
theorem d_T_size_113 : decode Y_T_size.2.1 113 = .ok (.getfield 20, 3) := by decide +kernel
theorem d_T_size_116 : decode Y_T_size.2.1 116 = .ok (.getfield 175, 3) := by decide +kernel
theorem d_T_size_119 : decode Y_T_size.2.1 119 = .ok (.getfield 179, 3) := by decide +kernel
theorem d_T_size_122 : decode Y_T_size.2.1 122 = .ok (.ireturn, 1) := by decide +kernel
theorem d_T_size_123 : decode Y_T_size.2.1 123 = .ok (.aload_n 0, 1) := by decide +kernel
theorem d_T_size_124 : decode Y_T_size.2.1 124 = .ok (.getfield 20, 3) := by decide +kernel
theorem d_T_size_127 : decode Y_T_size.2.1 127 = .ok (.getfield 261, 3) := by decide +kernel
theorem d_T_size_130 : decode Y_T_size.2.1 130 = .ok (.getfield 293, 3) := by decide +kernel
theorem d_T_size_133 : decode Y_T_size.2.1 133 = .ok (.ireturn, 1) := by decide +kernel
theorem d_T_size_134 : decode Y_T_size.2.1 134 = .ok (.aload_n 0, 1) := by decide +kernel
theorem d_T_size_135 : decode Y_T_size.2.1 135 = .ok (.getfield 20, 3) := by decide +kernel
theorem d_T_size_138 : decode Y_T_size.2.1 138 = .ok (.getfield 300, 3) := by decide +kernel
theorem d_T_size_141 : decode Y_T_size.2.1 141 = .ok (.getfield 315, 3) := by decide +kernel
theorem d_T_size_144 : decode Y_T_size.2.1 144 = .ok (.ireturn, 1) := by decide +kernel
theorem d_T_size_145 : decode Y_T_size.2.1 145 = .ok (.aload_n 0, 1) := by decide +kernel
theorem d_T_size_146 : decode Y_T_size.2.1 146 = .ok (.getfield 20, 3) := by decide +kernel
theorem d_T_size_149 : decode Y_T_size.2.1 149 = .ok (.getfield 300, 3) := by decide +kernel
theorem d_T_size_152 : decode Y_T_size.2.1 152 = .ok (.getfield 389, 3) := by decide +kernel
theorem d_T_size_155 : decode Y_T_size.2.1 155 = .ok (.ireturn, 1) := by decide +kernel
theorem d_T_size_156 : decode Y_T_size.2.1 156 = .ok (.aload_n 0, 1) := by decide +kernel
theorem d_T_size_157 : decode Y_T_size.2.1 157 = .ok (.getfield 43, 3) := by decide +kernel
theorem d_T_size_160 : decode Y_T_size.2.1 160 = .ok (.getfield 357, 3) := by decide +kernel
theorem d_T_size_163 : decode Y_T_size.2.1 163 = .ok (.ireturn, 1) := by decide +kernel
theorem d_T_size_164 : decode Y_T_size.2.1 164 = .ok (.aload_n 0, 1) := by decide +kernel
theorem d_T_size_165 : decode Y_T_size.2.1 165 = .ok (.getfield 43, 3) := by decide +kernel
theorem d_T_size_168 : decode Y_T_size.2.1 168 = .ok (.getfield 343, 3) := by decide +kernel
theorem d_T_size_171 : decode Y_T_size.2.1 171 = .ok (.ireturn, 1) := by decide +kernel
theorem d_T_size_172 : decode Y_T_size.2.1 172 = .ok (.aload_n 0, 1) := by decide +kernel
theorem d_T_size_173 : decode Y_T_size.2.1 173 = .ok (.getfield 78, 3) := by decide +kernel
theorem d_T_size_176 : decode Y_T_size.2.1 176 = .ok (.getfield 392, 3) := by decide +kernel
theorem d_T_size_179 : decode Y_T_size.2.1 179 = .ok (.ireturn, 1) := by decide +kernel
theorem d_T_size_180 : decode Y_T_size.2.1 180 = .ok (.aload_n 0, 1) := by decide +kernel
theorem d_T_size_181 : decode Y_T_size.2.1 181 = .ok (.getfield 78, 3) := by decide +kernel
theorem d_T_size_184 : decode Y_T_size.2.1 184 = .ok (.getfield 395, 3) := by decide +kernel
theorem d_T_size_187 : decode Y_T_size.2.1 187 = .ok (.ireturn, 1) := by decide +kernel
theorem d_T_size_188 : decode Y_T_size.2.1 188 = .ok (.aload_n 0, 1) := by decide +kernel
theorem d_T_size_189 : decode Y_T_size.2.1 189 = .ok (.getfield 13, 3) := by decide +kernel
theorem d_T_size_192 : decode Y_T_size.2.1 192 = .ok (.ireturn, 1) := by decide +kernel
theorem d_T_size_193 : decode Y_T_size.2.1 193 = .ok (.iconst (-1), 1) := by decide +kernel
theorem d_T_size_194 : decode Y_T_size.2.1 194 = .ok (.ireturn, 1) := by decide +kernel
def f_T_size (h : PH) (a0 : Option Nat) (a1 : Int32) : Option Int32 := if a1.toInt < 0 ∨ 13 < a1.toInt then (some (-1 : Int32)) else (if a1 = (0 : Int32) then ((gR h 10 a0 2).bind fun v1 => (gI h 1 v1 0).bind fun v2 => some v2) else (if a1 = (1 : Int32) then ((gR h 10 a0 2).bind fun v3 => (gI h 1 v3 1).bind fun v4 => some v4) else (if a1 = (2 : Int32) then ((gR h 10 a0 2).bind fun v5 => (gI h 1 v5 2).bind fun v6 => some v6) else (if a1 = (3 : Int32) then ((gR h 10 a0 2).bind fun v7 => (gI h 1 v7 3).bind fun v8 => some v8) else (if a1 = (4 : Int32) then ((gR h 10 a0 2).bind fun v9 => (gI h 1 v9 4).bind fun v10 => some v10) else (if a1 = (5 : Int32) then ((gR h 10 a0 2).bind fun v11 => (gR h 1 v11 10).bind fun v12 => (gI h 6 v12 0).bind fun v13 => some v13) else (if a1 = (6 : Int32) then ((gR h 10 a0 2).bind fun v14 => (gR h 1 v14 11).bind fun v15 => (gI h 7 v15 0).bind fun v16 => some v16) else (if a1 = (7 : Int32) then ((gR h 10 a0 2).bind fun v17 => (gR h 1 v17 12).bind fun v18 => (gI h 9 v18 0).bind fun v19 => some v19) else (if a1 = (8 : Int32) then ((gR h 10 a0 2).bind fun v20 => (gR h 1 v20 12).bind fun v21 => (gI h 9 v21 1).bind fun v22 => some v22) else (if a1 = (9 : Int32) then ((gR h 10 a0 6).bind fun v23 => (gI h 2 v23 0).bind fun v24 => some v24) else (if a1 = (10 : Int32) then ((gR h 10 a0 6).bind fun v25 => (gI h 2 v25 1).bind fun v26 => some v26) else (if a1 = (11 : Int32) then ((gR h 10 a0 11).bind fun v27 => (gI h 3 v27 2).bind fun v28 => some v28) else (if a1 = (12 : Int32) then ((gR h 10 a0 11).bind fun v29 => (gI h 3 v29 3).bind fun v30 => some v30) else (if a1 = (13 : Int32) then ((gI h 10 a0 1).bind fun v31 => some v31) else (none)))))))))))))))
set_option maxRecDepth 20000 in
theorem PM_T_size {l : Launch} {G : Cx} {h : PH} {a0 : Option Nat} {a1 : Int32} {z : Int32} (hz : f_T_size h a0 a1 = some z) : PM l G 1 0 0 Y_T_size [.inr (.inr a0), .inl a1] h (some (.inl z), h) := by
  refine PM.of (Y := Y_T_size) (cv := (fun z : Int32 => (((some (.inl z), h) : Option PV × PH)))) (by decide) (L0 := [some (.inr (.inr a0)), some (.inl a1)]) 0 rfl (Nat.le_of_ble_eq_true rfl) ?_ hz
  unfold f_T_size
  refine PJ.iload_n (pc := 0) d_T_size_0 rfl ?_
  refine PJ.swo (pc := 1) (tgt := 193) d_T_size_1 (by decide) (fun _ => ?_) (fun _ => ?_)
  · refine PJ.iconst (pc := 193) (v := -1) d_T_size_193 (by decide) ?_
    exact PJ.iretp (pc := 194) d_T_size_194 rfl (Nat.le_of_ble_eq_true rfl) (Nat.le_of_ble_eq_true rfl)
  · refine PJ.swc (pc := 1) (tgt := 72) (off := 71) (0 : Int32) d_T_size_1 (by decide +kernel) (by decide +kernel) (by decide +kernel) (by decide) (fun _ => ?_) (fun _ => ?_)
    · refine PJ.aload_n (pc := 72) d_T_size_72 rfl ?_
      refine PJ.getR (pc := 73) fs_T_20 d_T_size_73 (fun v1 => ?_)
      refine PJ.getI (pc := 76) fs_T_382 d_T_size_76 (fun v2 => ?_)
      exact PJ.iretp (pc := 79) d_T_size_79 rfl (Nat.le_of_ble_eq_true rfl) (Nat.le_of_ble_eq_true rfl)
    · refine PJ.swc (pc := 1) (tgt := 80) (off := 79) (1 : Int32) d_T_size_1 (by decide +kernel) (by decide +kernel) (by decide +kernel) (by decide) (fun _ => ?_) (fun _ => ?_)
      · refine PJ.aload_n (pc := 80) d_T_size_80 rfl ?_
        refine PJ.getR (pc := 81) fs_T_20 d_T_size_81 (fun v3 => ?_)
        refine PJ.getI (pc := 84) fs_T_385 d_T_size_84 (fun v4 => ?_)
        exact PJ.iretp (pc := 87) d_T_size_87 rfl (Nat.le_of_ble_eq_true rfl) (Nat.le_of_ble_eq_true rfl)
      · refine PJ.swc (pc := 1) (tgt := 88) (off := 87) (2 : Int32) d_T_size_1 (by decide +kernel) (by decide +kernel) (by decide +kernel) (by decide) (fun _ => ?_) (fun _ => ?_)
        · refine PJ.aload_n (pc := 88) d_T_size_88 rfl ?_
          refine PJ.getR (pc := 89) fs_T_20 d_T_size_89 (fun v5 => ?_)
          refine PJ.getI (pc := 92) fs_T_167 d_T_size_92 (fun v6 => ?_)
          exact PJ.iretp (pc := 95) d_T_size_95 rfl (Nat.le_of_ble_eq_true rfl) (Nat.le_of_ble_eq_true rfl)
        · refine PJ.swc (pc := 1) (tgt := 96) (off := 95) (3 : Int32) d_T_size_1 (by decide +kernel) (by decide +kernel) (by decide +kernel) (by decide) (fun _ => ?_) (fun _ => ?_)
          · refine PJ.aload_n (pc := 96) d_T_size_96 rfl ?_
            refine PJ.getR (pc := 97) fs_T_20 d_T_size_97 (fun v7 => ?_)
            refine PJ.getI (pc := 100) fs_T_111 d_T_size_100 (fun v8 => ?_)
            exact PJ.iretp (pc := 103) d_T_size_103 rfl (Nat.le_of_ble_eq_true rfl) (Nat.le_of_ble_eq_true rfl)
          · refine PJ.swc (pc := 1) (tgt := 104) (off := 103) (4 : Int32) d_T_size_1 (by decide +kernel) (by decide +kernel) (by decide +kernel) (by decide) (fun _ => ?_) (fun _ => ?_)
            · refine PJ.aload_n (pc := 104) d_T_size_104 rfl ?_
              refine PJ.getR (pc := 105) fs_T_20 d_T_size_105 (fun v9 => ?_)
              refine PJ.getI (pc := 108) fs_T_386 d_T_size_108 (fun v10 => ?_)
              exact PJ.iretp (pc := 111) d_T_size_111 rfl (Nat.le_of_ble_eq_true rfl) (Nat.le_of_ble_eq_true rfl)
            · refine PJ.swc (pc := 1) (tgt := 112) (off := 111) (5 : Int32) d_T_size_1 (by decide +kernel) (by decide +kernel) (by decide +kernel) (by decide) (fun _ => ?_) (fun _ => ?_)
              · refine PJ.aload_n (pc := 112) d_T_size_112 rfl ?_
                refine PJ.getR (pc := 113) fs_T_20 d_T_size_113 (fun v11 => ?_)
                refine PJ.getR (pc := 116) fs_T_175 d_T_size_116 (fun v12 => ?_)
                refine PJ.getI (pc := 119) fs_T_179 d_T_size_119 (fun v13 => ?_)
                exact PJ.iretp (pc := 122) d_T_size_122 rfl (Nat.le_of_ble_eq_true rfl) (Nat.le_of_ble_eq_true rfl)
              · refine PJ.swc (pc := 1) (tgt := 123) (off := 122) (6 : Int32) d_T_size_1 (by decide +kernel) (by decide +kernel) (by decide +kernel) (by decide) (fun _ => ?_) (fun _ => ?_)
                · refine PJ.aload_n (pc := 123) d_T_size_123 rfl ?_
                  refine PJ.getR (pc := 124) fs_T_20 d_T_size_124 (fun v14 => ?_)
                  refine PJ.getR (pc := 127) fs_T_261 d_T_size_127 (fun v15 => ?_)
                  refine PJ.getI (pc := 130) fs_T_293 d_T_size_130 (fun v16 => ?_)
                  exact PJ.iretp (pc := 133) d_T_size_133 rfl (Nat.le_of_ble_eq_true rfl) (Nat.le_of_ble_eq_true rfl)
                · refine PJ.swc (pc := 1) (tgt := 134) (off := 133) (7 : Int32) d_T_size_1 (by decide +kernel) (by decide +kernel) (by decide +kernel) (by decide) (fun _ => ?_) (fun _ => ?_)
                  · refine PJ.aload_n (pc := 134) d_T_size_134 rfl ?_
                    refine PJ.getR (pc := 135) fs_T_20 d_T_size_135 (fun v17 => ?_)
                    refine PJ.getR (pc := 138) fs_T_300 d_T_size_138 (fun v18 => ?_)
                    refine PJ.getI (pc := 141) fs_T_315 d_T_size_141 (fun v19 => ?_)
                    exact PJ.iretp (pc := 144) d_T_size_144 rfl (Nat.le_of_ble_eq_true rfl) (Nat.le_of_ble_eq_true rfl)
                  · refine PJ.swc (pc := 1) (tgt := 145) (off := 144) (8 : Int32) d_T_size_1 (by decide +kernel) (by decide +kernel) (by decide +kernel) (by decide) (fun _ => ?_) (fun _ => ?_)
                    · refine PJ.aload_n (pc := 145) d_T_size_145 rfl ?_
                      refine PJ.getR (pc := 146) fs_T_20 d_T_size_146 (fun v20 => ?_)
                      refine PJ.getR (pc := 149) fs_T_300 d_T_size_149 (fun v21 => ?_)
                      refine PJ.getI (pc := 152) fs_T_389 d_T_size_152 (fun v22 => ?_)
                      exact PJ.iretp (pc := 155) d_T_size_155 rfl (Nat.le_of_ble_eq_true rfl) (Nat.le_of_ble_eq_true rfl)
                    · refine PJ.swc (pc := 1) (tgt := 156) (off := 155) (9 : Int32) d_T_size_1 (by decide +kernel) (by decide +kernel) (by decide +kernel) (by decide) (fun _ => ?_) (fun _ => ?_)
                      · refine PJ.aload_n (pc := 156) d_T_size_156 rfl ?_
                        refine PJ.getR (pc := 157) fs_T_43 d_T_size_157 (fun v23 => ?_)
                        refine PJ.getI (pc := 160) fs_T_357 d_T_size_160 (fun v24 => ?_)
                        exact PJ.iretp (pc := 163) d_T_size_163 rfl (Nat.le_of_ble_eq_true rfl) (Nat.le_of_ble_eq_true rfl)
                      · refine PJ.swc (pc := 1) (tgt := 164) (off := 163) (10 : Int32) d_T_size_1 (by decide +kernel) (by decide +kernel) (by decide +kernel) (by decide) (fun _ => ?_) (fun _ => ?_)
                        · refine PJ.aload_n (pc := 164) d_T_size_164 rfl ?_
                          refine PJ.getR (pc := 165) fs_T_43 d_T_size_165 (fun v25 => ?_)
                          refine PJ.getI (pc := 168) fs_T_343 d_T_size_168 (fun v26 => ?_)
                          exact PJ.iretp (pc := 171) d_T_size_171 rfl (Nat.le_of_ble_eq_true rfl) (Nat.le_of_ble_eq_true rfl)
                        · refine PJ.swc (pc := 1) (tgt := 172) (off := 171) (11 : Int32) d_T_size_1 (by decide +kernel) (by decide +kernel) (by decide +kernel) (by decide) (fun _ => ?_) (fun _ => ?_)
                          · refine PJ.aload_n (pc := 172) d_T_size_172 rfl ?_
                            refine PJ.getR (pc := 173) fs_T_78 d_T_size_173 (fun v27 => ?_)
                            refine PJ.getI (pc := 176) fs_T_392 d_T_size_176 (fun v28 => ?_)
                            exact PJ.iretp (pc := 179) d_T_size_179 rfl (Nat.le_of_ble_eq_true rfl) (Nat.le_of_ble_eq_true rfl)
                          · refine PJ.swc (pc := 1) (tgt := 180) (off := 179) (12 : Int32) d_T_size_1 (by decide +kernel) (by decide +kernel) (by decide +kernel) (by decide) (fun _ => ?_) (fun _ => ?_)
                            · refine PJ.aload_n (pc := 180) d_T_size_180 rfl ?_
                              refine PJ.getR (pc := 181) fs_T_78 d_T_size_181 (fun v29 => ?_)
                              refine PJ.getI (pc := 184) fs_T_395 d_T_size_184 (fun v30 => ?_)
                              exact PJ.iretp (pc := 187) d_T_size_187 rfl (Nat.le_of_ble_eq_true rfl) (Nat.le_of_ble_eq_true rfl)
                            · refine PJ.swc (pc := 1) (tgt := 188) (off := 187) (13 : Int32) d_T_size_1 (by decide +kernel) (by decide +kernel) (by decide +kernel) (by decide) (fun _ => ?_) (fun _ => ?_)
                              · refine PJ.aload_n (pc := 188) d_T_size_188 rfl ?_
                                refine PJ.getI (pc := 189) fs_T_13 d_T_size_189 (fun v31 => ?_)
                                exact PJ.iretp (pc := 192) d_T_size_192 rfl (Nat.le_of_ble_eq_true rfl) (Nat.le_of_ble_eq_true rfl)
                              · exact PJ.nn
theorem d_T_trouble_0 : decode Y_T_trouble.2.1 0 = .ok (.aload_n 0, 1) := by decide +kernel
theorem d_T_trouble_1 : decode Y_T_trouble.2.1 1 = .ok (.getfield 82, 3) := by decide +kernel
theorem d_T_trouble_4 : decode Y_T_trouble.2.1 4 = .ok (.ireturn, 1) := by decide +kernel
def f_T_trouble (h : PH) (a0 : Option Nat) : Option Int32 := (gI h 10 a0 12).bind fun v1 => some v1
set_option maxRecDepth 20000 in
theorem PM_T_trouble {l : Launch} {G : Cx} {h : PH} {a0 : Option Nat} {z : Int32} (hz : f_T_trouble h a0 = some z) : PM l G 1 0 0 Y_T_trouble [.inr (.inr a0)] h (some (.inl z), h) := by
  refine PM.of (Y := Y_T_trouble) (cv := (fun z : Int32 => (((some (.inl z), h) : Option PV × PH)))) (by decide) (L0 := [some (.inr (.inr a0))]) 0 rfl (Nat.le_of_ble_eq_true rfl) ?_ hz
  unfold f_T_trouble
  refine PJ.aload_n (pc := 0) d_T_trouble_0 rfl ?_
  refine PJ.getI (pc := 1) fs_T_82 d_T_trouble_1 (fun v1 => ?_)
  exact PJ.iretp (pc := 4) d_T_trouble_4 rfl (Nat.le_of_ble_eq_true rfl) (Nat.le_of_ble_eq_true rfl)
theorem d_M_init_0 : decode Y_M_init.2.1 0 = .ok (.aload_n 0, 1) := by decide +kernel
theorem d_M_init_1 : decode Y_M_init.2.1 1 = .ok (.invokespecial 3, 3) := by decide +kernel
theorem d_M_init_4 : decode Y_M_init.2.1 4 = .ok (.aload_n 0, 1) := by decide +kernel
theorem d_M_init_5 : decode Y_M_init.2.1 5 = .ok (.iconst (-1), 1) := by decide +kernel
theorem d_M_init_6 : decode Y_M_init.2.1 6 = .ok (.putfield 9, 3) := by decide +kernel
theorem d_M_init_9 : decode Y_M_init.2.1 9 = .ok (.aload_n 0, 1) := by decide +kernel
theorem d_M_init_10 : decode Y_M_init.2.1 10 = .ok (.sipush 900, 3) := by decide +kernel
theorem d_M_init_13 : decode Y_M_init.2.1 13 = .ok (.newarray .byte, 2) := by decide +kernel
theorem d_M_init_15 : decode Y_M_init.2.1 15 = .ok (.putfield 13, 3) := by decide +kernel
theorem d_M_init_18 : decode Y_M_init.2.1 18 = .ok (.aload_n 0, 1) := by decide +kernel
theorem d_M_init_19 : decode Y_M_init.2.1 19 = .ok (.bipush 23, 2) := by decide +kernel
theorem d_M_init_21 : decode Y_M_init.2.1 21 = .ok (.newarray .int, 2) := by decide +kernel
theorem d_M_init_23 : decode Y_M_init.2.1 23 = .ok (.putfield 17, 3) := by decide +kernel
theorem d_M_init_26 : decode Y_M_init.2.1 26 = .ok (.aload_n 0, 1) := by decide +kernel
theorem d_M_init_27 : decode Y_M_init.2.1 27 = .ok (.bipush 23, 2) := by decide +kernel
theorem d_M_init_29 : decode Y_M_init.2.1 29 = .ok (.newarray .int, 2) := by decide +kernel
theorem d_M_init_31 : decode Y_M_init.2.1 31 = .ok (.putfield 21, 3) := by decide +kernel
theorem d_M_init_34 : decode Y_M_init.2.1 34 = .ok (.aload_n 0, 1) := by decide +kernel
theorem d_M_init_35 : decode Y_M_init.2.1 35 = .ok (.sipush 368, 3) := by decide +kernel
theorem d_M_init_38 : decode Y_M_init.2.1 38 = .ok (.newarray .int, 2) := by decide +kernel
theorem d_M_init_40 : decode Y_M_init.2.1 40 = .ok (.putfield 24, 3) := by decide +kernel
theorem d_M_init_43 : decode Y_M_init.2.1 43 = .ok (.aload_n 0, 1) := by decide +kernel
theorem d_M_init_44 : decode Y_M_init.2.1 44 = .ok (.bipush 69, 2) := by decide +kernel
theorem d_M_init_46 : decode Y_M_init.2.1 46 = .ok (.newarray .int, 2) := by decide +kernel
theorem d_M_init_48 : decode Y_M_init.2.1 48 = .ok (.putfield 27, 3) := by decide +kernel
theorem d_M_init_51 : decode Y_M_init.2.1 51 = .ok (.aload_n 0, 1) := by decide +kernel
theorem d_M_init_52 : decode Y_M_init.2.1 52 = .ok (.iconst (-1), 1) := by decide +kernel
theorem d_M_init_53 : decode Y_M_init.2.1 53 = .ok (.putfield 30, 3) := by decide +kernel
theorem d_M_init_56 : decode Y_M_init.2.1 56 = .ok (.aload_n 0, 1) := by decide +kernel
theorem d_M_init_57 : decode Y_M_init.2.1 57 = .ok (.sipush 6000, 3) := by decide +kernel
theorem d_M_init_60 : decode Y_M_init.2.1 60 = .ok (.newarray .long, 2) := by decide +kernel
theorem d_M_init_62 : decode Y_M_init.2.1 62 = .ok (.putfield 33, 3) := by decide +kernel
theorem d_M_init_65 : decode Y_M_init.2.1 65 = .ok (.aload_n 0, 1) := by decide +kernel
theorem d_M_init_66 : decode Y_M_init.2.1 66 = .ok (.iconst 5, 1) := by decide +kernel
theorem d_M_init_67 : decode Y_M_init.2.1 67 = .ok (.newarray .int, 2) := by decide +kernel
theorem d_M_init_69 : decode Y_M_init.2.1 69 = .ok (.putfield 37, 3) := by decide +kernel
theorem d_M_init_72 : decode Y_M_init.2.1 72 = .ok (.aload_n 0, 1) := by decide +kernel
theorem d_M_init_73 : decode Y_M_init.2.1 73 = .ok (.iconst 5, 1) := by decide +kernel
theorem d_M_init_74 : decode Y_M_init.2.1 74 = .ok (.newarray .int, 2) := by decide +kernel
theorem d_M_init_76 : decode Y_M_init.2.1 76 = .ok (.putfield 40, 3) := by decide +kernel
theorem d_M_init_79 : decode Y_M_init.2.1 79 = .ok (.aload_n 0, 1) := by decide +kernel
theorem d_M_init_80 : decode Y_M_init.2.1 80 = .ok (.bipush 25, 2) := by decide +kernel
theorem d_M_init_82 : decode Y_M_init.2.1 82 = .ok (.newarray .int, 2) := by decide +kernel
theorem d_M_init_84 : decode Y_M_init.2.1 84 = .ok (.putfield 43, 3) := by decide +kernel
theorem d_M_init_87 : decode Y_M_init.2.1 87 = .ok (.return_, 1) := by decide +kernel
def f_M_init (h : PH) (a0 : Option Nat) : Option PH := (a0).bind fun _ => (sF h 12 a0 2 (.inl (-1 : Int32))).bind fun h1 => (sF (h1 ++ [(52, List.replicate 900 (.inl 0))]) 12 a0 5 (.inr (.inr (some (h1).length)))).bind fun h2 => (sF (h2 ++ [(50, List.replicate 23 (.inl 0))]) 12 a0 15 (.inr (.inr (some (h2).length)))).bind fun h3 => (sF (h3 ++ [(50, List.replicate 23 (.inl 0))]) 12 a0 16 (.inr (.inr (some (h3).length)))).bind fun h4 => (sF (h4 ++ [(50, List.replicate 368 (.inl 0))]) 12 a0 17 (.inr (.inr (some (h4).length)))).bind fun h5 => (sF (h5 ++ [(50, List.replicate 69 (.inl 0))]) 12 a0 18 (.inr (.inr (some (h5).length)))).bind fun h6 => (sF h6 12 a0 21 (.inl (-1 : Int32))).bind fun h7 => (sF (h7 ++ [(51, List.replicate 6000 (.inr (.inl 0)))]) 12 a0 23 (.inr (.inr (some (h7).length)))).bind fun h8 => (sF (h8 ++ [(50, List.replicate 5 (.inl 0))]) 12 a0 25 (.inr (.inr (some (h8).length)))).bind fun h9 => (sF (h9 ++ [(50, List.replicate 5 (.inl 0))]) 12 a0 26 (.inr (.inr (some (h9).length)))).bind fun h10 => (sF (h10 ++ [(50, List.replicate 25 (.inl 0))]) 12 a0 27 (.inr (.inr (some (h10).length)))).bind fun h11 => some h11
set_option maxRecDepth 20000 in
theorem PM_M_init {l : Launch} {G : Cx} {h : PH} {a0 : Option Nat} {z : PH} (hz : f_M_init h a0 = some z) : PM l G 1 9 7418 Y_M_init [.inr (.inr a0)] h (none, z) := by
  refine PM.of (Y := Y_M_init) (cv := (fun z : PH => (((none, z) : Option PV × PH)))) (by decide) (L0 := [some (.inr (.inr a0))]) 0 rfl (Nat.le_of_ble_eq_true rfl) ?_ hz
  unfold f_M_init
  refine PJ.aload_n (pc := 0) d_M_init_0 rfl ?_
  refine PJ.objO (pc := 1) wd_1386 wd_161 wd_162 (Nat.le_of_ble_eq_true rfl) (Nat.le_of_ble_eq_true rfl) (Nat.le_of_ble_eq_true rfl) d_M_init_1 ?_
  refine PJ.aload_n (pc := 4) d_M_init_4 rfl ?_
  refine PJ.iconst (pc := 5) (v := -1) d_M_init_5 (by decide) ?_
  refine PJ.putI (pc := 6) ps_M_9 d_M_init_6 (fun h1 => ?_)
  refine PJ.aload_n (pc := 9) d_M_init_9 rfl ?_
  refine PJ.sipush (pc := 10) (v := 900) d_M_init_10 (by decide) ?_
  refine PJ.newa (pc := 13) (t := 52) (N := 900) (v := .inl 0) (by decide) rfl (fun _ => rfl) wd_217 (by decide) (by decide +kernel) (by decide) (Nat.le_of_ble_eq_true rfl) (Nat.le_of_ble_eq_true rfl) d_M_init_13 ?_
  refine PJ.putR (pc := 15) ps_M_13 rfl d_M_init_15 (fun h2 => ?_)
  refine PJ.aload_n (pc := 18) d_M_init_18 rfl ?_
  refine PJ.bipush (pc := 19) (v := 23) d_M_init_19 (by decide) ?_
  refine PJ.newa (pc := 21) (t := 50) (N := 23) (v := .inl 0) (by decide) rfl (fun _ => rfl) wd_218 (by decide) (by decide +kernel) (by decide) (Nat.le_of_ble_eq_true rfl) (Nat.le_of_ble_eq_true rfl) d_M_init_21 ?_
  refine PJ.putR (pc := 23) ps_M_17 rfl d_M_init_23 (fun h3 => ?_)
  refine PJ.aload_n (pc := 26) d_M_init_26 rfl ?_
  refine PJ.bipush (pc := 27) (v := 23) d_M_init_27 (by decide) ?_
  refine PJ.newa (pc := 29) (t := 50) (N := 23) (v := .inl 0) (by decide) rfl (fun _ => rfl) wd_218 (by decide) (by decide +kernel) (by decide) (Nat.le_of_ble_eq_true rfl) (Nat.le_of_ble_eq_true rfl) d_M_init_29 ?_
  refine PJ.putR (pc := 31) ps_M_21 rfl d_M_init_31 (fun h4 => ?_)
  refine PJ.aload_n (pc := 34) d_M_init_34 rfl ?_
  refine PJ.sipush (pc := 35) (v := 368) d_M_init_35 (by decide) ?_
  refine PJ.newa (pc := 38) (t := 50) (N := 368) (v := .inl 0) (by decide) rfl (fun _ => rfl) wd_218 (by decide) (by decide +kernel) (by decide) (Nat.le_of_ble_eq_true rfl) (Nat.le_of_ble_eq_true rfl) d_M_init_38 ?_
  refine PJ.putR (pc := 40) ps_M_24 rfl d_M_init_40 (fun h5 => ?_)
  refine PJ.aload_n (pc := 43) d_M_init_43 rfl ?_
  refine PJ.bipush (pc := 44) (v := 69) d_M_init_44 (by decide) ?_
  refine PJ.newa (pc := 46) (t := 50) (N := 69) (v := .inl 0) (by decide) rfl (fun _ => rfl) wd_218 (by decide) (by decide +kernel) (by decide) (Nat.le_of_ble_eq_true rfl) (Nat.le_of_ble_eq_true rfl) d_M_init_46 ?_
  refine PJ.putR (pc := 48) ps_M_27 rfl d_M_init_48 (fun h6 => ?_)
  refine PJ.aload_n (pc := 51) d_M_init_51 rfl ?_
  refine PJ.iconst (pc := 52) (v := -1) d_M_init_52 (by decide) ?_
  refine PJ.putI (pc := 53) ps_M_30 d_M_init_53 (fun h7 => ?_)
  refine PJ.aload_n (pc := 56) d_M_init_56 rfl ?_
  refine PJ.sipush (pc := 57) (v := 6000) d_M_init_57 (by decide) ?_
  refine PJ.newa (pc := 60) (t := 51) (N := 6000) (v := .inr (.inl 0)) (by decide) rfl (fun _ => rfl) wd_1484 (by decide) (by decide +kernel) (by decide) (Nat.le_of_ble_eq_true rfl) (Nat.le_of_ble_eq_true rfl) d_M_init_60 ?_
  refine PJ.putR (pc := 62) ps_M_33 rfl d_M_init_62 (fun h8 => ?_)
  refine PJ.aload_n (pc := 65) d_M_init_65 rfl ?_
  refine PJ.iconst (pc := 66) (v := 5) d_M_init_66 (by decide) ?_
  refine PJ.newa (pc := 67) (t := 50) (N := 5) (v := .inl 0) (by decide) rfl (fun _ => rfl) wd_218 (by decide) (by decide +kernel) (by decide) (Nat.le_of_ble_eq_true rfl) (Nat.le_of_ble_eq_true rfl) d_M_init_67 ?_
  refine PJ.putR (pc := 69) ps_M_37 rfl d_M_init_69 (fun h9 => ?_)
  refine PJ.aload_n (pc := 72) d_M_init_72 rfl ?_
  refine PJ.iconst (pc := 73) (v := 5) d_M_init_73 (by decide) ?_
  refine PJ.newa (pc := 74) (t := 50) (N := 5) (v := .inl 0) (by decide) rfl (fun _ => rfl) wd_218 (by decide) (by decide +kernel) (by decide) (Nat.le_of_ble_eq_true rfl) (Nat.le_of_ble_eq_true rfl) d_M_init_74 ?_
  refine PJ.putR (pc := 76) ps_M_40 rfl d_M_init_76 (fun h10 => ?_)
  refine PJ.aload_n (pc := 79) d_M_init_79 rfl ?_
  refine PJ.bipush (pc := 80) (v := 25) d_M_init_80 (by decide) ?_
  refine PJ.newa (pc := 82) (t := 50) (N := 25) (v := .inl 0) (by decide) rfl (fun _ => rfl) wd_218 (by decide) (by decide +kernel) (by decide) (Nat.le_of_ble_eq_true rfl) (Nat.le_of_ble_eq_true rfl) d_M_init_82 ?_
  refine PJ.putR (pc := 84) ps_M_43 rfl d_M_init_84 (fun h11 => ?_)
  exact PJ.vret (pc := 87) d_M_init_87 rfl (Nat.le_of_ble_eq_true rfl) (Nat.le_of_ble_eq_true rfl)
theorem d_M_thrown_0 : decode Y_M_thrown.2.1 0 = .ok (.aload_n 0, 1) := by decide +kernel
theorem d_M_thrown_1 : decode Y_M_thrown.2.1 1 = .ok (.getfield 46, 3) := by decide +kernel
theorem d_M_thrown_4 : decode Y_M_thrown.2.1 4 = .ok (.ireturn, 1) := by decide +kernel
def f_M_thrown (h : PH) (a0 : Option Nat) : Option Int32 := (gI h 12 a0 0).bind fun v1 => some v1
set_option maxRecDepth 20000 in
theorem PM_M_thrown {l : Launch} {G : Cx} {h : PH} {a0 : Option Nat} {z : Int32} (hz : f_M_thrown h a0 = some z) : PM l G 1 0 0 Y_M_thrown [.inr (.inr a0)] h (some (.inl z), h) := by
  refine PM.of (Y := Y_M_thrown) (cv := (fun z : Int32 => (((some (.inl z), h) : Option PV × PH)))) (by decide) (L0 := [some (.inr (.inr a0))]) 0 rfl (Nat.le_of_ble_eq_true rfl) ?_ hz
  unfold f_M_thrown
  refine PJ.aload_n (pc := 0) d_M_thrown_0 rfl ?_
  refine PJ.getI (pc := 1) fs_M_46 d_M_thrown_1 (fun v1 => ?_)
  exact PJ.iretp (pc := 4) d_M_thrown_4 rfl (Nat.le_of_ble_eq_true rfl) (Nat.le_of_ble_eq_true rfl)
theorem d_M_feed_0 : decode Y_M_feed.2.1 0 = .ok (.aload_n 0, 1) := by decide +kernel
theorem d_M_feed_1 : decode Y_M_feed.2.1 1 = .ok (.iconst 0, 1) := by decide +kernel
theorem d_M_feed_2 : decode Y_M_feed.2.1 2 = .ok (.putfield 46, 3) := by decide +kernel
theorem d_M_feed_5 : decode Y_M_feed.2.1 5 = .ok (.aload_n 0, 1) := by decide +kernel
theorem d_M_feed_6 : decode Y_M_feed.2.1 6 = .ok (.getfield 334, 3) := by decide +kernel
theorem d_M_feed_9 : decode Y_M_feed.2.1 9 = .ok (.bipush 20, 2) := by decide +kernel
theorem d_M_feed_11 : decode Y_M_feed.2.1 11 = .ok (.iadd, 1) := by decide +kernel
theorem d_M_feed_12 : decode Y_M_feed.2.1 12 = .ok (.sipush 900, 3) := by decide +kernel
theorem d_M_feed_15 : decode Y_M_feed.2.1 15 = .ok (.if_icmp .le 5, 3) := by decide +kernel
theorem d_M_feed_18 : decode Y_M_feed.2.1 18 = .ok (.iconst (-1), 1) := by decide +kernel
theorem d_M_feed_19 : decode Y_M_feed.2.1 19 = .ok (.ireturn, 1) := by decide +kernel
theorem d_M_feed_20 : decode Y_M_feed.2.1 20 = .ok (.iconst 0, 1) := by decide +kernel
theorem d_M_feed_21 : decode Y_M_feed.2.1 21 = .ok (.istore 6, 2) := by decide +kernel
theorem d_M_feed_23 : decode Y_M_feed.2.1 23 = .ok (.iload 6, 2) := by decide +kernel
theorem d_M_feed_25 : decode Y_M_feed.2.1 25 = .ok (.bipush 20, 2) := by decide +kernel
theorem d_M_feed_27 : decode Y_M_feed.2.1 27 = .ok (.if_icmp .ge 90, 3) := by decide +kernel
theorem d_M_feed_30 : decode Y_M_feed.2.1 30 = .ok (.iload 6, 2) := by decide +kernel
theorem d_M_feed_32 : decode Y_M_feed.2.1 32 = .ok (.iconst 4, 1) := by decide +kernel
theorem d_M_feed_33 : decode Y_M_feed.2.1 33 = .ok (.if_icmp .ge 7, 3) := by decide +kernel
theorem d_M_feed_36 : decode Y_M_feed.2.1 36 = .ok (.iload_n 1, 1) := by decide +kernel
theorem d_M_feed_37 : decode Y_M_feed.2.1 37 = .ok (.goto 39, 3) := by decide +kernel
theorem d_M_feed_40 : decode Y_M_feed.2.1 40 = .ok (.iload 6, 2) := by decide +kernel
theorem d_M_feed_42 : decode Y_M_feed.2.1 42 = .ok (.bipush 8, 2) := by decide +kernel
theorem d_M_feed_44 : decode Y_M_feed.2.1 44 = .ok (.if_icmp .ge 7, 3) := by decide +kernel
theorem d_M_feed_47 : decode Y_M_feed.2.1 47 = .ok (.iload_n 2, 1) := by decide +kernel
theorem d_M_feed_48 : decode Y_M_feed.2.1 48 = .ok (.goto 28, 3) := by decide +kernel
theorem d_M_feed_51 : decode Y_M_feed.2.1 51 = .ok (.iload 6, 2) := by decide +kernel
theorem d_M_feed_53 : decode Y_M_feed.2.1 53 = .ok (.bipush 12, 2) := by decide +kernel
theorem d_M_feed_55 : decode Y_M_feed.2.1 55 = .ok (.if_icmp .ge 7, 3) := by decide +kernel
theorem d_M_feed_58 : decode Y_M_feed.2.1 58 = .ok (.iload_n 3, 1) := by decide +kernel
theorem d_M_feed_59 : decode Y_M_feed.2.1 59 = .ok (.goto 17, 3) := by decide +kernel
theorem d_M_feed_62 : decode Y_M_feed.2.1 62 = .ok (.iload 6, 2) := by decide +kernel
theorem d_M_feed_64 : decode Y_M_feed.2.1 64 = .ok (.bipush 16, 2) := by decide +kernel
theorem d_M_feed_66 : decode Y_M_feed.2.1 66 = .ok (.if_icmp .ge 8, 3) := by decide +kernel
theorem d_M_feed_69 : decode Y_M_feed.2.1 69 = .ok (.iload 4, 2) := by decide +kernel
theorem d_M_feed_71 : decode Y_M_feed.2.1 71 = .ok (.goto 5, 3) := by decide +kernel
theorem d_M_feed_74 : decode Y_M_feed.2.1 74 = .ok (.iload 5, 2) := by decide +kernel
theorem d_M_feed_76 : decode Y_M_feed.2.1 76 = .ok (.istore 7, 2) := by decide +kernel
theorem d_M_feed_78 : decode Y_M_feed.2.1 78 = .ok (.aload_n 0, 1) := by decide +kernel
theorem d_M_feed_79 : decode Y_M_feed.2.1 79 = .ok (.getfield 13, 3) := by decide +kernel
theorem d_M_feed_82 : decode Y_M_feed.2.1 82 = .ok (.aload_n 0, 1) := by decide +kernel
theorem d_M_feed_83 : decode Y_M_feed.2.1 83 = .ok (.getfield 334, 3) := by decide +kernel
theorem d_M_feed_86 : decode Y_M_feed.2.1 86 = .ok (.iload 7, 2) := by decide +kernel
theorem d_M_feed_88 : decode Y_M_feed.2.1 88 = .ok (.bipush 24, 2) := by decide +kernel
theorem d_M_feed_90 : decode Y_M_feed.2.1 90 = .ok (.bipush 8, 2) := by decide +kernel
theorem d_M_feed_92 : decode Y_M_feed.2.1 92 = .ok (.iload 6, 2) := by decide +kernel
theorem d_M_feed_94 : decode Y_M_feed.2.1 94 = .ok (.iconst 4, 1) := by decide +kernel
theorem d_M_feed_95 : decode Y_M_feed.2.1 95 = .ok (.irem, 1) := by decide +kernel
theorem d_M_feed_96 : decode Y_M_feed.2.1 96 = .ok (.imul, 1) := by decide +kernel
theorem d_M_feed_97 : decode Y_M_feed.2.1 97 = .ok (.isub, 1) := by decide +kernel
theorem d_M_feed_98 : decode Y_M_feed.2.1 98 = .ok (.ishr, 1) := by decide +kernel
theorem d_M_feed_99 : decode Y_M_feed.2.1 99 = .ok (.i2b, 1) := by decide +kernel
theorem d_M_feed_100 : decode Y_M_feed.2.1 100 = .ok (.bastore, 1) := by decide +kernel
theorem d_M_feed_101 : decode Y_M_feed.2.1 101 = .ok (.aload_n 0, 1) := by decide +kernel
theorem d_M_feed_102 : decode Y_M_feed.2.1 102 = .ok (.dup, 1) := by decide +kernel
theorem d_M_feed_103 : decode Y_M_feed.2.1 103 = .ok (.getfield 334, 3) := by decide +kernel
theorem d_M_feed_106 : decode Y_M_feed.2.1 106 = .ok (.iconst 1, 1) := by decide +kernel
theorem d_M_feed_107 : decode Y_M_feed.2.1 107 = .ok (.iadd, 1) := by decide +kernel
theorem d_M_feed_108 : decode Y_M_feed.2.1 108 = .ok (.putfield 334, 3) := by decide +kernel
theorem d_M_feed_111 : decode Y_M_feed.2.1 111 = .ok (.iinc 6 1, 3) := by decide +kernel
theorem d_M_feed_114 : decode Y_M_feed.2.1 114 = .ok (.goto (-91), 3) := by decide +kernel
theorem d_M_feed_117 : decode Y_M_feed.2.1 117 = .ok (.aload_n 0, 1) := by decide +kernel
theorem d_M_feed_118 : decode Y_M_feed.2.1 118 = .ok (.getfield 334, 3) := by decide +kernel
theorem d_M_feed_121 : decode Y_M_feed.2.1 121 = .ok (.ireturn, 1) := by decide +kernel
def f_M_feed (h : PH) (a0 : Option Nat) (a1 : Int32) (a2 : Int32) (a3 : Int32) (a4 : Int32) (a5 : Int32) : Option (Int32 × PH) := (sF h 12 a0 0 (.inl (0 : Int32))).bind fun h1 => (gI h1 12 a0 6).bind fun v2 => if (v2 + (20 : Int32)) ≤ (900 : Int32) then ((pj_it (X := PH) (fun s3 : Int32 × PH => if (20 : Int32) ≤ s3.1 then (some (.inr s3.2)) else ((if (4 : Int32) ≤ s3.1 then (if (8 : Int32) ≤ s3.1 then (if (12 : Int32) ≤ s3.1 then (if (16 : Int32) ≤ s3.1 then (some a5) else (some a4)) else (some a3)) else (some a2)) else (some a1) : Option (Int32)).bind fun j5 => (gR s3.2 12 a0 5).bind fun v6 => (gI s3.2 12 a0 6).bind fun v7 => if (4 : Int32) = 0 then none else ((sA s3.2 52 v6 v7 (.inl (Int32.toInt8 ((Int32.toInt8 (j5 >>> (((24 : Int32) - ((8 : Int32) * (s3.1 - s3.1 / (4 : Int32) * (4 : Int32)))) &&& 31))).toInt32)).toInt32)).bind fun h8 => (gI h8 12 a0 6).bind fun v9 => (sF h8 12 a0 6 (.inl (v9 + (1 : Int32)))).bind fun h10 => some (.inl ((s3.1 + (1 : Int32)), h10))))) FU ((0 : Int32), h1)).bind fun x4 => (gI x4 12 a0 6).bind fun v11 => some (v11, x4)) else (some ((-1 : Int32), h1))
set_option maxRecDepth 20000 in
theorem PM_M_feed {l : Launch} {G : Cx} {h : PH} {a0 : Option Nat} {a1 : Int32} {a2 : Int32} {a3 : Int32} {a4 : Int32} {a5 : Int32} {z : (Int32 × PH)} (hz : f_M_feed h a0 a1 a2 a3 a4 a5 = some z) : PM l G 1 0 0 Y_M_feed [.inr (.inr a0), .inl a1, .inl a2, .inl a3, .inl a4, .inl a5] h (some (.inl z.1), z.2) := by
  refine PM.of (Y := Y_M_feed) (cv := (fun z : (Int32 × PH) => (((some (.inl z.1), z.2) : Option PV × PH)))) (by decide) (L0 := [some (.inr (.inr a0)), some (.inl a1), some (.inl a2), some (.inl a3), some (.inl a4), some (.inl a5), none, none]) 2 rfl (Nat.le_of_ble_eq_true rfl) ?_ hz
  unfold f_M_feed
  refine PJ.aload_n (pc := 0) d_M_feed_0 rfl ?_
  refine PJ.iconst (pc := 1) (v := 0) d_M_feed_1 (by decide) ?_
  refine PJ.putI (pc := 2) ps_M_46 d_M_feed_2 (fun h1 => ?_)
  refine PJ.aload_n (pc := 5) d_M_feed_5 rfl ?_
  refine PJ.getI (pc := 6) fs_M_334 d_M_feed_6 (fun v2 => ?_)
  refine PJ.bipush (pc := 9) (v := 20) d_M_feed_9 (by decide) ?_
  refine PJ.iadd (pc := 11) d_M_feed_11 ?_
  refine PJ.sipush (pc := 12) (v := 900) d_M_feed_12 (by decide) ?_
  refine PJ.icmp_le (pc := 15) (tgt := 20) d_M_feed_15 (by decide) (fun _ => ?_) (fun _ => ?_)
  · refine PJ.iconst (pc := 20) (v := 0) d_M_feed_20 (by decide) ?_
    refine PJ.istore (pc := 21) (L1 := [some (.inr (.inr a0)), some (.inl a1), some (.inl a2), some (.inl a3), some (.inl a4), some (.inl a5), some (.inl (0 : Int32)), none]) d_M_feed_21 (Nat.le_of_ble_eq_true rfl) rfl rfl ?_
    refine PJ.bind (fun x4 : PH => ((117 : Nat), ([some (.inr (.inr a0)), none, none, none, none, none, none, none] : List (Option PV)), ([] : List PV), (x4 : PH), (0 : Nat), (0 : Nat))) (PJ.it (E := (fun s3 : Int32 × PH => ((23 : Nat), ([some (.inr (.inr a0)), some (.inl a1), some (.inl a2), some (.inl a3), some (.inl a4), some (.inl a5), some (.inl s3.1), none] : List (Option PV)), ([] : List PV), (s3.2 : PH), (0 : Nat), (0 : Nat)))) (F := (fun x4 : PH => ((117 : Nat), ([some (.inr (.inr a0)), none, none, none, none, none, none, none] : List (Option PV)), ([] : List PV), (x4 : PH), (0 : Nat), (0 : Nat)))) (fun s3 => ?_) FU ((0 : Int32), h1)) (fun x4 => ?_)
    · show PJ l G (pj_rm 1 0 0) Y_M_feed 23 [some (.inr (.inr a0)), some (.inl a1), some (.inl a2), some (.inl a3), some (.inl a4), some (.inl a5), some (.inl s3.1), none] [] s3.2 0 0 _ _
      refine PJ.iload (pc := 23) d_M_feed_23 rfl ?_
      refine PJ.bipush (pc := 25) (v := 20) d_M_feed_25 (by decide) ?_
      refine PJ.icmp_ge (pc := 27) (tgt := 117) d_M_feed_27 (by decide) (fun _ => ?_) (fun _ => ?_)
      · refine PJ.mk (L1 := [some (.inr (.inr a0)), none, none, none, none, none, none, none]) [true, false, false, false, false, false, false, false] rfl ?_
        exact PJ.done rfl
      · refine PJ.iload (pc := 30) d_M_feed_30 rfl ?_
        refine PJ.iconst (pc := 32) (v := 4) d_M_feed_32 (by decide) ?_
        refine PJ.bind (fun j5 : Int32 => ((76 : Nat), ([some (.inr (.inr a0)), some (.inl a1), some (.inl a2), some (.inl a3), some (.inl a4), some (.inl a5), some (.inl s3.1), none] : List (Option PV)), ([.inl j5] : List PV), (s3.2 : PH), (0 : Nat), (0 : Nat))) ?_ (fun j5 => ?_)
        · refine PJ.icmp_ge (pc := 33) (tgt := 40) d_M_feed_33 (by decide) (fun _ => ?_) (fun _ => ?_)
          · refine PJ.iload (pc := 40) d_M_feed_40 rfl ?_
            refine PJ.bipush (pc := 42) (v := 8) d_M_feed_42 (by decide) ?_
            refine PJ.icmp_ge (pc := 44) (tgt := 51) d_M_feed_44 (by decide) (fun _ => ?_) (fun _ => ?_)
            · refine PJ.iload (pc := 51) d_M_feed_51 rfl ?_
              refine PJ.bipush (pc := 53) (v := 12) d_M_feed_53 (by decide) ?_
              refine PJ.icmp_ge (pc := 55) (tgt := 62) d_M_feed_55 (by decide) (fun _ => ?_) (fun _ => ?_)
              · refine PJ.iload (pc := 62) d_M_feed_62 rfl ?_
                refine PJ.bipush (pc := 64) (v := 16) d_M_feed_64 (by decide) ?_
                refine PJ.icmp_ge (pc := 66) (tgt := 74) d_M_feed_66 (by decide) (fun _ => ?_) (fun _ => ?_)
                · refine PJ.iload (pc := 74) d_M_feed_74 rfl ?_
                  exact PJ.done rfl
                · refine PJ.iload (pc := 69) d_M_feed_69 rfl ?_
                  refine PJ.goto (pc := 71) (tgt := 76) d_M_feed_71 (by decide) ?_
                  exact PJ.done rfl
              · refine PJ.iload_n (pc := 58) d_M_feed_58 rfl ?_
                refine PJ.goto (pc := 59) (tgt := 76) d_M_feed_59 (by decide) ?_
                exact PJ.done rfl
            · refine PJ.iload_n (pc := 47) d_M_feed_47 rfl ?_
              refine PJ.goto (pc := 48) (tgt := 76) d_M_feed_48 (by decide) ?_
              exact PJ.done rfl
          · refine PJ.iload_n (pc := 36) d_M_feed_36 rfl ?_
            refine PJ.goto (pc := 37) (tgt := 76) d_M_feed_37 (by decide) ?_
            exact PJ.done rfl
        · show PJ l G (pj_rm 1 0 0) Y_M_feed 76 [some (.inr (.inr a0)), some (.inl a1), some (.inl a2), some (.inl a3), some (.inl a4), some (.inl a5), some (.inl s3.1), none] [.inl j5] s3.2 0 0 _ _
          refine PJ.istore (pc := 76) (L1 := [some (.inr (.inr a0)), some (.inl a1), some (.inl a2), some (.inl a3), some (.inl a4), some (.inl a5), some (.inl s3.1), some (.inl j5)]) d_M_feed_76 (Nat.le_of_ble_eq_true rfl) rfl rfl ?_
          refine PJ.aload_n (pc := 78) d_M_feed_78 rfl ?_
          refine PJ.getR (pc := 79) fs_M_13 d_M_feed_79 (fun v6 => ?_)
          refine PJ.aload_n (pc := 82) d_M_feed_82 rfl ?_
          refine PJ.getI (pc := 83) fs_M_334 d_M_feed_83 (fun v7 => ?_)
          refine PJ.iload (pc := 86) d_M_feed_86 rfl ?_
          refine PJ.bipush (pc := 88) (v := 24) d_M_feed_88 (by decide) ?_
          refine PJ.bipush (pc := 90) (v := 8) d_M_feed_90 (by decide) ?_
          refine PJ.iload (pc := 92) d_M_feed_92 rfl ?_
          refine PJ.iconst (pc := 94) (v := 4) d_M_feed_94 (by decide) ?_
          refine PJ.irem (pc := 95) d_M_feed_95 (fun _ => ?_)
          refine PJ.imul (pc := 96) d_M_feed_96 ?_
          refine PJ.isub (pc := 97) d_M_feed_97 ?_
          refine PJ.ishr (pc := 98) d_M_feed_98 ?_
          refine PJ.i2b (pc := 99) d_M_feed_99 ?_
          refine PJ.bast (pc := 100) d_M_feed_100 (fun h8 => ?_)
          refine PJ.aload_n (pc := 101) d_M_feed_101 rfl ?_
          refine PJ.dup (pc := 102) d_M_feed_102 rfl ?_
          refine PJ.getI (pc := 103) fs_M_334 d_M_feed_103 (fun v9 => ?_)
          refine PJ.iconst (pc := 106) (v := 1) d_M_feed_106 (by decide) ?_
          refine PJ.iadd (pc := 107) d_M_feed_107 ?_
          refine PJ.putI (pc := 108) ps_M_334 d_M_feed_108 (fun h10 => ?_)
          refine PJ.iinc (pc := 111) (v := 1) (L1 := [some (.inr (.inr a0)), some (.inl a1), some (.inl a2), some (.inl a3), some (.inl a4), some (.inl a5), some (.inl (s3.1 + (1 : Int32))), some (.inl j5)]) d_M_feed_111 rfl (by decide) (Nat.le_of_ble_eq_true rfl) rfl rfl ?_
          refine PJ.goto (pc := 114) (tgt := 23) d_M_feed_114 (by decide) ?_
          refine PJ.mk (L1 := [some (.inr (.inr a0)), some (.inl a1), some (.inl a2), some (.inl a3), some (.inl a4), some (.inl a5), some (.inl (s3.1 + (1 : Int32))), none]) [true, true, true, true, true, true, true, false] rfl ?_
          exact PJ.done rfl
    · show PJ l G (pj_rm 1 0 0) Y_M_feed 117 [some (.inr (.inr a0)), none, none, none, none, none, none, none] [] x4 0 0 _ _
      refine PJ.aload_n (pc := 117) d_M_feed_117 rfl ?_
      refine PJ.getI (pc := 118) fs_M_334 d_M_feed_118 (fun v11 => ?_)
      exact PJ.iret (pc := 121) d_M_feed_121 rfl (Nat.le_of_ble_eq_true rfl) (Nat.le_of_ble_eq_true rfl)
  · refine PJ.iconst (pc := 18) (v := -1) d_M_feed_18 (by decide) ?_
    exact PJ.iret (pc := 19) d_M_feed_19 rfl (Nat.le_of_ble_eq_true rfl) (Nat.le_of_ble_eq_true rfl)
theorem d_M_refused_0 : decode Y_M_refused.2.1 0 = .ok (.aload_n 0, 1) := by decide +kernel
theorem d_M_refused_1 : decode Y_M_refused.2.1 1 = .ok (.iload_n 1, 1) := by decide +kernel
theorem d_M_refused_2 : decode Y_M_refused.2.1 2 = .ok (.putfield 49, 3) := by decide +kernel
theorem d_M_refused_5 : decode Y_M_refused.2.1 5 = .ok (.aload_n 0, 1) := by decide +kernel
theorem d_M_refused_6 : decode Y_M_refused.2.1 6 = .ok (.iconst (-1), 1) := by decide +kernel
theorem d_M_refused_7 : decode Y_M_refused.2.1 7 = .ok (.putfield 9, 3) := by decide +kernel
theorem d_M_refused_10 : decode Y_M_refused.2.1 10 = .ok (.iconst (-1), 1) := by decide +kernel
theorem d_M_refused_11 : decode Y_M_refused.2.1 11 = .ok (.ireturn, 1) := by decide +kernel
def f_M_refused (h : PH) (a0 : Option Nat) (a1 : Int32) : Option (Int32 × PH) := (sF h 12 a0 1 (.inl a1)).bind fun h1 => (sF h1 12 a0 2 (.inl (-1 : Int32))).bind fun h2 => some ((-1 : Int32), h2)
set_option maxRecDepth 20000 in
theorem PM_M_refused {l : Launch} {G : Cx} {h : PH} {a0 : Option Nat} {a1 : Int32} {z : (Int32 × PH)} (hz : f_M_refused h a0 a1 = some z) : PM l G 1 0 0 Y_M_refused [.inr (.inr a0), .inl a1] h (some (.inl z.1), z.2) := by
  refine PM.of (Y := Y_M_refused) (cv := (fun z : (Int32 × PH) => (((some (.inl z.1), z.2) : Option PV × PH)))) (by decide) (L0 := [some (.inr (.inr a0)), some (.inl a1)]) 0 rfl (Nat.le_of_ble_eq_true rfl) ?_ hz
  unfold f_M_refused
  refine PJ.aload_n (pc := 0) d_M_refused_0 rfl ?_
  refine PJ.iload_n (pc := 1) d_M_refused_1 rfl ?_
  refine PJ.putI (pc := 2) ps_M_49 d_M_refused_2 (fun h1 => ?_)
  refine PJ.aload_n (pc := 5) d_M_refused_5 rfl ?_
  refine PJ.iconst (pc := 6) (v := -1) d_M_refused_6 (by decide) ?_
  refine PJ.putI (pc := 7) ps_M_9 d_M_refused_7 (fun h2 => ?_)
  refine PJ.iconst (pc := 10) (v := -1) d_M_refused_10 (by decide) ?_
  exact PJ.iret (pc := 11) d_M_refused_11 rfl (Nat.le_of_ble_eq_true rfl) (Nat.le_of_ble_eq_true rfl)
theorem d_ML_init_0 : decode Y_ML_init.2.1 0 = .ok (.aload_n 0, 1) := by decide +kernel
theorem d_ML_init_1 : decode Y_ML_init.2.1 1 = .ok (.invokespecial 3, 3) := by decide +kernel
theorem d_ML_init_4 : decode Y_ML_init.2.1 4 = .ok (.aload_n 0, 1) := by decide +kernel
theorem d_ML_init_5 : decode Y_ML_init.2.1 5 = .ok (.iconst (-1), 1) := by decide +kernel
theorem d_ML_init_6 : decode Y_ML_init.2.1 6 = .ok (.putfield 9, 3) := by decide +kernel
theorem d_ML_init_9 : decode Y_ML_init.2.1 9 = .ok (.aload_n 0, 1) := by decide +kernel
theorem d_ML_init_10 : decode Y_ML_init.2.1 10 = .ok (.bipush 25, 2) := by decide +kernel
theorem d_ML_init_12 : decode Y_ML_init.2.1 12 = .ok (.newarray .int, 2) := by decide +kernel
theorem d_ML_init_14 : decode Y_ML_init.2.1 14 = .ok (.putfield 15, 3) := by decide +kernel
theorem d_ML_init_17 : decode Y_ML_init.2.1 17 = .ok (.aload_n 0, 1) := by decide +kernel
theorem d_ML_init_18 : decode Y_ML_init.2.1 18 = .ok (.iconst 5, 1) := by decide +kernel
theorem d_ML_init_19 : decode Y_ML_init.2.1 19 = .ok (.newarray .int, 2) := by decide +kernel
theorem d_ML_init_21 : decode Y_ML_init.2.1 21 = .ok (.putfield 19, 3) := by decide +kernel
theorem d_ML_init_24 : decode Y_ML_init.2.1 24 = .ok (.aload_n 0, 1) := by decide +kernel
theorem d_ML_init_25 : decode Y_ML_init.2.1 25 = .ok (.iconst 5, 1) := by decide +kernel
theorem d_ML_init_26 : decode Y_ML_init.2.1 26 = .ok (.newarray .int, 2) := by decide +kernel
theorem d_ML_init_28 : decode Y_ML_init.2.1 28 = .ok (.putfield 22, 3) := by decide +kernel
theorem d_ML_init_31 : decode Y_ML_init.2.1 31 = .ok (.aload_n 0, 1) := by decide +kernel
theorem d_ML_init_32 : decode Y_ML_init.2.1 32 = .ok (.bipush 25, 2) := by decide +kernel
theorem d_ML_init_34 : decode Y_ML_init.2.1 34 = .ok (.newarray .int, 2) := by decide +kernel
theorem d_ML_init_36 : decode Y_ML_init.2.1 36 = .ok (.putfield 25, 3) := by decide +kernel
theorem d_ML_init_39 : decode Y_ML_init.2.1 39 = .ok (.aload_n 0, 1) := by decide +kernel
theorem d_ML_init_40 : decode Y_ML_init.2.1 40 = .ok (.iconst 4, 1) := by decide +kernel
theorem d_ML_init_41 : decode Y_ML_init.2.1 41 = .ok (.newarray .int, 2) := by decide +kernel
theorem d_ML_init_43 : decode Y_ML_init.2.1 43 = .ok (.putfield 28, 3) := by decide +kernel
theorem d_ML_init_46 : decode Y_ML_init.2.1 46 = .ok (.aload_n 0, 1) := by decide +kernel
theorem d_ML_init_47 : decode Y_ML_init.2.1 47 = .ok (.iconst 4, 1) := by decide +kernel
theorem d_ML_init_48 : decode Y_ML_init.2.1 48 = .ok (.newarray .int, 2) := by decide +kernel
theorem d_ML_init_50 : decode Y_ML_init.2.1 50 = .ok (.putfield 31, 3) := by decide +kernel
theorem d_ML_init_53 : decode Y_ML_init.2.1 53 = .ok (.aload_n 0, 1) := by decide +kernel
theorem d_ML_init_54 : decode Y_ML_init.2.1 54 = .ok (.iconst 4, 1) := by decide +kernel
theorem d_ML_init_55 : decode Y_ML_init.2.1 55 = .ok (.newarray .int, 2) := by decide +kernel
theorem d_ML_init_57 : decode Y_ML_init.2.1 57 = .ok (.putfield 34, 3) := by decide +kernel
theorem d_ML_init_60 : decode Y_ML_init.2.1 60 = .ok (.aload_n 0, 1) := by decide +kernel
theorem d_ML_init_61 : decode Y_ML_init.2.1 61 = .ok (.iconst 4, 1) := by decide +kernel
theorem d_ML_init_62 : decode Y_ML_init.2.1 62 = .ok (.newarray .int, 2) := by decide +kernel
theorem d_ML_init_64 : decode Y_ML_init.2.1 64 = .ok (.putfield 37, 3) := by decide +kernel
theorem d_ML_init_67 : decode Y_ML_init.2.1 67 = .ok (.aload_n 0, 1) := by decide +kernel
theorem d_ML_init_68 : decode Y_ML_init.2.1 68 = .ok (.iconst 4, 1) := by decide +kernel
theorem d_ML_init_69 : decode Y_ML_init.2.1 69 = .ok (.newarray .int, 2) := by decide +kernel
theorem d_ML_init_71 : decode Y_ML_init.2.1 71 = .ok (.putfield 40, 3) := by decide +kernel
theorem d_ML_init_74 : decode Y_ML_init.2.1 74 = .ok (.aload_n 0, 1) := by decide +kernel
theorem d_ML_init_75 : decode Y_ML_init.2.1 75 = .ok (.iconst 5, 1) := by decide +kernel
theorem d_ML_init_76 : decode Y_ML_init.2.1 76 = .ok (.newarray .int, 2) := by decide +kernel
theorem d_ML_init_78 : decode Y_ML_init.2.1 78 = .ok (.putfield 43, 3) := by decide +kernel
theorem d_ML_init_81 : decode Y_ML_init.2.1 81 = .ok (.aload_n 0, 1) := by decide +kernel
theorem d_ML_init_82 : decode Y_ML_init.2.1 82 = .ok (.iconst 5, 1) := by decide +kernel
theorem d_ML_init_83 : decode Y_ML_init.2.1 83 = .ok (.newarray .int, 2) := by decide +kernel
theorem d_ML_init_85 : decode Y_ML_init.2.1 85 = .ok (.putfield 46, 3) := by decide +kernel
theorem d_ML_init_88 : decode Y_ML_init.2.1 88 = .ok (.aload_n 0, 1) := by decide +kernel
theorem d_ML_init_89 : decode Y_ML_init.2.1 89 = .ok (.iconst 5, 1) := by decide +kernel
theorem d_ML_init_90 : decode Y_ML_init.2.1 90 = .ok (.newarray .int, 2) := by decide +kernel
theorem d_ML_init_92 : decode Y_ML_init.2.1 92 = .ok (.putfield 49, 3) := by decide +kernel
theorem d_ML_init_95 : decode Y_ML_init.2.1 95 = .ok (.aload_n 0, 1) := by decide +kernel
theorem d_ML_init_96 : decode Y_ML_init.2.1 96 = .ok (.bipush 6, 2) := by decide +kernel
theorem d_ML_init_98 : decode Y_ML_init.2.1 98 = .ok (.newarray .int, 2) := by decide +kernel
theorem d_ML_init_100 : decode Y_ML_init.2.1 100 = .ok (.putfield 52, 3) := by decide +kernel
theorem d_ML_init_103 : decode Y_ML_init.2.1 103 = .ok (.aload_n 0, 1) := by decide +kernel
theorem d_ML_init_104 : decode Y_ML_init.2.1 104 = .ok (.bipush 6, 2) := by decide +kernel
theorem d_ML_init_106 : decode Y_ML_init.2.1 106 = .ok (.newarray .int, 2) := by decide +kernel
theorem d_ML_init_108 : decode Y_ML_init.2.1 108 = .ok (.putfield 55, 3) := by decide +kernel
theorem d_ML_init_111 : decode Y_ML_init.2.1 111 = .ok (.aload_n 0, 1) := by decide +kernel
theorem d_ML_init_112 : decode Y_ML_init.2.1 112 = .ok (.bipush 16, 2) := by decide +kernel
theorem d_ML_init_114 : decode Y_ML_init.2.1 114 = .ok (.newarray .long, 2) := by decide +kernel
theorem d_ML_init_116 : decode Y_ML_init.2.1 116 = .ok (.putfield 58, 3) := by decide +kernel
theorem d_ML_init_119 : decode Y_ML_init.2.1 119 = .ok (.aload_n 0, 1) := by decide +kernel
theorem d_ML_init_120 : decode Y_ML_init.2.1 120 = .ok (.bipush 16, 2) := by decide +kernel
theorem d_ML_init_122 : decode Y_ML_init.2.1 122 = .ok (.newarray .int, 2) := by decide +kernel
theorem d_ML_init_124 : decode Y_ML_init.2.1 124 = .ok (.putfield 62, 3) := by decide +kernel
theorem d_ML_init_127 : decode Y_ML_init.2.1 127 = .ok (.aload_n 0, 1) := by decide +kernel
theorem d_ML_init_128 : decode Y_ML_init.2.1 128 = .ok (.bipush 16, 2) := by decide +kernel
theorem d_ML_init_130 : decode Y_ML_init.2.1 130 = .ok (.newarray .int, 2) := by decide +kernel
theorem d_ML_init_132 : decode Y_ML_init.2.1 132 = .ok (.putfield 65, 3) := by decide +kernel
theorem d_ML_init_135 : decode Y_ML_init.2.1 135 = .ok (.iconst 0, 1) := by decide +kernel
theorem d_ML_init_136 : decode Y_ML_init.2.1 136 = .ok (.istore_n 1, 1) := by decide +kernel
theorem d_ML_init_137 : decode Y_ML_init.2.1 137 = .ok (.iload_n 1, 1) := by decide +kernel
theorem d_ML_init_138 : decode Y_ML_init.2.1 138 = .ok (.bipush 25, 2) := by decide +kernel
theorem d_ML_init_140 : decode Y_ML_init.2.1 140 = .ok (.if_icmp .ge 16, 3) := by decide +kernel
theorem d_ML_init_143 : decode Y_ML_init.2.1 143 = .ok (.aload_n 0, 1) := by decide +kernel
theorem d_ML_init_144 : decode Y_ML_init.2.1 144 = .ok (.getfield 25, 3) := by decide +kernel
theorem d_ML_init_147 : decode Y_ML_init.2.1 147 = .ok (.iload_n 1, 1) := by decide +kernel
theorem d_ML_init_148 : decode Y_ML_init.2.1 148 = .ok (.iconst (-1), 1) := by decide +kernel
theorem d_ML_init_149 : decode Y_ML_init.2.1 149 = .ok (.iastore, 1) := by decide +kernel
theorem d_ML_init_150 : decode Y_ML_init.2.1 150 = .ok (.iinc 1 1, 3) := by decide +kernel
theorem d_ML_init_153 : decode Y_ML_init.2.1 153 = .ok (.goto (-16), 3) := by decide +kernel
theorem d_ML_init_156 : decode Y_ML_init.2.1 156 = .ok (.return_, 1) := by decide +kernel
def f_ML_init (h : PH) (a0 : Option Nat) : Option PH := (a0).bind fun _ => (sF h 11 a0 0 (.inl (-1 : Int32))).bind fun h1 => (sF (h1 ++ [(50, List.replicate 25 (.inl 0))]) 11 a0 10 (.inr (.inr (some (h1).length)))).bind fun h2 => (sF (h2 ++ [(50, List.replicate 5 (.inl 0))]) 11 a0 11 (.inr (.inr (some (h2).length)))).bind fun h3 => (sF (h3 ++ [(50, List.replicate 5 (.inl 0))]) 11 a0 12 (.inr (.inr (some (h3).length)))).bind fun h4 => (sF (h4 ++ [(50, List.replicate 25 (.inl 0))]) 11 a0 13 (.inr (.inr (some (h4).length)))).bind fun h5 => (sF (h5 ++ [(50, List.replicate 4 (.inl 0))]) 11 a0 14 (.inr (.inr (some (h5).length)))).bind fun h6 => (sF (h6 ++ [(50, List.replicate 4 (.inl 0))]) 11 a0 15 (.inr (.inr (some (h6).length)))).bind fun h7 => (sF (h7 ++ [(50, List.replicate 4 (.inl 0))]) 11 a0 16 (.inr (.inr (some (h7).length)))).bind fun h8 => (sF (h8 ++ [(50, List.replicate 4 (.inl 0))]) 11 a0 17 (.inr (.inr (some (h8).length)))).bind fun h9 => (sF (h9 ++ [(50, List.replicate 4 (.inl 0))]) 11 a0 18 (.inr (.inr (some (h9).length)))).bind fun h10 => (sF (h10 ++ [(50, List.replicate 5 (.inl 0))]) 11 a0 19 (.inr (.inr (some (h10).length)))).bind fun h11 => (sF (h11 ++ [(50, List.replicate 5 (.inl 0))]) 11 a0 20 (.inr (.inr (some (h11).length)))).bind fun h12 => (sF (h12 ++ [(50, List.replicate 5 (.inl 0))]) 11 a0 21 (.inr (.inr (some (h12).length)))).bind fun h13 => (sF (h13 ++ [(50, List.replicate 6 (.inl 0))]) 11 a0 22 (.inr (.inr (some (h13).length)))).bind fun h14 => (sF (h14 ++ [(50, List.replicate 6 (.inl 0))]) 11 a0 23 (.inr (.inr (some (h14).length)))).bind fun h15 => (sF (h15 ++ [(51, List.replicate 16 (.inr (.inl 0)))]) 11 a0 24 (.inr (.inr (some (h15).length)))).bind fun h16 => (sF (h16 ++ [(50, List.replicate 16 (.inl 0))]) 11 a0 25 (.inr (.inr (some (h16).length)))).bind fun h17 => (sF (h17 ++ [(50, List.replicate 16 (.inl 0))]) 11 a0 26 (.inr (.inr (some (h17).length)))).bind fun h18 => (pj_it (X := PH) (fun s19 : Int32 × PH => if (25 : Int32) ≤ s19.1 then (some (.inr s19.2)) else ((gR s19.2 11 a0 13).bind fun v21 => (sA s19.2 50 v21 s19.1 (.inl (-1 : Int32))).bind fun h22 => some (.inl ((s19.1 + (1 : Int32)), h22)))) FU ((0 : Int32), h18)).bind fun x20 => some x20
set_option maxRecDepth 20000 in
theorem PM_ML_init {l : Launch} {G : Cx} {h : PH} {a0 : Option Nat} {z : PH} (hz : f_ML_init h a0 = some z) : PM l G 1 17 155 Y_ML_init [.inr (.inr a0)] h (none, z) := by
  refine PM.of (Y := Y_ML_init) (cv := (fun z : PH => (((none, z) : Option PV × PH)))) (by decide) (L0 := [some (.inr (.inr a0)), none]) 1 rfl (Nat.le_of_ble_eq_true rfl) ?_ hz
  unfold f_ML_init
  refine PJ.aload_n (pc := 0) d_ML_init_0 rfl ?_
  refine PJ.objO (pc := 1) wd_1506 wd_161 wd_162 (Nat.le_of_ble_eq_true rfl) (Nat.le_of_ble_eq_true rfl) (Nat.le_of_ble_eq_true rfl) d_ML_init_1 ?_
  refine PJ.aload_n (pc := 4) d_ML_init_4 rfl ?_
  refine PJ.iconst (pc := 5) (v := -1) d_ML_init_5 (by decide) ?_
  refine PJ.putI (pc := 6) ps_ML_9 d_ML_init_6 (fun h1 => ?_)
  refine PJ.aload_n (pc := 9) d_ML_init_9 rfl ?_
  refine PJ.bipush (pc := 10) (v := 25) d_ML_init_10 (by decide) ?_
  refine PJ.newa (pc := 12) (t := 50) (N := 25) (v := .inl 0) (by decide) rfl (fun _ => rfl) wd_218 (by decide) (by decide +kernel) (by decide) (Nat.le_of_ble_eq_true rfl) (Nat.le_of_ble_eq_true rfl) d_ML_init_12 ?_
  refine PJ.putR (pc := 14) ps_ML_15 rfl d_ML_init_14 (fun h2 => ?_)
  refine PJ.aload_n (pc := 17) d_ML_init_17 rfl ?_
  refine PJ.iconst (pc := 18) (v := 5) d_ML_init_18 (by decide) ?_
  refine PJ.newa (pc := 19) (t := 50) (N := 5) (v := .inl 0) (by decide) rfl (fun _ => rfl) wd_218 (by decide) (by decide +kernel) (by decide) (Nat.le_of_ble_eq_true rfl) (Nat.le_of_ble_eq_true rfl) d_ML_init_19 ?_
  refine PJ.putR (pc := 21) ps_ML_19 rfl d_ML_init_21 (fun h3 => ?_)
  refine PJ.aload_n (pc := 24) d_ML_init_24 rfl ?_
  refine PJ.iconst (pc := 25) (v := 5) d_ML_init_25 (by decide) ?_
  refine PJ.newa (pc := 26) (t := 50) (N := 5) (v := .inl 0) (by decide) rfl (fun _ => rfl) wd_218 (by decide) (by decide +kernel) (by decide) (Nat.le_of_ble_eq_true rfl) (Nat.le_of_ble_eq_true rfl) d_ML_init_26 ?_
  refine PJ.putR (pc := 28) ps_ML_22 rfl d_ML_init_28 (fun h4 => ?_)
  refine PJ.aload_n (pc := 31) d_ML_init_31 rfl ?_
  refine PJ.bipush (pc := 32) (v := 25) d_ML_init_32 (by decide) ?_
  refine PJ.newa (pc := 34) (t := 50) (N := 25) (v := .inl 0) (by decide) rfl (fun _ => rfl) wd_218 (by decide) (by decide +kernel) (by decide) (Nat.le_of_ble_eq_true rfl) (Nat.le_of_ble_eq_true rfl) d_ML_init_34 ?_
  refine PJ.putR (pc := 36) ps_ML_25 rfl d_ML_init_36 (fun h5 => ?_)
  refine PJ.aload_n (pc := 39) d_ML_init_39 rfl ?_
  refine PJ.iconst (pc := 40) (v := 4) d_ML_init_40 (by decide) ?_
  refine PJ.newa (pc := 41) (t := 50) (N := 4) (v := .inl 0) (by decide) rfl (fun _ => rfl) wd_218 (by decide) (by decide +kernel) (by decide) (Nat.le_of_ble_eq_true rfl) (Nat.le_of_ble_eq_true rfl) d_ML_init_41 ?_
  refine PJ.putR (pc := 43) ps_ML_28 rfl d_ML_init_43 (fun h6 => ?_)
  refine PJ.aload_n (pc := 46) d_ML_init_46 rfl ?_
  refine PJ.iconst (pc := 47) (v := 4) d_ML_init_47 (by decide) ?_
  refine PJ.newa (pc := 48) (t := 50) (N := 4) (v := .inl 0) (by decide) rfl (fun _ => rfl) wd_218 (by decide) (by decide +kernel) (by decide) (Nat.le_of_ble_eq_true rfl) (Nat.le_of_ble_eq_true rfl) d_ML_init_48 ?_
  refine PJ.putR (pc := 50) ps_ML_31 rfl d_ML_init_50 (fun h7 => ?_)
  refine PJ.aload_n (pc := 53) d_ML_init_53 rfl ?_
  refine PJ.iconst (pc := 54) (v := 4) d_ML_init_54 (by decide) ?_
  refine PJ.newa (pc := 55) (t := 50) (N := 4) (v := .inl 0) (by decide) rfl (fun _ => rfl) wd_218 (by decide) (by decide +kernel) (by decide) (Nat.le_of_ble_eq_true rfl) (Nat.le_of_ble_eq_true rfl) d_ML_init_55 ?_
  refine PJ.putR (pc := 57) ps_ML_34 rfl d_ML_init_57 (fun h8 => ?_)
  refine PJ.aload_n (pc := 60) d_ML_init_60 rfl ?_
  refine PJ.iconst (pc := 61) (v := 4) d_ML_init_61 (by decide) ?_
  refine PJ.newa (pc := 62) (t := 50) (N := 4) (v := .inl 0) (by decide) rfl (fun _ => rfl) wd_218 (by decide) (by decide +kernel) (by decide) (Nat.le_of_ble_eq_true rfl) (Nat.le_of_ble_eq_true rfl) d_ML_init_62 ?_
  refine PJ.putR (pc := 64) ps_ML_37 rfl d_ML_init_64 (fun h9 => ?_)
  refine PJ.aload_n (pc := 67) d_ML_init_67 rfl ?_
  refine PJ.iconst (pc := 68) (v := 4) d_ML_init_68 (by decide) ?_
  refine PJ.newa (pc := 69) (t := 50) (N := 4) (v := .inl 0) (by decide) rfl (fun _ => rfl) wd_218 (by decide) (by decide +kernel) (by decide) (Nat.le_of_ble_eq_true rfl) (Nat.le_of_ble_eq_true rfl) d_ML_init_69 ?_
  refine PJ.putR (pc := 71) ps_ML_40 rfl d_ML_init_71 (fun h10 => ?_)
  refine PJ.aload_n (pc := 74) d_ML_init_74 rfl ?_
  refine PJ.iconst (pc := 75) (v := 5) d_ML_init_75 (by decide) ?_
  refine PJ.newa (pc := 76) (t := 50) (N := 5) (v := .inl 0) (by decide) rfl (fun _ => rfl) wd_218 (by decide) (by decide +kernel) (by decide) (Nat.le_of_ble_eq_true rfl) (Nat.le_of_ble_eq_true rfl) d_ML_init_76 ?_
  refine PJ.putR (pc := 78) ps_ML_43 rfl d_ML_init_78 (fun h11 => ?_)
  refine PJ.aload_n (pc := 81) d_ML_init_81 rfl ?_
  refine PJ.iconst (pc := 82) (v := 5) d_ML_init_82 (by decide) ?_
  refine PJ.newa (pc := 83) (t := 50) (N := 5) (v := .inl 0) (by decide) rfl (fun _ => rfl) wd_218 (by decide) (by decide +kernel) (by decide) (Nat.le_of_ble_eq_true rfl) (Nat.le_of_ble_eq_true rfl) d_ML_init_83 ?_
  refine PJ.putR (pc := 85) ps_ML_46 rfl d_ML_init_85 (fun h12 => ?_)
  refine PJ.aload_n (pc := 88) d_ML_init_88 rfl ?_
  refine PJ.iconst (pc := 89) (v := 5) d_ML_init_89 (by decide) ?_
  refine PJ.newa (pc := 90) (t := 50) (N := 5) (v := .inl 0) (by decide) rfl (fun _ => rfl) wd_218 (by decide) (by decide +kernel) (by decide) (Nat.le_of_ble_eq_true rfl) (Nat.le_of_ble_eq_true rfl) d_ML_init_90 ?_
  refine PJ.putR (pc := 92) ps_ML_49 rfl d_ML_init_92 (fun h13 => ?_)
  refine PJ.aload_n (pc := 95) d_ML_init_95 rfl ?_
  refine PJ.bipush (pc := 96) (v := 6) d_ML_init_96 (by decide) ?_
  refine PJ.newa (pc := 98) (t := 50) (N := 6) (v := .inl 0) (by decide) rfl (fun _ => rfl) wd_218 (by decide) (by decide +kernel) (by decide) (Nat.le_of_ble_eq_true rfl) (Nat.le_of_ble_eq_true rfl) d_ML_init_98 ?_
  refine PJ.putR (pc := 100) ps_ML_52 rfl d_ML_init_100 (fun h14 => ?_)
  refine PJ.aload_n (pc := 103) d_ML_init_103 rfl ?_
  refine PJ.bipush (pc := 104) (v := 6) d_ML_init_104 (by decide) ?_
  refine PJ.newa (pc := 106) (t := 50) (N := 6) (v := .inl 0) (by decide) rfl (fun _ => rfl) wd_218 (by decide) (by decide +kernel) (by decide) (Nat.le_of_ble_eq_true rfl) (Nat.le_of_ble_eq_true rfl) d_ML_init_106 ?_
  refine PJ.putR (pc := 108) ps_ML_55 rfl d_ML_init_108 (fun h15 => ?_)
  refine PJ.aload_n (pc := 111) d_ML_init_111 rfl ?_
  refine PJ.bipush (pc := 112) (v := 16) d_ML_init_112 (by decide) ?_
  refine PJ.newa (pc := 114) (t := 51) (N := 16) (v := .inr (.inl 0)) (by decide) rfl (fun _ => rfl) wd_1484 (by decide) (by decide +kernel) (by decide) (Nat.le_of_ble_eq_true rfl) (Nat.le_of_ble_eq_true rfl) d_ML_init_114 ?_
  refine PJ.putR (pc := 116) ps_ML_58 rfl d_ML_init_116 (fun h16 => ?_)
  refine PJ.aload_n (pc := 119) d_ML_init_119 rfl ?_
  refine PJ.bipush (pc := 120) (v := 16) d_ML_init_120 (by decide) ?_
  refine PJ.newa (pc := 122) (t := 50) (N := 16) (v := .inl 0) (by decide) rfl (fun _ => rfl) wd_218 (by decide) (by decide +kernel) (by decide) (Nat.le_of_ble_eq_true rfl) (Nat.le_of_ble_eq_true rfl) d_ML_init_122 ?_
  refine PJ.putR (pc := 124) ps_ML_62 rfl d_ML_init_124 (fun h17 => ?_)
  refine PJ.aload_n (pc := 127) d_ML_init_127 rfl ?_
  refine PJ.bipush (pc := 128) (v := 16) d_ML_init_128 (by decide) ?_
  refine PJ.newa (pc := 130) (t := 50) (N := 16) (v := .inl 0) (by decide) rfl (fun _ => rfl) wd_218 (by decide) (by decide +kernel) (by decide) (Nat.le_of_ble_eq_true rfl) (Nat.le_of_ble_eq_true rfl) d_ML_init_130 ?_
  refine PJ.putR (pc := 132) ps_ML_65 rfl d_ML_init_132 (fun h18 => ?_)
  refine PJ.iconst (pc := 135) (v := 0) d_ML_init_135 (by decide) ?_
  refine PJ.istore_n (pc := 136) (L1 := [some (.inr (.inr a0)), some (.inl (0 : Int32))]) d_ML_init_136 (Nat.le_of_ble_eq_true rfl) rfl rfl ?_
  refine PJ.bind (fun x20 : PH => ((156 : Nat), ([none, none] : List (Option PV)), ([] : List PV), (x20 : PH), (17 : Nat), (155 : Nat))) (PJ.it (E := (fun s19 : Int32 × PH => ((137 : Nat), ([some (.inr (.inr a0)), some (.inl s19.1)] : List (Option PV)), ([] : List PV), (s19.2 : PH), (17 : Nat), (155 : Nat)))) (F := (fun x20 : PH => ((156 : Nat), ([none, none] : List (Option PV)), ([] : List PV), (x20 : PH), (17 : Nat), (155 : Nat)))) (fun s19 => ?_) FU ((0 : Int32), h18)) (fun x20 => ?_)
  · show PJ l G (pj_rm 1 17 155) Y_ML_init 137 [some (.inr (.inr a0)), some (.inl s19.1)] [] s19.2 17 155 _ _
    refine PJ.iload_n (pc := 137) d_ML_init_137 rfl ?_
    refine PJ.bipush (pc := 138) (v := 25) d_ML_init_138 (by decide) ?_
    refine PJ.icmp_ge (pc := 140) (tgt := 156) d_ML_init_140 (by decide) (fun _ => ?_) (fun _ => ?_)
    · refine PJ.mk (L1 := [none, none]) [false, false] rfl ?_
      exact PJ.done rfl
    · refine PJ.aload_n (pc := 143) d_ML_init_143 rfl ?_
      refine PJ.getR (pc := 144) fs_ML_25 d_ML_init_144 (fun v21 => ?_)
      refine PJ.iload_n (pc := 147) d_ML_init_147 rfl ?_
      refine PJ.iconst (pc := 148) (v := -1) d_ML_init_148 (by decide) ?_
      refine PJ.iast (pc := 149) d_ML_init_149 (fun h22 => ?_)
      refine PJ.iinc (pc := 150) (v := 1) (L1 := [some (.inr (.inr a0)), some (.inl (s19.1 + (1 : Int32)))]) d_ML_init_150 rfl (by decide) (Nat.le_of_ble_eq_true rfl) rfl rfl ?_
      refine PJ.goto (pc := 153) (tgt := 137) d_ML_init_153 (by decide) ?_
      exact PJ.done rfl
  · show PJ l G (pj_rm 1 17 155) Y_ML_init 156 [none, none] [] x20 17 155 _ _
    exact PJ.vret (pc := 156) d_ML_init_156 rfl (Nat.le_of_ble_eq_true rfl) (Nat.le_of_ble_eq_true rfl)
theorem d_M_byteAt_0 : decode Y_M_byteAt.2.1 0 = .ok (.iload_n 1, 1) := by decide +kernel
theorem d_M_byteAt_1 : decode Y_M_byteAt.2.1 1 = .ok (.aload_n 0, 1) := by decide +kernel
theorem d_M_byteAt_2 : decode Y_M_byteAt.2.1 2 = .ok (.getfield 65, 3) := by decide +kernel
theorem d_M_byteAt_5 : decode Y_M_byteAt.2.1 5 = .ok (.if_icmp .ge 16, 3) := by decide +kernel
theorem d_M_byteAt_8 : decode Y_M_byteAt.2.1 8 = .ok (.aload_n 0, 1) := by decide +kernel
theorem d_M_byteAt_9 : decode Y_M_byteAt.2.1 9 = .ok (.getfield 13, 3) := by decide +kernel
theorem d_M_byteAt_12 : decode Y_M_byteAt.2.1 12 = .ok (.iload_n 1, 1) := by decide +kernel
theorem d_M_byteAt_13 : decode Y_M_byteAt.2.1 13 = .ok (.baload, 1) := by decide +kernel
theorem d_M_byteAt_14 : decode Y_M_byteAt.2.1 14 = .ok (.sipush 255, 3) := by decide +kernel
theorem d_M_byteAt_17 : decode Y_M_byteAt.2.1 17 = .ok (.iand, 1) := by decide +kernel
theorem d_M_byteAt_18 : decode Y_M_byteAt.2.1 18 = .ok (.goto 4, 3) := by decide +kernel
theorem d_M_byteAt_21 : decode Y_M_byteAt.2.1 21 = .ok (.iconst (-1), 1) := by decide +kernel
theorem d_M_byteAt_22 : decode Y_M_byteAt.2.1 22 = .ok (.ireturn, 1) := by decide +kernel
def f_M_byteAt (h : PH) (a0 : Option Nat) (a1 : Int32) : Option Int32 := (gI h 12 a0 7).bind fun v1 => if v1 ≤ a1 then (some (-1 : Int32)) else ((gR h 12 a0 5).bind fun v2 => (aB h v2 a1).bind fun v3 => some (v3 &&& (255 : Int32)))
set_option maxRecDepth 20000 in
theorem PM_M_byteAt {l : Launch} {G : Cx} {h : PH} {a0 : Option Nat} {a1 : Int32} {z : Int32} (hz : f_M_byteAt h a0 a1 = some z) : PM l G 1 0 0 Y_M_byteAt [.inr (.inr a0), .inl a1] h (some (.inl z), h) := by
  refine PM.of (Y := Y_M_byteAt) (cv := (fun z : Int32 => (((some (.inl z), h) : Option PV × PH)))) (by decide) (L0 := [some (.inr (.inr a0)), some (.inl a1)]) 0 rfl (Nat.le_of_ble_eq_true rfl) ?_ hz
  unfold f_M_byteAt
  refine PJ.iload_n (pc := 0) d_M_byteAt_0 rfl ?_
  refine PJ.aload_n (pc := 1) d_M_byteAt_1 rfl ?_
  refine PJ.getI (pc := 2) fs_M_65 d_M_byteAt_2 (fun v1 => ?_)
  refine PJ.icmp_ge (pc := 5) (tgt := 21) d_M_byteAt_5 (by decide) (fun _ => ?_) (fun _ => ?_)
  · refine PJ.iconst (pc := 21) (v := -1) d_M_byteAt_21 (by decide) ?_
    exact PJ.iretp (pc := 22) d_M_byteAt_22 rfl (Nat.le_of_ble_eq_true rfl) (Nat.le_of_ble_eq_true rfl)
  · refine PJ.aload_n (pc := 8) d_M_byteAt_8 rfl ?_
    refine PJ.getR (pc := 9) fs_M_13 d_M_byteAt_9 (fun v2 => ?_)
    refine PJ.iload_n (pc := 12) d_M_byteAt_12 rfl ?_
    refine PJ.bald (pc := 13) d_M_byteAt_13 (fun v3 => ?_)
    refine PJ.sipush (pc := 14) (v := 255) d_M_byteAt_14 (by decide) ?_
    refine PJ.iand (pc := 17) d_M_byteAt_17 ?_
    refine PJ.goto (pc := 18) (tgt := 22) d_M_byteAt_18 (by decide) ?_
    exact PJ.iretp (pc := 22) d_M_byteAt_22 rfl (Nat.le_of_ble_eq_true rfl) (Nat.le_of_ble_eq_true rfl)
theorem d_M_isLetter_0 : decode Y_M_isLetter.2.1 0 = .ok (.iload_n 0, 1) := by decide +kernel
theorem d_M_isLetter_1 : decode Y_M_isLetter.2.1 1 = .ok (.bipush 97, 2) := by decide +kernel
theorem d_M_isLetter_3 : decode Y_M_isLetter.2.1 3 = .ok (.if_icmp .lt 13, 3) := by decide +kernel
theorem d_M_isLetter_6 : decode Y_M_isLetter.2.1 6 = .ok (.iload_n 0, 1) := by decide +kernel
theorem d_M_isLetter_7 : decode Y_M_isLetter.2.1 7 = .ok (.bipush 122, 2) := by decide +kernel
theorem d_M_isLetter_9 : decode Y_M_isLetter.2.1 9 = .ok (.if_icmp .gt 7, 3) := by decide +kernel
theorem d_M_isLetter_12 : decode Y_M_isLetter.2.1 12 = .ok (.iconst 1, 1) := by decide +kernel
theorem d_M_isLetter_13 : decode Y_M_isLetter.2.1 13 = .ok (.goto 4, 3) := by decide +kernel
theorem d_M_isLetter_16 : decode Y_M_isLetter.2.1 16 = .ok (.iconst 0, 1) := by decide +kernel
theorem d_M_isLetter_17 : decode Y_M_isLetter.2.1 17 = .ok (.ireturn, 1) := by decide +kernel
def f_M_isLetter (h : PH) (a0 : Int32) : Option Int32 := if a0 < (97 : Int32) then (some (0 : Int32)) else (if (122 : Int32) < a0 then (some (0 : Int32)) else (some (1 : Int32)))
set_option maxRecDepth 20000 in
theorem PM_M_isLetter {l : Launch} {G : Cx} {h : PH} {a0 : Int32} {z : Int32} (hz : f_M_isLetter h a0 = some z) : PM l G 1 0 0 Y_M_isLetter [.inl a0] h (some (.inl z), h) := by
  refine PM.of (Y := Y_M_isLetter) (cv := (fun z : Int32 => (((some (.inl z), h) : Option PV × PH)))) (by decide) (L0 := [some (.inl a0)]) 0 rfl (Nat.le_of_ble_eq_true rfl) ?_ hz
  unfold f_M_isLetter
  refine PJ.iload_n (pc := 0) d_M_isLetter_0 rfl ?_
  refine PJ.bipush (pc := 1) (v := 97) d_M_isLetter_1 (by decide) ?_
  refine PJ.icmp_lt (pc := 3) (tgt := 16) d_M_isLetter_3 (by decide) (fun _ => ?_) (fun _ => ?_)
  · refine PJ.iconst (pc := 16) (v := 0) d_M_isLetter_16 (by decide) ?_
    exact PJ.zretp (pc := 17) d_M_isLetter_17 rfl rfl (Nat.le_of_ble_eq_true rfl) (Nat.le_of_ble_eq_true rfl)
  · refine PJ.iload_n (pc := 6) d_M_isLetter_6 rfl ?_
    refine PJ.bipush (pc := 7) (v := 122) d_M_isLetter_7 (by decide) ?_
    refine PJ.icmp_gt (pc := 9) (tgt := 16) d_M_isLetter_9 (by decide) (fun _ => ?_) (fun _ => ?_)
    · refine PJ.iconst (pc := 16) (v := 0) d_M_isLetter_16 (by decide) ?_
      exact PJ.zretp (pc := 17) d_M_isLetter_17 rfl rfl (Nat.le_of_ble_eq_true rfl) (Nat.le_of_ble_eq_true rfl)
    · refine PJ.iconst (pc := 12) (v := 1) d_M_isLetter_12 (by decide) ?_
      refine PJ.goto (pc := 13) (tgt := 17) d_M_isLetter_13 (by decide) ?_
      exact PJ.zretp (pc := 17) d_M_isLetter_17 rfl rfl (Nat.le_of_ble_eq_true rfl) (Nat.le_of_ble_eq_true rfl)
theorem d_M_isDigit_0 : decode Y_M_isDigit.2.1 0 = .ok (.iload_n 0, 1) := by decide +kernel
theorem d_M_isDigit_1 : decode Y_M_isDigit.2.1 1 = .ok (.bipush 48, 2) := by decide +kernel
theorem d_M_isDigit_3 : decode Y_M_isDigit.2.1 3 = .ok (.if_icmp .lt 13, 3) := by decide +kernel
theorem d_M_isDigit_6 : decode Y_M_isDigit.2.1 6 = .ok (.iload_n 0, 1) := by decide +kernel
theorem d_M_isDigit_7 : decode Y_M_isDigit.2.1 7 = .ok (.bipush 57, 2) := by decide +kernel
theorem d_M_isDigit_9 : decode Y_M_isDigit.2.1 9 = .ok (.if_icmp .gt 7, 3) := by decide +kernel
theorem d_M_isDigit_12 : decode Y_M_isDigit.2.1 12 = .ok (.iconst 1, 1) := by decide +kernel
theorem d_M_isDigit_13 : decode Y_M_isDigit.2.1 13 = .ok (.goto 4, 3) := by decide +kernel
theorem d_M_isDigit_16 : decode Y_M_isDigit.2.1 16 = .ok (.iconst 0, 1) := by decide +kernel
theorem d_M_isDigit_17 : decode Y_M_isDigit.2.1 17 = .ok (.ireturn, 1) := by decide +kernel
def f_M_isDigit (h : PH) (a0 : Int32) : Option Int32 := if a0 < (48 : Int32) then (some (0 : Int32)) else (if (57 : Int32) < a0 then (some (0 : Int32)) else (some (1 : Int32)))
set_option maxRecDepth 20000 in
theorem PM_M_isDigit {l : Launch} {G : Cx} {h : PH} {a0 : Int32} {z : Int32} (hz : f_M_isDigit h a0 = some z) : PM l G 1 0 0 Y_M_isDigit [.inl a0] h (some (.inl z), h) := by
  refine PM.of (Y := Y_M_isDigit) (cv := (fun z : Int32 => (((some (.inl z), h) : Option PV × PH)))) (by decide) (L0 := [some (.inl a0)]) 0 rfl (Nat.le_of_ble_eq_true rfl) ?_ hz
  unfold f_M_isDigit
  refine PJ.iload_n (pc := 0) d_M_isDigit_0 rfl ?_
  refine PJ.bipush (pc := 1) (v := 48) d_M_isDigit_1 (by decide) ?_
  refine PJ.icmp_lt (pc := 3) (tgt := 16) d_M_isDigit_3 (by decide) (fun _ => ?_) (fun _ => ?_)
  · refine PJ.iconst (pc := 16) (v := 0) d_M_isDigit_16 (by decide) ?_
    exact PJ.zretp (pc := 17) d_M_isDigit_17 rfl rfl (Nat.le_of_ble_eq_true rfl) (Nat.le_of_ble_eq_true rfl)
  · refine PJ.iload_n (pc := 6) d_M_isDigit_6 rfl ?_
    refine PJ.bipush (pc := 7) (v := 57) d_M_isDigit_7 (by decide) ?_
    refine PJ.icmp_gt (pc := 9) (tgt := 16) d_M_isDigit_9 (by decide) (fun _ => ?_) (fun _ => ?_)
    · refine PJ.iconst (pc := 16) (v := 0) d_M_isDigit_16 (by decide) ?_
      exact PJ.zretp (pc := 17) d_M_isDigit_17 rfl rfl (Nat.le_of_ble_eq_true rfl) (Nat.le_of_ble_eq_true rfl)
    · refine PJ.iconst (pc := 12) (v := 1) d_M_isDigit_12 (by decide) ?_
      refine PJ.goto (pc := 13) (tgt := 17) d_M_isDigit_13 (by decide) ?_
      exact PJ.zretp (pc := 17) d_M_isDigit_17 rfl rfl (Nat.le_of_ble_eq_true rfl) (Nat.le_of_ble_eq_true rfl)
theorem d_M_goesOn_0 : decode Y_M_goesOn.2.1 0 = .ok (.aload_n 0, 1) := by decide +kernel
theorem d_M_goesOn_1 : decode Y_M_goesOn.2.1 1 = .ok (.getfield 80, 3) := by decide +kernel
theorem d_M_goesOn_4 : decode Y_M_goesOn.2.1 4 = .ok (.iconst 5, 1) := by decide +kernel
theorem d_M_goesOn_5 : decode Y_M_goesOn.2.1 5 = .ok (.if_icmp .ne 4, 3) := by decide +kernel
theorem d_M_goesOn_8 : decode Y_M_goesOn.2.1 8 = .ok (.return_, 1) := by decide +kernel
theorem d_M_goesOn_9 : decode Y_M_goesOn.2.1 9 = .ok (.aload_n 0, 1) := by decide +kernel
theorem d_M_goesOn_10 : decode Y_M_goesOn.2.1 10 = .ok (.aload_n 0, 1) := by decide +kernel
theorem d_M_goesOn_11 : decode Y_M_goesOn.2.1 11 = .ok (.getfield 83, 3) := by decide +kernel
theorem d_M_goesOn_14 : decode Y_M_goesOn.2.1 14 = .ok (.invokevirtual 86, 3) := by decide +kernel
theorem d_M_goesOn_17 : decode Y_M_goesOn.2.1 17 = .ok (.bipush 32, 2) := by decide +kernel
theorem d_M_goesOn_19 : decode Y_M_goesOn.2.1 19 = .ok (.if_icmp .ne 16, 3) := by decide +kernel
theorem d_M_goesOn_22 : decode Y_M_goesOn.2.1 22 = .ok (.aload_n 0, 1) := by decide +kernel
theorem d_M_goesOn_23 : decode Y_M_goesOn.2.1 23 = .ok (.dup, 1) := by decide +kernel
theorem d_M_goesOn_24 : decode Y_M_goesOn.2.1 24 = .ok (.getfield 83, 3) := by decide +kernel
theorem d_M_goesOn_27 : decode Y_M_goesOn.2.1 27 = .ok (.iconst 1, 1) := by decide +kernel
theorem d_M_goesOn_28 : decode Y_M_goesOn.2.1 28 = .ok (.iadd, 1) := by decide +kernel
theorem d_M_goesOn_29 : decode Y_M_goesOn.2.1 29 = .ok (.putfield 83, 3) := by decide +kernel
theorem d_M_goesOn_32 : decode Y_M_goesOn.2.1 32 = .ok (.goto (-23), 3) := by decide +kernel
theorem d_M_goesOn_35 : decode Y_M_goesOn.2.1 35 = .ok (.aload_n 0, 1) := by decide +kernel
theorem d_M_goesOn_36 : decode Y_M_goesOn.2.1 36 = .ok (.aload_n 0, 1) := by decide +kernel
theorem d_M_goesOn_37 : decode Y_M_goesOn.2.1 37 = .ok (.getfield 83, 3) := by decide +kernel
theorem d_M_goesOn_40 : decode Y_M_goesOn.2.1 40 = .ok (.putfield 89, 3) := by decide +kernel
theorem d_M_goesOn_43 : decode Y_M_goesOn.2.1 43 = .ok (.aload_n 0, 1) := by decide +kernel
theorem d_M_goesOn_44 : decode Y_M_goesOn.2.1 44 = .ok (.iconst 0, 1) := by decide +kernel
theorem d_M_goesOn_45 : decode Y_M_goesOn.2.1 45 = .ok (.putfield 80, 3) := by decide +kernel
theorem d_M_goesOn_48 : decode Y_M_goesOn.2.1 48 = .ok (.aload_n 0, 1) := by decide +kernel
theorem d_M_goesOn_49 : decode Y_M_goesOn.2.1 49 = .ok (.aload_n 0, 1) := by decide +kernel
theorem d_M_goesOn_50 : decode Y_M_goesOn.2.1 50 = .ok (.getfield 83, 3) := by decide +kernel
theorem d_M_goesOn_53 : decode Y_M_goesOn.2.1 53 = .ok (.invokevirtual 86, 3) := by decide +kernel
theorem d_M_goesOn_56 : decode Y_M_goesOn.2.1 56 = .ok (.istore_n 1, 1) := by decide +kernel
theorem d_M_goesOn_57 : decode Y_M_goesOn.2.1 57 = .ok (.iconst 0, 1) := by decide +kernel
theorem d_M_goesOn_58 : decode Y_M_goesOn.2.1 58 = .ok (.istore_n 2, 1) := by decide +kernel
theorem d_M_goesOn_59 : decode Y_M_goesOn.2.1 59 = .ok (.iload_n 1, 1) := by decide +kernel
theorem d_M_goesOn_60 : decode Y_M_goesOn.2.1 60 = .ok (.iconst (-1), 1) := by decide +kernel
theorem d_M_goesOn_61 : decode Y_M_goesOn.2.1 61 = .ok (.if_icmp .ne 11, 3) := by decide +kernel
theorem d_M_goesOn_64 : decode Y_M_goesOn.2.1 64 = .ok (.aload_n 0, 1) := by decide +kernel
theorem d_M_goesOn_65 : decode Y_M_goesOn.2.1 65 = .ok (.iconst 1, 1) := by decide +kernel
theorem d_M_goesOn_66 : decode Y_M_goesOn.2.1 66 = .ok (.putfield 80, 3) := by decide +kernel
theorem d_M_goesOn_69 : decode Y_M_goesOn.2.1 69 = .ok (.goto 196, 3) := by decide +kernel
theorem d_M_goesOn_72 : decode Y_M_goesOn.2.1 72 = .ok (.iload_n 1, 1) := by decide +kernel
theorem d_M_goesOn_73 : decode Y_M_goesOn.2.1 73 = .ok (.invokestatic 92, 3) := by decide +kernel
theorem d_M_goesOn_76 : decode Y_M_goesOn.2.1 76 = .ok (.ifCond .eq 85, 3) := by decide +kernel
theorem d_M_goesOn_79 : decode Y_M_goesOn.2.1 79 = .ok (.aload_n 0, 1) := by decide +kernel
theorem d_M_goesOn_80 : decode Y_M_goesOn.2.1 80 = .ok (.lconst 0, 1) := by decide +kernel
theorem d_M_goesOn_81 : decode Y_M_goesOn.2.1 81 = .ok (.putfield 96, 3) := by decide +kernel
theorem d_M_goesOn_84 : decode Y_M_goesOn.2.1 84 = .ok (.aload_n 0, 1) := by decide +kernel
theorem d_M_goesOn_85 : decode Y_M_goesOn.2.1 85 = .ok (.aload_n 0, 1) := by decide +kernel
theorem d_M_goesOn_86 : decode Y_M_goesOn.2.1 86 = .ok (.getfield 83, 3) := by decide +kernel
theorem d_M_goesOn_89 : decode Y_M_goesOn.2.1 89 = .ok (.invokevirtual 86, 3) := by decide +kernel
theorem d_M_goesOn_92 : decode Y_M_goesOn.2.1 92 = .ok (.invokestatic 92, 3) := by decide +kernel
theorem d_M_goesOn_95 : decode Y_M_goesOn.2.1 95 = .ok (.ifCond .eq 52, 3) := by decide +kernel
theorem d_M_goesOn_98 : decode Y_M_goesOn.2.1 98 = .ok (.iload_n 2, 1) := by decide +kernel
theorem d_M_goesOn_99 : decode Y_M_goesOn.2.1 99 = .ok (.bipush 8, 2) := by decide +kernel
theorem d_M_goesOn_101 : decode Y_M_goesOn.2.1 101 = .ok (.if_icmp .ge 30, 3) := by decide +kernel
theorem d_M_goesOn_104 : decode Y_M_goesOn.2.1 104 = .ok (.aload_n 0, 1) := by decide +kernel
theorem d_M_goesOn_105 : decode Y_M_goesOn.2.1 105 = .ok (.ldc2_w 74, 3) := by decide +kernel
theorem d_M_goesOn_108 : decode Y_M_goesOn.2.1 108 = .ok (.aload_n 0, 1) := by decide +kernel
theorem d_M_goesOn_109 : decode Y_M_goesOn.2.1 109 = .ok (.getfield 96, 3) := by decide +kernel
theorem d_M_goesOn_112 : decode Y_M_goesOn.2.1 112 = .ok (.lmul, 1) := by decide +kernel
theorem d_M_goesOn_113 : decode Y_M_goesOn.2.1 113 = .ok (.aload_n 0, 1) := by decide +kernel
theorem d_M_goesOn_114 : decode Y_M_goesOn.2.1 114 = .ok (.aload_n 0, 1) := by decide +kernel
theorem d_M_goesOn_115 : decode Y_M_goesOn.2.1 115 = .ok (.getfield 83, 3) := by decide +kernel
theorem d_M_goesOn_118 : decode Y_M_goesOn.2.1 118 = .ok (.invokevirtual 86, 3) := by decide +kernel
theorem d_M_goesOn_121 : decode Y_M_goesOn.2.1 121 = .ok (.bipush 97, 2) := by decide +kernel
theorem d_M_goesOn_123 : decode Y_M_goesOn.2.1 123 = .ok (.isub, 1) := by decide +kernel
theorem d_M_goesOn_124 : decode Y_M_goesOn.2.1 124 = .ok (.iconst 1, 1) := by decide +kernel
theorem d_M_goesOn_125 : decode Y_M_goesOn.2.1 125 = .ok (.iadd, 1) := by decide +kernel
theorem d_M_goesOn_126 : decode Y_M_goesOn.2.1 126 = .ok (.i2l, 1) := by decide +kernel
theorem d_M_goesOn_127 : decode Y_M_goesOn.2.1 127 = .ok (.ladd, 1) := by decide +kernel
theorem d_M_goesOn_128 : decode Y_M_goesOn.2.1 128 = .ok (.putfield 96, 3) := by decide +kernel
theorem d_M_goesOn_131 : decode Y_M_goesOn.2.1 131 = .ok (.iinc 2 1, 3) := by decide +kernel
theorem d_M_goesOn_134 : decode Y_M_goesOn.2.1 134 = .ok (.aload_n 0, 1) := by decide +kernel
theorem d_M_goesOn_135 : decode Y_M_goesOn.2.1 135 = .ok (.dup, 1) := by decide +kernel
theorem d_M_goesOn_136 : decode Y_M_goesOn.2.1 136 = .ok (.getfield 83, 3) := by decide +kernel
theorem d_M_goesOn_139 : decode Y_M_goesOn.2.1 139 = .ok (.iconst 1, 1) := by decide +kernel
theorem d_M_goesOn_140 : decode Y_M_goesOn.2.1 140 = .ok (.iadd, 1) := by decide +kernel
theorem d_M_goesOn_141 : decode Y_M_goesOn.2.1 141 = .ok (.putfield 83, 3) := by decide +kernel
theorem d_M_goesOn_144 : decode Y_M_goesOn.2.1 144 = .ok (.goto (-60), 3) := by decide +kernel
theorem d_M_goesOn_147 : decode Y_M_goesOn.2.1 147 = .ok (.iload_n 2, 1) := by decide +kernel
theorem d_M_goesOn_148 : decode Y_M_goesOn.2.1 148 = .ok (.bipush 8, 2) := by decide +kernel
theorem d_M_goesOn_150 : decode Y_M_goesOn.2.1 150 = .ok (.if_icmp .gt 115, 3) := by decide +kernel
theorem d_M_goesOn_153 : decode Y_M_goesOn.2.1 153 = .ok (.aload_n 0, 1) := by decide +kernel
theorem d_M_goesOn_154 : decode Y_M_goesOn.2.1 154 = .ok (.iconst 2, 1) := by decide +kernel
theorem d_M_goesOn_155 : decode Y_M_goesOn.2.1 155 = .ok (.putfield 80, 3) := by decide +kernel
theorem d_M_goesOn_158 : decode Y_M_goesOn.2.1 158 = .ok (.goto 107, 3) := by decide +kernel
theorem d_M_goesOn_161 : decode Y_M_goesOn.2.1 161 = .ok (.iload_n 1, 1) := by decide +kernel
theorem d_M_goesOn_162 : decode Y_M_goesOn.2.1 162 = .ok (.invokestatic 100, 3) := by decide +kernel
theorem d_M_goesOn_165 : decode Y_M_goesOn.2.1 165 = .ok (.ifCond .eq 79, 3) := by decide +kernel
theorem d_M_goesOn_168 : decode Y_M_goesOn.2.1 168 = .ok (.aload_n 0, 1) := by decide +kernel
theorem d_M_goesOn_169 : decode Y_M_goesOn.2.1 169 = .ok (.iconst 0, 1) := by decide +kernel
theorem d_M_goesOn_170 : decode Y_M_goesOn.2.1 170 = .ok (.putfield 103, 3) := by decide +kernel
theorem d_M_goesOn_173 : decode Y_M_goesOn.2.1 173 = .ok (.aload_n 0, 1) := by decide +kernel
theorem d_M_goesOn_174 : decode Y_M_goesOn.2.1 174 = .ok (.aload_n 0, 1) := by decide +kernel
theorem d_M_goesOn_175 : decode Y_M_goesOn.2.1 175 = .ok (.getfield 83, 3) := by decide +kernel
theorem d_M_goesOn_178 : decode Y_M_goesOn.2.1 178 = .ok (.invokevirtual 86, 3) := by decide +kernel
theorem d_M_goesOn_181 : decode Y_M_goesOn.2.1 181 = .ok (.invokestatic 100, 3) := by decide +kernel
theorem d_M_goesOn_184 : decode Y_M_goesOn.2.1 184 = .ok (.ifCond .eq 47, 3) := by decide +kernel
theorem d_M_goesOn_187 : decode Y_M_goesOn.2.1 187 = .ok (.iload_n 2, 1) := by decide +kernel
theorem d_M_goesOn_188 : decode Y_M_goesOn.2.1 188 = .ok (.iconst 3, 1) := by decide +kernel
theorem d_M_goesOn_189 : decode Y_M_goesOn.2.1 189 = .ok (.if_icmp .ge 26, 3) := by decide +kernel
theorem d_M_goesOn_192 : decode Y_M_goesOn.2.1 192 = .ok (.aload_n 0, 1) := by decide +kernel
theorem d_M_goesOn_193 : decode Y_M_goesOn.2.1 193 = .ok (.bipush 10, 2) := by decide +kernel
theorem d_M_goesOn_195 : decode Y_M_goesOn.2.1 195 = .ok (.aload_n 0, 1) := by decide +kernel
theorem d_M_goesOn_196 : decode Y_M_goesOn.2.1 196 = .ok (.getfield 103, 3) := by decide +kernel
theorem d_M_goesOn_199 : decode Y_M_goesOn.2.1 199 = .ok (.imul, 1) := by decide +kernel
theorem d_M_goesOn_200 : decode Y_M_goesOn.2.1 200 = .ok (.aload_n 0, 1) := by decide +kernel
theorem d_M_goesOn_201 : decode Y_M_goesOn.2.1 201 = .ok (.aload_n 0, 1) := by decide +kernel
theorem d_M_goesOn_202 : decode Y_M_goesOn.2.1 202 = .ok (.getfield 83, 3) := by decide +kernel
theorem d_M_goesOn_205 : decode Y_M_goesOn.2.1 205 = .ok (.invokevirtual 86, 3) := by decide +kernel
theorem d_M_goesOn_208 : decode Y_M_goesOn.2.1 208 = .ok (.iadd, 1) := by decide +kernel
theorem d_M_goesOn_209 : decode Y_M_goesOn.2.1 209 = .ok (.bipush 48, 2) := by decide +kernel
theorem d_M_goesOn_211 : decode Y_M_goesOn.2.1 211 = .ok (.isub, 1) := by decide +kernel
theorem d_M_goesOn_212 : decode Y_M_goesOn.2.1 212 = .ok (.putfield 103, 3) := by decide +kernel
theorem d_M_goesOn_215 : decode Y_M_goesOn.2.1 215 = .ok (.iinc 2 1, 3) := by decide +kernel
theorem d_M_goesOn_218 : decode Y_M_goesOn.2.1 218 = .ok (.aload_n 0, 1) := by decide +kernel
theorem d_M_goesOn_219 : decode Y_M_goesOn.2.1 219 = .ok (.dup, 1) := by decide +kernel
theorem d_M_goesOn_220 : decode Y_M_goesOn.2.1 220 = .ok (.getfield 83, 3) := by decide +kernel
theorem d_M_goesOn_223 : decode Y_M_goesOn.2.1 223 = .ok (.iconst 1, 1) := by decide +kernel
theorem d_M_goesOn_224 : decode Y_M_goesOn.2.1 224 = .ok (.iadd, 1) := by decide +kernel
theorem d_M_goesOn_225 : decode Y_M_goesOn.2.1 225 = .ok (.putfield 83, 3) := by decide +kernel
theorem d_M_goesOn_228 : decode Y_M_goesOn.2.1 228 = .ok (.goto (-55), 3) := by decide +kernel
theorem d_M_goesOn_231 : decode Y_M_goesOn.2.1 231 = .ok (.iload_n 2, 1) := by decide +kernel
theorem d_M_goesOn_232 : decode Y_M_goesOn.2.1 232 = .ok (.iconst 3, 1) := by decide +kernel
theorem d_M_goesOn_233 : decode Y_M_goesOn.2.1 233 = .ok (.if_icmp .gt 32, 3) := by decide +kernel
theorem d_M_goesOn_236 : decode Y_M_goesOn.2.1 236 = .ok (.aload_n 0, 1) := by decide +kernel
theorem d_M_goesOn_237 : decode Y_M_goesOn.2.1 237 = .ok (.iconst 3, 1) := by decide +kernel
theorem d_M_goesOn_238 : decode Y_M_goesOn.2.1 238 = .ok (.putfield 80, 3) := by decide +kernel
theorem d_M_goesOn_241 : decode Y_M_goesOn.2.1 241 = .ok (.goto 24, 3) := by decide +kernel
theorem d_M_goesOn_244 : decode Y_M_goesOn.2.1 244 = .ok (.iload_n 1, 1) := by decide +kernel
theorem d_M_goesOn_245 : decode Y_M_goesOn.2.1 245 = .ok (.bipush 59, 2) := by decide +kernel
theorem d_M_goesOn_247 : decode Y_M_goesOn.2.1 247 = .ok (.if_icmp .ne 18, 3) := by decide +kernel
theorem d_M_goesOn_250 : decode Y_M_goesOn.2.1 250 = .ok (.aload_n 0, 1) := by decide +kernel
theorem d_M_goesOn_251 : decode Y_M_goesOn.2.1 251 = .ok (.iconst 4, 1) := by decide +kernel
theorem d_M_goesOn_252 : decode Y_M_goesOn.2.1 252 = .ok (.putfield 80, 3) := by decide +kernel
theorem d_M_goesOn_255 : decode Y_M_goesOn.2.1 255 = .ok (.aload_n 0, 1) := by decide +kernel
theorem d_M_goesOn_256 : decode Y_M_goesOn.2.1 256 = .ok (.dup, 1) := by decide +kernel
theorem d_M_goesOn_257 : decode Y_M_goesOn.2.1 257 = .ok (.getfield 83, 3) := by decide +kernel
theorem d_M_goesOn_260 : decode Y_M_goesOn.2.1 260 = .ok (.iconst 1, 1) := by decide +kernel
theorem d_M_goesOn_261 : decode Y_M_goesOn.2.1 261 = .ok (.iadd, 1) := by decide +kernel
theorem d_M_goesOn_262 : decode Y_M_goesOn.2.1 262 = .ok (.putfield 83, 3) := by decide +kernel
theorem d_M_goesOn_265 : decode Y_M_goesOn.2.1 265 = .ok (.return_, 1) := by decide +kernel
def f_M_goesOn (h : PH) (a0 : Option Nat) : Option PH := (gI h 12 a0 9).bind fun v1 => if ¬ v1 = (5 : Int32) then ((pj_it (X := PH) (fun s2 : PH => (gI s2 12 a0 8).bind fun v4 => (cl s2 12 a0 (f_M_byteAt s2 a0 v4)).bind fun v5 => if ¬ v5 = (32 : Int32) then (some (.inr s2)) else ((gI s2 12 a0 8).bind fun v6 => (sF s2 12 a0 8 (.inl (v6 + (1 : Int32)))).bind fun h7 => some (.inl h7))) FU h).bind fun x3 => (gI x3 12 a0 8).bind fun v8 => (sF x3 12 a0 10 (.inl v8)).bind fun h9 => (sF h9 12 a0 9 (.inl (0 : Int32))).bind fun h10 => (gI h10 12 a0 8).bind fun v11 => (cl h10 12 a0 (f_M_byteAt h10 a0 v11)).bind fun v12 => if ¬ v12 = (-1 : Int32) then ((f_M_isLetter h10 v12).bind fun v13 => if v13 = 0 then ((f_M_isDigit h10 v12).bind fun v14 => if v14 = 0 then (if ¬ v12 = (59 : Int32) then (some h10) else ((sF h10 12 a0 9 (.inl (4 : Int32))).bind fun h15 => (gI h15 12 a0 8).bind fun v16 => (sF h15 12 a0 8 (.inl (v16 + (1 : Int32)))).bind fun h17 => some h17)) else ((sF h10 12 a0 11 (.inl (0 : Int32))).bind fun h18 => (pj_it (X := Int32 × PH) (fun s19 : Int32 × PH => (gI s19.2 12 a0 8).bind fun v21 => (cl s19.2 12 a0 (f_M_byteAt s19.2 a0 v21)).bind fun v22 => (f_M_isDigit s19.2 v22).bind fun v23 => if v23 = 0 then (some (.inr (s19.1, s19.2))) else ((if (3 : Int32) ≤ s19.1 then (some s19.2) else ((gI s19.2 12 a0 11).bind fun v25 => (gI s19.2 12 a0 8).bind fun v26 => (cl s19.2 12 a0 (f_M_byteAt s19.2 a0 v26)).bind fun v27 => (sF s19.2 12 a0 11 (.inl ((((10 : Int32) * v25) + v27) - (48 : Int32)))).bind fun h28 => some h28) : Option (PH)).bind fun j24 => (gI j24 12 a0 8).bind fun v29 => (sF j24 12 a0 8 (.inl (v29 + (1 : Int32)))).bind fun h30 => some (.inl ((s19.1 + (1 : Int32)), h30)))) FU ((0 : Int32), h18)).bind fun x20 => if (3 : Int32) < x20.1 then (some x20.2) else ((sF x20.2 12 a0 9 (.inl (3 : Int32))).bind fun h31 => some h31))) else ((sF h10 12 a0 14 (.inr (.inl (0 : Int64)))).bind fun h32 => (pj_it (X := Int32 × PH) (fun s33 : Int32 × PH => (gI s33.2 12 a0 8).bind fun v35 => (cl s33.2 12 a0 (f_M_byteAt s33.2 a0 v35)).bind fun v36 => (f_M_isLetter s33.2 v36).bind fun v37 => if v37 = 0 then (some (.inr (s33.1, s33.2))) else ((if (8 : Int32) ≤ s33.1 then (some s33.2) else ((gL s33.2 12 a0 14).bind fun v39 => (gI s33.2 12 a0 8).bind fun v40 => (cl s33.2 12 a0 (f_M_byteAt s33.2 a0 v40)).bind fun v41 => (sF s33.2 12 a0 14 (.inr (.inl (((32 : Int64) * v39) + (Int32.toInt64 ((v41 - (97 : Int32)) + (1 : Int32))))))).bind fun h42 => some h42) : Option (PH)).bind fun j38 => (gI j38 12 a0 8).bind fun v43 => (sF j38 12 a0 8 (.inl (v43 + (1 : Int32)))).bind fun h44 => some (.inl ((s33.1 + (1 : Int32)), h44)))) FU ((0 : Int32), h32)).bind fun x34 => if (8 : Int32) < x34.1 then (some x34.2) else ((sF x34.2 12 a0 9 (.inl (2 : Int32))).bind fun h45 => some h45))) else ((sF h10 12 a0 9 (.inl (1 : Int32))).bind fun h46 => some h46)) else (some h)
set_option maxRecDepth 20000 in
theorem PM_M_goesOn {l : Launch} {G : Cx} {h : PH} {a0 : Option Nat} {z : PH} (hz : f_M_goesOn h a0 = some z) : PM l G 2 0 0 Y_M_goesOn [.inr (.inr a0)] h (none, z) := by
  refine PM.of (Y := Y_M_goesOn) (cv := (fun z : PH => (((none, z) : Option PV × PH)))) (by decide) (L0 := [some (.inr (.inr a0)), none, none]) 2 rfl (Nat.le_of_ble_eq_true rfl) ?_ hz
  unfold f_M_goesOn
  refine PJ.aload_n (pc := 0) d_M_goesOn_0 rfl ?_
  refine PJ.getI (pc := 1) fs_M_80 d_M_goesOn_1 (fun v1 => ?_)
  refine PJ.iconst (pc := 4) (v := 5) d_M_goesOn_4 (by decide) ?_
  refine PJ.icmp_ne (pc := 5) (tgt := 9) d_M_goesOn_5 (by decide) (fun _ => ?_) (fun _ => ?_)
  · refine PJ.bind (fun x3 : PH => ((35 : Nat), ([some (.inr (.inr a0)), none, none] : List (Option PV)), ([] : List PV), (x3 : PH), (0 : Nat), (0 : Nat))) (PJ.it (E := (fun s2 : PH => ((9 : Nat), ([some (.inr (.inr a0)), none, none] : List (Option PV)), ([] : List PV), (s2 : PH), (0 : Nat), (0 : Nat)))) (F := (fun x3 : PH => ((35 : Nat), ([some (.inr (.inr a0)), none, none] : List (Option PV)), ([] : List PV), (x3 : PH), (0 : Nat), (0 : Nat)))) (fun s2 => ?_) FU h) (fun x3 => ?_)
    · show PJ l G (pj_rm 2 0 0) Y_M_goesOn 9 [some (.inr (.inr a0)), none, none] [] s2 0 0 _ _
      refine PJ.aload_n (pc := 9) d_M_goesOn_9 rfl ?_
      refine PJ.aload_n (pc := 10) d_M_goesOn_10 rfl ?_
      refine PJ.getI (pc := 11) fs_M_83 d_M_goesOn_11 (fun v4 => ?_)
      refine PJ.cVpI (pc := 14) cs_M_86 (fun z hz => PM_M_byteAt hz) (pj_fitb rfl) rfl rfl (Nat.le_of_ble_eq_true rfl) d_M_goesOn_14 (fun v5 => ?_)
      refine PJ.bipush (pc := 17) (v := 32) d_M_goesOn_17 (by decide) ?_
      refine PJ.icmp_ne (pc := 19) (tgt := 35) d_M_goesOn_19 (by decide) (fun _ => ?_) (fun _ => ?_)
      · exact PJ.done rfl
      · refine PJ.aload_n (pc := 22) d_M_goesOn_22 rfl ?_
        refine PJ.dup (pc := 23) d_M_goesOn_23 rfl ?_
        refine PJ.getI (pc := 24) fs_M_83 d_M_goesOn_24 (fun v6 => ?_)
        refine PJ.iconst (pc := 27) (v := 1) d_M_goesOn_27 (by decide) ?_
        refine PJ.iadd (pc := 28) d_M_goesOn_28 ?_
        refine PJ.putI (pc := 29) ps_M_83 d_M_goesOn_29 (fun h7 => ?_)
        refine PJ.goto (pc := 32) (tgt := 9) d_M_goesOn_32 (by decide) ?_
        exact PJ.done rfl
    · show PJ l G (pj_rm 2 0 0) Y_M_goesOn 35 [some (.inr (.inr a0)), none, none] [] x3 0 0 _ _
      refine PJ.aload_n (pc := 35) d_M_goesOn_35 rfl ?_
      refine PJ.aload_n (pc := 36) d_M_goesOn_36 rfl ?_
      refine PJ.getI (pc := 37) fs_M_83 d_M_goesOn_37 (fun v8 => ?_)
      refine PJ.putI (pc := 40) ps_M_89 d_M_goesOn_40 (fun h9 => ?_)
      refine PJ.aload_n (pc := 43) d_M_goesOn_43 rfl ?_
      refine PJ.iconst (pc := 44) (v := 0) d_M_goesOn_44 (by decide) ?_
      refine PJ.putI (pc := 45) ps_M_80 d_M_goesOn_45 (fun h10 => ?_)
      refine PJ.aload_n (pc := 48) d_M_goesOn_48 rfl ?_
      refine PJ.aload_n (pc := 49) d_M_goesOn_49 rfl ?_
      refine PJ.getI (pc := 50) fs_M_83 d_M_goesOn_50 (fun v11 => ?_)
      refine PJ.cVpI (pc := 53) cs_M_86 (fun z hz => PM_M_byteAt hz) (pj_fitb rfl) rfl rfl (Nat.le_of_ble_eq_true rfl) d_M_goesOn_53 (fun v12 => ?_)
      refine PJ.istore_n (pc := 56) (L1 := [some (.inr (.inr a0)), some (.inl v12), none]) d_M_goesOn_56 (Nat.le_of_ble_eq_true rfl) rfl rfl ?_
      refine PJ.iconst (pc := 57) (v := 0) d_M_goesOn_57 (by decide) ?_
      refine PJ.istore_n (pc := 58) (L1 := [some (.inr (.inr a0)), some (.inl v12), some (.inl (0 : Int32))]) d_M_goesOn_58 (Nat.le_of_ble_eq_true rfl) rfl rfl ?_
      refine PJ.iload_n (pc := 59) d_M_goesOn_59 rfl ?_
      refine PJ.iconst (pc := 60) (v := -1) d_M_goesOn_60 (by decide) ?_
      refine PJ.icmp_ne (pc := 61) (tgt := 72) d_M_goesOn_61 (by decide) (fun _ => ?_) (fun _ => ?_)
      · refine PJ.iload_n (pc := 72) d_M_goesOn_72 rfl ?_
        refine PJ.cSpI (pc := 73) cs_M_92 (fun z hz => PM_M_isLetter hz) (pj_fitb rfl) rfl rfl (Nat.le_of_ble_eq_true rfl) d_M_goesOn_73 (fun v13 => ?_)
        refine PJ.if_eq (pc := 76) (tgt := 161) d_M_goesOn_76 (by decide) (fun _ => ?_) (fun _ => ?_)
        · refine PJ.iload_n (pc := 161) d_M_goesOn_161 rfl ?_
          refine PJ.cSpI (pc := 162) cs_M_100 (fun z hz => PM_M_isDigit hz) (pj_fitb rfl) rfl rfl (Nat.le_of_ble_eq_true rfl) d_M_goesOn_162 (fun v14 => ?_)
          refine PJ.if_eq (pc := 165) (tgt := 244) d_M_goesOn_165 (by decide) (fun _ => ?_) (fun _ => ?_)
          · refine PJ.iload_n (pc := 244) d_M_goesOn_244 rfl ?_
            refine PJ.bipush (pc := 245) (v := 59) d_M_goesOn_245 (by decide) ?_
            refine PJ.icmp_ne (pc := 247) (tgt := 265) d_M_goesOn_247 (by decide) (fun _ => ?_) (fun _ => ?_)
            · exact PJ.vret (pc := 265) d_M_goesOn_265 rfl (Nat.le_of_ble_eq_true rfl) (Nat.le_of_ble_eq_true rfl)
            · refine PJ.aload_n (pc := 250) d_M_goesOn_250 rfl ?_
              refine PJ.iconst (pc := 251) (v := 4) d_M_goesOn_251 (by decide) ?_
              refine PJ.putI (pc := 252) ps_M_80 d_M_goesOn_252 (fun h15 => ?_)
              refine PJ.aload_n (pc := 255) d_M_goesOn_255 rfl ?_
              refine PJ.dup (pc := 256) d_M_goesOn_256 rfl ?_
              refine PJ.getI (pc := 257) fs_M_83 d_M_goesOn_257 (fun v16 => ?_)
              refine PJ.iconst (pc := 260) (v := 1) d_M_goesOn_260 (by decide) ?_
              refine PJ.iadd (pc := 261) d_M_goesOn_261 ?_
              refine PJ.putI (pc := 262) ps_M_83 d_M_goesOn_262 (fun h17 => ?_)
              exact PJ.vret (pc := 265) d_M_goesOn_265 rfl (Nat.le_of_ble_eq_true rfl) (Nat.le_of_ble_eq_true rfl)
          · refine PJ.aload_n (pc := 168) d_M_goesOn_168 rfl ?_
            refine PJ.iconst (pc := 169) (v := 0) d_M_goesOn_169 (by decide) ?_
            refine PJ.putI (pc := 170) ps_M_103 d_M_goesOn_170 (fun h18 => ?_)
            refine PJ.mk (L1 := [some (.inr (.inr a0)), none, some (.inl (0 : Int32))]) [true, false, true] rfl ?_
            refine PJ.bind (fun x20 : Int32 × PH => ((231 : Nat), ([some (.inr (.inr a0)), none, some (.inl x20.1)] : List (Option PV)), ([] : List PV), (x20.2 : PH), (0 : Nat), (0 : Nat))) (PJ.it (E := (fun s19 : Int32 × PH => ((173 : Nat), ([some (.inr (.inr a0)), none, some (.inl s19.1)] : List (Option PV)), ([] : List PV), (s19.2 : PH), (0 : Nat), (0 : Nat)))) (F := (fun x20 : Int32 × PH => ((231 : Nat), ([some (.inr (.inr a0)), none, some (.inl x20.1)] : List (Option PV)), ([] : List PV), (x20.2 : PH), (0 : Nat), (0 : Nat)))) (fun s19 => ?_) FU ((0 : Int32), h18)) (fun x20 => ?_)
            · show PJ l G (pj_rm 2 0 0) Y_M_goesOn 173 [some (.inr (.inr a0)), none, some (.inl s19.1)] [] s19.2 0 0 _ _
              refine PJ.aload_n (pc := 173) d_M_goesOn_173 rfl ?_
              refine PJ.aload_n (pc := 174) d_M_goesOn_174 rfl ?_
              refine PJ.getI (pc := 175) fs_M_83 d_M_goesOn_175 (fun v21 => ?_)
              refine PJ.cVpI (pc := 178) cs_M_86 (fun z hz => PM_M_byteAt hz) (pj_fitb rfl) rfl rfl (Nat.le_of_ble_eq_true rfl) d_M_goesOn_178 (fun v22 => ?_)
              refine PJ.cSpI (pc := 181) cs_M_100 (fun z hz => PM_M_isDigit hz) (pj_fitb rfl) rfl rfl (Nat.le_of_ble_eq_true rfl) d_M_goesOn_181 (fun v23 => ?_)
              refine PJ.if_eq (pc := 184) (tgt := 231) d_M_goesOn_184 (by decide) (fun _ => ?_) (fun _ => ?_)
              · exact PJ.done rfl
              · refine PJ.iload_n (pc := 187) d_M_goesOn_187 rfl ?_
                refine PJ.iconst (pc := 188) (v := 3) d_M_goesOn_188 (by decide) ?_
                refine PJ.bind (fun j24 : PH => ((215 : Nat), ([some (.inr (.inr a0)), none, some (.inl s19.1)] : List (Option PV)), ([] : List PV), (j24 : PH), (0 : Nat), (0 : Nat))) ?_ (fun j24 => ?_)
                · refine PJ.icmp_ge (pc := 189) (tgt := 215) d_M_goesOn_189 (by decide) (fun _ => ?_) (fun _ => ?_)
                  · exact PJ.done rfl
                  · refine PJ.aload_n (pc := 192) d_M_goesOn_192 rfl ?_
                    refine PJ.bipush (pc := 193) (v := 10) d_M_goesOn_193 (by decide) ?_
                    refine PJ.aload_n (pc := 195) d_M_goesOn_195 rfl ?_
                    refine PJ.getI (pc := 196) fs_M_103 d_M_goesOn_196 (fun v25 => ?_)
                    refine PJ.imul (pc := 199) d_M_goesOn_199 ?_
                    refine PJ.aload_n (pc := 200) d_M_goesOn_200 rfl ?_
                    refine PJ.aload_n (pc := 201) d_M_goesOn_201 rfl ?_
                    refine PJ.getI (pc := 202) fs_M_83 d_M_goesOn_202 (fun v26 => ?_)
                    refine PJ.cVpI (pc := 205) cs_M_86 (fun z hz => PM_M_byteAt hz) (pj_fitb rfl) rfl rfl (Nat.le_of_ble_eq_true rfl) d_M_goesOn_205 (fun v27 => ?_)
                    refine PJ.iadd (pc := 208) d_M_goesOn_208 ?_
                    refine PJ.bipush (pc := 209) (v := 48) d_M_goesOn_209 (by decide) ?_
                    refine PJ.isub (pc := 211) d_M_goesOn_211 ?_
                    refine PJ.putI (pc := 212) ps_M_103 d_M_goesOn_212 (fun h28 => ?_)
                    exact PJ.done rfl
                · show PJ l G (pj_rm 2 0 0) Y_M_goesOn 215 [some (.inr (.inr a0)), none, some (.inl s19.1)] [] j24 0 0 _ _
                  refine PJ.iinc (pc := 215) (v := 1) (L1 := [some (.inr (.inr a0)), none, some (.inl (s19.1 + (1 : Int32)))]) d_M_goesOn_215 rfl (by decide) (Nat.le_of_ble_eq_true rfl) rfl rfl ?_
                  refine PJ.aload_n (pc := 218) d_M_goesOn_218 rfl ?_
                  refine PJ.dup (pc := 219) d_M_goesOn_219 rfl ?_
                  refine PJ.getI (pc := 220) fs_M_83 d_M_goesOn_220 (fun v29 => ?_)
                  refine PJ.iconst (pc := 223) (v := 1) d_M_goesOn_223 (by decide) ?_
                  refine PJ.iadd (pc := 224) d_M_goesOn_224 ?_
                  refine PJ.putI (pc := 225) ps_M_83 d_M_goesOn_225 (fun h30 => ?_)
                  refine PJ.goto (pc := 228) (tgt := 173) d_M_goesOn_228 (by decide) ?_
                  exact PJ.done rfl
            · show PJ l G (pj_rm 2 0 0) Y_M_goesOn 231 [some (.inr (.inr a0)), none, some (.inl x20.1)] [] x20.2 0 0 _ _
              refine PJ.iload_n (pc := 231) d_M_goesOn_231 rfl ?_
              refine PJ.iconst (pc := 232) (v := 3) d_M_goesOn_232 (by decide) ?_
              refine PJ.icmp_gt (pc := 233) (tgt := 265) d_M_goesOn_233 (by decide) (fun _ => ?_) (fun _ => ?_)
              · exact PJ.vret (pc := 265) d_M_goesOn_265 rfl (Nat.le_of_ble_eq_true rfl) (Nat.le_of_ble_eq_true rfl)
              · refine PJ.aload_n (pc := 236) d_M_goesOn_236 rfl ?_
                refine PJ.iconst (pc := 237) (v := 3) d_M_goesOn_237 (by decide) ?_
                refine PJ.putI (pc := 238) ps_M_80 d_M_goesOn_238 (fun h31 => ?_)
                refine PJ.goto (pc := 241) (tgt := 265) d_M_goesOn_241 (by decide) ?_
                exact PJ.vret (pc := 265) d_M_goesOn_265 rfl (Nat.le_of_ble_eq_true rfl) (Nat.le_of_ble_eq_true rfl)
        · refine PJ.aload_n (pc := 79) d_M_goesOn_79 rfl ?_
          refine PJ.lconst (pc := 80) (v := 0) d_M_goesOn_80 (by decide) ?_
          refine PJ.putL (pc := 81) ps_M_96 d_M_goesOn_81 (fun h32 => ?_)
          refine PJ.mk (L1 := [some (.inr (.inr a0)), none, some (.inl (0 : Int32))]) [true, false, true] rfl ?_
          refine PJ.bind (fun x34 : Int32 × PH => ((147 : Nat), ([some (.inr (.inr a0)), none, some (.inl x34.1)] : List (Option PV)), ([] : List PV), (x34.2 : PH), (0 : Nat), (0 : Nat))) (PJ.it (E := (fun s33 : Int32 × PH => ((84 : Nat), ([some (.inr (.inr a0)), none, some (.inl s33.1)] : List (Option PV)), ([] : List PV), (s33.2 : PH), (0 : Nat), (0 : Nat)))) (F := (fun x34 : Int32 × PH => ((147 : Nat), ([some (.inr (.inr a0)), none, some (.inl x34.1)] : List (Option PV)), ([] : List PV), (x34.2 : PH), (0 : Nat), (0 : Nat)))) (fun s33 => ?_) FU ((0 : Int32), h32)) (fun x34 => ?_)
          · show PJ l G (pj_rm 2 0 0) Y_M_goesOn 84 [some (.inr (.inr a0)), none, some (.inl s33.1)] [] s33.2 0 0 _ _
            refine PJ.aload_n (pc := 84) d_M_goesOn_84 rfl ?_
            refine PJ.aload_n (pc := 85) d_M_goesOn_85 rfl ?_
            refine PJ.getI (pc := 86) fs_M_83 d_M_goesOn_86 (fun v35 => ?_)
            refine PJ.cVpI (pc := 89) cs_M_86 (fun z hz => PM_M_byteAt hz) (pj_fitb rfl) rfl rfl (Nat.le_of_ble_eq_true rfl) d_M_goesOn_89 (fun v36 => ?_)
            refine PJ.cSpI (pc := 92) cs_M_92 (fun z hz => PM_M_isLetter hz) (pj_fitb rfl) rfl rfl (Nat.le_of_ble_eq_true rfl) d_M_goesOn_92 (fun v37 => ?_)
            refine PJ.if_eq (pc := 95) (tgt := 147) d_M_goesOn_95 (by decide) (fun _ => ?_) (fun _ => ?_)
            · exact PJ.done rfl
            · refine PJ.iload_n (pc := 98) d_M_goesOn_98 rfl ?_
              refine PJ.bipush (pc := 99) (v := 8) d_M_goesOn_99 (by decide) ?_
              refine PJ.bind (fun j38 : PH => ((131 : Nat), ([some (.inr (.inr a0)), none, some (.inl s33.1)] : List (Option PV)), ([] : List PV), (j38 : PH), (0 : Nat), (0 : Nat))) ?_ (fun j38 => ?_)
              · refine PJ.icmp_ge (pc := 101) (tgt := 131) d_M_goesOn_101 (by decide) (fun _ => ?_) (fun _ => ?_)
                · exact PJ.done rfl
                · refine PJ.aload_n (pc := 104) d_M_goesOn_104 rfl ?_
                  refine PJ.ldc2 (pc := 105) (v := 32) d_M_goesOn_105 wd_1620 ?_
                  refine PJ.aload_n (pc := 108) d_M_goesOn_108 rfl ?_
                  refine PJ.getL (pc := 109) fs_M_96 d_M_goesOn_109 (fun v39 => ?_)
                  refine PJ.lmul (pc := 112) d_M_goesOn_112 ?_
                  refine PJ.aload_n (pc := 113) d_M_goesOn_113 rfl ?_
                  refine PJ.aload_n (pc := 114) d_M_goesOn_114 rfl ?_
                  refine PJ.getI (pc := 115) fs_M_83 d_M_goesOn_115 (fun v40 => ?_)
                  refine PJ.cVpI (pc := 118) cs_M_86 (fun z hz => PM_M_byteAt hz) (pj_fitb rfl) rfl rfl (Nat.le_of_ble_eq_true rfl) d_M_goesOn_118 (fun v41 => ?_)
                  refine PJ.bipush (pc := 121) (v := 97) d_M_goesOn_121 (by decide) ?_
                  refine PJ.isub (pc := 123) d_M_goesOn_123 ?_
                  refine PJ.iconst (pc := 124) (v := 1) d_M_goesOn_124 (by decide) ?_
                  refine PJ.iadd (pc := 125) d_M_goesOn_125 ?_
                  refine PJ.i2l (pc := 126) d_M_goesOn_126 ?_
                  refine PJ.ladd (pc := 127) d_M_goesOn_127 ?_
                  refine PJ.putL (pc := 128) ps_M_96 d_M_goesOn_128 (fun h42 => ?_)
                  exact PJ.done rfl
              · show PJ l G (pj_rm 2 0 0) Y_M_goesOn 131 [some (.inr (.inr a0)), none, some (.inl s33.1)] [] j38 0 0 _ _
                refine PJ.iinc (pc := 131) (v := 1) (L1 := [some (.inr (.inr a0)), none, some (.inl (s33.1 + (1 : Int32)))]) d_M_goesOn_131 rfl (by decide) (Nat.le_of_ble_eq_true rfl) rfl rfl ?_
                refine PJ.aload_n (pc := 134) d_M_goesOn_134 rfl ?_
                refine PJ.dup (pc := 135) d_M_goesOn_135 rfl ?_
                refine PJ.getI (pc := 136) fs_M_83 d_M_goesOn_136 (fun v43 => ?_)
                refine PJ.iconst (pc := 139) (v := 1) d_M_goesOn_139 (by decide) ?_
                refine PJ.iadd (pc := 140) d_M_goesOn_140 ?_
                refine PJ.putI (pc := 141) ps_M_83 d_M_goesOn_141 (fun h44 => ?_)
                refine PJ.goto (pc := 144) (tgt := 84) d_M_goesOn_144 (by decide) ?_
                exact PJ.done rfl
          · show PJ l G (pj_rm 2 0 0) Y_M_goesOn 147 [some (.inr (.inr a0)), none, some (.inl x34.1)] [] x34.2 0 0 _ _
            refine PJ.iload_n (pc := 147) d_M_goesOn_147 rfl ?_
            refine PJ.bipush (pc := 148) (v := 8) d_M_goesOn_148 (by decide) ?_
            refine PJ.icmp_gt (pc := 150) (tgt := 265) d_M_goesOn_150 (by decide) (fun _ => ?_) (fun _ => ?_)
            · exact PJ.vret (pc := 265) d_M_goesOn_265 rfl (Nat.le_of_ble_eq_true rfl) (Nat.le_of_ble_eq_true rfl)
            · refine PJ.aload_n (pc := 153) d_M_goesOn_153 rfl ?_
              refine PJ.iconst (pc := 154) (v := 2) d_M_goesOn_154 (by decide) ?_
              refine PJ.putI (pc := 155) ps_M_80 d_M_goesOn_155 (fun h45 => ?_)
              refine PJ.goto (pc := 158) (tgt := 265) d_M_goesOn_158 (by decide) ?_
              exact PJ.vret (pc := 265) d_M_goesOn_265 rfl (Nat.le_of_ble_eq_true rfl) (Nat.le_of_ble_eq_true rfl)
      · refine PJ.aload_n (pc := 64) d_M_goesOn_64 rfl ?_
        refine PJ.iconst (pc := 65) (v := 1) d_M_goesOn_65 (by decide) ?_
        refine PJ.putI (pc := 66) ps_M_80 d_M_goesOn_66 (fun h46 => ?_)
        refine PJ.goto (pc := 69) (tgt := 265) d_M_goesOn_69 (by decide) ?_
        exact PJ.vret (pc := 265) d_M_goesOn_265 rfl (Nat.le_of_ble_eq_true rfl) (Nat.le_of_ble_eq_true rfl)
  · exact PJ.vret (pc := 8) d_M_goesOn_8 rfl (Nat.le_of_ble_eq_true rfl) (Nat.le_of_ble_eq_true rfl)
