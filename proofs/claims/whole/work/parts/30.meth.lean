-- sites and methods: meth
theorem ss_M_68 : pj_cT "WaverTaxModel" 68 Y_Str_length 0 := ⟨⟨cm_Str_length.1, cm_Str_length.2.1, cm_Str_length.2.2.1, Or.inl (pj_mem 1640 (by decide +kernel) rfl)⟩, rfl, cm_Str_length.2.2.2.1, cm_Str_length.2.2.2.2⟩
theorem ss_M_76 : pj_cT "WaverTaxModel" 76 Y_Str_charAt 1 := ⟨⟨cm_Str_charAt.1, cm_Str_charAt.2.1, cm_Str_charAt.2.2.1, Or.inl (pj_mem 1641 (by decide +kernel) rfl)⟩, rfl, cm_Str_charAt.2.2.2.1, cm_Str_charAt.2.2.2.2⟩
abbrev Y_M_packed : MI := (⟨"WaverTaxModel", "packed", "(Ljava/lang/String;)J"⟩, prog_13_method_18_code, 4, (some .long))
abbrev Y_M_isWord : MI := (⟨"WaverTaxModel", "isWord", "(Ljava/lang/String;)Z"⟩, prog_13_method_21_code, 2, (some .boolean))
abbrev Y_M_flaw : MI := (⟨"WaverTaxModel", "flaw", "(I)V"⟩, prog_13_method_20_code, 2, (none : Option FieldType))
abbrev Y_M_needs : MI := (⟨"WaverTaxModel", "needs", "(Ljava/lang/String;)V"⟩, prog_13_method_23_code, 2, (none : Option FieldType))
abbrev Y_M_in : MI := (⟨"WaverTaxModel", "in", "(III)Z"⟩, prog_13_method_9_code, 3, (some .boolean))
abbrev Y_M_bounded : MI := (⟨"WaverTaxModel", "bounded", "(II)I"⟩, prog_13_method_24_code, 3, (some .int))
abbrev Y_M_readWhole : MI := (⟨"WaverTaxModel", "readWhole", "(II)I"⟩, prog_13_method_25_code, 4, (some .int))
abbrev Y_M_readPart : MI := (⟨"WaverTaxModel", "readPart", "(Ljava/lang/String;II)I"⟩, prog_13_method_26_code, 4, (some .int))
abbrev Y_M_readTax : MI := (⟨"WaverTaxModel", "readTax", "()V"⟩, prog_13_method_35_code, 3, (none : Option FieldType))
abbrev Y_M_lineBegins : MI := (⟨"WaverTaxModel", "lineBegins", "(II)V"⟩, prog_13_method_28_code, 3, (none : Option FieldType))
abbrev Y_M_isName : MI := (⟨"WaverTaxModel", "isName", "()Z"⟩, prog_13_method_27_code, 1, (some .boolean))
abbrev Y_ML_find : MI := (⟨"WaverTaxModel$Law", "find", "(J)I"⟩, prog_14_method_2_code, 4, (some .int))
abbrev Y_M_readFresh : MI := (⟨"WaverTaxModel", "readFresh", "()J"⟩, prog_13_method_29_code, 3, (some .long))
abbrev Y_M_names : MI := (⟨"WaverTaxModel", "names", "(JII)V"⟩, prog_13_method_30_code, 5, (none : Option FieldType))
abbrev Y_M_readChoice : MI := (⟨"WaverTaxModel", "readChoice", "()V"⟩, prog_13_method_36_code, 3, (none : Option FieldType))
abbrev Y_M_knownOne : MI := (⟨"WaverTaxModel", "knownOne", "(I)I"⟩, prog_13_method_31_code, 3, (some .int))
abbrev Y_M_readKnown : MI := (⟨"WaverTaxModel", "readKnown", "(I)I"⟩, prog_13_method_32_code, 3, (some .int))
abbrev Y_M_readFar : MI := (⟨"WaverTaxModel", "readFar", "()V"⟩, prog_13_method_37_code, 4, (none : Option FieldType))
abbrev Y_M_readPerson : MI := (⟨"WaverTaxModel", "readPerson", "()V"⟩, prog_13_method_38_code, 6, (none : Option FieldType))
theorem cm_M_packed : (Cond.code Y_M_packed.1 Y_M_packed.2.1 Y_M_packed.2.2.1 Y_M_packed.2.2.2 ∈ pj_ws) ∧ (Cond.initialized Y_M_packed.1.cls ∈ pj_ws) ∧ (Y_M_packed.1.cls ≠ "java/lang/invoke/MethodHandle" ∧ Y_M_packed.1.cls ≠ "java/lang/invoke/VarHandle" ∧ (parseMethodDescriptor Y_M_packed.1.desc).map (fun d => d.parameters.length) = some 1) ∧ (Cond.static Y_M_packed.1 ∈ pj_ws) := ⟨pj_mem 1639 (by decide +kernel) rfl, pj_mem 141 (by decide +kernel) rfl, ⟨by decide +kernel, by decide +kernel, by decide +kernel⟩, pj_mem 1638 (by decide +kernel) rfl⟩
theorem cm_M_goesOn : (Cond.code Y_M_goesOn.1 Y_M_goesOn.2.1 Y_M_goesOn.2.2.1 Y_M_goesOn.2.2.2 ∈ pj_ws) ∧ (Cond.initialized Y_M_goesOn.1.cls ∈ pj_ws) ∧ (Y_M_goesOn.1.cls ≠ "java/lang/invoke/MethodHandle" ∧ Y_M_goesOn.1.cls ≠ "java/lang/invoke/VarHandle" ∧ (parseMethodDescriptor Y_M_goesOn.1.desc).map (fun d => d.parameters.length) = some 0) ∧ (Cond.instanceMethod Y_M_goesOn.1 ∈ pj_ws) ∧ (Cond.selects Y_M_goesOn.1.cls Y_M_goesOn.1 Y_M_goesOn.1 ∈ pj_ws) := ⟨pj_mem 1612 (by decide +kernel) rfl, pj_mem 141 (by decide +kernel) rfl, ⟨by decide +kernel, by decide +kernel, by decide +kernel⟩, pj_mem 1611 (by decide +kernel) rfl, pj_mem 53 (by decide +kernel) rfl⟩
theorem cm_M_isWord : (Cond.code Y_M_isWord.1 Y_M_isWord.2.1 Y_M_isWord.2.2.1 Y_M_isWord.2.2.2 ∈ pj_ws) ∧ (Cond.initialized Y_M_isWord.1.cls ∈ pj_ws) ∧ (Y_M_isWord.1.cls ≠ "java/lang/invoke/MethodHandle" ∧ Y_M_isWord.1.cls ≠ "java/lang/invoke/VarHandle" ∧ (parseMethodDescriptor Y_M_isWord.1.desc).map (fun d => d.parameters.length) = some 1) ∧ (Cond.instanceMethod Y_M_isWord.1 ∈ pj_ws) ∧ (Cond.selects Y_M_isWord.1.cls Y_M_isWord.1 Y_M_isWord.1 ∈ pj_ws) := ⟨pj_mem 1636 (by decide +kernel) rfl, pj_mem 141 (by decide +kernel) rfl, ⟨by decide +kernel, by decide +kernel, by decide +kernel⟩, pj_mem 1635 (by decide +kernel) rfl, pj_mem 57 (by decide +kernel) rfl⟩
theorem cm_M_flaw : (Cond.code Y_M_flaw.1 Y_M_flaw.2.1 Y_M_flaw.2.2.1 Y_M_flaw.2.2.2 ∈ pj_ws) ∧ (Cond.initialized Y_M_flaw.1.cls ∈ pj_ws) ∧ (Y_M_flaw.1.cls ≠ "java/lang/invoke/MethodHandle" ∧ Y_M_flaw.1.cls ≠ "java/lang/invoke/VarHandle" ∧ (parseMethodDescriptor Y_M_flaw.1.desc).map (fun d => d.parameters.length) = some 1) ∧ (Cond.instanceMethod Y_M_flaw.1 ∈ pj_ws) ∧ (Cond.selects Y_M_flaw.1.cls Y_M_flaw.1 Y_M_flaw.1 ∈ pj_ws) := ⟨pj_mem 1649 (by decide +kernel) rfl, pj_mem 141 (by decide +kernel) rfl, ⟨by decide +kernel, by decide +kernel, by decide +kernel⟩, pj_mem 1648 (by decide +kernel) rfl, pj_mem 59 (by decide +kernel) rfl⟩
theorem cm_M_in : (Cond.code Y_M_in.1 Y_M_in.2.1 Y_M_in.2.2.1 Y_M_in.2.2.2 ∈ pj_ws) ∧ (Cond.initialized Y_M_in.1.cls ∈ pj_ws) ∧ (Y_M_in.1.cls ≠ "java/lang/invoke/MethodHandle" ∧ Y_M_in.1.cls ≠ "java/lang/invoke/VarHandle" ∧ (parseMethodDescriptor Y_M_in.1.desc).map (fun d => d.parameters.length) = some 3) ∧ (Cond.static Y_M_in.1 ∈ pj_ws) := ⟨pj_mem 1669 (by decide +kernel) rfl, pj_mem 141 (by decide +kernel) rfl, ⟨by decide +kernel, by decide +kernel, by decide +kernel⟩, pj_mem 1668 (by decide +kernel) rfl⟩
theorem cm_M_bounded : (Cond.code Y_M_bounded.1 Y_M_bounded.2.1 Y_M_bounded.2.2.1 Y_M_bounded.2.2.2 ∈ pj_ws) ∧ (Cond.initialized Y_M_bounded.1.cls ∈ pj_ws) ∧ (Y_M_bounded.1.cls ≠ "java/lang/invoke/MethodHandle" ∧ Y_M_bounded.1.cls ≠ "java/lang/invoke/VarHandle" ∧ (parseMethodDescriptor Y_M_bounded.1.desc).map (fun d => d.parameters.length) = some 2) ∧ (Cond.instanceMethod Y_M_bounded.1 ∈ pj_ws) ∧ (Cond.selects Y_M_bounded.1.cls Y_M_bounded.1 Y_M_bounded.1 ∈ pj_ws) := ⟨pj_mem 1666 (by decide +kernel) rfl, pj_mem 141 (by decide +kernel) rfl, ⟨by decide +kernel, by decide +kernel, by decide +kernel⟩, pj_mem 1665 (by decide +kernel) rfl, pj_mem 63 (by decide +kernel) rfl⟩
theorem cm_M_needs : (Cond.code Y_M_needs.1 Y_M_needs.2.1 Y_M_needs.2.2.1 Y_M_needs.2.2.2 ∈ pj_ws) ∧ (Cond.initialized Y_M_needs.1.cls ∈ pj_ws) ∧ (Y_M_needs.1.cls ≠ "java/lang/invoke/MethodHandle" ∧ Y_M_needs.1.cls ≠ "java/lang/invoke/VarHandle" ∧ (parseMethodDescriptor Y_M_needs.1.desc).map (fun d => d.parameters.length) = some 1) ∧ (Cond.instanceMethod Y_M_needs.1 ∈ pj_ws) ∧ (Cond.selects Y_M_needs.1.cls Y_M_needs.1 Y_M_needs.1 ∈ pj_ws) := ⟨pj_mem 1658 (by decide +kernel) rfl, pj_mem 141 (by decide +kernel) rfl, ⟨by decide +kernel, by decide +kernel, by decide +kernel⟩, pj_mem 1657 (by decide +kernel) rfl, pj_mem 61 (by decide +kernel) rfl⟩
theorem cm_M_readWhole : (Cond.code Y_M_readWhole.1 Y_M_readWhole.2.1 Y_M_readWhole.2.2.1 Y_M_readWhole.2.2.2 ∈ pj_ws) ∧ (Cond.initialized Y_M_readWhole.1.cls ∈ pj_ws) ∧ (Y_M_readWhole.1.cls ≠ "java/lang/invoke/MethodHandle" ∧ Y_M_readWhole.1.cls ≠ "java/lang/invoke/VarHandle" ∧ (parseMethodDescriptor Y_M_readWhole.1.desc).map (fun d => d.parameters.length) = some 2) ∧ (Cond.instanceMethod Y_M_readWhole.1 ∈ pj_ws) ∧ (Cond.selects Y_M_readWhole.1.cls Y_M_readWhole.1 Y_M_readWhole.1 ∈ pj_ws) := ⟨pj_mem 1662 (by decide +kernel) rfl, pj_mem 141 (by decide +kernel) rfl, ⟨by decide +kernel, by decide +kernel, by decide +kernel⟩, pj_mem 1661 (by decide +kernel) rfl, pj_mem 62 (by decide +kernel) rfl⟩
theorem cm_M_isName : (Cond.code Y_M_isName.1 Y_M_isName.2.1 Y_M_isName.2.2.1 Y_M_isName.2.2.2 ∈ pj_ws) ∧ (Cond.initialized Y_M_isName.1.cls ∈ pj_ws) ∧ (Y_M_isName.1.cls ≠ "java/lang/invoke/MethodHandle" ∧ Y_M_isName.1.cls ≠ "java/lang/invoke/VarHandle" ∧ (parseMethodDescriptor Y_M_isName.1.desc).map (fun d => d.parameters.length) = some 0) ∧ (Cond.instanceMethod Y_M_isName.1 ∈ pj_ws) ∧ (Cond.selects Y_M_isName.1.cls Y_M_isName.1 Y_M_isName.1 ∈ pj_ws) := ⟨pj_mem 1687 (by decide +kernel) rfl, pj_mem 141 (by decide +kernel) rfl, ⟨by decide +kernel, by decide +kernel, by decide +kernel⟩, pj_mem 1686 (by decide +kernel) rfl, pj_mem 67 (by decide +kernel) rfl⟩
theorem cm_ML_find : (Cond.code Y_ML_find.1 Y_ML_find.2.1 Y_ML_find.2.2.1 Y_ML_find.2.2.2 ∈ pj_ws) ∧ (Cond.initialized Y_ML_find.1.cls ∈ pj_ws) ∧ (Y_ML_find.1.cls ≠ "java/lang/invoke/MethodHandle" ∧ Y_ML_find.1.cls ≠ "java/lang/invoke/VarHandle" ∧ (parseMethodDescriptor Y_ML_find.1.desc).map (fun d => d.parameters.length) = some 1) ∧ (Cond.instanceMethod Y_ML_find.1 ∈ pj_ws) ∧ (Cond.selects Y_ML_find.1.cls Y_ML_find.1 Y_ML_find.1 ∈ pj_ws) := ⟨pj_mem 1698 (by decide +kernel) rfl, pj_mem 149 (by decide +kernel) rfl, ⟨by decide +kernel, by decide +kernel, by decide +kernel⟩, pj_mem 1696 (by decide +kernel) rfl, pj_mem 1697 (by decide +kernel) rfl⟩
theorem cm_M_knownOne : (Cond.code Y_M_knownOne.1 Y_M_knownOne.2.1 Y_M_knownOne.2.2.1 Y_M_knownOne.2.2.2 ∈ pj_ws) ∧ (Cond.initialized Y_M_knownOne.1.cls ∈ pj_ws) ∧ (Y_M_knownOne.1.cls ≠ "java/lang/invoke/MethodHandle" ∧ Y_M_knownOne.1.cls ≠ "java/lang/invoke/VarHandle" ∧ (parseMethodDescriptor Y_M_knownOne.1.desc).map (fun d => d.parameters.length) = some 1) ∧ (Cond.instanceMethod Y_M_knownOne.1 ∈ pj_ws) ∧ (Cond.selects Y_M_knownOne.1.cls Y_M_knownOne.1 Y_M_knownOne.1 ∈ pj_ws) := ⟨pj_mem 1714 (by decide +kernel) rfl, pj_mem 141 (by decide +kernel) rfl, ⟨by decide +kernel, by decide +kernel, by decide +kernel⟩, pj_mem 1713 (by decide +kernel) rfl, pj_mem 71 (by decide +kernel) rfl⟩
theorem cm_M_readPart : (Cond.code Y_M_readPart.1 Y_M_readPart.2.1 Y_M_readPart.2.2.1 Y_M_readPart.2.2.2 ∈ pj_ws) ∧ (Cond.initialized Y_M_readPart.1.cls ∈ pj_ws) ∧ (Y_M_readPart.1.cls ≠ "java/lang/invoke/MethodHandle" ∧ Y_M_readPart.1.cls ≠ "java/lang/invoke/VarHandle" ∧ (parseMethodDescriptor Y_M_readPart.1.desc).map (fun d => d.parameters.length) = some 3) ∧ (Cond.instanceMethod Y_M_readPart.1 ∈ pj_ws) ∧ (Cond.selects Y_M_readPart.1.cls Y_M_readPart.1 Y_M_readPart.1 ∈ pj_ws) := ⟨pj_mem 1654 (by decide +kernel) rfl, pj_mem 141 (by decide +kernel) rfl, ⟨by decide +kernel, by decide +kernel, by decide +kernel⟩, pj_mem 1653 (by decide +kernel) rfl, pj_mem 60 (by decide +kernel) rfl⟩
theorem cm_M_lineBegins : (Cond.code Y_M_lineBegins.1 Y_M_lineBegins.2.1 Y_M_lineBegins.2.2.1 Y_M_lineBegins.2.2.2 ∈ pj_ws) ∧ (Cond.initialized Y_M_lineBegins.1.cls ∈ pj_ws) ∧ (Y_M_lineBegins.1.cls ≠ "java/lang/invoke/MethodHandle" ∧ Y_M_lineBegins.1.cls ≠ "java/lang/invoke/VarHandle" ∧ (parseMethodDescriptor Y_M_lineBegins.1.desc).map (fun d => d.parameters.length) = some 2) ∧ (Cond.instanceMethod Y_M_lineBegins.1 ∈ pj_ws) ∧ (Cond.selects Y_M_lineBegins.1.cls Y_M_lineBegins.1 Y_M_lineBegins.1 ∈ pj_ws) := ⟨pj_mem 1679 (by decide +kernel) rfl, pj_mem 141 (by decide +kernel) rfl, ⟨by decide +kernel, by decide +kernel, by decide +kernel⟩, pj_mem 1678 (by decide +kernel) rfl, pj_mem 65 (by decide +kernel) rfl⟩
theorem cm_M_readFresh : (Cond.code Y_M_readFresh.1 Y_M_readFresh.2.1 Y_M_readFresh.2.2.1 Y_M_readFresh.2.2.2 ∈ pj_ws) ∧ (Cond.initialized Y_M_readFresh.1.cls ∈ pj_ws) ∧ (Y_M_readFresh.1.cls ≠ "java/lang/invoke/MethodHandle" ∧ Y_M_readFresh.1.cls ≠ "java/lang/invoke/VarHandle" ∧ (parseMethodDescriptor Y_M_readFresh.1.desc).map (fun d => d.parameters.length) = some 0) ∧ (Cond.instanceMethod Y_M_readFresh.1 ∈ pj_ws) ∧ (Cond.selects Y_M_readFresh.1.cls Y_M_readFresh.1 Y_M_readFresh.1 ∈ pj_ws) := ⟨pj_mem 1683 (by decide +kernel) rfl, pj_mem 141 (by decide +kernel) rfl, ⟨by decide +kernel, by decide +kernel, by decide +kernel⟩, pj_mem 1682 (by decide +kernel) rfl, pj_mem 66 (by decide +kernel) rfl⟩
theorem cm_M_names : (Cond.code Y_M_names.1 Y_M_names.2.1 Y_M_names.2.2.1 Y_M_names.2.2.2 ∈ pj_ws) ∧ (Cond.initialized Y_M_names.1.cls ∈ pj_ws) ∧ (Y_M_names.1.cls ≠ "java/lang/invoke/MethodHandle" ∧ Y_M_names.1.cls ≠ "java/lang/invoke/VarHandle" ∧ (parseMethodDescriptor Y_M_names.1.desc).map (fun d => d.parameters.length) = some 3) ∧ (Cond.instanceMethod Y_M_names.1 ∈ pj_ws) ∧ (Cond.selects Y_M_names.1.cls Y_M_names.1 Y_M_names.1 ∈ pj_ws) := ⟨pj_mem 1702 (by decide +kernel) rfl, pj_mem 141 (by decide +kernel) rfl, ⟨by decide +kernel, by decide +kernel, by decide +kernel⟩, pj_mem 1701 (by decide +kernel) rfl, pj_mem 68 (by decide +kernel) rfl⟩
theorem cm_M_readKnown : (Cond.code Y_M_readKnown.1 Y_M_readKnown.2.1 Y_M_readKnown.2.2.1 Y_M_readKnown.2.2.2 ∈ pj_ws) ∧ (Cond.initialized Y_M_readKnown.1.cls ∈ pj_ws) ∧ (Y_M_readKnown.1.cls ≠ "java/lang/invoke/MethodHandle" ∧ Y_M_readKnown.1.cls ≠ "java/lang/invoke/VarHandle" ∧ (parseMethodDescriptor Y_M_readKnown.1.desc).map (fun d => d.parameters.length) = some 1) ∧ (Cond.instanceMethod Y_M_readKnown.1 ∈ pj_ws) ∧ (Cond.selects Y_M_readKnown.1.cls Y_M_readKnown.1 Y_M_readKnown.1 ∈ pj_ws) := ⟨pj_mem 1710 (by decide +kernel) rfl, pj_mem 141 (by decide +kernel) rfl, ⟨by decide +kernel, by decide +kernel, by decide +kernel⟩, pj_mem 1709 (by decide +kernel) rfl, pj_mem 70 (by decide +kernel) rfl⟩
theorem cs_M_112 : pj_cS "WaverTaxModel" 112 Y_M_packed 1 := ⟨⟨cm_M_packed.1, cm_M_packed.2.1, cm_M_packed.2.2.1, Or.inl (pj_mem 1637 (by decide +kernel) rfl)⟩, cm_M_packed.2.2.2⟩
theorem cs_M_116 : pj_cV "WaverTaxModel" 116 Y_M_goesOn 0 12 := ⟨⟨cm_M_goesOn.1, cm_M_goesOn.2.1, cm_M_goesOn.2.2.1, Or.inl (pj_mem 1609 (by decide +kernel) rfl)⟩, by decide, cm_M_goesOn.2.2.2.1, cm_M_goesOn.2.2.2.2, ⟨_, rfl, rfl⟩⟩
theorem cs_M_119 : pj_cV "WaverTaxModel" 119 Y_M_isWord 1 12 := ⟨⟨cm_M_isWord.1, cm_M_isWord.2.1, cm_M_isWord.2.2.1, Or.inl (pj_mem 1633 (by decide +kernel) rfl)⟩, by decide, cm_M_isWord.2.2.2.1, cm_M_isWord.2.2.2.2, ⟨_, rfl, rfl⟩⟩
theorem cs_M_123 : pj_cV "WaverTaxModel" 123 Y_M_flaw 1 12 := ⟨⟨cm_M_flaw.1, cm_M_flaw.2.1, cm_M_flaw.2.2.1, Or.inl (pj_mem 1646 (by decide +kernel) rfl)⟩, by decide, cm_M_flaw.2.2.2.1, cm_M_flaw.2.2.2.2, ⟨_, rfl, rfl⟩⟩
theorem cs_M_127 : pj_cS "WaverTaxModel" 127 Y_M_in 3 := ⟨⟨cm_M_in.1, cm_M_in.2.1, cm_M_in.2.2.1, Or.inl (pj_mem 1667 (by decide +kernel) rfl)⟩, cm_M_in.2.2.2⟩
theorem cs_M_131 : pj_cV "WaverTaxModel" 131 Y_M_bounded 2 12 := ⟨⟨cm_M_bounded.1, cm_M_bounded.2.1, cm_M_bounded.2.2.1, Or.inl (pj_mem 1663 (by decide +kernel) rfl)⟩, by decide, cm_M_bounded.2.2.2.1, cm_M_bounded.2.2.2.2, ⟨_, rfl, rfl⟩⟩
theorem cs_M_135 : pj_cV "WaverTaxModel" 135 Y_M_needs 1 12 := ⟨⟨cm_M_needs.1, cm_M_needs.2.1, cm_M_needs.2.2.1, Or.inl (pj_mem 1655 (by decide +kernel) rfl)⟩, by decide, cm_M_needs.2.2.2.1, cm_M_needs.2.2.2.2, ⟨_, rfl, rfl⟩⟩
theorem cs_M_139 : pj_cV "WaverTaxModel" 139 Y_M_readWhole 2 12 := ⟨⟨cm_M_readWhole.1, cm_M_readWhole.2.1, cm_M_readWhole.2.2.1, Or.inl (pj_mem 1659 (by decide +kernel) rfl)⟩, by decide, cm_M_readWhole.2.2.2.1, cm_M_readWhole.2.2.2.2, ⟨_, rfl, rfl⟩⟩
theorem cs_M_169 : pj_cV "WaverTaxModel" 169 Y_M_isName 0 12 := ⟨⟨cm_M_isName.1, cm_M_isName.2.1, cm_M_isName.2.2.1, Or.inl (pj_mem 1684 (by decide +kernel) rfl)⟩, by decide, cm_M_isName.2.2.2.1, cm_M_isName.2.2.2.2, ⟨_, rfl, rfl⟩⟩
theorem cs_M_173 : pj_cV "WaverTaxModel" 173 Y_ML_find 1 11 := ⟨⟨cm_ML_find.1, cm_ML_find.2.1, cm_ML_find.2.2.1, Or.inl (pj_mem 1695 (by decide +kernel) rfl)⟩, by decide, cm_ML_find.2.2.2.1, cm_ML_find.2.2.2.2, ⟨_, rfl, rfl⟩⟩
theorem cs_M_189 : pj_cV "WaverTaxModel" 189 Y_M_knownOne 1 12 := ⟨⟨cm_M_knownOne.1, cm_M_knownOne.2.1, cm_M_knownOne.2.2.1, Or.inl (pj_mem 1711 (by decide +kernel) rfl)⟩, by decide, cm_M_knownOne.2.2.2.1, cm_M_knownOne.2.2.2.2, ⟨_, rfl, rfl⟩⟩
theorem cs_M_229 : pj_cV "WaverTaxModel" 229 Y_M_readPart 3 12 := ⟨⟨cm_M_readPart.1, cm_M_readPart.2.1, cm_M_readPart.2.2.1, Or.inl (pj_mem 1651 (by decide +kernel) rfl)⟩, by decide, cm_M_readPart.2.2.2.1, cm_M_readPart.2.2.2.2, ⟨_, rfl, rfl⟩⟩
theorem cs_M_237 : pj_cV "WaverTaxModel" 237 Y_M_lineBegins 2 12 := ⟨⟨cm_M_lineBegins.1, cm_M_lineBegins.2.1, cm_M_lineBegins.2.2.1, Or.inl (pj_mem 1676 (by decide +kernel) rfl)⟩, by decide, cm_M_lineBegins.2.2.2.1, cm_M_lineBegins.2.2.2.2, ⟨_, rfl, rfl⟩⟩
theorem cs_M_241 : pj_cV "WaverTaxModel" 241 Y_M_readFresh 0 12 := ⟨⟨cm_M_readFresh.1, cm_M_readFresh.2.1, cm_M_readFresh.2.2.1, Or.inl (pj_mem 1680 (by decide +kernel) rfl)⟩, by decide, cm_M_readFresh.2.2.2.1, cm_M_readFresh.2.2.2.2, ⟨_, rfl, rfl⟩⟩
theorem cs_M_245 : pj_cV "WaverTaxModel" 245 Y_M_names 3 12 := ⟨⟨cm_M_names.1, cm_M_names.2.1, cm_M_names.2.2.1, Or.inl (pj_mem 1699 (by decide +kernel) rfl)⟩, by decide, cm_M_names.2.2.2.1, cm_M_names.2.2.2.2, ⟨_, rfl, rfl⟩⟩
theorem cs_M_248 : pj_cV "WaverTaxModel" 248 Y_M_readKnown 1 12 := ⟨⟨cm_M_readKnown.1, cm_M_readKnown.2.1, cm_M_readKnown.2.2.1, Or.inl (pj_mem 1707 (by decide +kernel) rfl)⟩, by decide, cm_M_readKnown.2.2.2.1, cm_M_readKnown.2.2.2.2, ⟨_, rfl, rfl⟩⟩
theorem fs_ML_58 : pj_fs "WaverTaxModel$Law" 11 24 58 (.array (.long)) := ⟨_, _, _, _, cd_11, by decide, rfl, Or.inl (pj_mem 1548 (by decide +kernel) rfl)⟩
theorem fs_ML_68 : pj_fs "WaverTaxModel$Law" 11 9 68 (.int) := ⟨_, _, _, _, cd_11, by decide, rfl, Or.inl (pj_mem 1518 (by decide +kernel) rfl)⟩
theorem fs_M_160 : pj_fs "WaverTaxModel" 12 4 160 (.object "WaverTaxModel$Law") := ⟨_, _, _, _, cd_12, by decide, rfl, Or.inl (pj_mem 1391 (by decide +kernel) rfl)⟩
theorem fs_M_164 : pj_fs "WaverTaxModel" 11 0 164 (.int) := ⟨_, _, _, _, cd_11, by decide, rfl, Or.inr ⟨_, List.mem_of_getElem? (i := 8) rfl⟩⟩
theorem fs_M_177 : pj_fs "WaverTaxModel" 11 24 177 (.array (.long)) := ⟨_, _, _, _, cd_11, by decide, rfl, Or.inr ⟨_, List.mem_of_getElem? (i := 32) rfl⟩⟩
theorem fs_M_180 : pj_fs "WaverTaxModel" 11 9 180 (.int) := ⟨_, _, _, _, cd_11, by decide, rfl, Or.inr ⟨_, List.mem_of_getElem? (i := 17) rfl⟩⟩
theorem fs_M_183 : pj_fs "WaverTaxModel" 11 25 183 (.array (.int)) := ⟨_, _, _, _, cd_11, by decide, rfl, Or.inr ⟨_, List.mem_of_getElem? (i := 33) rfl⟩⟩
theorem fs_M_186 : pj_fs "WaverTaxModel" 11 26 186 (.array (.int)) := ⟨_, _, _, _, cd_11, by decide, rfl, Or.inr ⟨_, List.mem_of_getElem? (i := 34) rfl⟩⟩
theorem fs_M_198 : pj_fs "WaverTaxModel" 11 2 198 (.int) := ⟨_, _, _, _, cd_11, by decide, rfl, Or.inr ⟨_, List.mem_of_getElem? (i := 10) rfl⟩⟩
theorem fs_M_251 : pj_fs "WaverTaxModel" 11 10 251 (.array (.int)) := ⟨_, _, _, _, cd_11, by decide, rfl, Or.inr ⟨_, List.mem_of_getElem? (i := 18) rfl⟩⟩
theorem fs_M_255 : pj_fs "WaverTaxModel" 11 3 255 (.int) := ⟨_, _, _, _, cd_11, by decide, rfl, Or.inr ⟨_, List.mem_of_getElem? (i := 11) rfl⟩⟩
theorem fs_M_268 : pj_fs "WaverTaxModel" 11 11 268 (.array (.int)) := ⟨_, _, _, _, cd_11, by decide, rfl, Or.inr ⟨_, List.mem_of_getElem? (i := 19) rfl⟩⟩
theorem fs_M_270 : pj_fs "WaverTaxModel" 11 12 270 (.array (.int)) := ⟨_, _, _, _, cd_11, by decide, rfl, Or.inr ⟨_, List.mem_of_getElem? (i := 20) rfl⟩⟩
theorem fs_M_89 : pj_fs "WaverTaxModel" 12 10 89 (.int) := ⟨_, _, _, _, cd_12, by decide, rfl, Or.inl (pj_mem 1397 (by decide +kernel) rfl)⟩
theorem ps_M_106 {mn : String} : pj_ps "WaverTaxModel" mn 12 12 106 (.int) := ⟨_, _, _, _, cd_12, by decide, rfl, Or.inl ⟨rfl, Or.inl (pj_mem 1399 (by decide +kernel) rfl)⟩⟩
theorem ps_M_109 {mn : String} : pj_ps "WaverTaxModel" mn 12 13 109 (.int) := ⟨_, _, _, _, cd_12, by decide, rfl, Or.inl ⟨rfl, Or.inl (pj_mem 1400 (by decide +kernel) rfl)⟩⟩
theorem ps_M_164 {mn : String} : pj_ps "WaverTaxModel" mn 11 0 164 (.int) := ⟨_, _, _, _, cd_11, by decide, rfl, Or.inl ⟨rfl, Or.inr ⟨_, List.mem_of_getElem? (i := 8) rfl⟩⟩⟩
theorem ps_M_180 {mn : String} : pj_ps "WaverTaxModel" mn 11 9 180 (.int) := ⟨_, _, _, _, cd_11, by decide, rfl, Or.inl ⟨rfl, Or.inr ⟨_, List.mem_of_getElem? (i := 17) rfl⟩⟩⟩
theorem ps_M_198 {mn : String} : pj_ps "WaverTaxModel" mn 11 2 198 (.int) := ⟨_, _, _, _, cd_11, by decide, rfl, Or.inl ⟨rfl, Or.inr ⟨_, List.mem_of_getElem? (i := 10) rfl⟩⟩⟩
theorem ps_M_235 {mn : String} : pj_ps "WaverTaxModel" mn 11 1 235 (.int) := ⟨_, _, _, _, cd_11, by decide, rfl, Or.inl ⟨rfl, Or.inr ⟨_, List.mem_of_getElem? (i := 9) rfl⟩⟩⟩
theorem ps_M_255 {mn : String} : pj_ps "WaverTaxModel" mn 11 3 255 (.int) := ⟨_, _, _, _, cd_11, by decide, rfl, Or.inl ⟨rfl, Or.inr ⟨_, List.mem_of_getElem? (i := 11) rfl⟩⟩⟩
theorem d_M_packed_0 : decode Y_M_packed.2.1 0 = .ok (.lconst 0, 1) := by decide +kernel
theorem d_M_packed_1 : decode Y_M_packed.2.1 1 = .ok (.lstore_n 1, 1) := by decide +kernel
theorem d_M_packed_2 : decode Y_M_packed.2.1 2 = .ok (.iconst 0, 1) := by decide +kernel
theorem d_M_packed_3 : decode Y_M_packed.2.1 3 = .ok (.istore_n 3, 1) := by decide +kernel
theorem d_M_packed_4 : decode Y_M_packed.2.1 4 = .ok (.iload_n 3, 1) := by decide +kernel
theorem d_M_packed_5 : decode Y_M_packed.2.1 5 = .ok (.aload_n 0, 1) := by decide +kernel
theorem d_M_packed_6 : decode Y_M_packed.2.1 6 = .ok (.invokevirtual 68, 3) := by decide +kernel
theorem d_M_packed_9 : decode Y_M_packed.2.1 9 = .ok (.if_icmp .ge 27, 3) := by decide +kernel
theorem d_M_packed_12 : decode Y_M_packed.2.1 12 = .ok (.ldc2_w 74, 3) := by decide +kernel
theorem d_M_packed_15 : decode Y_M_packed.2.1 15 = .ok (.lload_n 1, 1) := by decide +kernel
theorem d_M_packed_16 : decode Y_M_packed.2.1 16 = .ok (.lmul, 1) := by decide +kernel
theorem d_M_packed_17 : decode Y_M_packed.2.1 17 = .ok (.aload_n 0, 1) := by decide +kernel
theorem d_M_packed_18 : decode Y_M_packed.2.1 18 = .ok (.iload_n 3, 1) := by decide +kernel
theorem d_M_packed_19 : decode Y_M_packed.2.1 19 = .ok (.invokevirtual 76, 3) := by decide +kernel
theorem d_M_packed_22 : decode Y_M_packed.2.1 22 = .ok (.bipush 97, 2) := by decide +kernel
theorem d_M_packed_24 : decode Y_M_packed.2.1 24 = .ok (.isub, 1) := by decide +kernel
theorem d_M_packed_25 : decode Y_M_packed.2.1 25 = .ok (.iconst 1, 1) := by decide +kernel
theorem d_M_packed_26 : decode Y_M_packed.2.1 26 = .ok (.iadd, 1) := by decide +kernel
theorem d_M_packed_27 : decode Y_M_packed.2.1 27 = .ok (.i2l, 1) := by decide +kernel
theorem d_M_packed_28 : decode Y_M_packed.2.1 28 = .ok (.ladd, 1) := by decide +kernel
theorem d_M_packed_29 : decode Y_M_packed.2.1 29 = .ok (.lstore_n 1, 1) := by decide +kernel
theorem d_M_packed_30 : decode Y_M_packed.2.1 30 = .ok (.iinc 3 1, 3) := by decide +kernel
theorem d_M_packed_33 : decode Y_M_packed.2.1 33 = .ok (.goto (-29), 3) := by decide +kernel
theorem d_M_packed_36 : decode Y_M_packed.2.1 36 = .ok (.lload_n 1, 1) := by decide +kernel
theorem d_M_packed_37 : decode Y_M_packed.2.1 37 = .ok (.lreturn, 1) := by decide +kernel
def f_M_packed (h : PH) (a0 : Option Nat) : Option Int64 := (pj_it (X := Int64) (fun s1 : Int64 × Int32 => (sLen a0).bind fun v3 => if v3 ≤ s1.2 then (some (.inr s1.1)) else ((sAt a0 s1.2).bind fun v4 => some (.inl ((((32 : Int64) * s1.1) + (Int32.toInt64 ((v4 - (97 : Int32)) + (1 : Int32)))), (s1.2 + (1 : Int32)))))) FU ((0 : Int64), (0 : Int32))).bind fun x2 => some x2
set_option maxRecDepth 20000 in
theorem PM_M_packed {l : Launch} {G : Cx} {h : PH} {a0 : Option Nat} {z : Int64} (hz : f_M_packed h a0 = some z) : PM l G 7 0 0 Y_M_packed [.inr (.inr a0)] h (some (.inr (.inl z)), h) := by
  refine PM.of (Y := Y_M_packed) (cv := (fun z : Int64 => (((some (.inr (.inl z)), h) : Option PV × PH)))) (by decide) (L0 := [some (.inr (.inr a0)), none, none, none]) 3 rfl (Nat.le_of_ble_eq_true rfl) ?_ hz
  unfold f_M_packed
  refine PJ.lconst (pc := 0) (v := 0) d_M_packed_0 (by decide) ?_
  refine PJ.lstore_n (pc := 1) (L1 := [some (.inr (.inr a0)), some (.inr (.inl (0 : Int64))), none, none]) d_M_packed_1 (Nat.le_of_ble_eq_true rfl) rfl rfl ?_
  refine PJ.iconst (pc := 2) (v := 0) d_M_packed_2 (by decide) ?_
  refine PJ.istore_n (pc := 3) (L1 := [some (.inr (.inr a0)), some (.inr (.inl (0 : Int64))), none, some (.inl (0 : Int32))]) d_M_packed_3 (Nat.le_of_ble_eq_true rfl) rfl rfl ?_
  refine PJ.bind (fun x2 : Int64 => ((36 : Nat), ([none, some (.inr (.inl x2)), none, none] : List (Option PV)), ([] : List PV), (h : PH), (0 : Nat), (0 : Nat))) (PJ.it (E := (fun s1 : Int64 × Int32 => ((4 : Nat), ([some (.inr (.inr a0)), some (.inr (.inl s1.1)), none, some (.inl s1.2)] : List (Option PV)), ([] : List PV), (h : PH), (0 : Nat), (0 : Nat)))) (F := (fun x2 : Int64 => ((36 : Nat), ([none, some (.inr (.inl x2)), none, none] : List (Option PV)), ([] : List PV), (h : PH), (0 : Nat), (0 : Nat)))) (fun s1 => ?_) FU ((0 : Int64), (0 : Int32))) (fun x2 => ?_)
  · show PJ l G (pj_rm 7 0 0) Y_M_packed 4 [some (.inr (.inr a0)), some (.inr (.inl s1.1)), none, some (.inl s1.2)] [] h 0 0 _ _
    refine PJ.iload_n (pc := 4) d_M_packed_4 rfl ?_
    refine PJ.aload_n (pc := 5) d_M_packed_5 rfl ?_
    refine PJ.strlen (pc := 6) (idx := 68) ss_M_68 (pj_fitb rfl) (Nat.le_of_ble_eq_true rfl) d_M_packed_6 (fun v3 => ?_)
    refine PJ.icmp_ge (pc := 9) (tgt := 36) d_M_packed_9 (by decide) (fun _ => ?_) (fun _ => ?_)
    · refine PJ.mk (L1 := [none, some (.inr (.inl s1.1)), none, none]) [false, true, false, false] rfl ?_
      exact PJ.done rfl
    · refine PJ.ldc2 (pc := 12) (v := 32) d_M_packed_12 wd_1620 ?_
      refine PJ.lload_n (pc := 15) d_M_packed_15 rfl ?_
      refine PJ.lmul (pc := 16) d_M_packed_16 ?_
      refine PJ.aload_n (pc := 17) d_M_packed_17 rfl ?_
      refine PJ.iload_n (pc := 18) d_M_packed_18 rfl ?_
      refine PJ.strat (pc := 19) (idx := 76) ss_M_76 (pj_fitb rfl) (Nat.le_of_ble_eq_true rfl) d_M_packed_19 (fun v4 => ?_)
      refine PJ.bipush (pc := 22) (v := 97) d_M_packed_22 (by decide) ?_
      refine PJ.isub (pc := 24) d_M_packed_24 ?_
      refine PJ.iconst (pc := 25) (v := 1) d_M_packed_25 (by decide) ?_
      refine PJ.iadd (pc := 26) d_M_packed_26 ?_
      refine PJ.i2l (pc := 27) d_M_packed_27 ?_
      refine PJ.ladd (pc := 28) d_M_packed_28 ?_
      refine PJ.lstore_n (pc := 29) (L1 := [some (.inr (.inr a0)), some (.inr (.inl (((32 : Int64) * s1.1) + (Int32.toInt64 ((v4 - (97 : Int32)) + (1 : Int32)))))), none, some (.inl s1.2)]) d_M_packed_29 (Nat.le_of_ble_eq_true rfl) rfl rfl ?_
      refine PJ.iinc (pc := 30) (v := 1) (L1 := [some (.inr (.inr a0)), some (.inr (.inl (((32 : Int64) * s1.1) + (Int32.toInt64 ((v4 - (97 : Int32)) + (1 : Int32)))))), none, some (.inl (s1.2 + (1 : Int32)))]) d_M_packed_30 rfl (by decide) (Nat.le_of_ble_eq_true rfl) rfl rfl ?_
      refine PJ.goto (pc := 33) (tgt := 4) d_M_packed_33 (by decide) ?_
      exact PJ.done rfl
  · show PJ l G (pj_rm 7 0 0) Y_M_packed 36 [none, some (.inr (.inl x2)), none, none] [] h 0 0 _ _
    refine PJ.lload_n (pc := 36) d_M_packed_36 rfl ?_
    exact PJ.lretp (pc := 37) d_M_packed_37 rfl (Nat.le_of_ble_eq_true rfl) (Nat.le_of_ble_eq_true rfl)
theorem d_M_isWord_0 : decode Y_M_isWord.2.1 0 = .ok (.aload_n 0, 1) := by decide +kernel
theorem d_M_isWord_1 : decode Y_M_isWord.2.1 1 = .ok (.getfield 80, 3) := by decide +kernel
theorem d_M_isWord_4 : decode Y_M_isWord.2.1 4 = .ok (.iconst 2, 1) := by decide +kernel
theorem d_M_isWord_5 : decode Y_M_isWord.2.1 5 = .ok (.if_icmp .ne 19, 3) := by decide +kernel
theorem d_M_isWord_8 : decode Y_M_isWord.2.1 8 = .ok (.aload_n 0, 1) := by decide +kernel
theorem d_M_isWord_9 : decode Y_M_isWord.2.1 9 = .ok (.getfield 96, 3) := by decide +kernel
theorem d_M_isWord_12 : decode Y_M_isWord.2.1 12 = .ok (.aload_n 1, 1) := by decide +kernel
theorem d_M_isWord_13 : decode Y_M_isWord.2.1 13 = .ok (.invokestatic 112, 3) := by decide +kernel
theorem d_M_isWord_16 : decode Y_M_isWord.2.1 16 = .ok (.lcmp, 1) := by decide +kernel
theorem d_M_isWord_17 : decode Y_M_isWord.2.1 17 = .ok (.ifCond .ne 7, 3) := by decide +kernel
theorem d_M_isWord_20 : decode Y_M_isWord.2.1 20 = .ok (.iconst 1, 1) := by decide +kernel
theorem d_M_isWord_21 : decode Y_M_isWord.2.1 21 = .ok (.goto 4, 3) := by decide +kernel
theorem d_M_isWord_24 : decode Y_M_isWord.2.1 24 = .ok (.iconst 0, 1) := by decide +kernel
theorem d_M_isWord_25 : decode Y_M_isWord.2.1 25 = .ok (.ireturn, 1) := by decide +kernel
def f_M_isWord (h : PH) (a0 : Option Nat) (a1 : Option Nat) : Option Int32 := (gI h 12 a0 9).bind fun v1 => if ¬ v1 = (2 : Int32) then (some (0 : Int32)) else ((gL h 12 a0 14).bind fun v2 => (f_M_packed h a1).bind fun v3 => if ¬ (lg_cmp v2 v3) = 0 then (some (0 : Int32)) else (some (1 : Int32)))
set_option maxRecDepth 20000 in
theorem PM_M_isWord {l : Launch} {G : Cx} {h : PH} {a0 : Option Nat} {a1 : Option Nat} {z : Int32} (hz : f_M_isWord h a0 a1 = some z) : PM l G 8 0 0 Y_M_isWord [.inr (.inr a0), .inr (.inr a1)] h (some (.inl z), h) := by
  refine PM.of (Y := Y_M_isWord) (cv := (fun z : Int32 => (((some (.inl z), h) : Option PV × PH)))) (by decide) (L0 := [some (.inr (.inr a0)), some (.inr (.inr a1))]) 0 rfl (Nat.le_of_ble_eq_true rfl) ?_ hz
  unfold f_M_isWord
  refine PJ.aload_n (pc := 0) d_M_isWord_0 rfl ?_
  refine PJ.getI (pc := 1) fs_M_80 d_M_isWord_1 (fun v1 => ?_)
  refine PJ.iconst (pc := 4) (v := 2) d_M_isWord_4 (by decide) ?_
  refine PJ.icmp_ne (pc := 5) (tgt := 24) d_M_isWord_5 (by decide) (fun _ => ?_) (fun _ => ?_)
  · refine PJ.iconst (pc := 24) (v := 0) d_M_isWord_24 (by decide) ?_
    exact PJ.zretp (pc := 25) d_M_isWord_25 rfl rfl (Nat.le_of_ble_eq_true rfl) (Nat.le_of_ble_eq_true rfl)
  · refine PJ.aload_n (pc := 8) d_M_isWord_8 rfl ?_
    refine PJ.getL (pc := 9) fs_M_96 d_M_isWord_9 (fun v2 => ?_)
    refine PJ.aload_n (pc := 12) d_M_isWord_12 rfl ?_
    refine PJ.cSpL (pc := 13) cs_M_112 (fun z hz => PM_M_packed hz) (pj_fitb rfl) rfl rfl (Nat.le_of_ble_eq_true rfl) d_M_isWord_13 (fun v3 => ?_)
    refine PJ.lcmp (pc := 16) d_M_isWord_16 ?_
    refine PJ.if_ne (pc := 17) (tgt := 24) d_M_isWord_17 (by decide) (fun _ => ?_) (fun _ => ?_)
    · refine PJ.iconst (pc := 24) (v := 0) d_M_isWord_24 (by decide) ?_
      exact PJ.zretp (pc := 25) d_M_isWord_25 rfl rfl (Nat.le_of_ble_eq_true rfl) (Nat.le_of_ble_eq_true rfl)
    · refine PJ.iconst (pc := 20) (v := 1) d_M_isWord_20 (by decide) ?_
      refine PJ.goto (pc := 21) (tgt := 25) d_M_isWord_21 (by decide) ?_
      exact PJ.zretp (pc := 25) d_M_isWord_25 rfl rfl (Nat.le_of_ble_eq_true rfl) (Nat.le_of_ble_eq_true rfl)
theorem d_M_flaw_0 : decode Y_M_flaw.2.1 0 = .ok (.aload_n 0, 1) := by decide +kernel
theorem d_M_flaw_1 : decode Y_M_flaw.2.1 1 = .ok (.getfield 80, 3) := by decide +kernel
theorem d_M_flaw_4 : decode Y_M_flaw.2.1 4 = .ok (.iconst 5, 1) := by decide +kernel
theorem d_M_flaw_5 : decode Y_M_flaw.2.1 5 = .ok (.if_icmp .ne 4, 3) := by decide +kernel
theorem d_M_flaw_8 : decode Y_M_flaw.2.1 8 = .ok (.return_, 1) := by decide +kernel
theorem d_M_flaw_9 : decode Y_M_flaw.2.1 9 = .ok (.aload_n 0, 1) := by decide +kernel
theorem d_M_flaw_10 : decode Y_M_flaw.2.1 10 = .ok (.iload_n 1, 1) := by decide +kernel
theorem d_M_flaw_11 : decode Y_M_flaw.2.1 11 = .ok (.putfield 106, 3) := by decide +kernel
theorem d_M_flaw_14 : decode Y_M_flaw.2.1 14 = .ok (.aload_n 0, 1) := by decide +kernel
theorem d_M_flaw_15 : decode Y_M_flaw.2.1 15 = .ok (.aload_n 0, 1) := by decide +kernel
theorem d_M_flaw_16 : decode Y_M_flaw.2.1 16 = .ok (.getfield 89, 3) := by decide +kernel
theorem d_M_flaw_19 : decode Y_M_flaw.2.1 19 = .ok (.putfield 109, 3) := by decide +kernel
theorem d_M_flaw_22 : decode Y_M_flaw.2.1 22 = .ok (.aload_n 0, 1) := by decide +kernel
theorem d_M_flaw_23 : decode Y_M_flaw.2.1 23 = .ok (.iconst 5, 1) := by decide +kernel
theorem d_M_flaw_24 : decode Y_M_flaw.2.1 24 = .ok (.putfield 80, 3) := by decide +kernel
theorem d_M_flaw_27 : decode Y_M_flaw.2.1 27 = .ok (.return_, 1) := by decide +kernel
def f_M_flaw (h : PH) (a0 : Option Nat) (a1 : Int32) : Option PH := (gI h 12 a0 9).bind fun v1 => if ¬ v1 = (5 : Int32) then ((sF h 12 a0 12 (.inl a1)).bind fun h2 => (gI h2 12 a0 10).bind fun v3 => (sF h2 12 a0 13 (.inl v3)).bind fun h4 => (sF h4 12 a0 9 (.inl (5 : Int32))).bind fun h5 => some h5) else (some h)
set_option maxRecDepth 20000 in
theorem PM_M_flaw {l : Launch} {G : Cx} {h : PH} {a0 : Option Nat} {a1 : Int32} {z : PH} (hz : f_M_flaw h a0 a1 = some z) : PM l G 1 0 0 Y_M_flaw [.inr (.inr a0), .inl a1] h (none, z) := by
  refine PM.of (Y := Y_M_flaw) (cv := (fun z : PH => (((none, z) : Option PV × PH)))) (by decide) (L0 := [some (.inr (.inr a0)), some (.inl a1)]) 0 rfl (Nat.le_of_ble_eq_true rfl) ?_ hz
  unfold f_M_flaw
  refine PJ.aload_n (pc := 0) d_M_flaw_0 rfl ?_
  refine PJ.getI (pc := 1) fs_M_80 d_M_flaw_1 (fun v1 => ?_)
  refine PJ.iconst (pc := 4) (v := 5) d_M_flaw_4 (by decide) ?_
  refine PJ.icmp_ne (pc := 5) (tgt := 9) d_M_flaw_5 (by decide) (fun _ => ?_) (fun _ => ?_)
  · refine PJ.aload_n (pc := 9) d_M_flaw_9 rfl ?_
    refine PJ.iload_n (pc := 10) d_M_flaw_10 rfl ?_
    refine PJ.putI (pc := 11) ps_M_106 d_M_flaw_11 (fun h2 => ?_)
    refine PJ.aload_n (pc := 14) d_M_flaw_14 rfl ?_
    refine PJ.aload_n (pc := 15) d_M_flaw_15 rfl ?_
    refine PJ.getI (pc := 16) fs_M_89 d_M_flaw_16 (fun v3 => ?_)
    refine PJ.putI (pc := 19) ps_M_109 d_M_flaw_19 (fun h4 => ?_)
    refine PJ.aload_n (pc := 22) d_M_flaw_22 rfl ?_
    refine PJ.iconst (pc := 23) (v := 5) d_M_flaw_23 (by decide) ?_
    refine PJ.putI (pc := 24) ps_M_80 d_M_flaw_24 (fun h5 => ?_)
    exact PJ.vret (pc := 27) d_M_flaw_27 rfl (Nat.le_of_ble_eq_true rfl) (Nat.le_of_ble_eq_true rfl)
  · exact PJ.vret (pc := 8) d_M_flaw_8 rfl (Nat.le_of_ble_eq_true rfl) (Nat.le_of_ble_eq_true rfl)
theorem d_M_needs_0 : decode Y_M_needs.2.1 0 = .ok (.aload_n 0, 1) := by decide +kernel
theorem d_M_needs_1 : decode Y_M_needs.2.1 1 = .ok (.aload_n 1, 1) := by decide +kernel
theorem d_M_needs_2 : decode Y_M_needs.2.1 2 = .ok (.invokevirtual 119, 3) := by decide +kernel
theorem d_M_needs_5 : decode Y_M_needs.2.1 5 = .ok (.ifCond .ne 8, 3) := by decide +kernel
theorem d_M_needs_8 : decode Y_M_needs.2.1 8 = .ok (.aload_n 0, 1) := by decide +kernel
theorem d_M_needs_9 : decode Y_M_needs.2.1 9 = .ok (.iconst 1, 1) := by decide +kernel
theorem d_M_needs_10 : decode Y_M_needs.2.1 10 = .ok (.invokevirtual 123, 3) := by decide +kernel
theorem d_M_needs_13 : decode Y_M_needs.2.1 13 = .ok (.aload_n 0, 1) := by decide +kernel
theorem d_M_needs_14 : decode Y_M_needs.2.1 14 = .ok (.invokevirtual 116, 3) := by decide +kernel
theorem d_M_needs_17 : decode Y_M_needs.2.1 17 = .ok (.return_, 1) := by decide +kernel
def f_M_needs (h : PH) (a0 : Option Nat) (a1 : Option Nat) : Option PH := (cl h 12 a0 (f_M_isWord h a0 a1)).bind fun v1 => (if ¬ v1 = 0 then (some h) else ((cl h 12 a0 (f_M_flaw h a0 (1 : Int32))).bind fun h3 => some h3) : Option (PH)).bind fun j2 => (cl j2 12 a0 (f_M_goesOn j2 a0)).bind fun h4 => some h4
set_option maxRecDepth 20000 in
theorem PM_M_needs {l : Launch} {G : Cx} {h : PH} {a0 : Option Nat} {a1 : Option Nat} {z : PH} (hz : f_M_needs h a0 a1 = some z) : PM l G 9 0 0 Y_M_needs [.inr (.inr a0), .inr (.inr a1)] h (none, z) := by
  refine PM.of (Y := Y_M_needs) (cv := (fun z : PH => (((none, z) : Option PV × PH)))) (by decide) (L0 := [some (.inr (.inr a0)), some (.inr (.inr a1))]) 0 rfl (Nat.le_of_ble_eq_true rfl) ?_ hz
  unfold f_M_needs
  refine PJ.aload_n (pc := 0) d_M_needs_0 rfl ?_
  refine PJ.aload_n (pc := 1) d_M_needs_1 rfl ?_
  refine PJ.cVpI (pc := 2) cs_M_119 (fun z hz => PM_M_isWord hz) (pj_fitb rfl) rfl rfl (Nat.le_of_ble_eq_true rfl) d_M_needs_2 (fun v1 => ?_)
  refine PJ.bind (fun j2 : PH => ((13 : Nat), ([some (.inr (.inr a0)), none] : List (Option PV)), ([] : List PV), (j2 : PH), (0 : Nat), (0 : Nat))) ?_ (fun j2 => ?_)
  · refine PJ.if_ne (pc := 5) (tgt := 13) d_M_needs_5 (by decide) (fun _ => ?_) (fun _ => ?_)
    · refine PJ.mk (L1 := [some (.inr (.inr a0)), none]) [true, false] rfl ?_
      exact PJ.done rfl
    · refine PJ.aload_n (pc := 8) d_M_needs_8 rfl ?_
      refine PJ.iconst (pc := 9) (v := 1) d_M_needs_9 (by decide) ?_
      refine PJ.cVV (pc := 10) cs_M_123 (fun z hz => PM_M_flaw hz) (pj_fitb rfl) rfl rfl (Nat.le_of_ble_eq_true rfl) d_M_needs_10 (fun h3 => ?_)
      refine PJ.mk (L1 := [some (.inr (.inr a0)), none]) [true, false] rfl ?_
      exact PJ.done rfl
  · show PJ l G (pj_rm 9 0 0) Y_M_needs 13 [some (.inr (.inr a0)), none] [] j2 0 0 _ _
    refine PJ.aload_n (pc := 13) d_M_needs_13 rfl ?_
    refine PJ.cVV (pc := 14) cs_M_116 (fun z hz => PM_M_goesOn hz) (pj_fitb rfl) rfl rfl (Nat.le_of_ble_eq_true rfl) d_M_needs_14 (fun h4 => ?_)
    exact PJ.vret (pc := 17) d_M_needs_17 rfl (Nat.le_of_ble_eq_true rfl) (Nat.le_of_ble_eq_true rfl)
theorem d_M_in_0 : decode Y_M_in.2.1 0 = .ok (.iload_n 0, 1) := by decide +kernel
theorem d_M_in_1 : decode Y_M_in.2.1 1 = .ok (.iload_n 1, 1) := by decide +kernel
theorem d_M_in_2 : decode Y_M_in.2.1 2 = .ok (.if_icmp .lt 12, 3) := by decide +kernel
theorem d_M_in_5 : decode Y_M_in.2.1 5 = .ok (.iload_n 0, 1) := by decide +kernel
theorem d_M_in_6 : decode Y_M_in.2.1 6 = .ok (.iload_n 2, 1) := by decide +kernel
theorem d_M_in_7 : decode Y_M_in.2.1 7 = .ok (.if_icmp .gt 7, 3) := by decide +kernel
theorem d_M_in_10 : decode Y_M_in.2.1 10 = .ok (.iconst 1, 1) := by decide +kernel
theorem d_M_in_11 : decode Y_M_in.2.1 11 = .ok (.goto 4, 3) := by decide +kernel
theorem d_M_in_14 : decode Y_M_in.2.1 14 = .ok (.iconst 0, 1) := by decide +kernel
theorem d_M_in_15 : decode Y_M_in.2.1 15 = .ok (.ireturn, 1) := by decide +kernel
def f_M_in (h : PH) (a0 : Int32) (a1 : Int32) (a2 : Int32) : Option Int32 := if a0 < a1 then (some (0 : Int32)) else (if a2 < a0 then (some (0 : Int32)) else (some (1 : Int32)))
set_option maxRecDepth 20000 in
theorem PM_M_in {l : Launch} {G : Cx} {h : PH} {a0 : Int32} {a1 : Int32} {a2 : Int32} {z : Int32} (hz : f_M_in h a0 a1 a2 = some z) : PM l G 1 0 0 Y_M_in [.inl a0, .inl a1, .inl a2] h (some (.inl z), h) := by
  refine PM.of (Y := Y_M_in) (cv := (fun z : Int32 => (((some (.inl z), h) : Option PV × PH)))) (by decide) (L0 := [some (.inl a0), some (.inl a1), some (.inl a2)]) 0 rfl (Nat.le_of_ble_eq_true rfl) ?_ hz
  unfold f_M_in
  refine PJ.iload_n (pc := 0) d_M_in_0 rfl ?_
  refine PJ.iload_n (pc := 1) d_M_in_1 rfl ?_
  refine PJ.icmp_lt (pc := 2) (tgt := 14) d_M_in_2 (by decide) (fun _ => ?_) (fun _ => ?_)
  · refine PJ.iconst (pc := 14) (v := 0) d_M_in_14 (by decide) ?_
    exact PJ.zretp (pc := 15) d_M_in_15 rfl rfl (Nat.le_of_ble_eq_true rfl) (Nat.le_of_ble_eq_true rfl)
  · refine PJ.iload_n (pc := 5) d_M_in_5 rfl ?_
    refine PJ.iload_n (pc := 6) d_M_in_6 rfl ?_
    refine PJ.icmp_gt (pc := 7) (tgt := 14) d_M_in_7 (by decide) (fun _ => ?_) (fun _ => ?_)
    · refine PJ.iconst (pc := 14) (v := 0) d_M_in_14 (by decide) ?_
      exact PJ.zretp (pc := 15) d_M_in_15 rfl rfl (Nat.le_of_ble_eq_true rfl) (Nat.le_of_ble_eq_true rfl)
    · refine PJ.iconst (pc := 10) (v := 1) d_M_in_10 (by decide) ?_
      refine PJ.goto (pc := 11) (tgt := 15) d_M_in_11 (by decide) ?_
      exact PJ.zretp (pc := 15) d_M_in_15 rfl rfl (Nat.le_of_ble_eq_true rfl) (Nat.le_of_ble_eq_true rfl)
theorem d_M_bounded_0 : decode Y_M_bounded.2.1 0 = .ok (.aload_n 0, 1) := by decide +kernel
theorem d_M_bounded_1 : decode Y_M_bounded.2.1 1 = .ok (.getfield 80, 3) := by decide +kernel
theorem d_M_bounded_4 : decode Y_M_bounded.2.1 4 = .ok (.iconst 3, 1) := by decide +kernel
theorem d_M_bounded_5 : decode Y_M_bounded.2.1 5 = .ok (.if_icmp .eq 11, 3) := by decide +kernel
theorem d_M_bounded_8 : decode Y_M_bounded.2.1 8 = .ok (.aload_n 0, 1) := by decide +kernel
theorem d_M_bounded_9 : decode Y_M_bounded.2.1 9 = .ok (.iconst 1, 1) := by decide +kernel
theorem d_M_bounded_10 : decode Y_M_bounded.2.1 10 = .ok (.invokevirtual 123, 3) := by decide +kernel
theorem d_M_bounded_13 : decode Y_M_bounded.2.1 13 = .ok (.goto 20, 3) := by decide +kernel
theorem d_M_bounded_16 : decode Y_M_bounded.2.1 16 = .ok (.aload_n 0, 1) := by decide +kernel
theorem d_M_bounded_17 : decode Y_M_bounded.2.1 17 = .ok (.getfield 103, 3) := by decide +kernel
theorem d_M_bounded_20 : decode Y_M_bounded.2.1 20 = .ok (.iload_n 1, 1) := by decide +kernel
theorem d_M_bounded_21 : decode Y_M_bounded.2.1 21 = .ok (.iload_n 2, 1) := by decide +kernel
theorem d_M_bounded_22 : decode Y_M_bounded.2.1 22 = .ok (.invokestatic 127, 3) := by decide +kernel
theorem d_M_bounded_25 : decode Y_M_bounded.2.1 25 = .ok (.ifCond .ne 8, 3) := by decide +kernel
theorem d_M_bounded_28 : decode Y_M_bounded.2.1 28 = .ok (.aload_n 0, 1) := by decide +kernel
theorem d_M_bounded_29 : decode Y_M_bounded.2.1 29 = .ok (.iconst 4, 1) := by decide +kernel
theorem d_M_bounded_30 : decode Y_M_bounded.2.1 30 = .ok (.invokevirtual 123, 3) := by decide +kernel
theorem d_M_bounded_33 : decode Y_M_bounded.2.1 33 = .ok (.aload_n 0, 1) := by decide +kernel
theorem d_M_bounded_34 : decode Y_M_bounded.2.1 34 = .ok (.getfield 80, 3) := by decide +kernel
theorem d_M_bounded_37 : decode Y_M_bounded.2.1 37 = .ok (.iconst 5, 1) := by decide +kernel
theorem d_M_bounded_38 : decode Y_M_bounded.2.1 38 = .ok (.if_icmp .ne 7, 3) := by decide +kernel
theorem d_M_bounded_41 : decode Y_M_bounded.2.1 41 = .ok (.iload_n 1, 1) := by decide +kernel
theorem d_M_bounded_42 : decode Y_M_bounded.2.1 42 = .ok (.goto 7, 3) := by decide +kernel
theorem d_M_bounded_45 : decode Y_M_bounded.2.1 45 = .ok (.aload_n 0, 1) := by decide +kernel
theorem d_M_bounded_46 : decode Y_M_bounded.2.1 46 = .ok (.getfield 103, 3) := by decide +kernel
theorem d_M_bounded_49 : decode Y_M_bounded.2.1 49 = .ok (.ireturn, 1) := by decide +kernel
def f_M_bounded (h : PH) (a0 : Option Nat) (a1 : Int32) (a2 : Int32) : Option (Int32 × PH) := (gI h 12 a0 9).bind fun v1 => (if v1 = (3 : Int32) then ((gI h 12 a0 11).bind fun v3 => (f_M_in h v3 a1 a2).bind fun v4 => if ¬ v4 = 0 then (some h) else ((cl h 12 a0 (f_M_flaw h a0 (4 : Int32))).bind fun h5 => some h5)) else ((cl h 12 a0 (f_M_flaw h a0 (1 : Int32))).bind fun h6 => some h6) : Option (PH)).bind fun j2 => (gI j2 12 a0 9).bind fun v7 => if ¬ v7 = (5 : Int32) then ((gI j2 12 a0 11).bind fun v8 => some (v8, j2)) else (some (a1, j2))
set_option maxRecDepth 20000 in
theorem PM_M_bounded {l : Launch} {G : Cx} {h : PH} {a0 : Option Nat} {a1 : Int32} {a2 : Int32} {z : (Int32 × PH)} (hz : f_M_bounded h a0 a1 a2 = some z) : PM l G 2 0 0 Y_M_bounded [.inr (.inr a0), .inl a1, .inl a2] h (some (.inl z.1), z.2) := by
  refine PM.of (Y := Y_M_bounded) (cv := (fun z : (Int32 × PH) => (((some (.inl z.1), z.2) : Option PV × PH)))) (by decide) (L0 := [some (.inr (.inr a0)), some (.inl a1), some (.inl a2)]) 0 rfl (Nat.le_of_ble_eq_true rfl) ?_ hz
  unfold f_M_bounded
  refine PJ.aload_n (pc := 0) d_M_bounded_0 rfl ?_
  refine PJ.getI (pc := 1) fs_M_80 d_M_bounded_1 (fun v1 => ?_)
  refine PJ.iconst (pc := 4) (v := 3) d_M_bounded_4 (by decide) ?_
  refine PJ.bind (fun j2 : PH => ((33 : Nat), ([some (.inr (.inr a0)), some (.inl a1), none] : List (Option PV)), ([] : List PV), (j2 : PH), (0 : Nat), (0 : Nat))) ?_ (fun j2 => ?_)
  · refine PJ.icmp_eq (pc := 5) (tgt := 16) d_M_bounded_5 (by decide) (fun _ => ?_) (fun _ => ?_)
    · refine PJ.aload_n (pc := 16) d_M_bounded_16 rfl ?_
      refine PJ.getI (pc := 17) fs_M_103 d_M_bounded_17 (fun v3 => ?_)
      refine PJ.iload_n (pc := 20) d_M_bounded_20 rfl ?_
      refine PJ.iload_n (pc := 21) d_M_bounded_21 rfl ?_
      refine PJ.cSpI (pc := 22) cs_M_127 (fun z hz => PM_M_in hz) (pj_fitb rfl) rfl rfl (Nat.le_of_ble_eq_true rfl) d_M_bounded_22 (fun v4 => ?_)
      refine PJ.if_ne (pc := 25) (tgt := 33) d_M_bounded_25 (by decide) (fun _ => ?_) (fun _ => ?_)
      · refine PJ.mk (L1 := [some (.inr (.inr a0)), some (.inl a1), none]) [true, true, false] rfl ?_
        exact PJ.done rfl
      · refine PJ.aload_n (pc := 28) d_M_bounded_28 rfl ?_
        refine PJ.iconst (pc := 29) (v := 4) d_M_bounded_29 (by decide) ?_
        refine PJ.cVV (pc := 30) cs_M_123 (fun z hz => PM_M_flaw hz) (pj_fitb rfl) rfl rfl (Nat.le_of_ble_eq_true rfl) d_M_bounded_30 (fun h5 => ?_)
        refine PJ.mk (L1 := [some (.inr (.inr a0)), some (.inl a1), none]) [true, true, false] rfl ?_
        exact PJ.done rfl
    · refine PJ.aload_n (pc := 8) d_M_bounded_8 rfl ?_
      refine PJ.iconst (pc := 9) (v := 1) d_M_bounded_9 (by decide) ?_
      refine PJ.cVV (pc := 10) cs_M_123 (fun z hz => PM_M_flaw hz) (pj_fitb rfl) rfl rfl (Nat.le_of_ble_eq_true rfl) d_M_bounded_10 (fun h6 => ?_)
      refine PJ.goto (pc := 13) (tgt := 33) d_M_bounded_13 (by decide) ?_
      refine PJ.mk (L1 := [some (.inr (.inr a0)), some (.inl a1), none]) [true, true, false] rfl ?_
      exact PJ.done rfl
  · show PJ l G (pj_rm 2 0 0) Y_M_bounded 33 [some (.inr (.inr a0)), some (.inl a1), none] [] j2 0 0 _ _
    refine PJ.aload_n (pc := 33) d_M_bounded_33 rfl ?_
    refine PJ.getI (pc := 34) fs_M_80 d_M_bounded_34 (fun v7 => ?_)
    refine PJ.iconst (pc := 37) (v := 5) d_M_bounded_37 (by decide) ?_
    refine PJ.icmp_ne (pc := 38) (tgt := 45) d_M_bounded_38 (by decide) (fun _ => ?_) (fun _ => ?_)
    · refine PJ.aload_n (pc := 45) d_M_bounded_45 rfl ?_
      refine PJ.getI (pc := 46) fs_M_103 d_M_bounded_46 (fun v8 => ?_)
      exact PJ.iret (pc := 49) d_M_bounded_49 rfl (Nat.le_of_ble_eq_true rfl) (Nat.le_of_ble_eq_true rfl)
    · refine PJ.iload_n (pc := 41) d_M_bounded_41 rfl ?_
      refine PJ.goto (pc := 42) (tgt := 49) d_M_bounded_42 (by decide) ?_
      exact PJ.iret (pc := 49) d_M_bounded_49 rfl (Nat.le_of_ble_eq_true rfl) (Nat.le_of_ble_eq_true rfl)
theorem d_M_readWhole_0 : decode Y_M_readWhole.2.1 0 = .ok (.aload_n 0, 1) := by decide +kernel
theorem d_M_readWhole_1 : decode Y_M_readWhole.2.1 1 = .ok (.iload_n 1, 1) := by decide +kernel
theorem d_M_readWhole_2 : decode Y_M_readWhole.2.1 2 = .ok (.iload_n 2, 1) := by decide +kernel
theorem d_M_readWhole_3 : decode Y_M_readWhole.2.1 3 = .ok (.invokevirtual 131, 3) := by decide +kernel
theorem d_M_readWhole_6 : decode Y_M_readWhole.2.1 6 = .ok (.istore_n 3, 1) := by decide +kernel
theorem d_M_readWhole_7 : decode Y_M_readWhole.2.1 7 = .ok (.aload_n 0, 1) := by decide +kernel
theorem d_M_readWhole_8 : decode Y_M_readWhole.2.1 8 = .ok (.invokevirtual 116, 3) := by decide +kernel
theorem d_M_readWhole_11 : decode Y_M_readWhole.2.1 11 = .ok (.iload_n 3, 1) := by decide +kernel
theorem d_M_readWhole_12 : decode Y_M_readWhole.2.1 12 = .ok (.ireturn, 1) := by decide +kernel
def f_M_readWhole (h : PH) (a0 : Option Nat) (a1 : Int32) (a2 : Int32) : Option (Int32 × PH) := (cl h 12 a0 (f_M_bounded h a0 a1 a2)).bind fun v1 => (cl v1.2 12 a0 (f_M_goesOn v1.2 a0)).bind fun h2 => some (v1.1, h2)
set_option maxRecDepth 20000 in
theorem PM_M_readWhole {l : Launch} {G : Cx} {h : PH} {a0 : Option Nat} {a1 : Int32} {a2 : Int32} {z : (Int32 × PH)} (hz : f_M_readWhole h a0 a1 a2 = some z) : PM l G 3 0 0 Y_M_readWhole [.inr (.inr a0), .inl a1, .inl a2] h (some (.inl z.1), z.2) := by
  refine PM.of (Y := Y_M_readWhole) (cv := (fun z : (Int32 × PH) => (((some (.inl z.1), z.2) : Option PV × PH)))) (by decide) (L0 := [some (.inr (.inr a0)), some (.inl a1), some (.inl a2), none]) 1 rfl (Nat.le_of_ble_eq_true rfl) ?_ hz
  unfold f_M_readWhole
  refine PJ.aload_n (pc := 0) d_M_readWhole_0 rfl ?_
  refine PJ.iload_n (pc := 1) d_M_readWhole_1 rfl ?_
  refine PJ.iload_n (pc := 2) d_M_readWhole_2 rfl ?_
  refine PJ.cVI (pc := 3) cs_M_131 (fun z hz => PM_M_bounded hz) (pj_fitb rfl) rfl rfl (Nat.le_of_ble_eq_true rfl) d_M_readWhole_3 (fun v1 => ?_)
  refine PJ.istore_n (pc := 6) (L1 := [some (.inr (.inr a0)), some (.inl a1), some (.inl a2), some (.inl v1.1)]) d_M_readWhole_6 (Nat.le_of_ble_eq_true rfl) rfl rfl ?_
  refine PJ.aload_n (pc := 7) d_M_readWhole_7 rfl ?_
  refine PJ.cVV (pc := 8) cs_M_116 (fun z hz => PM_M_goesOn hz) (pj_fitb rfl) rfl rfl (Nat.le_of_ble_eq_true rfl) d_M_readWhole_8 (fun h2 => ?_)
  refine PJ.iload_n (pc := 11) d_M_readWhole_11 rfl ?_
  exact PJ.iret (pc := 12) d_M_readWhole_12 rfl (Nat.le_of_ble_eq_true rfl) (Nat.le_of_ble_eq_true rfl)
theorem d_M_readPart_0 : decode Y_M_readPart.2.1 0 = .ok (.aload_n 0, 1) := by decide +kernel
theorem d_M_readPart_1 : decode Y_M_readPart.2.1 1 = .ok (.aload_n 1, 1) := by decide +kernel
theorem d_M_readPart_2 : decode Y_M_readPart.2.1 2 = .ok (.invokevirtual 135, 3) := by decide +kernel
theorem d_M_readPart_5 : decode Y_M_readPart.2.1 5 = .ok (.aload_n 0, 1) := by decide +kernel
theorem d_M_readPart_6 : decode Y_M_readPart.2.1 6 = .ok (.iload_n 2, 1) := by decide +kernel
theorem d_M_readPart_7 : decode Y_M_readPart.2.1 7 = .ok (.iload_n 3, 1) := by decide +kernel
theorem d_M_readPart_8 : decode Y_M_readPart.2.1 8 = .ok (.invokevirtual 139, 3) := by decide +kernel
theorem d_M_readPart_11 : decode Y_M_readPart.2.1 11 = .ok (.ireturn, 1) := by decide +kernel
def f_M_readPart (h : PH) (a0 : Option Nat) (a1 : Option Nat) (a2 : Int32) (a3 : Int32) : Option (Int32 × PH) := (cl h 12 a0 (f_M_needs h a0 a1)).bind fun h1 => (cl h1 12 a0 (f_M_readWhole h1 a0 a2 a3)).bind fun v2 => some (v2.1, v2.2)
set_option maxRecDepth 20000 in
theorem PM_M_readPart {l : Launch} {G : Cx} {h : PH} {a0 : Option Nat} {a1 : Option Nat} {a2 : Int32} {a3 : Int32} {z : (Int32 × PH)} (hz : f_M_readPart h a0 a1 a2 a3 = some z) : PM l G 10 0 0 Y_M_readPart [.inr (.inr a0), .inr (.inr a1), .inl a2, .inl a3] h (some (.inl z.1), z.2) := by
  refine PM.of (Y := Y_M_readPart) (cv := (fun z : (Int32 × PH) => (((some (.inl z.1), z.2) : Option PV × PH)))) (by decide) (L0 := [some (.inr (.inr a0)), some (.inr (.inr a1)), some (.inl a2), some (.inl a3)]) 0 rfl (Nat.le_of_ble_eq_true rfl) ?_ hz
  unfold f_M_readPart
  refine PJ.aload_n (pc := 0) d_M_readPart_0 rfl ?_
  refine PJ.aload_n (pc := 1) d_M_readPart_1 rfl ?_
  refine PJ.cVV (pc := 2) cs_M_135 (fun z hz => PM_M_needs hz) (pj_fitb rfl) rfl rfl (Nat.le_of_ble_eq_true rfl) d_M_readPart_2 (fun h1 => ?_)
  refine PJ.aload_n (pc := 5) d_M_readPart_5 rfl ?_
  refine PJ.iload_n (pc := 6) d_M_readPart_6 rfl ?_
  refine PJ.iload_n (pc := 7) d_M_readPart_7 rfl ?_
  refine PJ.cVI (pc := 8) cs_M_139 (fun z hz => PM_M_readWhole hz) (pj_fitb rfl) rfl rfl (Nat.le_of_ble_eq_true rfl) d_M_readPart_8 (fun v2 => ?_)
  exact PJ.iret (pc := 11) d_M_readPart_11 rfl (Nat.le_of_ble_eq_true rfl) (Nat.le_of_ble_eq_true rfl)
theorem d_M_readTax_0 : decode Y_M_readTax.2.1 0 = .ok (.aload_n 0, 1) := by decide +kernel
theorem d_M_readTax_1 : decode Y_M_readTax.2.1 1 = .ok (.getfield 160, 3) := by decide +kernel
theorem d_M_readTax_4 : decode Y_M_readTax.2.1 4 = .ok (.getfield 164, 3) := by decide +kernel
theorem d_M_readTax_7 : decode Y_M_readTax.2.1 7 = .ok (.iconst (-1), 1) := by decide +kernel
theorem d_M_readTax_8 : decode Y_M_readTax.2.1 8 = .ok (.if_icmp .eq 8, 3) := by decide +kernel
theorem d_M_readTax_11 : decode Y_M_readTax.2.1 11 = .ok (.aload_n 0, 1) := by decide +kernel
theorem d_M_readTax_12 : decode Y_M_readTax.2.1 12 = .ok (.iconst 3, 1) := by decide +kernel
theorem d_M_readTax_13 : decode Y_M_readTax.2.1 13 = .ok (.invokevirtual 123, 3) := by decide +kernel
theorem d_M_readTax_16 : decode Y_M_readTax.2.1 16 = .ok (.aload_n 0, 1) := by decide +kernel
theorem d_M_readTax_17 : decode Y_M_readTax.2.1 17 = .ok (.invokevirtual 116, 3) := by decide +kernel
theorem d_M_readTax_20 : decode Y_M_readTax.2.1 20 = .ok (.aload_n 0, 1) := by decide +kernel
theorem d_M_readTax_21 : decode Y_M_readTax.2.1 21 = .ok (.ldc 228, 2) := by decide +kernel
theorem d_M_readTax_23 : decode Y_M_readTax.2.1 23 = .ok (.iconst 0, 1) := by decide +kernel
theorem d_M_readTax_24 : decode Y_M_readTax.2.1 24 = .ok (.bipush 9, 2) := by decide +kernel
theorem d_M_readTax_26 : decode Y_M_readTax.2.1 26 = .ok (.invokevirtual 229, 3) := by decide +kernel
theorem d_M_readTax_29 : decode Y_M_readTax.2.1 29 = .ok (.istore_n 1, 1) := by decide +kernel
theorem d_M_readTax_30 : decode Y_M_readTax.2.1 30 = .ok (.aload_n 0, 1) := by decide +kernel
theorem d_M_readTax_31 : decode Y_M_readTax.2.1 31 = .ok (.ldc 233, 2) := by decide +kernel
theorem d_M_readTax_33 : decode Y_M_readTax.2.1 33 = .ok (.iconst 1, 1) := by decide +kernel
theorem d_M_readTax_34 : decode Y_M_readTax.2.1 34 = .ok (.iconst 4, 1) := by decide +kernel
theorem d_M_readTax_35 : decode Y_M_readTax.2.1 35 = .ok (.invokevirtual 229, 3) := by decide +kernel
theorem d_M_readTax_38 : decode Y_M_readTax.2.1 38 = .ok (.istore_n 2, 1) := by decide +kernel
theorem d_M_readTax_39 : decode Y_M_readTax.2.1 39 = .ok (.aload_n 0, 1) := by decide +kernel
theorem d_M_readTax_40 : decode Y_M_readTax.2.1 40 = .ok (.getfield 80, 3) := by decide +kernel
theorem d_M_readTax_43 : decode Y_M_readTax.2.1 43 = .ok (.iconst 5, 1) := by decide +kernel
theorem d_M_readTax_44 : decode Y_M_readTax.2.1 44 = .ok (.if_icmp .ne 4, 3) := by decide +kernel
theorem d_M_readTax_47 : decode Y_M_readTax.2.1 47 = .ok (.return_, 1) := by decide +kernel
theorem d_M_readTax_48 : decode Y_M_readTax.2.1 48 = .ok (.aload_n 0, 1) := by decide +kernel
theorem d_M_readTax_49 : decode Y_M_readTax.2.1 49 = .ok (.getfield 160, 3) := by decide +kernel
theorem d_M_readTax_52 : decode Y_M_readTax.2.1 52 = .ok (.iload_n 1, 1) := by decide +kernel
theorem d_M_readTax_53 : decode Y_M_readTax.2.1 53 = .ok (.putfield 164, 3) := by decide +kernel
theorem d_M_readTax_56 : decode Y_M_readTax.2.1 56 = .ok (.aload_n 0, 1) := by decide +kernel
theorem d_M_readTax_57 : decode Y_M_readTax.2.1 57 = .ok (.getfield 160, 3) := by decide +kernel
theorem d_M_readTax_60 : decode Y_M_readTax.2.1 60 = .ok (.iload_n 2, 1) := by decide +kernel
theorem d_M_readTax_61 : decode Y_M_readTax.2.1 61 = .ok (.putfield 235, 3) := by decide +kernel
theorem d_M_readTax_64 : decode Y_M_readTax.2.1 64 = .ok (.return_, 1) := by decide +kernel
def f_M_readTax (h : PH) (a0 : Option Nat) : Option PH := (gR h 12 a0 4).bind fun v1 => (gI h 11 v1 0).bind fun v2 => (if v2 = (-1 : Int32) then (some h) else ((cl h 12 a0 (f_M_flaw h a0 (3 : Int32))).bind fun h4 => some h4) : Option (PH)).bind fun j3 => (cl j3 12 a0 (f_M_goesOn j3 a0)).bind fun h5 => (cl h5 12 a0 (f_M_readPart h5 a0 (some 9) (0 : Int32) (9 : Int32))).bind fun v6 => (cl v6.2 12 a0 (f_M_readPart v6.2 a0 (some 10) (1 : Int32) (4 : Int32))).bind fun v7 => (gI v7.2 12 a0 9).bind fun v8 => if ¬ v8 = (5 : Int32) then ((gR v7.2 12 a0 4).bind fun v9 => (sF v7.2 11 v9 0 (.inl v6.1)).bind fun h10 => (gR h10 12 a0 4).bind fun v11 => (sF h10 11 v11 1 (.inl v7.1)).bind fun h12 => some h12) else (some v7.2)
set_option maxRecDepth 20000 in
theorem PM_M_readTax {l : Launch} {G : Cx} {h : PH} {a0 : Option Nat} {z : PH} (hz : f_M_readTax h a0 = some z) : PM l G 11 0 0 Y_M_readTax [.inr (.inr a0)] h (none, z) := by
  refine PM.of (Y := Y_M_readTax) (cv := (fun z : PH => (((none, z) : Option PV × PH)))) (by decide) (L0 := [some (.inr (.inr a0)), none, none]) 2 rfl (Nat.le_of_ble_eq_true rfl) ?_ hz
  unfold f_M_readTax
  refine PJ.aload_n (pc := 0) d_M_readTax_0 rfl ?_
  refine PJ.getR (pc := 1) fs_M_160 d_M_readTax_1 (fun v1 => ?_)
  refine PJ.getI (pc := 4) fs_M_164 d_M_readTax_4 (fun v2 => ?_)
  refine PJ.iconst (pc := 7) (v := -1) d_M_readTax_7 (by decide) ?_
  refine PJ.bind (fun j3 : PH => ((16 : Nat), ([some (.inr (.inr a0)), none, none] : List (Option PV)), ([] : List PV), (j3 : PH), (0 : Nat), (0 : Nat))) ?_ (fun j3 => ?_)
  · refine PJ.icmp_eq (pc := 8) (tgt := 16) d_M_readTax_8 (by decide) (fun _ => ?_) (fun _ => ?_)
    · exact PJ.done rfl
    · refine PJ.aload_n (pc := 11) d_M_readTax_11 rfl ?_
      refine PJ.iconst (pc := 12) (v := 3) d_M_readTax_12 (by decide) ?_
      refine PJ.cVV (pc := 13) cs_M_123 (fun z hz => PM_M_flaw hz) (pj_fitb rfl) rfl rfl (Nat.le_of_ble_eq_true rfl) d_M_readTax_13 (fun h4 => ?_)
      exact PJ.done rfl
  · show PJ l G (pj_rm 11 0 0) Y_M_readTax 16 [some (.inr (.inr a0)), none, none] [] j3 0 0 _ _
    refine PJ.aload_n (pc := 16) d_M_readTax_16 rfl ?_
    refine PJ.cVV (pc := 17) cs_M_116 (fun z hz => PM_M_goesOn hz) (pj_fitb rfl) rfl rfl (Nat.le_of_ble_eq_true rfl) d_M_readTax_17 (fun h5 => ?_)
    refine PJ.aload_n (pc := 20) d_M_readTax_20 rfl ?_
    refine PJ.ldcS (pc := 21) (i := 9) d_M_readTax_21 (by decide) (List.mem_of_getElem? (i := 25) rfl) ?_
    refine PJ.iconst (pc := 23) (v := 0) d_M_readTax_23 (by decide) ?_
    refine PJ.bipush (pc := 24) (v := 9) d_M_readTax_24 (by decide) ?_
    refine PJ.cVI (pc := 26) cs_M_229 (fun z hz => PM_M_readPart hz) (pj_fitb rfl) rfl rfl (Nat.le_of_ble_eq_true rfl) d_M_readTax_26 (fun v6 => ?_)
    refine PJ.istore_n (pc := 29) (L1 := [some (.inr (.inr a0)), some (.inl v6.1), none]) d_M_readTax_29 (Nat.le_of_ble_eq_true rfl) rfl rfl ?_
    refine PJ.aload_n (pc := 30) d_M_readTax_30 rfl ?_
    refine PJ.ldcS (pc := 31) (i := 10) d_M_readTax_31 (by decide) (List.mem_of_getElem? (i := 26) rfl) ?_
    refine PJ.iconst (pc := 33) (v := 1) d_M_readTax_33 (by decide) ?_
    refine PJ.iconst (pc := 34) (v := 4) d_M_readTax_34 (by decide) ?_
    refine PJ.cVI (pc := 35) cs_M_229 (fun z hz => PM_M_readPart hz) (pj_fitb rfl) rfl rfl (Nat.le_of_ble_eq_true rfl) d_M_readTax_35 (fun v7 => ?_)
    refine PJ.istore_n (pc := 38) (L1 := [some (.inr (.inr a0)), some (.inl v6.1), some (.inl v7.1)]) d_M_readTax_38 (Nat.le_of_ble_eq_true rfl) rfl rfl ?_
    refine PJ.aload_n (pc := 39) d_M_readTax_39 rfl ?_
    refine PJ.getI (pc := 40) fs_M_80 d_M_readTax_40 (fun v8 => ?_)
    refine PJ.iconst (pc := 43) (v := 5) d_M_readTax_43 (by decide) ?_
    refine PJ.icmp_ne (pc := 44) (tgt := 48) d_M_readTax_44 (by decide) (fun _ => ?_) (fun _ => ?_)
    · refine PJ.aload_n (pc := 48) d_M_readTax_48 rfl ?_
      refine PJ.getR (pc := 49) fs_M_160 d_M_readTax_49 (fun v9 => ?_)
      refine PJ.iload_n (pc := 52) d_M_readTax_52 rfl ?_
      refine PJ.putI (pc := 53) ps_M_164 d_M_readTax_53 (fun h10 => ?_)
      refine PJ.aload_n (pc := 56) d_M_readTax_56 rfl ?_
      refine PJ.getR (pc := 57) fs_M_160 d_M_readTax_57 (fun v11 => ?_)
      refine PJ.iload_n (pc := 60) d_M_readTax_60 rfl ?_
      refine PJ.putI (pc := 61) ps_M_235 d_M_readTax_61 (fun h12 => ?_)
      exact PJ.vret (pc := 64) d_M_readTax_64 rfl (Nat.le_of_ble_eq_true rfl) (Nat.le_of_ble_eq_true rfl)
    · exact PJ.vret (pc := 47) d_M_readTax_47 rfl (Nat.le_of_ble_eq_true rfl) (Nat.le_of_ble_eq_true rfl)
theorem d_M_lineBegins_0 : decode Y_M_lineBegins.2.1 0 = .ok (.iload_n 1, 1) := by decide +kernel
theorem d_M_lineBegins_1 : decode Y_M_lineBegins.2.1 1 = .ok (.iload_n 2, 1) := by decide +kernel
theorem d_M_lineBegins_2 : decode Y_M_lineBegins.2.1 2 = .ok (.if_icmp .ne 8, 3) := by decide +kernel
theorem d_M_lineBegins_5 : decode Y_M_lineBegins.2.1 5 = .ok (.aload_n 0, 1) := by decide +kernel
theorem d_M_lineBegins_6 : decode Y_M_lineBegins.2.1 6 = .ok (.iconst 5, 1) := by decide +kernel
theorem d_M_lineBegins_7 : decode Y_M_lineBegins.2.1 7 = .ok (.invokevirtual 123, 3) := by decide +kernel
theorem d_M_lineBegins_10 : decode Y_M_lineBegins.2.1 10 = .ok (.aload_n 0, 1) := by decide +kernel
theorem d_M_lineBegins_11 : decode Y_M_lineBegins.2.1 11 = .ok (.getfield 160, 3) := by decide +kernel
theorem d_M_lineBegins_14 : decode Y_M_lineBegins.2.1 14 = .ok (.getfield 164, 3) := by decide +kernel
theorem d_M_lineBegins_17 : decode Y_M_lineBegins.2.1 17 = .ok (.iconst (-1), 1) := by decide +kernel
theorem d_M_lineBegins_18 : decode Y_M_lineBegins.2.1 18 = .ok (.if_icmp .ne 9, 3) := by decide +kernel
theorem d_M_lineBegins_21 : decode Y_M_lineBegins.2.1 21 = .ok (.aload_n 0, 1) := by decide +kernel
theorem d_M_lineBegins_22 : decode Y_M_lineBegins.2.1 22 = .ok (.bipush 6, 2) := by decide +kernel
theorem d_M_lineBegins_24 : decode Y_M_lineBegins.2.1 24 = .ok (.invokevirtual 123, 3) := by decide +kernel
theorem d_M_lineBegins_27 : decode Y_M_lineBegins.2.1 27 = .ok (.aload_n 0, 1) := by decide +kernel
theorem d_M_lineBegins_28 : decode Y_M_lineBegins.2.1 28 = .ok (.invokevirtual 116, 3) := by decide +kernel
theorem d_M_lineBegins_31 : decode Y_M_lineBegins.2.1 31 = .ok (.return_, 1) := by decide +kernel
def f_M_lineBegins (h : PH) (a0 : Option Nat) (a1 : Int32) (a2 : Int32) : Option PH := (if ¬ a1 = a2 then (some h) else ((cl h 12 a0 (f_M_flaw h a0 (5 : Int32))).bind fun h2 => some h2) : Option (PH)).bind fun j1 => (gR j1 12 a0 4).bind fun v3 => (gI j1 11 v3 0).bind fun v4 => (if ¬ v4 = (-1 : Int32) then (some j1) else ((cl j1 12 a0 (f_M_flaw j1 a0 (6 : Int32))).bind fun h6 => some h6) : Option (PH)).bind fun j5 => (cl j5 12 a0 (f_M_goesOn j5 a0)).bind fun h7 => some h7
set_option maxRecDepth 20000 in
theorem PM_M_lineBegins {l : Launch} {G : Cx} {h : PH} {a0 : Option Nat} {a1 : Int32} {a2 : Int32} {z : PH} (hz : f_M_lineBegins h a0 a1 a2 = some z) : PM l G 3 0 0 Y_M_lineBegins [.inr (.inr a0), .inl a1, .inl a2] h (none, z) := by
  refine PM.of (Y := Y_M_lineBegins) (cv := (fun z : PH => (((none, z) : Option PV × PH)))) (by decide) (L0 := [some (.inr (.inr a0)), some (.inl a1), some (.inl a2)]) 0 rfl (Nat.le_of_ble_eq_true rfl) ?_ hz
  unfold f_M_lineBegins
  refine PJ.iload_n (pc := 0) d_M_lineBegins_0 rfl ?_
  refine PJ.iload_n (pc := 1) d_M_lineBegins_1 rfl ?_
  refine PJ.bind (fun j1 : PH => ((10 : Nat), ([some (.inr (.inr a0)), none, none] : List (Option PV)), ([] : List PV), (j1 : PH), (0 : Nat), (0 : Nat))) ?_ (fun j1 => ?_)
  · refine PJ.icmp_ne (pc := 2) (tgt := 10) d_M_lineBegins_2 (by decide) (fun _ => ?_) (fun _ => ?_)
    · refine PJ.mk (L1 := [some (.inr (.inr a0)), none, none]) [true, false, false] rfl ?_
      exact PJ.done rfl
    · refine PJ.aload_n (pc := 5) d_M_lineBegins_5 rfl ?_
      refine PJ.iconst (pc := 6) (v := 5) d_M_lineBegins_6 (by decide) ?_
      refine PJ.cVV (pc := 7) cs_M_123 (fun z hz => PM_M_flaw hz) (pj_fitb rfl) rfl rfl (Nat.le_of_ble_eq_true rfl) d_M_lineBegins_7 (fun h2 => ?_)
      refine PJ.mk (L1 := [some (.inr (.inr a0)), none, none]) [true, false, false] rfl ?_
      exact PJ.done rfl
  · show PJ l G (pj_rm 3 0 0) Y_M_lineBegins 10 [some (.inr (.inr a0)), none, none] [] j1 0 0 _ _
    refine PJ.aload_n (pc := 10) d_M_lineBegins_10 rfl ?_
    refine PJ.getR (pc := 11) fs_M_160 d_M_lineBegins_11 (fun v3 => ?_)
    refine PJ.getI (pc := 14) fs_M_164 d_M_lineBegins_14 (fun v4 => ?_)
    refine PJ.iconst (pc := 17) (v := -1) d_M_lineBegins_17 (by decide) ?_
    refine PJ.bind (fun j5 : PH => ((27 : Nat), ([some (.inr (.inr a0)), none, none] : List (Option PV)), ([] : List PV), (j5 : PH), (0 : Nat), (0 : Nat))) ?_ (fun j5 => ?_)
    · refine PJ.icmp_ne (pc := 18) (tgt := 27) d_M_lineBegins_18 (by decide) (fun _ => ?_) (fun _ => ?_)
      · exact PJ.done rfl
      · refine PJ.aload_n (pc := 21) d_M_lineBegins_21 rfl ?_
        refine PJ.bipush (pc := 22) (v := 6) d_M_lineBegins_22 (by decide) ?_
        refine PJ.cVV (pc := 24) cs_M_123 (fun z hz => PM_M_flaw hz) (pj_fitb rfl) rfl rfl (Nat.le_of_ble_eq_true rfl) d_M_lineBegins_24 (fun h6 => ?_)
        exact PJ.done rfl
    · show PJ l G (pj_rm 3 0 0) Y_M_lineBegins 27 [some (.inr (.inr a0)), none, none] [] j5 0 0 _ _
      refine PJ.aload_n (pc := 27) d_M_lineBegins_27 rfl ?_
      refine PJ.cVV (pc := 28) cs_M_116 (fun z hz => PM_M_goesOn hz) (pj_fitb rfl) rfl rfl (Nat.le_of_ble_eq_true rfl) d_M_lineBegins_28 (fun h7 => ?_)
      exact PJ.vret (pc := 31) d_M_lineBegins_31 rfl (Nat.le_of_ble_eq_true rfl) (Nat.le_of_ble_eq_true rfl)
theorem d_M_isName_0 : decode Y_M_isName.2.1 0 = .ok (.aload_n 0, 1) := by decide +kernel
theorem d_M_isName_1 : decode Y_M_isName.2.1 1 = .ok (.getfield 80, 3) := by decide +kernel
theorem d_M_isName_4 : decode Y_M_isName.2.1 4 = .ok (.iconst 2, 1) := by decide +kernel
theorem d_M_isName_5 : decode Y_M_isName.2.1 5 = .ok (.if_icmp .ne 48, 3) := by decide +kernel
theorem d_M_isName_8 : decode Y_M_isName.2.1 8 = .ok (.aload_n 0, 1) := by decide +kernel
theorem d_M_isName_9 : decode Y_M_isName.2.1 9 = .ok (.ldc 142, 2) := by decide +kernel
theorem d_M_isName_11 : decode Y_M_isName.2.1 11 = .ok (.invokevirtual 119, 3) := by decide +kernel
theorem d_M_isName_14 : decode Y_M_isName.2.1 14 = .ok (.ifCond .ne 39, 3) := by decide +kernel
theorem d_M_isName_17 : decode Y_M_isName.2.1 17 = .ok (.aload_n 0, 1) := by decide +kernel
theorem d_M_isName_18 : decode Y_M_isName.2.1 18 = .ok (.ldc 144, 2) := by decide +kernel
theorem d_M_isName_20 : decode Y_M_isName.2.1 20 = .ok (.invokevirtual 119, 3) := by decide +kernel
theorem d_M_isName_23 : decode Y_M_isName.2.1 23 = .ok (.ifCond .ne 30, 3) := by decide +kernel
theorem d_M_isName_26 : decode Y_M_isName.2.1 26 = .ok (.aload_n 0, 1) := by decide +kernel
theorem d_M_isName_27 : decode Y_M_isName.2.1 27 = .ok (.ldc 146, 2) := by decide +kernel
theorem d_M_isName_29 : decode Y_M_isName.2.1 29 = .ok (.invokevirtual 119, 3) := by decide +kernel
theorem d_M_isName_32 : decode Y_M_isName.2.1 32 = .ok (.ifCond .ne 21, 3) := by decide +kernel
theorem d_M_isName_35 : decode Y_M_isName.2.1 35 = .ok (.aload_n 0, 1) := by decide +kernel
theorem d_M_isName_36 : decode Y_M_isName.2.1 36 = .ok (.ldc 148, 2) := by decide +kernel
theorem d_M_isName_38 : decode Y_M_isName.2.1 38 = .ok (.invokevirtual 119, 3) := by decide +kernel
theorem d_M_isName_41 : decode Y_M_isName.2.1 41 = .ok (.ifCond .ne 12, 3) := by decide +kernel
theorem d_M_isName_44 : decode Y_M_isName.2.1 44 = .ok (.aload_n 0, 1) := by decide +kernel
theorem d_M_isName_45 : decode Y_M_isName.2.1 45 = .ok (.ldc 150, 2) := by decide +kernel
theorem d_M_isName_47 : decode Y_M_isName.2.1 47 = .ok (.invokevirtual 119, 3) := by decide +kernel
theorem d_M_isName_50 : decode Y_M_isName.2.1 50 = .ok (.ifCond .eq 5, 3) := by decide +kernel
theorem d_M_isName_53 : decode Y_M_isName.2.1 53 = .ok (.iconst 0, 1) := by decide +kernel
theorem d_M_isName_54 : decode Y_M_isName.2.1 54 = .ok (.ireturn, 1) := by decide +kernel
theorem d_M_isName_55 : decode Y_M_isName.2.1 55 = .ok (.aload_n 0, 1) := by decide +kernel
theorem d_M_isName_56 : decode Y_M_isName.2.1 56 = .ok (.ldc 152, 2) := by decide +kernel
theorem d_M_isName_58 : decode Y_M_isName.2.1 58 = .ok (.invokevirtual 119, 3) := by decide +kernel
theorem d_M_isName_61 : decode Y_M_isName.2.1 61 = .ok (.ifCond .ne 34, 3) := by decide +kernel
theorem d_M_isName_64 : decode Y_M_isName.2.1 64 = .ok (.aload_n 0, 1) := by decide +kernel
theorem d_M_isName_65 : decode Y_M_isName.2.1 65 = .ok (.ldc 154, 2) := by decide +kernel
theorem d_M_isName_67 : decode Y_M_isName.2.1 67 = .ok (.invokevirtual 119, 3) := by decide +kernel
theorem d_M_isName_70 : decode Y_M_isName.2.1 70 = .ok (.ifCond .ne 25, 3) := by decide +kernel
theorem d_M_isName_73 : decode Y_M_isName.2.1 73 = .ok (.aload_n 0, 1) := by decide +kernel
theorem d_M_isName_74 : decode Y_M_isName.2.1 74 = .ok (.ldc 156, 2) := by decide +kernel
theorem d_M_isName_76 : decode Y_M_isName.2.1 76 = .ok (.invokevirtual 119, 3) := by decide +kernel
theorem d_M_isName_79 : decode Y_M_isName.2.1 79 = .ok (.ifCond .ne 16, 3) := by decide +kernel
theorem d_M_isName_82 : decode Y_M_isName.2.1 82 = .ok (.aload_n 0, 1) := by decide +kernel
theorem d_M_isName_83 : decode Y_M_isName.2.1 83 = .ok (.ldc 158, 2) := by decide +kernel
theorem d_M_isName_85 : decode Y_M_isName.2.1 85 = .ok (.invokevirtual 119, 3) := by decide +kernel
theorem d_M_isName_88 : decode Y_M_isName.2.1 88 = .ok (.ifCond .ne 7, 3) := by decide +kernel
theorem d_M_isName_91 : decode Y_M_isName.2.1 91 = .ok (.iconst 1, 1) := by decide +kernel
theorem d_M_isName_92 : decode Y_M_isName.2.1 92 = .ok (.goto 4, 3) := by decide +kernel
theorem d_M_isName_95 : decode Y_M_isName.2.1 95 = .ok (.iconst 0, 1) := by decide +kernel
theorem d_M_isName_96 : decode Y_M_isName.2.1 96 = .ok (.ireturn, 1) := by decide +kernel
def f_M_isName (h : PH) (a0 : Option Nat) : Option Int32 := (gI h 12 a0 9).bind fun v1 => if ¬ v1 = (2 : Int32) then (some (0 : Int32)) else ((cl h 12 a0 (f_M_isWord h a0 (some 0))).bind fun v2 => if ¬ v2 = 0 then (some (0 : Int32)) else ((cl h 12 a0 (f_M_isWord h a0 (some 1))).bind fun v3 => if ¬ v3 = 0 then (some (0 : Int32)) else ((cl h 12 a0 (f_M_isWord h a0 (some 2))).bind fun v4 => if ¬ v4 = 0 then (some (0 : Int32)) else ((cl h 12 a0 (f_M_isWord h a0 (some 3))).bind fun v5 => if ¬ v5 = 0 then (some (0 : Int32)) else ((cl h 12 a0 (f_M_isWord h a0 (some 4))).bind fun v6 => if v6 = 0 then ((cl h 12 a0 (f_M_isWord h a0 (some 5))).bind fun v7 => if ¬ v7 = 0 then (some (0 : Int32)) else ((cl h 12 a0 (f_M_isWord h a0 (some 6))).bind fun v8 => if ¬ v8 = 0 then (some (0 : Int32)) else ((cl h 12 a0 (f_M_isWord h a0 (some 7))).bind fun v9 => if ¬ v9 = 0 then (some (0 : Int32)) else ((cl h 12 a0 (f_M_isWord h a0 (some 8))).bind fun v10 => if ¬ v10 = 0 then (some (0 : Int32)) else (some (1 : Int32)))))) else (some (0 : Int32)))))))
set_option maxRecDepth 20000 in
theorem PM_M_isName {l : Launch} {G : Cx} {h : PH} {a0 : Option Nat} {z : Int32} (hz : f_M_isName h a0 = some z) : PM l G 9 0 0 Y_M_isName [.inr (.inr a0)] h (some (.inl z), h) := by
  refine PM.of (Y := Y_M_isName) (cv := (fun z : Int32 => (((some (.inl z), h) : Option PV × PH)))) (by decide) (L0 := [some (.inr (.inr a0))]) 0 rfl (Nat.le_of_ble_eq_true rfl) ?_ hz
  unfold f_M_isName
  refine PJ.aload_n (pc := 0) d_M_isName_0 rfl ?_
  refine PJ.getI (pc := 1) fs_M_80 d_M_isName_1 (fun v1 => ?_)
  refine PJ.iconst (pc := 4) (v := 2) d_M_isName_4 (by decide) ?_
  refine PJ.icmp_ne (pc := 5) (tgt := 53) d_M_isName_5 (by decide) (fun _ => ?_) (fun _ => ?_)
  · refine PJ.iconst (pc := 53) (v := 0) d_M_isName_53 (by decide) ?_
    exact PJ.zretp (pc := 54) d_M_isName_54 rfl rfl (Nat.le_of_ble_eq_true rfl) (Nat.le_of_ble_eq_true rfl)
  · refine PJ.aload_n (pc := 8) d_M_isName_8 rfl ?_
    refine PJ.ldcS (pc := 9) (i := 0) d_M_isName_9 (by decide) (List.mem_of_getElem? (i := 24) rfl) ?_
    refine PJ.cVpI (pc := 11) cs_M_119 (fun z hz => PM_M_isWord hz) (pj_fitb rfl) rfl rfl (Nat.le_of_ble_eq_true rfl) d_M_isName_11 (fun v2 => ?_)
    refine PJ.if_ne (pc := 14) (tgt := 53) d_M_isName_14 (by decide) (fun _ => ?_) (fun _ => ?_)
    · refine PJ.iconst (pc := 53) (v := 0) d_M_isName_53 (by decide) ?_
      exact PJ.zretp (pc := 54) d_M_isName_54 rfl rfl (Nat.le_of_ble_eq_true rfl) (Nat.le_of_ble_eq_true rfl)
    · refine PJ.aload_n (pc := 17) d_M_isName_17 rfl ?_
      refine PJ.ldcS (pc := 18) (i := 1) d_M_isName_18 (by decide) (List.mem_of_getElem? (i := 27) rfl) ?_
      refine PJ.cVpI (pc := 20) cs_M_119 (fun z hz => PM_M_isWord hz) (pj_fitb rfl) rfl rfl (Nat.le_of_ble_eq_true rfl) d_M_isName_20 (fun v3 => ?_)
      refine PJ.if_ne (pc := 23) (tgt := 53) d_M_isName_23 (by decide) (fun _ => ?_) (fun _ => ?_)
      · refine PJ.iconst (pc := 53) (v := 0) d_M_isName_53 (by decide) ?_
        exact PJ.zretp (pc := 54) d_M_isName_54 rfl rfl (Nat.le_of_ble_eq_true rfl) (Nat.le_of_ble_eq_true rfl)
      · refine PJ.aload_n (pc := 26) d_M_isName_26 rfl ?_
        refine PJ.ldcS (pc := 27) (i := 2) d_M_isName_27 (by decide) (List.mem_of_getElem? (i := 28) rfl) ?_
        refine PJ.cVpI (pc := 29) cs_M_119 (fun z hz => PM_M_isWord hz) (pj_fitb rfl) rfl rfl (Nat.le_of_ble_eq_true rfl) d_M_isName_29 (fun v4 => ?_)
        refine PJ.if_ne (pc := 32) (tgt := 53) d_M_isName_32 (by decide) (fun _ => ?_) (fun _ => ?_)
        · refine PJ.iconst (pc := 53) (v := 0) d_M_isName_53 (by decide) ?_
          exact PJ.zretp (pc := 54) d_M_isName_54 rfl rfl (Nat.le_of_ble_eq_true rfl) (Nat.le_of_ble_eq_true rfl)
        · refine PJ.aload_n (pc := 35) d_M_isName_35 rfl ?_
          refine PJ.ldcS (pc := 36) (i := 3) d_M_isName_36 (by decide) (List.mem_of_getElem? (i := 29) rfl) ?_
          refine PJ.cVpI (pc := 38) cs_M_119 (fun z hz => PM_M_isWord hz) (pj_fitb rfl) rfl rfl (Nat.le_of_ble_eq_true rfl) d_M_isName_38 (fun v5 => ?_)
          refine PJ.if_ne (pc := 41) (tgt := 53) d_M_isName_41 (by decide) (fun _ => ?_) (fun _ => ?_)
          · refine PJ.iconst (pc := 53) (v := 0) d_M_isName_53 (by decide) ?_
            exact PJ.zretp (pc := 54) d_M_isName_54 rfl rfl (Nat.le_of_ble_eq_true rfl) (Nat.le_of_ble_eq_true rfl)
          · refine PJ.aload_n (pc := 44) d_M_isName_44 rfl ?_
            refine PJ.ldcS (pc := 45) (i := 4) d_M_isName_45 (by decide) (List.mem_of_getElem? (i := 30) rfl) ?_
            refine PJ.cVpI (pc := 47) cs_M_119 (fun z hz => PM_M_isWord hz) (pj_fitb rfl) rfl rfl (Nat.le_of_ble_eq_true rfl) d_M_isName_47 (fun v6 => ?_)
            refine PJ.if_eq (pc := 50) (tgt := 55) d_M_isName_50 (by decide) (fun _ => ?_) (fun _ => ?_)
            · refine PJ.aload_n (pc := 55) d_M_isName_55 rfl ?_
              refine PJ.ldcS (pc := 56) (i := 5) d_M_isName_56 (by decide) (List.mem_of_getElem? (i := 31) rfl) ?_
              refine PJ.cVpI (pc := 58) cs_M_119 (fun z hz => PM_M_isWord hz) (pj_fitb rfl) rfl rfl (Nat.le_of_ble_eq_true rfl) d_M_isName_58 (fun v7 => ?_)
              refine PJ.if_ne (pc := 61) (tgt := 95) d_M_isName_61 (by decide) (fun _ => ?_) (fun _ => ?_)
              · refine PJ.iconst (pc := 95) (v := 0) d_M_isName_95 (by decide) ?_
                exact PJ.zretp (pc := 96) d_M_isName_96 rfl rfl (Nat.le_of_ble_eq_true rfl) (Nat.le_of_ble_eq_true rfl)
              · refine PJ.aload_n (pc := 64) d_M_isName_64 rfl ?_
                refine PJ.ldcS (pc := 65) (i := 6) d_M_isName_65 (by decide) (List.mem_of_getElem? (i := 32) rfl) ?_
                refine PJ.cVpI (pc := 67) cs_M_119 (fun z hz => PM_M_isWord hz) (pj_fitb rfl) rfl rfl (Nat.le_of_ble_eq_true rfl) d_M_isName_67 (fun v8 => ?_)
                refine PJ.if_ne (pc := 70) (tgt := 95) d_M_isName_70 (by decide) (fun _ => ?_) (fun _ => ?_)
                · refine PJ.iconst (pc := 95) (v := 0) d_M_isName_95 (by decide) ?_
                  exact PJ.zretp (pc := 96) d_M_isName_96 rfl rfl (Nat.le_of_ble_eq_true rfl) (Nat.le_of_ble_eq_true rfl)
                · refine PJ.aload_n (pc := 73) d_M_isName_73 rfl ?_
                  refine PJ.ldcS (pc := 74) (i := 7) d_M_isName_74 (by decide) (List.mem_of_getElem? (i := 33) rfl) ?_
                  refine PJ.cVpI (pc := 76) cs_M_119 (fun z hz => PM_M_isWord hz) (pj_fitb rfl) rfl rfl (Nat.le_of_ble_eq_true rfl) d_M_isName_76 (fun v9 => ?_)
                  refine PJ.if_ne (pc := 79) (tgt := 95) d_M_isName_79 (by decide) (fun _ => ?_) (fun _ => ?_)
                  · refine PJ.iconst (pc := 95) (v := 0) d_M_isName_95 (by decide) ?_
                    exact PJ.zretp (pc := 96) d_M_isName_96 rfl rfl (Nat.le_of_ble_eq_true rfl) (Nat.le_of_ble_eq_true rfl)
                  · refine PJ.aload_n (pc := 82) d_M_isName_82 rfl ?_
                    refine PJ.ldcS (pc := 83) (i := 8) d_M_isName_83 (by decide) (List.mem_of_getElem? (i := 34) rfl) ?_
                    refine PJ.cVpI (pc := 85) cs_M_119 (fun z hz => PM_M_isWord hz) (pj_fitb rfl) rfl rfl (Nat.le_of_ble_eq_true rfl) d_M_isName_85 (fun v10 => ?_)
                    refine PJ.if_ne (pc := 88) (tgt := 95) d_M_isName_88 (by decide) (fun _ => ?_) (fun _ => ?_)
                    · refine PJ.iconst (pc := 95) (v := 0) d_M_isName_95 (by decide) ?_
                      exact PJ.zretp (pc := 96) d_M_isName_96 rfl rfl (Nat.le_of_ble_eq_true rfl) (Nat.le_of_ble_eq_true rfl)
                    · refine PJ.iconst (pc := 91) (v := 1) d_M_isName_91 (by decide) ?_
                      refine PJ.goto (pc := 92) (tgt := 96) d_M_isName_92 (by decide) ?_
                      exact PJ.zretp (pc := 96) d_M_isName_96 rfl rfl (Nat.le_of_ble_eq_true rfl) (Nat.le_of_ble_eq_true rfl)
            · refine PJ.iconst (pc := 53) (v := 0) d_M_isName_53 (by decide) ?_
              exact PJ.zretp (pc := 54) d_M_isName_54 rfl rfl (Nat.le_of_ble_eq_true rfl) (Nat.le_of_ble_eq_true rfl)
theorem d_ML_find_0 : decode Y_ML_find.2.1 0 = .ok (.iconst 0, 1) := by decide +kernel
theorem d_ML_find_1 : decode Y_ML_find.2.1 1 = .ok (.istore_n 3, 1) := by decide +kernel
theorem d_ML_find_2 : decode Y_ML_find.2.1 2 = .ok (.iload_n 3, 1) := by decide +kernel
theorem d_ML_find_3 : decode Y_ML_find.2.1 3 = .ok (.aload_n 0, 1) := by decide +kernel
theorem d_ML_find_4 : decode Y_ML_find.2.1 4 = .ok (.getfield 68, 3) := by decide +kernel
theorem d_ML_find_7 : decode Y_ML_find.2.1 7 = .ok (.if_icmp .ge 22, 3) := by decide +kernel
theorem d_ML_find_10 : decode Y_ML_find.2.1 10 = .ok (.aload_n 0, 1) := by decide +kernel
theorem d_ML_find_11 : decode Y_ML_find.2.1 11 = .ok (.getfield 58, 3) := by decide +kernel
theorem d_ML_find_14 : decode Y_ML_find.2.1 14 = .ok (.iload_n 3, 1) := by decide +kernel
theorem d_ML_find_15 : decode Y_ML_find.2.1 15 = .ok (.laload, 1) := by decide +kernel
theorem d_ML_find_16 : decode Y_ML_find.2.1 16 = .ok (.lload_n 1, 1) := by decide +kernel
theorem d_ML_find_17 : decode Y_ML_find.2.1 17 = .ok (.lcmp, 1) := by decide +kernel
theorem d_ML_find_18 : decode Y_ML_find.2.1 18 = .ok (.ifCond .ne 5, 3) := by decide +kernel
theorem d_ML_find_21 : decode Y_ML_find.2.1 21 = .ok (.iload_n 3, 1) := by decide +kernel
theorem d_ML_find_22 : decode Y_ML_find.2.1 22 = .ok (.ireturn, 1) := by decide +kernel
theorem d_ML_find_23 : decode Y_ML_find.2.1 23 = .ok (.iinc 3 1, 3) := by decide +kernel
theorem d_ML_find_26 : decode Y_ML_find.2.1 26 = .ok (.goto (-24), 3) := by decide +kernel
theorem d_ML_find_29 : decode Y_ML_find.2.1 29 = .ok (.iconst (-1), 1) := by decide +kernel
theorem d_ML_find_30 : decode Y_ML_find.2.1 30 = .ok (.ireturn, 1) := by decide +kernel
def f_ML_find (h : PH) (a0 : Option Nat) (a1 : Int64) : Option Int32 := (pj_it (X := (Unit) ⊕ (Int32)) (fun s1 : Int32 => (gI h 11 a0 9).bind fun v3 => if v3 ≤ s1 then (some (.inr (.inl ()))) else ((gR h 11 a0 24).bind fun v4 => (aL h v4 s1).bind fun v5 => if ¬ (lg_cmp v5 a1) = 0 then (some (.inl (s1 + (1 : Int32)))) else (some (.inr (.inr s1))))) FU (0 : Int32)).bind fun x2 => match x2 with | (.inl yx2_0) => some (-1 : Int32) | (.inr yx2_1) => some yx2_1
set_option maxRecDepth 20000 in
theorem PM_ML_find {l : Launch} {G : Cx} {h : PH} {a0 : Option Nat} {a1 : Int64} {z : Int32} (hz : f_ML_find h a0 a1 = some z) : PM l G 1 0 0 Y_ML_find [.inr (.inr a0), .inr (.inl a1)] h (some (.inl z), h) := by
  refine PM.of (Y := Y_ML_find) (cv := (fun z : Int32 => (((some (.inl z), h) : Option PV × PH)))) (by decide) (L0 := [some (.inr (.inr a0)), some (.inr (.inl a1)), none, none]) 1 rfl (Nat.le_of_ble_eq_true rfl) ?_ hz
  unfold f_ML_find
  refine PJ.iconst (pc := 0) (v := 0) d_ML_find_0 (by decide) ?_
  refine PJ.istore_n (pc := 1) (L1 := [some (.inr (.inr a0)), some (.inr (.inl a1)), none, some (.inl (0 : Int32))]) d_ML_find_1 (Nat.le_of_ble_eq_true rfl) rfl rfl ?_
  refine PJ.bind (fun x2 : (Unit) ⊕ (Int32) => match x2 with | (.inl y0) => ((29 : Nat), ([none, none, none, none] : List (Option PV)), ([] : List PV), (h : PH), (0 : Nat), (0 : Nat)) | (.inr y1) => ((21 : Nat), ([none, none, none, some (.inl y1)] : List (Option PV)), ([] : List PV), (h : PH), (0 : Nat), (0 : Nat))) (PJ.it (E := (fun s1 : Int32 => ((2 : Nat), ([some (.inr (.inr a0)), some (.inr (.inl a1)), none, some (.inl s1)] : List (Option PV)), ([] : List PV), (h : PH), (0 : Nat), (0 : Nat)))) (F := (fun x2 : (Unit) ⊕ (Int32) => match x2 with | (.inl y0) => ((29 : Nat), ([none, none, none, none] : List (Option PV)), ([] : List PV), (h : PH), (0 : Nat), (0 : Nat)) | (.inr y1) => ((21 : Nat), ([none, none, none, some (.inl y1)] : List (Option PV)), ([] : List PV), (h : PH), (0 : Nat), (0 : Nat)))) (fun s1 => ?_) FU (0 : Int32)) (fun x2 => ?_)
  · show PJ l G (pj_rm 1 0 0) Y_ML_find 2 [some (.inr (.inr a0)), some (.inr (.inl a1)), none, some (.inl s1)] [] h 0 0 _ _
    refine PJ.iload_n (pc := 2) d_ML_find_2 rfl ?_
    refine PJ.aload_n (pc := 3) d_ML_find_3 rfl ?_
    refine PJ.getI (pc := 4) fs_ML_68 d_ML_find_4 (fun v3 => ?_)
    refine PJ.icmp_ge (pc := 7) (tgt := 29) d_ML_find_7 (by decide) (fun _ => ?_) (fun _ => ?_)
    · refine PJ.mk (L1 := [none, none, none, none]) [false, false, false, false] rfl ?_
      exact PJ.done rfl
    · refine PJ.aload_n (pc := 10) d_ML_find_10 rfl ?_
      refine PJ.getR (pc := 11) fs_ML_58 d_ML_find_11 (fun v4 => ?_)
      refine PJ.iload_n (pc := 14) d_ML_find_14 rfl ?_
      refine PJ.lald (pc := 15) d_ML_find_15 (fun v5 => ?_)
      refine PJ.lload_n (pc := 16) d_ML_find_16 rfl ?_
      refine PJ.lcmp (pc := 17) d_ML_find_17 ?_
      refine PJ.if_ne (pc := 18) (tgt := 23) d_ML_find_18 (by decide) (fun _ => ?_) (fun _ => ?_)
      · refine PJ.iinc (pc := 23) (v := 1) (L1 := [some (.inr (.inr a0)), some (.inr (.inl a1)), none, some (.inl (s1 + (1 : Int32)))]) d_ML_find_23 rfl (by decide) (Nat.le_of_ble_eq_true rfl) rfl rfl ?_
        refine PJ.goto (pc := 26) (tgt := 2) d_ML_find_26 (by decide) ?_
        exact PJ.done rfl
      · refine PJ.mk (L1 := [none, none, none, some (.inl s1)]) [false, false, false, true] rfl ?_
        exact PJ.done rfl
  · rcases x2 with yx2_0 | yx2_1
    · show PJ l G (pj_rm 1 0 0) Y_ML_find 29 [none, none, none, none] [] h 0 0 _ _
      refine PJ.iconst (pc := 29) (v := -1) d_ML_find_29 (by decide) ?_
      exact PJ.iretp (pc := 30) d_ML_find_30 rfl (Nat.le_of_ble_eq_true rfl) (Nat.le_of_ble_eq_true rfl)
    · show PJ l G (pj_rm 1 0 0) Y_ML_find 21 [none, none, none, some (.inl yx2_1)] [] h 0 0 _ _
      refine PJ.iload_n (pc := 21) d_ML_find_21 rfl ?_
      exact PJ.iretp (pc := 22) d_ML_find_22 rfl (Nat.le_of_ble_eq_true rfl) (Nat.le_of_ble_eq_true rfl)
theorem d_M_readFresh_0 : decode Y_M_readFresh.2.1 0 = .ok (.aload_n 0, 1) := by decide +kernel
theorem d_M_readFresh_1 : decode Y_M_readFresh.2.1 1 = .ok (.invokevirtual 169, 3) := by decide +kernel
theorem d_M_readFresh_4 : decode Y_M_readFresh.2.1 4 = .ok (.ifCond .ne 8, 3) := by decide +kernel
theorem d_M_readFresh_7 : decode Y_M_readFresh.2.1 7 = .ok (.aload_n 0, 1) := by decide +kernel
theorem d_M_readFresh_8 : decode Y_M_readFresh.2.1 8 = .ok (.iconst 1, 1) := by decide +kernel
theorem d_M_readFresh_9 : decode Y_M_readFresh.2.1 9 = .ok (.invokevirtual 123, 3) := by decide +kernel
theorem d_M_readFresh_12 : decode Y_M_readFresh.2.1 12 = .ok (.aload_n 0, 1) := by decide +kernel
theorem d_M_readFresh_13 : decode Y_M_readFresh.2.1 13 = .ok (.getfield 160, 3) := by decide +kernel
theorem d_M_readFresh_16 : decode Y_M_readFresh.2.1 16 = .ok (.aload_n 0, 1) := by decide +kernel
theorem d_M_readFresh_17 : decode Y_M_readFresh.2.1 17 = .ok (.getfield 96, 3) := by decide +kernel
theorem d_M_readFresh_20 : decode Y_M_readFresh.2.1 20 = .ok (.invokevirtual 173, 3) := by decide +kernel
theorem d_M_readFresh_23 : decode Y_M_readFresh.2.1 23 = .ok (.iconst (-1), 1) := by decide +kernel
theorem d_M_readFresh_24 : decode Y_M_readFresh.2.1 24 = .ok (.if_icmp .eq 8, 3) := by decide +kernel
theorem d_M_readFresh_27 : decode Y_M_readFresh.2.1 27 = .ok (.aload_n 0, 1) := by decide +kernel
theorem d_M_readFresh_28 : decode Y_M_readFresh.2.1 28 = .ok (.iconst 3, 1) := by decide +kernel
theorem d_M_readFresh_29 : decode Y_M_readFresh.2.1 29 = .ok (.invokevirtual 123, 3) := by decide +kernel
theorem d_M_readFresh_32 : decode Y_M_readFresh.2.1 32 = .ok (.aload_n 0, 1) := by decide +kernel
theorem d_M_readFresh_33 : decode Y_M_readFresh.2.1 33 = .ok (.getfield 96, 3) := by decide +kernel
theorem d_M_readFresh_36 : decode Y_M_readFresh.2.1 36 = .ok (.lstore_n 1, 1) := by decide +kernel
theorem d_M_readFresh_37 : decode Y_M_readFresh.2.1 37 = .ok (.aload_n 0, 1) := by decide +kernel
theorem d_M_readFresh_38 : decode Y_M_readFresh.2.1 38 = .ok (.invokevirtual 116, 3) := by decide +kernel
theorem d_M_readFresh_41 : decode Y_M_readFresh.2.1 41 = .ok (.lload_n 1, 1) := by decide +kernel
theorem d_M_readFresh_42 : decode Y_M_readFresh.2.1 42 = .ok (.lreturn, 1) := by decide +kernel
def f_M_readFresh (h : PH) (a0 : Option Nat) : Option (Int64 × PH) := (cl h 12 a0 (f_M_isName h a0)).bind fun v1 => (if ¬ v1 = 0 then (some h) else ((cl h 12 a0 (f_M_flaw h a0 (1 : Int32))).bind fun h3 => some h3) : Option (PH)).bind fun j2 => (gR j2 12 a0 4).bind fun v4 => (gL j2 12 a0 14).bind fun v5 => (cl j2 11 v4 (f_ML_find j2 v4 v5)).bind fun v6 => (if v6 = (-1 : Int32) then (some j2) else ((cl j2 12 a0 (f_M_flaw j2 a0 (3 : Int32))).bind fun h8 => some h8) : Option (PH)).bind fun j7 => (gL j7 12 a0 14).bind fun v9 => (cl j7 12 a0 (f_M_goesOn j7 a0)).bind fun h10 => some (v9, h10)
set_option maxRecDepth 20000 in
theorem PM_M_readFresh {l : Launch} {G : Cx} {h : PH} {a0 : Option Nat} {z : (Int64 × PH)} (hz : f_M_readFresh h a0 = some z) : PM l G 10 0 0 Y_M_readFresh [.inr (.inr a0)] h (some (.inr (.inl z.1)), z.2) := by
  refine PM.of (Y := Y_M_readFresh) (cv := (fun z : (Int64 × PH) => (((some (.inr (.inl z.1)), z.2) : Option PV × PH)))) (by decide) (L0 := [some (.inr (.inr a0)), none, none]) 2 rfl (Nat.le_of_ble_eq_true rfl) ?_ hz
  unfold f_M_readFresh
  refine PJ.aload_n (pc := 0) d_M_readFresh_0 rfl ?_
  refine PJ.cVpI (pc := 1) cs_M_169 (fun z hz => PM_M_isName hz) (pj_fitb rfl) rfl rfl (Nat.le_of_ble_eq_true rfl) d_M_readFresh_1 (fun v1 => ?_)
  refine PJ.bind (fun j2 : PH => ((12 : Nat), ([some (.inr (.inr a0)), none, none] : List (Option PV)), ([] : List PV), (j2 : PH), (0 : Nat), (0 : Nat))) ?_ (fun j2 => ?_)
  · refine PJ.if_ne (pc := 4) (tgt := 12) d_M_readFresh_4 (by decide) (fun _ => ?_) (fun _ => ?_)
    · exact PJ.done rfl
    · refine PJ.aload_n (pc := 7) d_M_readFresh_7 rfl ?_
      refine PJ.iconst (pc := 8) (v := 1) d_M_readFresh_8 (by decide) ?_
      refine PJ.cVV (pc := 9) cs_M_123 (fun z hz => PM_M_flaw hz) (pj_fitb rfl) rfl rfl (Nat.le_of_ble_eq_true rfl) d_M_readFresh_9 (fun h3 => ?_)
      exact PJ.done rfl
  · show PJ l G (pj_rm 10 0 0) Y_M_readFresh 12 [some (.inr (.inr a0)), none, none] [] j2 0 0 _ _
    refine PJ.aload_n (pc := 12) d_M_readFresh_12 rfl ?_
    refine PJ.getR (pc := 13) fs_M_160 d_M_readFresh_13 (fun v4 => ?_)
    refine PJ.aload_n (pc := 16) d_M_readFresh_16 rfl ?_
    refine PJ.getL (pc := 17) fs_M_96 d_M_readFresh_17 (fun v5 => ?_)
    refine PJ.cVpI (pc := 20) cs_M_173 (fun z hz => PM_ML_find hz) (pj_fitb rfl) rfl rfl (Nat.le_of_ble_eq_true rfl) d_M_readFresh_20 (fun v6 => ?_)
    refine PJ.iconst (pc := 23) (v := -1) d_M_readFresh_23 (by decide) ?_
    refine PJ.bind (fun j7 : PH => ((32 : Nat), ([some (.inr (.inr a0)), none, none] : List (Option PV)), ([] : List PV), (j7 : PH), (0 : Nat), (0 : Nat))) ?_ (fun j7 => ?_)
    · refine PJ.icmp_eq (pc := 24) (tgt := 32) d_M_readFresh_24 (by decide) (fun _ => ?_) (fun _ => ?_)
      · exact PJ.done rfl
      · refine PJ.aload_n (pc := 27) d_M_readFresh_27 rfl ?_
        refine PJ.iconst (pc := 28) (v := 3) d_M_readFresh_28 (by decide) ?_
        refine PJ.cVV (pc := 29) cs_M_123 (fun z hz => PM_M_flaw hz) (pj_fitb rfl) rfl rfl (Nat.le_of_ble_eq_true rfl) d_M_readFresh_29 (fun h8 => ?_)
        exact PJ.done rfl
    · show PJ l G (pj_rm 10 0 0) Y_M_readFresh 32 [some (.inr (.inr a0)), none, none] [] j7 0 0 _ _
      refine PJ.aload_n (pc := 32) d_M_readFresh_32 rfl ?_
      refine PJ.getL (pc := 33) fs_M_96 d_M_readFresh_33 (fun v9 => ?_)
      refine PJ.lstore_n (pc := 36) (L1 := [some (.inr (.inr a0)), some (.inr (.inl v9)), none]) d_M_readFresh_36 (Nat.le_of_ble_eq_true rfl) rfl rfl ?_
      refine PJ.aload_n (pc := 37) d_M_readFresh_37 rfl ?_
      refine PJ.cVV (pc := 38) cs_M_116 (fun z hz => PM_M_goesOn hz) (pj_fitb rfl) rfl rfl (Nat.le_of_ble_eq_true rfl) d_M_readFresh_38 (fun h10 => ?_)
      refine PJ.lload_n (pc := 41) d_M_readFresh_41 rfl ?_
      exact PJ.lret (pc := 42) d_M_readFresh_42 rfl (Nat.le_of_ble_eq_true rfl) (Nat.le_of_ble_eq_true rfl)
theorem d_M_names_0 : decode Y_M_names.2.1 0 = .ok (.aload_n 0, 1) := by decide +kernel
theorem d_M_names_1 : decode Y_M_names.2.1 1 = .ok (.getfield 160, 3) := by decide +kernel
theorem d_M_names_4 : decode Y_M_names.2.1 4 = .ok (.getfield 177, 3) := by decide +kernel
theorem d_M_names_7 : decode Y_M_names.2.1 7 = .ok (.aload_n 0, 1) := by decide +kernel
theorem d_M_names_8 : decode Y_M_names.2.1 8 = .ok (.getfield 160, 3) := by decide +kernel
theorem d_M_names_11 : decode Y_M_names.2.1 11 = .ok (.getfield 180, 3) := by decide +kernel
theorem d_M_names_14 : decode Y_M_names.2.1 14 = .ok (.lload_n 1, 1) := by decide +kernel
theorem d_M_names_15 : decode Y_M_names.2.1 15 = .ok (.lastore, 1) := by decide +kernel
theorem d_M_names_16 : decode Y_M_names.2.1 16 = .ok (.aload_n 0, 1) := by decide +kernel
theorem d_M_names_17 : decode Y_M_names.2.1 17 = .ok (.getfield 160, 3) := by decide +kernel
theorem d_M_names_20 : decode Y_M_names.2.1 20 = .ok (.getfield 183, 3) := by decide +kernel
theorem d_M_names_23 : decode Y_M_names.2.1 23 = .ok (.aload_n 0, 1) := by decide +kernel
theorem d_M_names_24 : decode Y_M_names.2.1 24 = .ok (.getfield 160, 3) := by decide +kernel
theorem d_M_names_27 : decode Y_M_names.2.1 27 = .ok (.getfield 180, 3) := by decide +kernel
theorem d_M_names_30 : decode Y_M_names.2.1 30 = .ok (.iload_n 3, 1) := by decide +kernel
theorem d_M_names_31 : decode Y_M_names.2.1 31 = .ok (.iastore, 1) := by decide +kernel
theorem d_M_names_32 : decode Y_M_names.2.1 32 = .ok (.aload_n 0, 1) := by decide +kernel
theorem d_M_names_33 : decode Y_M_names.2.1 33 = .ok (.getfield 160, 3) := by decide +kernel
theorem d_M_names_36 : decode Y_M_names.2.1 36 = .ok (.getfield 186, 3) := by decide +kernel
theorem d_M_names_39 : decode Y_M_names.2.1 39 = .ok (.aload_n 0, 1) := by decide +kernel
theorem d_M_names_40 : decode Y_M_names.2.1 40 = .ok (.getfield 160, 3) := by decide +kernel
theorem d_M_names_43 : decode Y_M_names.2.1 43 = .ok (.getfield 180, 3) := by decide +kernel
theorem d_M_names_46 : decode Y_M_names.2.1 46 = .ok (.iload 4, 2) := by decide +kernel
theorem d_M_names_48 : decode Y_M_names.2.1 48 = .ok (.iastore, 1) := by decide +kernel
theorem d_M_names_49 : decode Y_M_names.2.1 49 = .ok (.aload_n 0, 1) := by decide +kernel
theorem d_M_names_50 : decode Y_M_names.2.1 50 = .ok (.getfield 160, 3) := by decide +kernel
theorem d_M_names_53 : decode Y_M_names.2.1 53 = .ok (.dup, 1) := by decide +kernel
theorem d_M_names_54 : decode Y_M_names.2.1 54 = .ok (.getfield 180, 3) := by decide +kernel
theorem d_M_names_57 : decode Y_M_names.2.1 57 = .ok (.iconst 1, 1) := by decide +kernel
theorem d_M_names_58 : decode Y_M_names.2.1 58 = .ok (.iadd, 1) := by decide +kernel
theorem d_M_names_59 : decode Y_M_names.2.1 59 = .ok (.putfield 180, 3) := by decide +kernel
theorem d_M_names_62 : decode Y_M_names.2.1 62 = .ok (.return_, 1) := by decide +kernel
def f_M_names (h : PH) (a0 : Option Nat) (a1 : Int64) (a2 : Int32) (a3 : Int32) : Option PH := (gR h 12 a0 4).bind fun v1 => (gR h 11 v1 24).bind fun v2 => (gR h 12 a0 4).bind fun v3 => (gI h 11 v3 9).bind fun v4 => (sA h 51 v2 v4 (.inr (.inl a1))).bind fun h5 => (gR h5 12 a0 4).bind fun v6 => (gR h5 11 v6 25).bind fun v7 => (gR h5 12 a0 4).bind fun v8 => (gI h5 11 v8 9).bind fun v9 => (sA h5 50 v7 v9 (.inl a2)).bind fun h10 => (gR h10 12 a0 4).bind fun v11 => (gR h10 11 v11 26).bind fun v12 => (gR h10 12 a0 4).bind fun v13 => (gI h10 11 v13 9).bind fun v14 => (sA h10 50 v12 v14 (.inl a3)).bind fun h15 => (gR h15 12 a0 4).bind fun v16 => (gI h15 11 v16 9).bind fun v17 => (sF h15 11 v16 9 (.inl (v17 + (1 : Int32)))).bind fun h18 => some h18
set_option maxRecDepth 20000 in
theorem PM_M_names {l : Launch} {G : Cx} {h : PH} {a0 : Option Nat} {a1 : Int64} {a2 : Int32} {a3 : Int32} {z : PH} (hz : f_M_names h a0 a1 a2 a3 = some z) : PM l G 1 0 0 Y_M_names [.inr (.inr a0), .inr (.inl a1), .inl a2, .inl a3] h (none, z) := by
  refine PM.of (Y := Y_M_names) (cv := (fun z : PH => (((none, z) : Option PV × PH)))) (by decide) (L0 := [some (.inr (.inr a0)), some (.inr (.inl a1)), none, some (.inl a2), some (.inl a3)]) 0 rfl (Nat.le_of_ble_eq_true rfl) ?_ hz
  unfold f_M_names
  refine PJ.aload_n (pc := 0) d_M_names_0 rfl ?_
  refine PJ.getR (pc := 1) fs_M_160 d_M_names_1 (fun v1 => ?_)
  refine PJ.getR (pc := 4) fs_M_177 d_M_names_4 (fun v2 => ?_)
  refine PJ.aload_n (pc := 7) d_M_names_7 rfl ?_
  refine PJ.getR (pc := 8) fs_M_160 d_M_names_8 (fun v3 => ?_)
  refine PJ.getI (pc := 11) fs_M_180 d_M_names_11 (fun v4 => ?_)
  refine PJ.lload_n (pc := 14) d_M_names_14 rfl ?_
  refine PJ.last (pc := 15) d_M_names_15 (fun h5 => ?_)
  refine PJ.aload_n (pc := 16) d_M_names_16 rfl ?_
  refine PJ.getR (pc := 17) fs_M_160 d_M_names_17 (fun v6 => ?_)
  refine PJ.getR (pc := 20) fs_M_183 d_M_names_20 (fun v7 => ?_)
  refine PJ.aload_n (pc := 23) d_M_names_23 rfl ?_
  refine PJ.getR (pc := 24) fs_M_160 d_M_names_24 (fun v8 => ?_)
  refine PJ.getI (pc := 27) fs_M_180 d_M_names_27 (fun v9 => ?_)
  refine PJ.iload_n (pc := 30) d_M_names_30 rfl ?_
  refine PJ.iast (pc := 31) d_M_names_31 (fun h10 => ?_)
  refine PJ.aload_n (pc := 32) d_M_names_32 rfl ?_
  refine PJ.getR (pc := 33) fs_M_160 d_M_names_33 (fun v11 => ?_)
  refine PJ.getR (pc := 36) fs_M_186 d_M_names_36 (fun v12 => ?_)
  refine PJ.aload_n (pc := 39) d_M_names_39 rfl ?_
  refine PJ.getR (pc := 40) fs_M_160 d_M_names_40 (fun v13 => ?_)
  refine PJ.getI (pc := 43) fs_M_180 d_M_names_43 (fun v14 => ?_)
  refine PJ.iload (pc := 46) d_M_names_46 rfl ?_
  refine PJ.iast (pc := 48) d_M_names_48 (fun h15 => ?_)
  refine PJ.aload_n (pc := 49) d_M_names_49 rfl ?_
  refine PJ.getR (pc := 50) fs_M_160 d_M_names_50 (fun v16 => ?_)
  refine PJ.dup (pc := 53) d_M_names_53 rfl ?_
  refine PJ.getI (pc := 54) fs_M_180 d_M_names_54 (fun v17 => ?_)
  refine PJ.iconst (pc := 57) (v := 1) d_M_names_57 (by decide) ?_
  refine PJ.iadd (pc := 58) d_M_names_58 ?_
  refine PJ.putI (pc := 59) ps_M_180 d_M_names_59 (fun h18 => ?_)
  exact PJ.vret (pc := 62) d_M_names_62 rfl (Nat.le_of_ble_eq_true rfl) (Nat.le_of_ble_eq_true rfl)
theorem d_M_readChoice_0 : decode Y_M_readChoice.2.1 0 = .ok (.aload_n 0, 1) := by decide +kernel
theorem d_M_readChoice_1 : decode Y_M_readChoice.2.1 1 = .ok (.aload_n 0, 1) := by decide +kernel
theorem d_M_readChoice_2 : decode Y_M_readChoice.2.1 2 = .ok (.getfield 160, 3) := by decide +kernel
theorem d_M_readChoice_5 : decode Y_M_readChoice.2.1 5 = .ok (.getfield 198, 3) := by decide +kernel
theorem d_M_readChoice_8 : decode Y_M_readChoice.2.1 8 = .ok (.iconst 5, 1) := by decide +kernel
theorem d_M_readChoice_9 : decode Y_M_readChoice.2.1 9 = .ok (.invokevirtual 237, 3) := by decide +kernel
theorem d_M_readChoice_12 : decode Y_M_readChoice.2.1 12 = .ok (.aload_n 0, 1) := by decide +kernel
theorem d_M_readChoice_13 : decode Y_M_readChoice.2.1 13 = .ok (.invokevirtual 241, 3) := by decide +kernel
theorem d_M_readChoice_16 : decode Y_M_readChoice.2.1 16 = .ok (.lstore_n 1, 1) := by decide +kernel
theorem d_M_readChoice_17 : decode Y_M_readChoice.2.1 17 = .ok (.aload_n 0, 1) := by decide +kernel
theorem d_M_readChoice_18 : decode Y_M_readChoice.2.1 18 = .ok (.getfield 80, 3) := by decide +kernel
theorem d_M_readChoice_21 : decode Y_M_readChoice.2.1 21 = .ok (.iconst 5, 1) := by decide +kernel
theorem d_M_readChoice_22 : decode Y_M_readChoice.2.1 22 = .ok (.if_icmp .ne 4, 3) := by decide +kernel
theorem d_M_readChoice_25 : decode Y_M_readChoice.2.1 25 = .ok (.return_, 1) := by decide +kernel
theorem d_M_readChoice_26 : decode Y_M_readChoice.2.1 26 = .ok (.aload_n 0, 1) := by decide +kernel
theorem d_M_readChoice_27 : decode Y_M_readChoice.2.1 27 = .ok (.lload_n 1, 1) := by decide +kernel
theorem d_M_readChoice_28 : decode Y_M_readChoice.2.1 28 = .ok (.iconst 0, 1) := by decide +kernel
theorem d_M_readChoice_29 : decode Y_M_readChoice.2.1 29 = .ok (.aload_n 0, 1) := by decide +kernel
theorem d_M_readChoice_30 : decode Y_M_readChoice.2.1 30 = .ok (.getfield 160, 3) := by decide +kernel
theorem d_M_readChoice_33 : decode Y_M_readChoice.2.1 33 = .ok (.getfield 198, 3) := by decide +kernel
theorem d_M_readChoice_36 : decode Y_M_readChoice.2.1 36 = .ok (.invokevirtual 245, 3) := by decide +kernel
theorem d_M_readChoice_39 : decode Y_M_readChoice.2.1 39 = .ok (.aload_n 0, 1) := by decide +kernel
theorem d_M_readChoice_40 : decode Y_M_readChoice.2.1 40 = .ok (.getfield 160, 3) := by decide +kernel
theorem d_M_readChoice_43 : decode Y_M_readChoice.2.1 43 = .ok (.dup, 1) := by decide +kernel
theorem d_M_readChoice_44 : decode Y_M_readChoice.2.1 44 = .ok (.getfield 198, 3) := by decide +kernel
theorem d_M_readChoice_47 : decode Y_M_readChoice.2.1 47 = .ok (.iconst 1, 1) := by decide +kernel
theorem d_M_readChoice_48 : decode Y_M_readChoice.2.1 48 = .ok (.iadd, 1) := by decide +kernel
theorem d_M_readChoice_49 : decode Y_M_readChoice.2.1 49 = .ok (.putfield 198, 3) := by decide +kernel
theorem d_M_readChoice_52 : decode Y_M_readChoice.2.1 52 = .ok (.return_, 1) := by decide +kernel
def f_M_readChoice (h : PH) (a0 : Option Nat) : Option PH := (gR h 12 a0 4).bind fun v1 => (gI h 11 v1 2).bind fun v2 => (cl h 12 a0 (f_M_lineBegins h a0 v2 (5 : Int32))).bind fun h3 => (cl h3 12 a0 (f_M_readFresh h3 a0)).bind fun v4 => (gI v4.2 12 a0 9).bind fun v5 => if ¬ v5 = (5 : Int32) then ((gR v4.2 12 a0 4).bind fun v6 => (gI v4.2 11 v6 2).bind fun v7 => (cl v4.2 12 a0 (f_M_names v4.2 a0 v4.1 (0 : Int32) v7)).bind fun h8 => (gR h8 12 a0 4).bind fun v9 => (gI h8 11 v9 2).bind fun v10 => (sF h8 11 v9 2 (.inl (v10 + (1 : Int32)))).bind fun h11 => some h11) else (some v4.2)
set_option maxRecDepth 20000 in
theorem PM_M_readChoice {l : Launch} {G : Cx} {h : PH} {a0 : Option Nat} {z : PH} (hz : f_M_readChoice h a0 = some z) : PM l G 11 0 0 Y_M_readChoice [.inr (.inr a0)] h (none, z) := by
  refine PM.of (Y := Y_M_readChoice) (cv := (fun z : PH => (((none, z) : Option PV × PH)))) (by decide) (L0 := [some (.inr (.inr a0)), none, none]) 2 rfl (Nat.le_of_ble_eq_true rfl) ?_ hz
  unfold f_M_readChoice
  refine PJ.aload_n (pc := 0) d_M_readChoice_0 rfl ?_
  refine PJ.aload_n (pc := 1) d_M_readChoice_1 rfl ?_
  refine PJ.getR (pc := 2) fs_M_160 d_M_readChoice_2 (fun v1 => ?_)
  refine PJ.getI (pc := 5) fs_M_198 d_M_readChoice_5 (fun v2 => ?_)
  refine PJ.iconst (pc := 8) (v := 5) d_M_readChoice_8 (by decide) ?_
  refine PJ.cVV (pc := 9) cs_M_237 (fun z hz => PM_M_lineBegins hz) (pj_fitb rfl) rfl rfl (Nat.le_of_ble_eq_true rfl) d_M_readChoice_9 (fun h3 => ?_)
  refine PJ.aload_n (pc := 12) d_M_readChoice_12 rfl ?_
  refine PJ.cVL (pc := 13) cs_M_241 (fun z hz => PM_M_readFresh hz) (pj_fitb rfl) rfl rfl (Nat.le_of_ble_eq_true rfl) d_M_readChoice_13 (fun v4 => ?_)
  refine PJ.lstore_n (pc := 16) (L1 := [some (.inr (.inr a0)), some (.inr (.inl v4.1)), none]) d_M_readChoice_16 (Nat.le_of_ble_eq_true rfl) rfl rfl ?_
  refine PJ.aload_n (pc := 17) d_M_readChoice_17 rfl ?_
  refine PJ.getI (pc := 18) fs_M_80 d_M_readChoice_18 (fun v5 => ?_)
  refine PJ.iconst (pc := 21) (v := 5) d_M_readChoice_21 (by decide) ?_
  refine PJ.icmp_ne (pc := 22) (tgt := 26) d_M_readChoice_22 (by decide) (fun _ => ?_) (fun _ => ?_)
  · refine PJ.aload_n (pc := 26) d_M_readChoice_26 rfl ?_
    refine PJ.lload_n (pc := 27) d_M_readChoice_27 rfl ?_
    refine PJ.iconst (pc := 28) (v := 0) d_M_readChoice_28 (by decide) ?_
    refine PJ.aload_n (pc := 29) d_M_readChoice_29 rfl ?_
    refine PJ.getR (pc := 30) fs_M_160 d_M_readChoice_30 (fun v6 => ?_)
    refine PJ.getI (pc := 33) fs_M_198 d_M_readChoice_33 (fun v7 => ?_)
    refine PJ.cVV (pc := 36) cs_M_245 (fun z hz => PM_M_names hz) (pj_fitb rfl) rfl rfl (Nat.le_of_ble_eq_true rfl) d_M_readChoice_36 (fun h8 => ?_)
    refine PJ.aload_n (pc := 39) d_M_readChoice_39 rfl ?_
    refine PJ.getR (pc := 40) fs_M_160 d_M_readChoice_40 (fun v9 => ?_)
    refine PJ.dup (pc := 43) d_M_readChoice_43 rfl ?_
    refine PJ.getI (pc := 44) fs_M_198 d_M_readChoice_44 (fun v10 => ?_)
    refine PJ.iconst (pc := 47) (v := 1) d_M_readChoice_47 (by decide) ?_
    refine PJ.iadd (pc := 48) d_M_readChoice_48 ?_
    refine PJ.putI (pc := 49) ps_M_198 d_M_readChoice_49 (fun h11 => ?_)
    exact PJ.vret (pc := 52) d_M_readChoice_52 rfl (Nat.le_of_ble_eq_true rfl) (Nat.le_of_ble_eq_true rfl)
  · exact PJ.vret (pc := 25) d_M_readChoice_25 rfl (Nat.le_of_ble_eq_true rfl) (Nat.le_of_ble_eq_true rfl)
theorem d_M_knownOne_0 : decode Y_M_knownOne.2.1 0 = .ok (.aload_n 0, 1) := by decide +kernel
theorem d_M_knownOne_1 : decode Y_M_knownOne.2.1 1 = .ok (.invokevirtual 169, 3) := by decide +kernel
theorem d_M_knownOne_4 : decode Y_M_knownOne.2.1 4 = .ok (.ifCond .ne 8, 3) := by decide +kernel
theorem d_M_knownOne_7 : decode Y_M_knownOne.2.1 7 = .ok (.aload_n 0, 1) := by decide +kernel
theorem d_M_knownOne_8 : decode Y_M_knownOne.2.1 8 = .ok (.iconst 1, 1) := by decide +kernel
theorem d_M_knownOne_9 : decode Y_M_knownOne.2.1 9 = .ok (.invokevirtual 123, 3) := by decide +kernel
theorem d_M_knownOne_12 : decode Y_M_knownOne.2.1 12 = .ok (.aload_n 0, 1) := by decide +kernel
theorem d_M_knownOne_13 : decode Y_M_knownOne.2.1 13 = .ok (.getfield 160, 3) := by decide +kernel
theorem d_M_knownOne_16 : decode Y_M_knownOne.2.1 16 = .ok (.aload_n 0, 1) := by decide +kernel
theorem d_M_knownOne_17 : decode Y_M_knownOne.2.1 17 = .ok (.getfield 96, 3) := by decide +kernel
theorem d_M_knownOne_20 : decode Y_M_knownOne.2.1 20 = .ok (.invokevirtual 173, 3) := by decide +kernel
theorem d_M_knownOne_23 : decode Y_M_knownOne.2.1 23 = .ok (.istore_n 2, 1) := by decide +kernel
theorem d_M_knownOne_24 : decode Y_M_knownOne.2.1 24 = .ok (.iload_n 2, 1) := by decide +kernel
theorem d_M_knownOne_25 : decode Y_M_knownOne.2.1 25 = .ok (.iconst (-1), 1) := by decide +kernel
theorem d_M_knownOne_26 : decode Y_M_knownOne.2.1 26 = .ok (.if_icmp .eq 16, 3) := by decide +kernel
theorem d_M_knownOne_29 : decode Y_M_knownOne.2.1 29 = .ok (.aload_n 0, 1) := by decide +kernel
theorem d_M_knownOne_30 : decode Y_M_knownOne.2.1 30 = .ok (.getfield 160, 3) := by decide +kernel
theorem d_M_knownOne_33 : decode Y_M_knownOne.2.1 33 = .ok (.getfield 183, 3) := by decide +kernel
theorem d_M_knownOne_36 : decode Y_M_knownOne.2.1 36 = .ok (.iload_n 2, 1) := by decide +kernel
theorem d_M_knownOne_37 : decode Y_M_knownOne.2.1 37 = .ok (.iaload, 1) := by decide +kernel
theorem d_M_knownOne_38 : decode Y_M_knownOne.2.1 38 = .ok (.iload_n 1, 1) := by decide +kernel
theorem d_M_knownOne_39 : decode Y_M_knownOne.2.1 39 = .ok (.if_icmp .eq 8, 3) := by decide +kernel
theorem d_M_knownOne_42 : decode Y_M_knownOne.2.1 42 = .ok (.aload_n 0, 1) := by decide +kernel
theorem d_M_knownOne_43 : decode Y_M_knownOne.2.1 43 = .ok (.iconst 2, 1) := by decide +kernel
theorem d_M_knownOne_44 : decode Y_M_knownOne.2.1 44 = .ok (.invokevirtual 123, 3) := by decide +kernel
theorem d_M_knownOne_47 : decode Y_M_knownOne.2.1 47 = .ok (.aload_n 0, 1) := by decide +kernel
theorem d_M_knownOne_48 : decode Y_M_knownOne.2.1 48 = .ok (.getfield 80, 3) := by decide +kernel
theorem d_M_knownOne_51 : decode Y_M_knownOne.2.1 51 = .ok (.iconst 5, 1) := by decide +kernel
theorem d_M_knownOne_52 : decode Y_M_knownOne.2.1 52 = .ok (.if_icmp .ne 7, 3) := by decide +kernel
theorem d_M_knownOne_55 : decode Y_M_knownOne.2.1 55 = .ok (.iconst 0, 1) := by decide +kernel
theorem d_M_knownOne_56 : decode Y_M_knownOne.2.1 56 = .ok (.goto 12, 3) := by decide +kernel
theorem d_M_knownOne_59 : decode Y_M_knownOne.2.1 59 = .ok (.aload_n 0, 1) := by decide +kernel
theorem d_M_knownOne_60 : decode Y_M_knownOne.2.1 60 = .ok (.getfield 160, 3) := by decide +kernel
theorem d_M_knownOne_63 : decode Y_M_knownOne.2.1 63 = .ok (.getfield 186, 3) := by decide +kernel
theorem d_M_knownOne_66 : decode Y_M_knownOne.2.1 66 = .ok (.iload_n 2, 1) := by decide +kernel
theorem d_M_knownOne_67 : decode Y_M_knownOne.2.1 67 = .ok (.iaload, 1) := by decide +kernel
theorem d_M_knownOne_68 : decode Y_M_knownOne.2.1 68 = .ok (.ireturn, 1) := by decide +kernel
def f_M_knownOne (h : PH) (a0 : Option Nat) (a1 : Int32) : Option (Int32 × PH) := (cl h 12 a0 (f_M_isName h a0)).bind fun v1 => (if ¬ v1 = 0 then (some h) else ((cl h 12 a0 (f_M_flaw h a0 (1 : Int32))).bind fun h3 => some h3) : Option (PH)).bind fun j2 => (gR j2 12 a0 4).bind fun v4 => (gL j2 12 a0 14).bind fun v5 => (cl j2 11 v4 (f_ML_find j2 v4 v5)).bind fun v6 => (if v6 = (-1 : Int32) then ((cl j2 12 a0 (f_M_flaw j2 a0 (2 : Int32))).bind fun h8 => some h8) else ((gR j2 12 a0 4).bind fun v9 => (gR j2 11 v9 25).bind fun v10 => (aI j2 v10 v6).bind fun v11 => if v11 = a1 then (some j2) else ((cl j2 12 a0 (f_M_flaw j2 a0 (2 : Int32))).bind fun h12 => some h12)) : Option (PH)).bind fun j7 => (gI j7 12 a0 9).bind fun v13 => if ¬ v13 = (5 : Int32) then ((gR j7 12 a0 4).bind fun v14 => (gR j7 11 v14 26).bind fun v15 => (aI j7 v15 v6).bind fun v16 => some (v16, j7)) else (some ((0 : Int32), j7))
set_option maxRecDepth 20000 in
theorem PM_M_knownOne {l : Launch} {G : Cx} {h : PH} {a0 : Option Nat} {a1 : Int32} {z : (Int32 × PH)} (hz : f_M_knownOne h a0 a1 = some z) : PM l G 10 0 0 Y_M_knownOne [.inr (.inr a0), .inl a1] h (some (.inl z.1), z.2) := by
  refine PM.of (Y := Y_M_knownOne) (cv := (fun z : (Int32 × PH) => (((some (.inl z.1), z.2) : Option PV × PH)))) (by decide) (L0 := [some (.inr (.inr a0)), some (.inl a1), none]) 1 rfl (Nat.le_of_ble_eq_true rfl) ?_ hz
  unfold f_M_knownOne
  refine PJ.aload_n (pc := 0) d_M_knownOne_0 rfl ?_
  refine PJ.cVpI (pc := 1) cs_M_169 (fun z hz => PM_M_isName hz) (pj_fitb rfl) rfl rfl (Nat.le_of_ble_eq_true rfl) d_M_knownOne_1 (fun v1 => ?_)
  refine PJ.bind (fun j2 : PH => ((12 : Nat), ([some (.inr (.inr a0)), some (.inl a1), none] : List (Option PV)), ([] : List PV), (j2 : PH), (0 : Nat), (0 : Nat))) ?_ (fun j2 => ?_)
  · refine PJ.if_ne (pc := 4) (tgt := 12) d_M_knownOne_4 (by decide) (fun _ => ?_) (fun _ => ?_)
    · exact PJ.done rfl
    · refine PJ.aload_n (pc := 7) d_M_knownOne_7 rfl ?_
      refine PJ.iconst (pc := 8) (v := 1) d_M_knownOne_8 (by decide) ?_
      refine PJ.cVV (pc := 9) cs_M_123 (fun z hz => PM_M_flaw hz) (pj_fitb rfl) rfl rfl (Nat.le_of_ble_eq_true rfl) d_M_knownOne_9 (fun h3 => ?_)
      exact PJ.done rfl
  · show PJ l G (pj_rm 10 0 0) Y_M_knownOne 12 [some (.inr (.inr a0)), some (.inl a1), none] [] j2 0 0 _ _
    refine PJ.aload_n (pc := 12) d_M_knownOne_12 rfl ?_
    refine PJ.getR (pc := 13) fs_M_160 d_M_knownOne_13 (fun v4 => ?_)
    refine PJ.aload_n (pc := 16) d_M_knownOne_16 rfl ?_
    refine PJ.getL (pc := 17) fs_M_96 d_M_knownOne_17 (fun v5 => ?_)
    refine PJ.cVpI (pc := 20) cs_M_173 (fun z hz => PM_ML_find hz) (pj_fitb rfl) rfl rfl (Nat.le_of_ble_eq_true rfl) d_M_knownOne_20 (fun v6 => ?_)
    refine PJ.istore_n (pc := 23) (L1 := [some (.inr (.inr a0)), some (.inl a1), some (.inl v6)]) d_M_knownOne_23 (Nat.le_of_ble_eq_true rfl) rfl rfl ?_
    refine PJ.iload_n (pc := 24) d_M_knownOne_24 rfl ?_
    refine PJ.iconst (pc := 25) (v := -1) d_M_knownOne_25 (by decide) ?_
    refine PJ.bind (fun j7 : PH => ((47 : Nat), ([some (.inr (.inr a0)), none, some (.inl v6)] : List (Option PV)), ([] : List PV), (j7 : PH), (0 : Nat), (0 : Nat))) ?_ (fun j7 => ?_)
    · refine PJ.icmp_eq (pc := 26) (tgt := 42) d_M_knownOne_26 (by decide) (fun _ => ?_) (fun _ => ?_)
      · refine PJ.aload_n (pc := 42) d_M_knownOne_42 rfl ?_
        refine PJ.iconst (pc := 43) (v := 2) d_M_knownOne_43 (by decide) ?_
        refine PJ.cVV (pc := 44) cs_M_123 (fun z hz => PM_M_flaw hz) (pj_fitb rfl) rfl rfl (Nat.le_of_ble_eq_true rfl) d_M_knownOne_44 (fun h8 => ?_)
        refine PJ.mk (L1 := [some (.inr (.inr a0)), none, some (.inl v6)]) [true, false, true] rfl ?_
        exact PJ.done rfl
      · refine PJ.aload_n (pc := 29) d_M_knownOne_29 rfl ?_
        refine PJ.getR (pc := 30) fs_M_160 d_M_knownOne_30 (fun v9 => ?_)
        refine PJ.getR (pc := 33) fs_M_183 d_M_knownOne_33 (fun v10 => ?_)
        refine PJ.iload_n (pc := 36) d_M_knownOne_36 rfl ?_
        refine PJ.iald (pc := 37) d_M_knownOne_37 (fun v11 => ?_)
        refine PJ.iload_n (pc := 38) d_M_knownOne_38 rfl ?_
        refine PJ.icmp_eq (pc := 39) (tgt := 47) d_M_knownOne_39 (by decide) (fun _ => ?_) (fun _ => ?_)
        · refine PJ.mk (L1 := [some (.inr (.inr a0)), none, some (.inl v6)]) [true, false, true] rfl ?_
          exact PJ.done rfl
        · refine PJ.aload_n (pc := 42) d_M_knownOne_42 rfl ?_
          refine PJ.iconst (pc := 43) (v := 2) d_M_knownOne_43 (by decide) ?_
          refine PJ.cVV (pc := 44) cs_M_123 (fun z hz => PM_M_flaw hz) (pj_fitb rfl) rfl rfl (Nat.le_of_ble_eq_true rfl) d_M_knownOne_44 (fun h12 => ?_)
          refine PJ.mk (L1 := [some (.inr (.inr a0)), none, some (.inl v6)]) [true, false, true] rfl ?_
          exact PJ.done rfl
    · show PJ l G (pj_rm 10 0 0) Y_M_knownOne 47 [some (.inr (.inr a0)), none, some (.inl v6)] [] j7 0 0 _ _
      refine PJ.aload_n (pc := 47) d_M_knownOne_47 rfl ?_
      refine PJ.getI (pc := 48) fs_M_80 d_M_knownOne_48 (fun v13 => ?_)
      refine PJ.iconst (pc := 51) (v := 5) d_M_knownOne_51 (by decide) ?_
      refine PJ.icmp_ne (pc := 52) (tgt := 59) d_M_knownOne_52 (by decide) (fun _ => ?_) (fun _ => ?_)
      · refine PJ.aload_n (pc := 59) d_M_knownOne_59 rfl ?_
        refine PJ.getR (pc := 60) fs_M_160 d_M_knownOne_60 (fun v14 => ?_)
        refine PJ.getR (pc := 63) fs_M_186 d_M_knownOne_63 (fun v15 => ?_)
        refine PJ.iload_n (pc := 66) d_M_knownOne_66 rfl ?_
        refine PJ.iald (pc := 67) d_M_knownOne_67 (fun v16 => ?_)
        exact PJ.iret (pc := 68) d_M_knownOne_68 rfl (Nat.le_of_ble_eq_true rfl) (Nat.le_of_ble_eq_true rfl)
      · refine PJ.iconst (pc := 55) (v := 0) d_M_knownOne_55 (by decide) ?_
        refine PJ.goto (pc := 56) (tgt := 68) d_M_knownOne_56 (by decide) ?_
        exact PJ.iret (pc := 68) d_M_knownOne_68 rfl (Nat.le_of_ble_eq_true rfl) (Nat.le_of_ble_eq_true rfl)
theorem d_M_readKnown_0 : decode Y_M_readKnown.2.1 0 = .ok (.aload_n 0, 1) := by decide +kernel
theorem d_M_readKnown_1 : decode Y_M_readKnown.2.1 1 = .ok (.iload_n 1, 1) := by decide +kernel
theorem d_M_readKnown_2 : decode Y_M_readKnown.2.1 2 = .ok (.invokevirtual 189, 3) := by decide +kernel
theorem d_M_readKnown_5 : decode Y_M_readKnown.2.1 5 = .ok (.istore_n 2, 1) := by decide +kernel
theorem d_M_readKnown_6 : decode Y_M_readKnown.2.1 6 = .ok (.aload_n 0, 1) := by decide +kernel
theorem d_M_readKnown_7 : decode Y_M_readKnown.2.1 7 = .ok (.invokevirtual 116, 3) := by decide +kernel
theorem d_M_readKnown_10 : decode Y_M_readKnown.2.1 10 = .ok (.iload_n 2, 1) := by decide +kernel
theorem d_M_readKnown_11 : decode Y_M_readKnown.2.1 11 = .ok (.ireturn, 1) := by decide +kernel
def f_M_readKnown (h : PH) (a0 : Option Nat) (a1 : Int32) : Option (Int32 × PH) := (cl h 12 a0 (f_M_knownOne h a0 a1)).bind fun v1 => (cl v1.2 12 a0 (f_M_goesOn v1.2 a0)).bind fun h2 => some (v1.1, h2)
set_option maxRecDepth 20000 in
theorem PM_M_readKnown {l : Launch} {G : Cx} {h : PH} {a0 : Option Nat} {a1 : Int32} {z : (Int32 × PH)} (hz : f_M_readKnown h a0 a1 = some z) : PM l G 11 0 0 Y_M_readKnown [.inr (.inr a0), .inl a1] h (some (.inl z.1), z.2) := by
  refine PM.of (Y := Y_M_readKnown) (cv := (fun z : (Int32 × PH) => (((some (.inl z.1), z.2) : Option PV × PH)))) (by decide) (L0 := [some (.inr (.inr a0)), some (.inl a1), none]) 1 rfl (Nat.le_of_ble_eq_true rfl) ?_ hz
  unfold f_M_readKnown
  refine PJ.aload_n (pc := 0) d_M_readKnown_0 rfl ?_
  refine PJ.iload_n (pc := 1) d_M_readKnown_1 rfl ?_
  refine PJ.cVI (pc := 2) cs_M_189 (fun z hz => PM_M_knownOne hz) (pj_fitb rfl) rfl rfl (Nat.le_of_ble_eq_true rfl) d_M_readKnown_2 (fun v1 => ?_)
  refine PJ.istore_n (pc := 5) (L1 := [some (.inr (.inr a0)), some (.inl a1), some (.inl v1.1)]) d_M_readKnown_5 (Nat.le_of_ble_eq_true rfl) rfl rfl ?_
  refine PJ.aload_n (pc := 6) d_M_readKnown_6 rfl ?_
  refine PJ.cVV (pc := 7) cs_M_116 (fun z hz => PM_M_goesOn hz) (pj_fitb rfl) rfl rfl (Nat.le_of_ble_eq_true rfl) d_M_readKnown_7 (fun h2 => ?_)
  refine PJ.iload_n (pc := 10) d_M_readKnown_10 rfl ?_
  exact PJ.iret (pc := 11) d_M_readKnown_11 rfl (Nat.le_of_ble_eq_true rfl) (Nat.le_of_ble_eq_true rfl)
theorem d_M_readFar_0 : decode Y_M_readFar.2.1 0 = .ok (.aload_n 0, 1) := by decide +kernel
theorem d_M_readFar_1 : decode Y_M_readFar.2.1 1 = .ok (.iconst 0, 1) := by decide +kernel
theorem d_M_readFar_2 : decode Y_M_readFar.2.1 2 = .ok (.iconst 1, 1) := by decide +kernel
theorem d_M_readFar_3 : decode Y_M_readFar.2.1 3 = .ok (.invokevirtual 237, 3) := by decide +kernel
theorem d_M_readFar_6 : decode Y_M_readFar.2.1 6 = .ok (.aload_n 0, 1) := by decide +kernel
theorem d_M_readFar_7 : decode Y_M_readFar.2.1 7 = .ok (.iconst 0, 1) := by decide +kernel
theorem d_M_readFar_8 : decode Y_M_readFar.2.1 8 = .ok (.invokevirtual 248, 3) := by decide +kernel
theorem d_M_readFar_11 : decode Y_M_readFar.2.1 11 = .ok (.istore_n 1, 1) := by decide +kernel
theorem d_M_readFar_12 : decode Y_M_readFar.2.1 12 = .ok (.aload_n 0, 1) := by decide +kernel
theorem d_M_readFar_13 : decode Y_M_readFar.2.1 13 = .ok (.iconst 0, 1) := by decide +kernel
theorem d_M_readFar_14 : decode Y_M_readFar.2.1 14 = .ok (.invokevirtual 189, 3) := by decide +kernel
theorem d_M_readFar_17 : decode Y_M_readFar.2.1 17 = .ok (.istore_n 2, 1) := by decide +kernel
theorem d_M_readFar_18 : decode Y_M_readFar.2.1 18 = .ok (.aload_n 0, 1) := by decide +kernel
theorem d_M_readFar_19 : decode Y_M_readFar.2.1 19 = .ok (.getfield 80, 3) := by decide +kernel
theorem d_M_readFar_22 : decode Y_M_readFar.2.1 22 = .ok (.iconst 5, 1) := by decide +kernel
theorem d_M_readFar_23 : decode Y_M_readFar.2.1 23 = .ok (.if_icmp .eq 29, 3) := by decide +kernel
theorem d_M_readFar_26 : decode Y_M_readFar.2.1 26 = .ok (.iload_n 1, 1) := by decide +kernel
theorem d_M_readFar_27 : decode Y_M_readFar.2.1 27 = .ok (.iload_n 2, 1) := by decide +kernel
theorem d_M_readFar_28 : decode Y_M_readFar.2.1 28 = .ok (.if_icmp .eq 19, 3) := by decide +kernel
theorem d_M_readFar_31 : decode Y_M_readFar.2.1 31 = .ok (.aload_n 0, 1) := by decide +kernel
theorem d_M_readFar_32 : decode Y_M_readFar.2.1 32 = .ok (.getfield 160, 3) := by decide +kernel
theorem d_M_readFar_35 : decode Y_M_readFar.2.1 35 = .ok (.getfield 251, 3) := by decide +kernel
theorem d_M_readFar_38 : decode Y_M_readFar.2.1 38 = .ok (.iconst 5, 1) := by decide +kernel
theorem d_M_readFar_39 : decode Y_M_readFar.2.1 39 = .ok (.iload_n 1, 1) := by decide +kernel
theorem d_M_readFar_40 : decode Y_M_readFar.2.1 40 = .ok (.imul, 1) := by decide +kernel
theorem d_M_readFar_41 : decode Y_M_readFar.2.1 41 = .ok (.iload_n 2, 1) := by decide +kernel
theorem d_M_readFar_42 : decode Y_M_readFar.2.1 42 = .ok (.iadd, 1) := by decide +kernel
theorem d_M_readFar_43 : decode Y_M_readFar.2.1 43 = .ok (.iaload, 1) := by decide +kernel
theorem d_M_readFar_44 : decode Y_M_readFar.2.1 44 = .ok (.ifCond .le 8, 3) := by decide +kernel
theorem d_M_readFar_47 : decode Y_M_readFar.2.1 47 = .ok (.aload_n 0, 1) := by decide +kernel
theorem d_M_readFar_48 : decode Y_M_readFar.2.1 48 = .ok (.iconst 3, 1) := by decide +kernel
theorem d_M_readFar_49 : decode Y_M_readFar.2.1 49 = .ok (.invokevirtual 123, 3) := by decide +kernel
theorem d_M_readFar_52 : decode Y_M_readFar.2.1 52 = .ok (.aload_n 0, 1) := by decide +kernel
theorem d_M_readFar_53 : decode Y_M_readFar.2.1 53 = .ok (.invokevirtual 116, 3) := by decide +kernel
theorem d_M_readFar_56 : decode Y_M_readFar.2.1 56 = .ok (.aload_n 0, 1) := by decide +kernel
theorem d_M_readFar_57 : decode Y_M_readFar.2.1 57 = .ok (.ldc 253, 2) := by decide +kernel
theorem d_M_readFar_59 : decode Y_M_readFar.2.1 59 = .ok (.iconst 1, 1) := by decide +kernel
theorem d_M_readFar_60 : decode Y_M_readFar.2.1 60 = .ok (.bipush 9, 2) := by decide +kernel
theorem d_M_readFar_62 : decode Y_M_readFar.2.1 62 = .ok (.invokevirtual 229, 3) := by decide +kernel
theorem d_M_readFar_65 : decode Y_M_readFar.2.1 65 = .ok (.istore_n 3, 1) := by decide +kernel
theorem d_M_readFar_66 : decode Y_M_readFar.2.1 66 = .ok (.aload_n 0, 1) := by decide +kernel
theorem d_M_readFar_67 : decode Y_M_readFar.2.1 67 = .ok (.getfield 80, 3) := by decide +kernel
theorem d_M_readFar_70 : decode Y_M_readFar.2.1 70 = .ok (.iconst 5, 1) := by decide +kernel
theorem d_M_readFar_71 : decode Y_M_readFar.2.1 71 = .ok (.if_icmp .ne 4, 3) := by decide +kernel
theorem d_M_readFar_74 : decode Y_M_readFar.2.1 74 = .ok (.return_, 1) := by decide +kernel
theorem d_M_readFar_75 : decode Y_M_readFar.2.1 75 = .ok (.aload_n 0, 1) := by decide +kernel
theorem d_M_readFar_76 : decode Y_M_readFar.2.1 76 = .ok (.getfield 160, 3) := by decide +kernel
theorem d_M_readFar_79 : decode Y_M_readFar.2.1 79 = .ok (.getfield 251, 3) := by decide +kernel
theorem d_M_readFar_82 : decode Y_M_readFar.2.1 82 = .ok (.iconst 5, 1) := by decide +kernel
theorem d_M_readFar_83 : decode Y_M_readFar.2.1 83 = .ok (.iload_n 1, 1) := by decide +kernel
theorem d_M_readFar_84 : decode Y_M_readFar.2.1 84 = .ok (.imul, 1) := by decide +kernel
theorem d_M_readFar_85 : decode Y_M_readFar.2.1 85 = .ok (.iload_n 2, 1) := by decide +kernel
theorem d_M_readFar_86 : decode Y_M_readFar.2.1 86 = .ok (.iadd, 1) := by decide +kernel
theorem d_M_readFar_87 : decode Y_M_readFar.2.1 87 = .ok (.iload_n 3, 1) := by decide +kernel
theorem d_M_readFar_88 : decode Y_M_readFar.2.1 88 = .ok (.iastore, 1) := by decide +kernel
theorem d_M_readFar_89 : decode Y_M_readFar.2.1 89 = .ok (.aload_n 0, 1) := by decide +kernel
theorem d_M_readFar_90 : decode Y_M_readFar.2.1 90 = .ok (.getfield 160, 3) := by decide +kernel
theorem d_M_readFar_93 : decode Y_M_readFar.2.1 93 = .ok (.getfield 251, 3) := by decide +kernel
theorem d_M_readFar_96 : decode Y_M_readFar.2.1 96 = .ok (.iconst 5, 1) := by decide +kernel
theorem d_M_readFar_97 : decode Y_M_readFar.2.1 97 = .ok (.iload_n 2, 1) := by decide +kernel
theorem d_M_readFar_98 : decode Y_M_readFar.2.1 98 = .ok (.imul, 1) := by decide +kernel
theorem d_M_readFar_99 : decode Y_M_readFar.2.1 99 = .ok (.iload_n 1, 1) := by decide +kernel
theorem d_M_readFar_100 : decode Y_M_readFar.2.1 100 = .ok (.iadd, 1) := by decide +kernel
theorem d_M_readFar_101 : decode Y_M_readFar.2.1 101 = .ok (.iload_n 3, 1) := by decide +kernel
theorem d_M_readFar_102 : decode Y_M_readFar.2.1 102 = .ok (.iastore, 1) := by decide +kernel
theorem d_M_readFar_103 : decode Y_M_readFar.2.1 103 = .ok (.return_, 1) := by decide +kernel
def f_M_readFar (h : PH) (a0 : Option Nat) : Option PH := (cl h 12 a0 (f_M_lineBegins h a0 (0 : Int32) (1 : Int32))).bind fun h1 => (cl h1 12 a0 (f_M_readKnown h1 a0 (0 : Int32))).bind fun v2 => (cl v2.2 12 a0 (f_M_knownOne v2.2 a0 (0 : Int32))).bind fun v3 => (gI v3.2 12 a0 9).bind fun v4 => (if v4 = (5 : Int32) then (some v3.2) else (if v2.1 = v3.1 then ((cl v3.2 12 a0 (f_M_flaw v3.2 a0 (3 : Int32))).bind fun h6 => some h6) else ((gR v3.2 12 a0 4).bind fun v7 => (gR v3.2 11 v7 10).bind fun v8 => (aI v3.2 v8 (((5 : Int32) * v2.1) + v3.1)).bind fun v9 => if v9 ≤ 0 then (some v3.2) else ((cl v3.2 12 a0 (f_M_flaw v3.2 a0 (3 : Int32))).bind fun h10 => some h10))) : Option (PH)).bind fun j5 => (cl j5 12 a0 (f_M_goesOn j5 a0)).bind fun h11 => (cl h11 12 a0 (f_M_readPart h11 a0 (some 11) (1 : Int32) (9 : Int32))).bind fun v12 => (gI v12.2 12 a0 9).bind fun v13 => if ¬ v13 = (5 : Int32) then ((gR v12.2 12 a0 4).bind fun v14 => (gR v12.2 11 v14 10).bind fun v15 => (sA v12.2 50 v15 (((5 : Int32) * v2.1) + v3.1) (.inl v12.1)).bind fun h16 => (gR h16 12 a0 4).bind fun v17 => (gR h16 11 v17 10).bind fun v18 => (sA h16 50 v18 (((5 : Int32) * v3.1) + v2.1) (.inl v12.1)).bind fun h19 => some h19) else (some v12.2)
set_option maxRecDepth 20000 in
theorem PM_M_readFar {l : Launch} {G : Cx} {h : PH} {a0 : Option Nat} {z : PH} (hz : f_M_readFar h a0 = some z) : PM l G 12 0 0 Y_M_readFar [.inr (.inr a0)] h (none, z) := by
  refine PM.of (Y := Y_M_readFar) (cv := (fun z : PH => (((none, z) : Option PV × PH)))) (by decide) (L0 := [some (.inr (.inr a0)), none, none, none]) 3 rfl (Nat.le_of_ble_eq_true rfl) ?_ hz
  unfold f_M_readFar
  refine PJ.aload_n (pc := 0) d_M_readFar_0 rfl ?_
  refine PJ.iconst (pc := 1) (v := 0) d_M_readFar_1 (by decide) ?_
  refine PJ.iconst (pc := 2) (v := 1) d_M_readFar_2 (by decide) ?_
  refine PJ.cVV (pc := 3) cs_M_237 (fun z hz => PM_M_lineBegins hz) (pj_fitb rfl) rfl rfl (Nat.le_of_ble_eq_true rfl) d_M_readFar_3 (fun h1 => ?_)
  refine PJ.aload_n (pc := 6) d_M_readFar_6 rfl ?_
  refine PJ.iconst (pc := 7) (v := 0) d_M_readFar_7 (by decide) ?_
  refine PJ.cVI (pc := 8) cs_M_248 (fun z hz => PM_M_readKnown hz) (pj_fitb rfl) rfl rfl (Nat.le_of_ble_eq_true rfl) d_M_readFar_8 (fun v2 => ?_)
  refine PJ.istore_n (pc := 11) (L1 := [some (.inr (.inr a0)), some (.inl v2.1), none, none]) d_M_readFar_11 (Nat.le_of_ble_eq_true rfl) rfl rfl ?_
  refine PJ.aload_n (pc := 12) d_M_readFar_12 rfl ?_
  refine PJ.iconst (pc := 13) (v := 0) d_M_readFar_13 (by decide) ?_
  refine PJ.cVI (pc := 14) cs_M_189 (fun z hz => PM_M_knownOne hz) (pj_fitb rfl) rfl rfl (Nat.le_of_ble_eq_true rfl) d_M_readFar_14 (fun v3 => ?_)
  refine PJ.istore_n (pc := 17) (L1 := [some (.inr (.inr a0)), some (.inl v2.1), some (.inl v3.1), none]) d_M_readFar_17 (Nat.le_of_ble_eq_true rfl) rfl rfl ?_
  refine PJ.aload_n (pc := 18) d_M_readFar_18 rfl ?_
  refine PJ.getI (pc := 19) fs_M_80 d_M_readFar_19 (fun v4 => ?_)
  refine PJ.iconst (pc := 22) (v := 5) d_M_readFar_22 (by decide) ?_
  refine PJ.bind (fun j5 : PH => ((52 : Nat), ([some (.inr (.inr a0)), some (.inl v2.1), some (.inl v3.1), none] : List (Option PV)), ([] : List PV), (j5 : PH), (0 : Nat), (0 : Nat))) ?_ (fun j5 => ?_)
  · refine PJ.icmp_eq (pc := 23) (tgt := 52) d_M_readFar_23 (by decide) (fun _ => ?_) (fun _ => ?_)
    · exact PJ.done rfl
    · refine PJ.iload_n (pc := 26) d_M_readFar_26 rfl ?_
      refine PJ.iload_n (pc := 27) d_M_readFar_27 rfl ?_
      refine PJ.icmp_eq (pc := 28) (tgt := 47) d_M_readFar_28 (by decide) (fun _ => ?_) (fun _ => ?_)
      · refine PJ.aload_n (pc := 47) d_M_readFar_47 rfl ?_
        refine PJ.iconst (pc := 48) (v := 3) d_M_readFar_48 (by decide) ?_
        refine PJ.cVV (pc := 49) cs_M_123 (fun z hz => PM_M_flaw hz) (pj_fitb rfl) rfl rfl (Nat.le_of_ble_eq_true rfl) d_M_readFar_49 (fun h6 => ?_)
        exact PJ.done rfl
      · refine PJ.aload_n (pc := 31) d_M_readFar_31 rfl ?_
        refine PJ.getR (pc := 32) fs_M_160 d_M_readFar_32 (fun v7 => ?_)
        refine PJ.getR (pc := 35) fs_M_251 d_M_readFar_35 (fun v8 => ?_)
        refine PJ.iconst (pc := 38) (v := 5) d_M_readFar_38 (by decide) ?_
        refine PJ.iload_n (pc := 39) d_M_readFar_39 rfl ?_
        refine PJ.imul (pc := 40) d_M_readFar_40 ?_
        refine PJ.iload_n (pc := 41) d_M_readFar_41 rfl ?_
        refine PJ.iadd (pc := 42) d_M_readFar_42 ?_
        refine PJ.iald (pc := 43) d_M_readFar_43 (fun v9 => ?_)
        refine PJ.if_le (pc := 44) (tgt := 52) d_M_readFar_44 (by decide) (fun _ => ?_) (fun _ => ?_)
        · exact PJ.done rfl
        · refine PJ.aload_n (pc := 47) d_M_readFar_47 rfl ?_
          refine PJ.iconst (pc := 48) (v := 3) d_M_readFar_48 (by decide) ?_
          refine PJ.cVV (pc := 49) cs_M_123 (fun z hz => PM_M_flaw hz) (pj_fitb rfl) rfl rfl (Nat.le_of_ble_eq_true rfl) d_M_readFar_49 (fun h10 => ?_)
          exact PJ.done rfl
  · show PJ l G (pj_rm 12 0 0) Y_M_readFar 52 [some (.inr (.inr a0)), some (.inl v2.1), some (.inl v3.1), none] [] j5 0 0 _ _
    refine PJ.aload_n (pc := 52) d_M_readFar_52 rfl ?_
    refine PJ.cVV (pc := 53) cs_M_116 (fun z hz => PM_M_goesOn hz) (pj_fitb rfl) rfl rfl (Nat.le_of_ble_eq_true rfl) d_M_readFar_53 (fun h11 => ?_)
    refine PJ.aload_n (pc := 56) d_M_readFar_56 rfl ?_
    refine PJ.ldcS (pc := 57) (i := 11) d_M_readFar_57 (by decide) (List.mem_of_getElem? (i := 35) rfl) ?_
    refine PJ.iconst (pc := 59) (v := 1) d_M_readFar_59 (by decide) ?_
    refine PJ.bipush (pc := 60) (v := 9) d_M_readFar_60 (by decide) ?_
    refine PJ.cVI (pc := 62) cs_M_229 (fun z hz => PM_M_readPart hz) (pj_fitb rfl) rfl rfl (Nat.le_of_ble_eq_true rfl) d_M_readFar_62 (fun v12 => ?_)
    refine PJ.istore_n (pc := 65) (L1 := [some (.inr (.inr a0)), some (.inl v2.1), some (.inl v3.1), some (.inl v12.1)]) d_M_readFar_65 (Nat.le_of_ble_eq_true rfl) rfl rfl ?_
    refine PJ.aload_n (pc := 66) d_M_readFar_66 rfl ?_
    refine PJ.getI (pc := 67) fs_M_80 d_M_readFar_67 (fun v13 => ?_)
    refine PJ.iconst (pc := 70) (v := 5) d_M_readFar_70 (by decide) ?_
    refine PJ.icmp_ne (pc := 71) (tgt := 75) d_M_readFar_71 (by decide) (fun _ => ?_) (fun _ => ?_)
    · refine PJ.aload_n (pc := 75) d_M_readFar_75 rfl ?_
      refine PJ.getR (pc := 76) fs_M_160 d_M_readFar_76 (fun v14 => ?_)
      refine PJ.getR (pc := 79) fs_M_251 d_M_readFar_79 (fun v15 => ?_)
      refine PJ.iconst (pc := 82) (v := 5) d_M_readFar_82 (by decide) ?_
      refine PJ.iload_n (pc := 83) d_M_readFar_83 rfl ?_
      refine PJ.imul (pc := 84) d_M_readFar_84 ?_
      refine PJ.iload_n (pc := 85) d_M_readFar_85 rfl ?_
      refine PJ.iadd (pc := 86) d_M_readFar_86 ?_
      refine PJ.iload_n (pc := 87) d_M_readFar_87 rfl ?_
      refine PJ.iast (pc := 88) d_M_readFar_88 (fun h16 => ?_)
      refine PJ.aload_n (pc := 89) d_M_readFar_89 rfl ?_
      refine PJ.getR (pc := 90) fs_M_160 d_M_readFar_90 (fun v17 => ?_)
      refine PJ.getR (pc := 93) fs_M_251 d_M_readFar_93 (fun v18 => ?_)
      refine PJ.iconst (pc := 96) (v := 5) d_M_readFar_96 (by decide) ?_
      refine PJ.iload_n (pc := 97) d_M_readFar_97 rfl ?_
      refine PJ.imul (pc := 98) d_M_readFar_98 ?_
      refine PJ.iload_n (pc := 99) d_M_readFar_99 rfl ?_
      refine PJ.iadd (pc := 100) d_M_readFar_100 ?_
      refine PJ.iload_n (pc := 101) d_M_readFar_101 rfl ?_
      refine PJ.iast (pc := 102) d_M_readFar_102 (fun h19 => ?_)
      exact PJ.vret (pc := 103) d_M_readFar_103 rfl (Nat.le_of_ble_eq_true rfl) (Nat.le_of_ble_eq_true rfl)
    · exact PJ.vret (pc := 74) d_M_readFar_74 rfl (Nat.le_of_ble_eq_true rfl) (Nat.le_of_ble_eq_true rfl)
theorem d_M_readPerson_0 : decode Y_M_readPerson.2.1 0 = .ok (.aload_n 0, 1) := by decide +kernel
theorem d_M_readPerson_1 : decode Y_M_readPerson.2.1 1 = .ok (.aload_n 0, 1) := by decide +kernel
theorem d_M_readPerson_2 : decode Y_M_readPerson.2.1 2 = .ok (.getfield 160, 3) := by decide +kernel
theorem d_M_readPerson_5 : decode Y_M_readPerson.2.1 5 = .ok (.getfield 255, 3) := by decide +kernel
theorem d_M_readPerson_8 : decode Y_M_readPerson.2.1 8 = .ok (.iconst 5, 1) := by decide +kernel
theorem d_M_readPerson_9 : decode Y_M_readPerson.2.1 9 = .ok (.invokevirtual 237, 3) := by decide +kernel
theorem d_M_readPerson_12 : decode Y_M_readPerson.2.1 12 = .ok (.aload_n 0, 1) := by decide +kernel
theorem d_M_readPerson_13 : decode Y_M_readPerson.2.1 13 = .ok (.invokevirtual 241, 3) := by decide +kernel
theorem d_M_readPerson_16 : decode Y_M_readPerson.2.1 16 = .ok (.lstore_n 1, 1) := by decide +kernel
theorem d_M_readPerson_17 : decode Y_M_readPerson.2.1 17 = .ok (.aload_n 0, 1) := by decide +kernel
theorem d_M_readPerson_18 : decode Y_M_readPerson.2.1 18 = .ok (.ldc_w 258, 3) := by decide +kernel
theorem d_M_readPerson_21 : decode Y_M_readPerson.2.1 21 = .ok (.invokevirtual 119, 3) := by decide +kernel
theorem d_M_readPerson_24 : decode Y_M_readPerson.2.1 24 = .ok (.ifCond .eq 7, 3) := by decide +kernel
theorem d_M_readPerson_27 : decode Y_M_readPerson.2.1 27 = .ok (.iconst 0, 1) := by decide +kernel
theorem d_M_readPerson_28 : decode Y_M_readPerson.2.1 28 = .ok (.goto 46, 3) := by decide +kernel
theorem d_M_readPerson_31 : decode Y_M_readPerson.2.1 31 = .ok (.aload_n 0, 1) := by decide +kernel
theorem d_M_readPerson_32 : decode Y_M_readPerson.2.1 32 = .ok (.ldc_w 260, 3) := by decide +kernel
theorem d_M_readPerson_35 : decode Y_M_readPerson.2.1 35 = .ok (.invokevirtual 119, 3) := by decide +kernel
theorem d_M_readPerson_38 : decode Y_M_readPerson.2.1 38 = .ok (.ifCond .eq 7, 3) := by decide +kernel
theorem d_M_readPerson_41 : decode Y_M_readPerson.2.1 41 = .ok (.iconst 1, 1) := by decide +kernel
theorem d_M_readPerson_42 : decode Y_M_readPerson.2.1 42 = .ok (.goto 32, 3) := by decide +kernel
theorem d_M_readPerson_45 : decode Y_M_readPerson.2.1 45 = .ok (.aload_n 0, 1) := by decide +kernel
theorem d_M_readPerson_46 : decode Y_M_readPerson.2.1 46 = .ok (.ldc_w 262, 3) := by decide +kernel
theorem d_M_readPerson_49 : decode Y_M_readPerson.2.1 49 = .ok (.invokevirtual 119, 3) := by decide +kernel
theorem d_M_readPerson_52 : decode Y_M_readPerson.2.1 52 = .ok (.ifCond .eq 7, 3) := by decide +kernel
theorem d_M_readPerson_55 : decode Y_M_readPerson.2.1 55 = .ok (.iconst 2, 1) := by decide +kernel
theorem d_M_readPerson_56 : decode Y_M_readPerson.2.1 56 = .ok (.goto 18, 3) := by decide +kernel
theorem d_M_readPerson_59 : decode Y_M_readPerson.2.1 59 = .ok (.aload_n 0, 1) := by decide +kernel
theorem d_M_readPerson_60 : decode Y_M_readPerson.2.1 60 = .ok (.ldc_w 264, 3) := by decide +kernel
theorem d_M_readPerson_63 : decode Y_M_readPerson.2.1 63 = .ok (.invokevirtual 119, 3) := by decide +kernel
theorem d_M_readPerson_66 : decode Y_M_readPerson.2.1 66 = .ok (.ifCond .eq 7, 3) := by decide +kernel
theorem d_M_readPerson_69 : decode Y_M_readPerson.2.1 69 = .ok (.iconst 3, 1) := by decide +kernel
theorem d_M_readPerson_70 : decode Y_M_readPerson.2.1 70 = .ok (.goto 4, 3) := by decide +kernel
theorem d_M_readPerson_73 : decode Y_M_readPerson.2.1 73 = .ok (.iconst (-1), 1) := by decide +kernel
theorem d_M_readPerson_74 : decode Y_M_readPerson.2.1 74 = .ok (.istore_n 3, 1) := by decide +kernel
theorem d_M_readPerson_75 : decode Y_M_readPerson.2.1 75 = .ok (.iload_n 3, 1) := by decide +kernel
theorem d_M_readPerson_76 : decode Y_M_readPerson.2.1 76 = .ok (.iconst (-1), 1) := by decide +kernel
theorem d_M_readPerson_77 : decode Y_M_readPerson.2.1 77 = .ok (.if_icmp .ne 8, 3) := by decide +kernel
theorem d_M_readPerson_80 : decode Y_M_readPerson.2.1 80 = .ok (.aload_n 0, 1) := by decide +kernel
theorem d_M_readPerson_81 : decode Y_M_readPerson.2.1 81 = .ok (.iconst 1, 1) := by decide +kernel
theorem d_M_readPerson_82 : decode Y_M_readPerson.2.1 82 = .ok (.invokevirtual 123, 3) := by decide +kernel
theorem d_M_readPerson_85 : decode Y_M_readPerson.2.1 85 = .ok (.aload_n 0, 1) := by decide +kernel
theorem d_M_readPerson_86 : decode Y_M_readPerson.2.1 86 = .ok (.invokevirtual 116, 3) := by decide +kernel
theorem d_M_readPerson_89 : decode Y_M_readPerson.2.1 89 = .ok (.aload_n 0, 1) := by decide +kernel
theorem d_M_readPerson_90 : decode Y_M_readPerson.2.1 90 = .ok (.ldc_w 266, 3) := by decide +kernel
theorem d_M_readPerson_93 : decode Y_M_readPerson.2.1 93 = .ok (.invokevirtual 135, 3) := by decide +kernel
theorem d_M_readPerson_96 : decode Y_M_readPerson.2.1 96 = .ok (.aload_n 0, 1) := by decide +kernel
theorem d_M_readPerson_97 : decode Y_M_readPerson.2.1 97 = .ok (.iconst 0, 1) := by decide +kernel
theorem d_M_readPerson_98 : decode Y_M_readPerson.2.1 98 = .ok (.invokevirtual 248, 3) := by decide +kernel
theorem d_M_readPerson_101 : decode Y_M_readPerson.2.1 101 = .ok (.istore 4, 2) := by decide +kernel
theorem d_M_readPerson_103 : decode Y_M_readPerson.2.1 103 = .ok (.aload_n 0, 1) := by decide +kernel
theorem d_M_readPerson_104 : decode Y_M_readPerson.2.1 104 = .ok (.getfield 80, 3) := by decide +kernel
theorem d_M_readPerson_107 : decode Y_M_readPerson.2.1 107 = .ok (.iconst 5, 1) := by decide +kernel
theorem d_M_readPerson_108 : decode Y_M_readPerson.2.1 108 = .ok (.if_icmp .ne 4, 3) := by decide +kernel
theorem d_M_readPerson_111 : decode Y_M_readPerson.2.1 111 = .ok (.return_, 1) := by decide +kernel
theorem d_M_readPerson_112 : decode Y_M_readPerson.2.1 112 = .ok (.aload_n 0, 1) := by decide +kernel
theorem d_M_readPerson_113 : decode Y_M_readPerson.2.1 113 = .ok (.getfield 160, 3) := by decide +kernel
theorem d_M_readPerson_116 : decode Y_M_readPerson.2.1 116 = .ok (.getfield 255, 3) := by decide +kernel
theorem d_M_readPerson_119 : decode Y_M_readPerson.2.1 119 = .ok (.istore 5, 2) := by decide +kernel
theorem d_M_readPerson_121 : decode Y_M_readPerson.2.1 121 = .ok (.aload_n 0, 1) := by decide +kernel
theorem d_M_readPerson_122 : decode Y_M_readPerson.2.1 122 = .ok (.lload_n 1, 1) := by decide +kernel
theorem d_M_readPerson_123 : decode Y_M_readPerson.2.1 123 = .ok (.iconst 1, 1) := by decide +kernel
theorem d_M_readPerson_124 : decode Y_M_readPerson.2.1 124 = .ok (.iload 5, 2) := by decide +kernel
theorem d_M_readPerson_126 : decode Y_M_readPerson.2.1 126 = .ok (.invokevirtual 245, 3) := by decide +kernel
theorem d_M_readPerson_129 : decode Y_M_readPerson.2.1 129 = .ok (.aload_n 0, 1) := by decide +kernel
theorem d_M_readPerson_130 : decode Y_M_readPerson.2.1 130 = .ok (.getfield 160, 3) := by decide +kernel
theorem d_M_readPerson_133 : decode Y_M_readPerson.2.1 133 = .ok (.getfield 268, 3) := by decide +kernel
theorem d_M_readPerson_136 : decode Y_M_readPerson.2.1 136 = .ok (.iload 5, 2) := by decide +kernel
theorem d_M_readPerson_138 : decode Y_M_readPerson.2.1 138 = .ok (.iload_n 3, 1) := by decide +kernel
theorem d_M_readPerson_139 : decode Y_M_readPerson.2.1 139 = .ok (.iastore, 1) := by decide +kernel
theorem d_M_readPerson_140 : decode Y_M_readPerson.2.1 140 = .ok (.aload_n 0, 1) := by decide +kernel
theorem d_M_readPerson_141 : decode Y_M_readPerson.2.1 141 = .ok (.getfield 160, 3) := by decide +kernel
theorem d_M_readPerson_144 : decode Y_M_readPerson.2.1 144 = .ok (.getfield 270, 3) := by decide +kernel
theorem d_M_readPerson_147 : decode Y_M_readPerson.2.1 147 = .ok (.iload 5, 2) := by decide +kernel
theorem d_M_readPerson_149 : decode Y_M_readPerson.2.1 149 = .ok (.iload 4, 2) := by decide +kernel
theorem d_M_readPerson_151 : decode Y_M_readPerson.2.1 151 = .ok (.iastore, 1) := by decide +kernel
theorem d_M_readPerson_152 : decode Y_M_readPerson.2.1 152 = .ok (.aload_n 0, 1) := by decide +kernel
theorem d_M_readPerson_153 : decode Y_M_readPerson.2.1 153 = .ok (.getfield 160, 3) := by decide +kernel
theorem d_M_readPerson_156 : decode Y_M_readPerson.2.1 156 = .ok (.dup, 1) := by decide +kernel
theorem d_M_readPerson_157 : decode Y_M_readPerson.2.1 157 = .ok (.getfield 255, 3) := by decide +kernel
theorem d_M_readPerson_160 : decode Y_M_readPerson.2.1 160 = .ok (.iconst 1, 1) := by decide +kernel
theorem d_M_readPerson_161 : decode Y_M_readPerson.2.1 161 = .ok (.iadd, 1) := by decide +kernel
theorem d_M_readPerson_162 : decode Y_M_readPerson.2.1 162 = .ok (.putfield 255, 3) := by decide +kernel
theorem d_M_readPerson_165 : decode Y_M_readPerson.2.1 165 = .ok (.return_, 1) := by decide +kernel
def f_M_readPerson (h : PH) (a0 : Option Nat) : Option PH := (gR h 12 a0 4).bind fun v1 => (gI h 11 v1 3).bind fun v2 => (cl h 12 a0 (f_M_lineBegins h a0 v2 (5 : Int32))).bind fun h3 => (cl h3 12 a0 (f_M_readFresh h3 a0)).bind fun v4 => (cl v4.2 12 a0 (f_M_isWord v4.2 a0 (some 12))).bind fun v5 => (if v5 = 0 then ((cl v4.2 12 a0 (f_M_isWord v4.2 a0 (some 13))).bind fun v7 => if v7 = 0 then ((cl v4.2 12 a0 (f_M_isWord v4.2 a0 (some 14))).bind fun v8 => if v8 = 0 then ((cl v4.2 12 a0 (f_M_isWord v4.2 a0 (some 15))).bind fun v9 => if v9 = 0 then (some (-1 : Int32)) else (some (3 : Int32))) else (some (2 : Int32))) else (some (1 : Int32))) else (some (0 : Int32)) : Option (Int32)).bind fun j6 => (if ¬ j6 = (-1 : Int32) then (some v4.2) else ((cl v4.2 12 a0 (f_M_flaw v4.2 a0 (1 : Int32))).bind fun h11 => some h11) : Option (PH)).bind fun j10 => (cl j10 12 a0 (f_M_goesOn j10 a0)).bind fun h12 => (cl h12 12 a0 (f_M_needs h12 a0 (some 16))).bind fun h13 => (cl h13 12 a0 (f_M_readKnown h13 a0 (0 : Int32))).bind fun v14 => (gI v14.2 12 a0 9).bind fun v15 => if ¬ v15 = (5 : Int32) then ((gR v14.2 12 a0 4).bind fun v16 => (gI v14.2 11 v16 3).bind fun v17 => (cl v14.2 12 a0 (f_M_names v14.2 a0 v4.1 (1 : Int32) v17)).bind fun h18 => (gR h18 12 a0 4).bind fun v19 => (gR h18 11 v19 11).bind fun v20 => (sA h18 50 v20 v17 (.inl j6)).bind fun h21 => (gR h21 12 a0 4).bind fun v22 => (gR h21 11 v22 12).bind fun v23 => (sA h21 50 v23 v17 (.inl v14.1)).bind fun h24 => (gR h24 12 a0 4).bind fun v25 => (gI h24 11 v25 3).bind fun v26 => (sF h24 11 v25 3 (.inl (v26 + (1 : Int32)))).bind fun h27 => some h27) else (some v14.2)
set_option maxRecDepth 20000 in
theorem PM_M_readPerson {l : Launch} {G : Cx} {h : PH} {a0 : Option Nat} {z : PH} (hz : f_M_readPerson h a0 = some z) : PM l G 12 0 0 Y_M_readPerson [.inr (.inr a0)] h (none, z) := by
  refine PM.of (Y := Y_M_readPerson) (cv := (fun z : PH => (((none, z) : Option PV × PH)))) (by decide) (L0 := [some (.inr (.inr a0)), none, none, none, none, none]) 5 rfl (Nat.le_of_ble_eq_true rfl) ?_ hz
  unfold f_M_readPerson
  refine PJ.aload_n (pc := 0) d_M_readPerson_0 rfl ?_
  refine PJ.aload_n (pc := 1) d_M_readPerson_1 rfl ?_
  refine PJ.getR (pc := 2) fs_M_160 d_M_readPerson_2 (fun v1 => ?_)
  refine PJ.getI (pc := 5) fs_M_255 d_M_readPerson_5 (fun v2 => ?_)
  refine PJ.iconst (pc := 8) (v := 5) d_M_readPerson_8 (by decide) ?_
  refine PJ.cVV (pc := 9) cs_M_237 (fun z hz => PM_M_lineBegins hz) (pj_fitb rfl) rfl rfl (Nat.le_of_ble_eq_true rfl) d_M_readPerson_9 (fun h3 => ?_)
  refine PJ.aload_n (pc := 12) d_M_readPerson_12 rfl ?_
  refine PJ.cVL (pc := 13) cs_M_241 (fun z hz => PM_M_readFresh hz) (pj_fitb rfl) rfl rfl (Nat.le_of_ble_eq_true rfl) d_M_readPerson_13 (fun v4 => ?_)
  refine PJ.lstore_n (pc := 16) (L1 := [some (.inr (.inr a0)), some (.inr (.inl v4.1)), none, none, none, none]) d_M_readPerson_16 (Nat.le_of_ble_eq_true rfl) rfl rfl ?_
  refine PJ.aload_n (pc := 17) d_M_readPerson_17 rfl ?_
  refine PJ.ldcwS (pc := 18) (i := 12) d_M_readPerson_18 (by decide) (List.mem_of_getElem? (i := 36) rfl) ?_
  refine PJ.cVpI (pc := 21) cs_M_119 (fun z hz => PM_M_isWord hz) (pj_fitb rfl) rfl rfl (Nat.le_of_ble_eq_true rfl) d_M_readPerson_21 (fun v5 => ?_)
  refine PJ.bind (fun j6 : Int32 => ((74 : Nat), ([some (.inr (.inr a0)), some (.inr (.inl v4.1)), none, none, none, none] : List (Option PV)), ([.inl j6] : List PV), (v4.2 : PH), (0 : Nat), (0 : Nat))) ?_ (fun j6 => ?_)
  · refine PJ.if_eq (pc := 24) (tgt := 31) d_M_readPerson_24 (by decide) (fun _ => ?_) (fun _ => ?_)
    · refine PJ.aload_n (pc := 31) d_M_readPerson_31 rfl ?_
      refine PJ.ldcwS (pc := 32) (i := 13) d_M_readPerson_32 (by decide) (List.mem_of_getElem? (i := 37) rfl) ?_
      refine PJ.cVpI (pc := 35) cs_M_119 (fun z hz => PM_M_isWord hz) (pj_fitb rfl) rfl rfl (Nat.le_of_ble_eq_true rfl) d_M_readPerson_35 (fun v7 => ?_)
      refine PJ.if_eq (pc := 38) (tgt := 45) d_M_readPerson_38 (by decide) (fun _ => ?_) (fun _ => ?_)
      · refine PJ.aload_n (pc := 45) d_M_readPerson_45 rfl ?_
        refine PJ.ldcwS (pc := 46) (i := 14) d_M_readPerson_46 (by decide) (List.mem_of_getElem? (i := 38) rfl) ?_
        refine PJ.cVpI (pc := 49) cs_M_119 (fun z hz => PM_M_isWord hz) (pj_fitb rfl) rfl rfl (Nat.le_of_ble_eq_true rfl) d_M_readPerson_49 (fun v8 => ?_)
        refine PJ.if_eq (pc := 52) (tgt := 59) d_M_readPerson_52 (by decide) (fun _ => ?_) (fun _ => ?_)
        · refine PJ.aload_n (pc := 59) d_M_readPerson_59 rfl ?_
          refine PJ.ldcwS (pc := 60) (i := 15) d_M_readPerson_60 (by decide) (List.mem_of_getElem? (i := 39) rfl) ?_
          refine PJ.cVpI (pc := 63) cs_M_119 (fun z hz => PM_M_isWord hz) (pj_fitb rfl) rfl rfl (Nat.le_of_ble_eq_true rfl) d_M_readPerson_63 (fun v9 => ?_)
          refine PJ.if_eq (pc := 66) (tgt := 73) d_M_readPerson_66 (by decide) (fun _ => ?_) (fun _ => ?_)
          · refine PJ.iconst (pc := 73) (v := -1) d_M_readPerson_73 (by decide) ?_
            exact PJ.done rfl
          · refine PJ.iconst (pc := 69) (v := 3) d_M_readPerson_69 (by decide) ?_
            refine PJ.goto (pc := 70) (tgt := 74) d_M_readPerson_70 (by decide) ?_
            exact PJ.done rfl
        · refine PJ.iconst (pc := 55) (v := 2) d_M_readPerson_55 (by decide) ?_
          refine PJ.goto (pc := 56) (tgt := 74) d_M_readPerson_56 (by decide) ?_
          exact PJ.done rfl
      · refine PJ.iconst (pc := 41) (v := 1) d_M_readPerson_41 (by decide) ?_
        refine PJ.goto (pc := 42) (tgt := 74) d_M_readPerson_42 (by decide) ?_
        exact PJ.done rfl
    · refine PJ.iconst (pc := 27) (v := 0) d_M_readPerson_27 (by decide) ?_
      refine PJ.goto (pc := 28) (tgt := 74) d_M_readPerson_28 (by decide) ?_
      exact PJ.done rfl
  · show PJ l G (pj_rm 12 0 0) Y_M_readPerson 74 [some (.inr (.inr a0)), some (.inr (.inl v4.1)), none, none, none, none] [.inl j6] v4.2 0 0 _ _
    refine PJ.istore_n (pc := 74) (L1 := [some (.inr (.inr a0)), some (.inr (.inl v4.1)), none, some (.inl j6), none, none]) d_M_readPerson_74 (Nat.le_of_ble_eq_true rfl) rfl rfl ?_
    refine PJ.iload_n (pc := 75) d_M_readPerson_75 rfl ?_
    refine PJ.iconst (pc := 76) (v := -1) d_M_readPerson_76 (by decide) ?_
    refine PJ.bind (fun j10 : PH => ((85 : Nat), ([some (.inr (.inr a0)), some (.inr (.inl v4.1)), none, some (.inl j6), none, none] : List (Option PV)), ([] : List PV), (j10 : PH), (0 : Nat), (0 : Nat))) ?_ (fun j10 => ?_)
    · refine PJ.icmp_ne (pc := 77) (tgt := 85) d_M_readPerson_77 (by decide) (fun _ => ?_) (fun _ => ?_)
      · exact PJ.done rfl
      · refine PJ.aload_n (pc := 80) d_M_readPerson_80 rfl ?_
        refine PJ.iconst (pc := 81) (v := 1) d_M_readPerson_81 (by decide) ?_
        refine PJ.cVV (pc := 82) cs_M_123 (fun z hz => PM_M_flaw hz) (pj_fitb rfl) rfl rfl (Nat.le_of_ble_eq_true rfl) d_M_readPerson_82 (fun h11 => ?_)
        exact PJ.done rfl
    · show PJ l G (pj_rm 12 0 0) Y_M_readPerson 85 [some (.inr (.inr a0)), some (.inr (.inl v4.1)), none, some (.inl j6), none, none] [] j10 0 0 _ _
      refine PJ.aload_n (pc := 85) d_M_readPerson_85 rfl ?_
      refine PJ.cVV (pc := 86) cs_M_116 (fun z hz => PM_M_goesOn hz) (pj_fitb rfl) rfl rfl (Nat.le_of_ble_eq_true rfl) d_M_readPerson_86 (fun h12 => ?_)
      refine PJ.aload_n (pc := 89) d_M_readPerson_89 rfl ?_
      refine PJ.ldcwS (pc := 90) (i := 16) d_M_readPerson_90 (by decide) (List.mem_of_getElem? (i := 40) rfl) ?_
      refine PJ.cVV (pc := 93) cs_M_135 (fun z hz => PM_M_needs hz) (pj_fitb rfl) rfl rfl (Nat.le_of_ble_eq_true rfl) d_M_readPerson_93 (fun h13 => ?_)
      refine PJ.aload_n (pc := 96) d_M_readPerson_96 rfl ?_
      refine PJ.iconst (pc := 97) (v := 0) d_M_readPerson_97 (by decide) ?_
      refine PJ.cVI (pc := 98) cs_M_248 (fun z hz => PM_M_readKnown hz) (pj_fitb rfl) rfl rfl (Nat.le_of_ble_eq_true rfl) d_M_readPerson_98 (fun v14 => ?_)
      refine PJ.istore (pc := 101) (L1 := [some (.inr (.inr a0)), some (.inr (.inl v4.1)), none, some (.inl j6), some (.inl v14.1), none]) d_M_readPerson_101 (Nat.le_of_ble_eq_true rfl) rfl rfl ?_
      refine PJ.aload_n (pc := 103) d_M_readPerson_103 rfl ?_
      refine PJ.getI (pc := 104) fs_M_80 d_M_readPerson_104 (fun v15 => ?_)
      refine PJ.iconst (pc := 107) (v := 5) d_M_readPerson_107 (by decide) ?_
      refine PJ.icmp_ne (pc := 108) (tgt := 112) d_M_readPerson_108 (by decide) (fun _ => ?_) (fun _ => ?_)
      · refine PJ.aload_n (pc := 112) d_M_readPerson_112 rfl ?_
        refine PJ.getR (pc := 113) fs_M_160 d_M_readPerson_113 (fun v16 => ?_)
        refine PJ.getI (pc := 116) fs_M_255 d_M_readPerson_116 (fun v17 => ?_)
        refine PJ.istore (pc := 119) (L1 := [some (.inr (.inr a0)), some (.inr (.inl v4.1)), none, some (.inl j6), some (.inl v14.1), some (.inl v17)]) d_M_readPerson_119 (Nat.le_of_ble_eq_true rfl) rfl rfl ?_
        refine PJ.aload_n (pc := 121) d_M_readPerson_121 rfl ?_
        refine PJ.lload_n (pc := 122) d_M_readPerson_122 rfl ?_
        refine PJ.iconst (pc := 123) (v := 1) d_M_readPerson_123 (by decide) ?_
        refine PJ.iload (pc := 124) d_M_readPerson_124 rfl ?_
        refine PJ.cVV (pc := 126) cs_M_245 (fun z hz => PM_M_names hz) (pj_fitb rfl) rfl rfl (Nat.le_of_ble_eq_true rfl) d_M_readPerson_126 (fun h18 => ?_)
        refine PJ.aload_n (pc := 129) d_M_readPerson_129 rfl ?_
        refine PJ.getR (pc := 130) fs_M_160 d_M_readPerson_130 (fun v19 => ?_)
        refine PJ.getR (pc := 133) fs_M_268 d_M_readPerson_133 (fun v20 => ?_)
        refine PJ.iload (pc := 136) d_M_readPerson_136 rfl ?_
        refine PJ.iload_n (pc := 138) d_M_readPerson_138 rfl ?_
        refine PJ.iast (pc := 139) d_M_readPerson_139 (fun h21 => ?_)
        refine PJ.aload_n (pc := 140) d_M_readPerson_140 rfl ?_
        refine PJ.getR (pc := 141) fs_M_160 d_M_readPerson_141 (fun v22 => ?_)
        refine PJ.getR (pc := 144) fs_M_270 d_M_readPerson_144 (fun v23 => ?_)
        refine PJ.iload (pc := 147) d_M_readPerson_147 rfl ?_
        refine PJ.iload (pc := 149) d_M_readPerson_149 rfl ?_
        refine PJ.iast (pc := 151) d_M_readPerson_151 (fun h24 => ?_)
        refine PJ.aload_n (pc := 152) d_M_readPerson_152 rfl ?_
        refine PJ.getR (pc := 153) fs_M_160 d_M_readPerson_153 (fun v25 => ?_)
        refine PJ.dup (pc := 156) d_M_readPerson_156 rfl ?_
        refine PJ.getI (pc := 157) fs_M_255 d_M_readPerson_157 (fun v26 => ?_)
        refine PJ.iconst (pc := 160) (v := 1) d_M_readPerson_160 (by decide) ?_
        refine PJ.iadd (pc := 161) d_M_readPerson_161 ?_
        refine PJ.putI (pc := 162) ps_M_255 d_M_readPerson_162 (fun h27 => ?_)
        exact PJ.vret (pc := 165) d_M_readPerson_165 rfl (Nat.le_of_ble_eq_true rfl) (Nat.le_of_ble_eq_true rfl)
      · exact PJ.vret (pc := 111) d_M_readPerson_111 rfl (Nat.le_of_ble_eq_true rfl) (Nat.le_of_ble_eq_true rfl)
