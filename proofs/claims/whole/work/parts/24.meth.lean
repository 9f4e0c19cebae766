-- sites and methods: meth
abbrev Y_T_person : MI := (⟨"WaverTax", "person", "(II)I"⟩, prog_1_method_7_code, 3, (some .int))
abbrev Y_T_isChoice : MI := (⟨"WaverTax", "isChoice", "(I)Z"⟩, prog_1_method_69_code, 2, (some .boolean))
abbrev Y_Law_apart : MI := (⟨"WaverTax$Law", "apart", "(II)I"⟩, prog_3_method_3_code, 3, (some .int))
abbrev Y_T_far : MI := (⟨"WaverTax", "far", "(II)I"⟩, prog_1_method_8_code, 3, (some .int))
abbrev Y_Desk_look : MI := (⟨"WaverTax$Desk", "look", "(LWaverTax$Law;LWaverTax$Now;)V"⟩, prog_2_method_2_code, 3, (none : Option FieldType))
abbrev Y_T_present : MI := (⟨"WaverTax", "present", "()LWaverTax$Desk;"⟩, prog_1_method_71_code, 1, (some (.object "WaverTax$Desk")))
abbrev Y_Now_hasCome : MI := (⟨"WaverTax$Now", "hasCome", "(I)Z"⟩, prog_4_method_4_code, 2, (some .boolean))
abbrev Y_Desk_worthOf : MI := (⟨"WaverTax$Desk", "worthOf", "(II)I"⟩, prog_2_method_4_code, 6, (some .int))
abbrev Y_T_worth : MI := (⟨"WaverTax", "worth", "(II)I"⟩, prog_1_method_9_code, 3, (some .int))
abbrev Y_Desk_taxOf : MI := (⟨"WaverTax$Desk", "taxOf", "(II)I"⟩, prog_2_method_3_code, 5, (some .int))
abbrev Y_T_tax : MI := (⟨"WaverTax", "tax", "(II)I"⟩, prog_1_method_10_code, 3, (some .int))
abbrev Y_Desk_leftOf : MI := (⟨"WaverTax$Desk", "leftOf", "(II)I"⟩, prog_2_method_5_code, 3, (some .int))
abbrev Y_Desk_choiceOf : MI := (⟨"WaverTax$Desk", "choiceOf", "(I)I"⟩, prog_2_method_6_code, 6, (some .int))
abbrev Y_T_chooses : MI := (⟨"WaverTax", "chooses", "(I)I"⟩, prog_1_method_11_code, 2, (some .int))
abbrev Y_Desk_wavering : MI := (⟨"WaverTax$Desk", "wavering", "()I"⟩, prog_2_method_7_code, 3, (some .int))
abbrev Y_T_waverers : MI := (⟨"WaverTax", "waverers", "()I"⟩, prog_1_method_12_code, 1, (some .int))
abbrev Y_T_holding : MI := (⟨"WaverTax", "holding", "(I)I"⟩, prog_1_method_14_code, 4, (some .int))
theorem cm_Law_apart : (Cond.code Y_Law_apart.1 Y_Law_apart.2.1 Y_Law_apart.2.2.1 Y_Law_apart.2.2.2 ∈ pj_ws) ∧ (Cond.initialized Y_Law_apart.1.cls ∈ pj_ws) ∧ (Y_Law_apart.1.cls ≠ "java/lang/invoke/MethodHandle" ∧ Y_Law_apart.1.cls ≠ "java/lang/invoke/VarHandle" ∧ (parseMethodDescriptor Y_Law_apart.1.desc).map (fun d => d.parameters.length) = some 2) ∧ (Cond.instanceMethod Y_Law_apart.1 ∈ pj_ws) ∧ (Cond.selects Y_Law_apart.1.cls Y_Law_apart.1 Y_Law_apart.1 ∈ pj_ws) := ⟨pj_mem 845 (by decide +kernel) rfl, pj_mem 131 (by decide +kernel) rfl, ⟨by decide +kernel, by decide +kernel, by decide +kernel⟩, pj_mem 843 (by decide +kernel) rfl, pj_mem 844 (by decide +kernel) rfl⟩
theorem cm_Now_hasCome : (Cond.code Y_Now_hasCome.1 Y_Now_hasCome.2.1 Y_Now_hasCome.2.2.1 Y_Now_hasCome.2.2.2 ∈ pj_ws) ∧ (Cond.initialized Y_Now_hasCome.1.cls ∈ pj_ws) ∧ (Y_Now_hasCome.1.cls ≠ "java/lang/invoke/MethodHandle" ∧ Y_Now_hasCome.1.cls ≠ "java/lang/invoke/VarHandle" ∧ (parseMethodDescriptor Y_Now_hasCome.1.desc).map (fun d => d.parameters.length) = some 1) ∧ (Cond.instanceMethod Y_Now_hasCome.1 ∈ pj_ws) ∧ (Cond.selects Y_Now_hasCome.1.cls Y_Now_hasCome.1 Y_Now_hasCome.1 ∈ pj_ws) := ⟨pj_mem 865 (by decide +kernel) rfl, pj_mem 136 (by decide +kernel) rfl, ⟨by decide +kernel, by decide +kernel, by decide +kernel⟩, pj_mem 863 (by decide +kernel) rfl, pj_mem 864 (by decide +kernel) rfl⟩
theorem cm_Desk_worthOf : (Cond.code Y_Desk_worthOf.1 Y_Desk_worthOf.2.1 Y_Desk_worthOf.2.2.1 Y_Desk_worthOf.2.2.2 ∈ pj_ws) ∧ (Cond.initialized Y_Desk_worthOf.1.cls ∈ pj_ws) ∧ (Y_Desk_worthOf.1.cls ≠ "java/lang/invoke/MethodHandle" ∧ Y_Desk_worthOf.1.cls ≠ "java/lang/invoke/VarHandle" ∧ (parseMethodDescriptor Y_Desk_worthOf.1.desc).map (fun d => d.parameters.length) = some 2) ∧ (Cond.instanceMethod Y_Desk_worthOf.1 ∈ pj_ws) ∧ (Cond.selects Y_Desk_worthOf.1.cls Y_Desk_worthOf.1 Y_Desk_worthOf.1 ∈ pj_ws) := ⟨pj_mem 861 (by decide +kernel) rfl, pj_mem 137 (by decide +kernel) rfl, ⟨by decide +kernel, by decide +kernel, by decide +kernel⟩, pj_mem 859 (by decide +kernel) rfl, pj_mem 860 (by decide +kernel) rfl⟩
theorem cm_Desk_taxOf : (Cond.code Y_Desk_taxOf.1 Y_Desk_taxOf.2.1 Y_Desk_taxOf.2.2.1 Y_Desk_taxOf.2.2.2 ∈ pj_ws) ∧ (Cond.initialized Y_Desk_taxOf.1.cls ∈ pj_ws) ∧ (Y_Desk_taxOf.1.cls ≠ "java/lang/invoke/MethodHandle" ∧ Y_Desk_taxOf.1.cls ≠ "java/lang/invoke/VarHandle" ∧ (parseMethodDescriptor Y_Desk_taxOf.1.desc).map (fun d => d.parameters.length) = some 2) ∧ (Cond.instanceMethod Y_Desk_taxOf.1 ∈ pj_ws) ∧ (Cond.selects Y_Desk_taxOf.1.cls Y_Desk_taxOf.1 Y_Desk_taxOf.1 ∈ pj_ws) := ⟨pj_mem 873 (by decide +kernel) rfl, pj_mem 137 (by decide +kernel) rfl, ⟨by decide +kernel, by decide +kernel, by decide +kernel⟩, pj_mem 871 (by decide +kernel) rfl, pj_mem 872 (by decide +kernel) rfl⟩
theorem cm_Desk_leftOf : (Cond.code Y_Desk_leftOf.1 Y_Desk_leftOf.2.1 Y_Desk_leftOf.2.2.1 Y_Desk_leftOf.2.2.2 ∈ pj_ws) ∧ (Cond.initialized Y_Desk_leftOf.1.cls ∈ pj_ws) ∧ (Y_Desk_leftOf.1.cls ≠ "java/lang/invoke/MethodHandle" ∧ Y_Desk_leftOf.1.cls ≠ "java/lang/invoke/VarHandle" ∧ (parseMethodDescriptor Y_Desk_leftOf.1.desc).map (fun d => d.parameters.length) = some 2) ∧ (Cond.instanceMethod Y_Desk_leftOf.1 ∈ pj_ws) ∧ (Cond.selects Y_Desk_leftOf.1.cls Y_Desk_leftOf.1 Y_Desk_leftOf.1 ∈ pj_ws) := ⟨pj_mem 886 (by decide +kernel) rfl, pj_mem 137 (by decide +kernel) rfl, ⟨by decide +kernel, by decide +kernel, by decide +kernel⟩, pj_mem 884 (by decide +kernel) rfl, pj_mem 885 (by decide +kernel) rfl⟩
theorem cm_Desk_choiceOf : (Cond.code Y_Desk_choiceOf.1 Y_Desk_choiceOf.2.1 Y_Desk_choiceOf.2.2.1 Y_Desk_choiceOf.2.2.2 ∈ pj_ws) ∧ (Cond.initialized Y_Desk_choiceOf.1.cls ∈ pj_ws) ∧ (Y_Desk_choiceOf.1.cls ≠ "java/lang/invoke/MethodHandle" ∧ Y_Desk_choiceOf.1.cls ≠ "java/lang/invoke/VarHandle" ∧ (parseMethodDescriptor Y_Desk_choiceOf.1.desc).map (fun d => d.parameters.length) = some 1) ∧ (Cond.instanceMethod Y_Desk_choiceOf.1 ∈ pj_ws) ∧ (Cond.selects Y_Desk_choiceOf.1.cls Y_Desk_choiceOf.1 Y_Desk_choiceOf.1 ∈ pj_ws) := ⟨pj_mem 882 (by decide +kernel) rfl, pj_mem 137 (by decide +kernel) rfl, ⟨by decide +kernel, by decide +kernel, by decide +kernel⟩, pj_mem 880 (by decide +kernel) rfl, pj_mem 881 (by decide +kernel) rfl⟩
theorem cm_T_isPerson : (Cond.code Y_T_isPerson.1 Y_T_isPerson.2.1 Y_T_isPerson.2.2.1 Y_T_isPerson.2.2.2 ∈ pj_ws) ∧ (Cond.initialized Y_T_isPerson.1.cls ∈ pj_ws) ∧ (Y_T_isPerson.1.cls ≠ "java/lang/invoke/MethodHandle" ∧ Y_T_isPerson.1.cls ≠ "java/lang/invoke/VarHandle" ∧ (parseMethodDescriptor Y_T_isPerson.1.desc).map (fun d => d.parameters.length) = some 1) ∧ (Cond.instanceMethod Y_T_isPerson.1 ∈ pj_ws) ∧ (Cond.selects Y_T_isPerson.1.cls Y_T_isPerson.1 Y_T_isPerson.1 ∈ pj_ws) := ⟨pj_mem 833 (by decide +kernel) rfl, pj_mem 130 (by decide +kernel) rfl, ⟨by decide +kernel, by decide +kernel, by decide +kernel⟩, pj_mem 832 (by decide +kernel) rfl, pj_mem 27 (by decide +kernel) rfl⟩
theorem cm_T_isChoice : (Cond.code Y_T_isChoice.1 Y_T_isChoice.2.1 Y_T_isChoice.2.2.1 Y_T_isChoice.2.2.2 ∈ pj_ws) ∧ (Cond.initialized Y_T_isChoice.1.cls ∈ pj_ws) ∧ (Y_T_isChoice.1.cls ≠ "java/lang/invoke/MethodHandle" ∧ Y_T_isChoice.1.cls ≠ "java/lang/invoke/VarHandle" ∧ (parseMethodDescriptor Y_T_isChoice.1.desc).map (fun d => d.parameters.length) = some 1) ∧ (Cond.instanceMethod Y_T_isChoice.1 ∈ pj_ws) ∧ (Cond.selects Y_T_isChoice.1.cls Y_T_isChoice.1 Y_T_isChoice.1 ∈ pj_ws) := ⟨pj_mem 841 (by decide +kernel) rfl, pj_mem 130 (by decide +kernel) rfl, ⟨by decide +kernel, by decide +kernel, by decide +kernel⟩, pj_mem 840 (by decide +kernel) rfl, pj_mem 28 (by decide +kernel) rfl⟩
theorem cm_T_present : (Cond.code Y_T_present.1 Y_T_present.2.1 Y_T_present.2.2.1 Y_T_present.2.2.2 ∈ pj_ws) ∧ (Cond.initialized Y_T_present.1.cls ∈ pj_ws) ∧ (Y_T_present.1.cls ≠ "java/lang/invoke/MethodHandle" ∧ Y_T_present.1.cls ≠ "java/lang/invoke/VarHandle" ∧ (parseMethodDescriptor Y_T_present.1.desc).map (fun d => d.parameters.length) = some 0) ∧ (Cond.instanceMethod Y_T_present.1 ∈ pj_ws) ∧ (Cond.selects Y_T_present.1.cls Y_T_present.1 Y_T_present.1 ∈ pj_ws) := ⟨pj_mem 853 (by decide +kernel) rfl, pj_mem 130 (by decide +kernel) rfl, ⟨by decide +kernel, by decide +kernel, by decide +kernel⟩, pj_mem 852 (by decide +kernel) rfl, pj_mem 29 (by decide +kernel) rfl⟩
theorem cm_Desk_wavering : (Cond.code Y_Desk_wavering.1 Y_Desk_wavering.2.1 Y_Desk_wavering.2.2.1 Y_Desk_wavering.2.2.2 ∈ pj_ws) ∧ (Cond.initialized Y_Desk_wavering.1.cls ∈ pj_ws) ∧ (Y_Desk_wavering.1.cls ≠ "java/lang/invoke/MethodHandle" ∧ Y_Desk_wavering.1.cls ≠ "java/lang/invoke/VarHandle" ∧ (parseMethodDescriptor Y_Desk_wavering.1.desc).map (fun d => d.parameters.length) = some 0) ∧ (Cond.instanceMethod Y_Desk_wavering.1 ∈ pj_ws) ∧ (Cond.selects Y_Desk_wavering.1.cls Y_Desk_wavering.1 Y_Desk_wavering.1 ∈ pj_ws) := ⟨pj_mem 896 (by decide +kernel) rfl, pj_mem 137 (by decide +kernel) rfl, ⟨by decide +kernel, by decide +kernel, by decide +kernel⟩, pj_mem 894 (by decide +kernel) rfl, pj_mem 895 (by decide +kernel) rfl⟩
theorem cm_Desk_look : (Cond.code Y_Desk_look.1 Y_Desk_look.2.1 Y_Desk_look.2.2.1 Y_Desk_look.2.2.2 ∈ pj_ws) ∧ (Cond.initialized Y_Desk_look.1.cls ∈ pj_ws) ∧ (Y_Desk_look.1.cls ≠ "java/lang/invoke/MethodHandle" ∧ Y_Desk_look.1.cls ≠ "java/lang/invoke/VarHandle" ∧ (parseMethodDescriptor Y_Desk_look.1.desc).map (fun d => d.parameters.length) = some 2) ∧ (Cond.instanceMethod Y_Desk_look.1 ∈ pj_ws) ∧ (Cond.selects Y_Desk_look.1.cls Y_Desk_look.1 Y_Desk_look.1 ∈ pj_ws) := ⟨pj_mem 857 (by decide +kernel) rfl, pj_mem 137 (by decide +kernel) rfl, ⟨by decide +kernel, by decide +kernel, by decide +kernel⟩, pj_mem 855 (by decide +kernel) rfl, pj_mem 856 (by decide +kernel) rfl⟩
theorem cs_Desk_38 : pj_cV "WaverTax$Desk" 38 Y_Law_apart 2 1 := ⟨⟨cm_Law_apart.1, cm_Law_apart.2.1, cm_Law_apart.2.2.1, Or.inl (pj_mem 874 (by decide +kernel) rfl)⟩, by decide, cm_Law_apart.2.2.2.1, cm_Law_apart.2.2.2.2, ⟨_, rfl, rfl⟩⟩
theorem cs_Desk_76 : pj_cV "WaverTax$Desk" 76 Y_Now_hasCome 1 2 := ⟨⟨cm_Now_hasCome.1, cm_Now_hasCome.2.1, cm_Now_hasCome.2.2.1, Or.inl (pj_mem 862 (by decide +kernel) rfl)⟩, by decide, cm_Now_hasCome.2.2.2.1, cm_Now_hasCome.2.2.2.2, ⟨_, rfl, rfl⟩⟩
theorem cs_Desk_83 : pj_cV "WaverTax$Desk" 83 Y_Desk_worthOf 2 0 := ⟨⟨cm_Desk_worthOf.1, cm_Desk_worthOf.2.1, cm_Desk_worthOf.2.2.1, Or.inl (pj_mem 887 (by decide +kernel) rfl)⟩, by decide, cm_Desk_worthOf.2.2.2.1, cm_Desk_worthOf.2.2.2.2, ⟨_, rfl, rfl⟩⟩
theorem cs_Desk_86 : pj_cV "WaverTax$Desk" 86 Y_Desk_taxOf 2 0 := ⟨⟨cm_Desk_taxOf.1, cm_Desk_taxOf.2.1, cm_Desk_taxOf.2.2.1, Or.inl (pj_mem 888 (by decide +kernel) rfl)⟩, by decide, cm_Desk_taxOf.2.2.2.1, cm_Desk_taxOf.2.2.2.2, ⟨_, rfl, rfl⟩⟩
theorem cs_Desk_89 : pj_cV "WaverTax$Desk" 89 Y_Desk_leftOf 2 0 := ⟨⟨cm_Desk_leftOf.1, cm_Desk_leftOf.2.1, cm_Desk_leftOf.2.2.1, Or.inl (pj_mem 883 (by decide +kernel) rfl)⟩, by decide, cm_Desk_leftOf.2.2.2.1, cm_Desk_leftOf.2.2.2.2, ⟨_, rfl, rfl⟩⟩
theorem cs_Desk_98 : pj_cV "WaverTax$Desk" 98 Y_Desk_choiceOf 1 0 := ⟨⟨cm_Desk_choiceOf.1, cm_Desk_choiceOf.2.1, cm_Desk_choiceOf.2.2.1, Or.inl (pj_mem 897 (by decide +kernel) rfl)⟩, by decide, cm_Desk_choiceOf.2.2.2.1, cm_Desk_choiceOf.2.2.2.2, ⟨_, rfl, rfl⟩⟩
theorem cs_T_117 : pj_cV "WaverTax" 117 Y_T_isPerson 1 10 := ⟨⟨cm_T_isPerson.1, cm_T_isPerson.2.1, cm_T_isPerson.2.2.1, Or.inl (pj_mem 830 (by decide +kernel) rfl)⟩, by decide, cm_T_isPerson.2.2.2.1, cm_T_isPerson.2.2.2.2, ⟨_, rfl, rfl⟩⟩
theorem cs_T_140 : pj_cV "WaverTax" 140 Y_T_isChoice 1 10 := ⟨⟨cm_T_isChoice.1, cm_T_isChoice.2.1, cm_T_isChoice.2.2.1, Or.inl (pj_mem 838 (by decide +kernel) rfl)⟩, by decide, cm_T_isChoice.2.2.2.1, cm_T_isChoice.2.2.2.2, ⟨_, rfl, rfl⟩⟩
theorem cs_T_143 : pj_cV "WaverTax" 143 Y_Law_apart 2 1 := ⟨⟨cm_Law_apart.1, cm_Law_apart.2.1, cm_Law_apart.2.2.1, Or.inl (pj_mem 842 (by decide +kernel) rfl)⟩, by decide, cm_Law_apart.2.2.2.1, cm_Law_apart.2.2.2.2, ⟨_, rfl, rfl⟩⟩
theorem cs_T_147 : pj_cV "WaverTax" 147 Y_T_present 0 10 := ⟨⟨cm_T_present.1, cm_T_present.2.1, cm_T_present.2.2.1, Or.inl (pj_mem 850 (by decide +kernel) rfl)⟩, by decide, cm_T_present.2.2.2.1, cm_T_present.2.2.2.2, ⟨_, rfl, rfl⟩⟩
theorem cs_T_151 : pj_cV "WaverTax" 151 Y_Desk_worthOf 2 0 := ⟨⟨cm_Desk_worthOf.1, cm_Desk_worthOf.2.1, cm_Desk_worthOf.2.2.1, Or.inl (pj_mem 858 (by decide +kernel) rfl)⟩, by decide, cm_Desk_worthOf.2.2.2.1, cm_Desk_worthOf.2.2.2.2, ⟨_, rfl, rfl⟩⟩
theorem cs_T_154 : pj_cV "WaverTax" 154 Y_Desk_taxOf 2 0 := ⟨⟨cm_Desk_taxOf.1, cm_Desk_taxOf.2.1, cm_Desk_taxOf.2.2.1, Or.inl (pj_mem 870 (by decide +kernel) rfl)⟩, by decide, cm_Desk_taxOf.2.2.2.1, cm_Desk_taxOf.2.2.2.2, ⟨_, rfl, rfl⟩⟩
theorem cs_T_157 : pj_cV "WaverTax" 157 Y_Desk_choiceOf 1 0 := ⟨⟨cm_Desk_choiceOf.1, cm_Desk_choiceOf.2.1, cm_Desk_choiceOf.2.2.1, Or.inl (pj_mem 879 (by decide +kernel) rfl)⟩, by decide, cm_Desk_choiceOf.2.2.2.1, cm_Desk_choiceOf.2.2.2.2, ⟨_, rfl, rfl⟩⟩
theorem cs_T_160 : pj_cV "WaverTax" 160 Y_Desk_wavering 0 0 := ⟨⟨cm_Desk_wavering.1, cm_Desk_wavering.2.1, cm_Desk_wavering.2.2.1, Or.inl (pj_mem 893 (by decide +kernel) rfl)⟩, by decide, cm_Desk_wavering.2.2.2.1, cm_Desk_wavering.2.2.2.2, ⟨_, rfl, rfl⟩⟩
theorem cs_T_252 : pj_cV "WaverTax" 252 Y_Desk_look 2 0 := ⟨⟨cm_Desk_look.1, cm_Desk_look.2.1, cm_Desk_look.2.2.1, Or.inl (pj_mem 854 (by decide +kernel) rfl)⟩, by decide, cm_Desk_look.2.2.2.1, cm_Desk_look.2.2.2.2, ⟨_, rfl, rfl⟩⟩
theorem fs_Desk_15 : pj_fs "WaverTax$Desk" 0 3 15 (.int) := ⟨_, _, _, _, cd_0, by decide, rfl, Or.inl (pj_mem 458 (by decide +kernel) rfl)⟩
theorem fs_Desk_18 : pj_fs "WaverTax$Desk" 0 0 18 (.object "WaverTax$Law") := ⟨_, _, _, _, cd_0, by decide, rfl, Or.inl (pj_mem 454 (by decide +kernel) rfl)⟩
theorem fs_Desk_22 : pj_fs "WaverTax$Desk" 0 1 22 (.object "WaverTax$Now") := ⟨_, _, _, _, cd_0, by decide, rfl, Or.inl (pj_mem 455 (by decide +kernel) rfl)⟩
theorem fs_Desk_26 : pj_fs "WaverTax$Desk" 1 1 26 (.int) := ⟨_, _, _, _, cd_1, by decide, rfl, Or.inl (pj_mem 279 (by decide +kernel) rfl)⟩
theorem fs_Desk_29 : pj_fs "WaverTax$Desk" 1 6 29 (.array (.int)) := ⟨_, _, _, _, cd_1, by decide, rfl, Or.inl (pj_mem 299 (by decide +kernel) rfl)⟩
theorem fs_Desk_33 : pj_fs "WaverTax$Desk" 2 3 33 (.array (.int)) := ⟨_, _, _, _, cd_2, by decide, rfl, Or.inl (pj_mem 417 (by decide +kernel) rfl)⟩
theorem fs_Desk_42 : pj_fs "WaverTax$Desk" 2 4 42 (.array (.int)) := ⟨_, _, _, _, cd_2, by decide, rfl, Or.inl (pj_mem 423 (by decide +kernel) rfl)⟩
theorem fs_Desk_45 : pj_fs "WaverTax$Desk" 2 0 45 (.int) := ⟨_, _, _, _, cd_2, by decide, rfl, Or.inl (pj_mem 409 (by decide +kernel) rfl)⟩
theorem fs_Desk_48 : pj_fs "WaverTax$Desk" 2 6 48 (.array (.int)) := ⟨_, _, _, _, cd_2, by decide, rfl, Or.inl (pj_mem 430 (by decide +kernel) rfl)⟩
theorem fs_Desk_51 : pj_fs "WaverTax$Desk" 1 0 51 (.int) := ⟨_, _, _, _, cd_1, by decide, rfl, Or.inl (pj_mem 275 (by decide +kernel) rfl)⟩
theorem fs_Desk_54 : pj_fs "WaverTax$Desk" 1 7 54 (.array (.int)) := ⟨_, _, _, _, cd_1, by decide, rfl, Or.inl (pj_mem 304 (by decide +kernel) rfl)⟩
theorem fs_Desk_57 : pj_fs "WaverTax$Desk" 1 10 57 (.object "WaverTax$Reasons") := ⟨_, _, _, _, cd_1, by decide, rfl, Or.inl (pj_mem 314 (by decide +kernel) rfl)⟩
theorem fs_Desk_61 : pj_fs "WaverTax$Desk" 1 8 61 (.array (.array (.int))) := ⟨_, _, _, _, cd_1, by decide, rfl, Or.inl (pj_mem 308 (by decide +kernel) rfl)⟩
theorem fs_Desk_65 : pj_fs "WaverTax$Desk" 6 0 65 (.int) := ⟨_, _, _, _, cd_6, by decide, rfl, Or.inl (pj_mem 179 (by decide +kernel) rfl)⟩
theorem fs_Desk_70 : pj_fs "WaverTax$Desk" 6 1 70 (.array (.int)) := ⟨_, _, _, _, cd_6, by decide, rfl, Or.inl (pj_mem 185 (by decide +kernel) rfl)⟩
theorem fs_Desk_73 : pj_fs "WaverTax$Desk" 6 2 73 (.array (.int)) := ⟨_, _, _, _, cd_6, by decide, rfl, Or.inl (pj_mem 189 (by decide +kernel) rfl)⟩
theorem fs_Desk_80 : pj_fs "WaverTax$Desk" 6 5 80 (.array (.int)) := ⟨_, _, _, _, cd_6, by decide, rfl, Or.inl (pj_mem 201 (by decide +kernel) rfl)⟩
theorem fs_Desk_9 : pj_fs "WaverTax$Desk" 0 2 9 (.int) := ⟨_, _, _, _, cd_0, by decide, rfl, Or.inl (pj_mem 456 (by decide +kernel) rfl)⟩
theorem fs_Desk_92 : pj_fs "WaverTax$Desk" 1 2 92 (.int) := ⟨_, _, _, _, cd_1, by decide, rfl, Or.inl (pj_mem 286 (by decide +kernel) rfl)⟩
theorem fs_Desk_95 : pj_fs "WaverTax$Desk" 1 3 95 (.int) := ⟨_, _, _, _, cd_1, by decide, rfl, Or.inl (pj_mem 291 (by decide +kernel) rfl)⟩
theorem fs_Now_18 : pj_fs "WaverTax$Now" 2 2 18 (.int) := ⟨_, _, _, _, cd_2, by decide, rfl, Or.inl (pj_mem 414 (by decide +kernel) rfl)⟩
theorem fs_T_121 : pj_fs "WaverTax" 1 6 121 (.array (.int)) := ⟨_, _, _, _, cd_1, by decide, rfl, Or.inl (pj_mem 300 (by decide +kernel) rfl)⟩
theorem fs_T_125 : pj_fs "WaverTax" 1 7 125 (.array (.int)) := ⟨_, _, _, _, cd_1, by decide, rfl, Or.inl (pj_mem 305 (by decide +kernel) rfl)⟩
theorem fs_T_128 : pj_fs "WaverTax" 2 3 128 (.array (.int)) := ⟨_, _, _, _, cd_2, by decide, rfl, Or.inl (pj_mem 420 (by decide +kernel) rfl)⟩
theorem fs_T_131 : pj_fs "WaverTax" 2 4 131 (.array (.int)) := ⟨_, _, _, _, cd_2, by decide, rfl, Or.inl (pj_mem 425 (by decide +kernel) rfl)⟩
theorem fs_T_134 : pj_fs "WaverTax" 2 5 134 (.array (.int)) := ⟨_, _, _, _, cd_2, by decide, rfl, Or.inl (pj_mem 427 (by decide +kernel) rfl)⟩
theorem fs_T_137 : pj_fs "WaverTax" 2 6 137 (.array (.int)) := ⟨_, _, _, _, cd_2, by decide, rfl, Or.inl (pj_mem 432 (by decide +kernel) rfl)⟩
theorem fs_T_167 : pj_fs "WaverTax" 1 2 167 (.int) := ⟨_, _, _, _, cd_1, by decide, rfl, Or.inl (pj_mem 287 (by decide +kernel) rfl)⟩
theorem fs_T_36 : pj_fs "WaverTax" 10 5 36 (.boolean) := ⟨_, _, _, _, cd_10, by decide, rfl, Or.inl (pj_mem 555 (by decide +kernel) rfl)⟩
theorem d_T_person_0 : decode Y_T_person.2.1 0 = .ok (.aload_n 0, 1) := by decide +kernel
theorem d_T_person_1 : decode Y_T_person.2.1 1 = .ok (.iload_n 1, 1) := by decide +kernel
theorem d_T_person_2 : decode Y_T_person.2.1 2 = .ok (.invokevirtual 117, 3) := by decide +kernel
theorem d_T_person_5 : decode Y_T_person.2.1 5 = .ok (.ifCond .eq 12, 3) := by decide +kernel
theorem d_T_person_8 : decode Y_T_person.2.1 8 = .ok (.iload_n 2, 1) := by decide +kernel
theorem d_T_person_9 : decode Y_T_person.2.1 9 = .ok (.ifCond .lt 8, 3) := by decide +kernel
theorem d_T_person_12 : decode Y_T_person.2.1 12 = .ok (.iload_n 2, 1) := by decide +kernel
theorem d_T_person_13 : decode Y_T_person.2.1 13 = .ok (.iconst 5, 1) := by decide +kernel
theorem d_T_person_14 : decode Y_T_person.2.1 14 = .ok (.if_icmp .le 9, 3) := by decide +kernel
theorem d_T_person_17 : decode Y_T_person.2.1 17 = .ok (.aload_n 0, 1) := by decide +kernel
theorem d_T_person_18 : decode Y_T_person.2.1 18 = .ok (.iconst 1, 1) := by decide +kernel
theorem d_T_person_19 : decode Y_T_person.2.1 19 = .ok (.invokevirtual 95, 3) := by decide +kernel
theorem d_T_person_22 : decode Y_T_person.2.1 22 = .ok (.ireturn, 1) := by decide +kernel
theorem d_T_person_23 : decode Y_T_person.2.1 23 = .ok (.iload_n 2, 1) := by decide +kernel
theorem d_T_person_24 : decode Y_T_person.2.1 24 = .ok (.tableswitch 106 0 4 #[36, 50, 64, 78, 92], 36) := by decide +kernel
theorem d_T_person_60 : decode Y_T_person.2.1 60 = .ok (.aload_n 0, 1) := by decide +kernel
theorem d_T_person_61 : decode Y_T_person.2.1 61 = .ok (.aload_n 0, 1) := by decide +kernel
theorem d_T_person_62 : decode Y_T_person.2.1 62 = .ok (.getfield 20, 3) := by decide +kernel
theorem d_T_person_65 : decode Y_T_person.2.1 65 = .ok (.getfield 121, 3) := by decide +kernel
theorem d_T_person_68 : decode Y_T_person.2.1 68 = .ok (.iload_n 1, 1) := by decide +kernel
theorem d_T_person_69 : decode Y_T_person.2.1 69 = .ok (.iaload, 1) := by decide +kernel
theorem d_T_person_70 : decode Y_T_person.2.1 70 = .ok (.invokevirtual 114, 3) := by decide +kernel
theorem d_T_person_73 : decode Y_T_person.2.1 73 = .ok (.ireturn, 1) := by decide +kernel
theorem d_T_person_74 : decode Y_T_person.2.1 74 = .ok (.aload_n 0, 1) := by decide +kernel
theorem d_T_person_75 : decode Y_T_person.2.1 75 = .ok (.aload_n 0, 1) := by decide +kernel
theorem d_T_person_76 : decode Y_T_person.2.1 76 = .ok (.getfield 20, 3) := by decide +kernel
theorem d_T_person_79 : decode Y_T_person.2.1 79 = .ok (.getfield 125, 3) := by decide +kernel
theorem d_T_person_82 : decode Y_T_person.2.1 82 = .ok (.iload_n 1, 1) := by decide +kernel
theorem d_T_person_83 : decode Y_T_person.2.1 83 = .ok (.iaload, 1) := by decide +kernel
theorem d_T_person_84 : decode Y_T_person.2.1 84 = .ok (.invokevirtual 114, 3) := by decide +kernel
theorem d_T_person_87 : decode Y_T_person.2.1 87 = .ok (.ireturn, 1) := by decide +kernel
theorem d_T_person_88 : decode Y_T_person.2.1 88 = .ok (.aload_n 0, 1) := by decide +kernel
theorem d_T_person_89 : decode Y_T_person.2.1 89 = .ok (.aload_n 0, 1) := by decide +kernel
theorem d_T_person_90 : decode Y_T_person.2.1 90 = .ok (.getfield 43, 3) := by decide +kernel
theorem d_T_person_93 : decode Y_T_person.2.1 93 = .ok (.getfield 128, 3) := by decide +kernel
theorem d_T_person_96 : decode Y_T_person.2.1 96 = .ok (.iload_n 1, 1) := by decide +kernel
theorem d_T_person_97 : decode Y_T_person.2.1 97 = .ok (.iaload, 1) := by decide +kernel
theorem d_T_person_98 : decode Y_T_person.2.1 98 = .ok (.invokevirtual 114, 3) := by decide +kernel
theorem d_T_person_101 : decode Y_T_person.2.1 101 = .ok (.ireturn, 1) := by decide +kernel
theorem d_T_person_102 : decode Y_T_person.2.1 102 = .ok (.aload_n 0, 1) := by decide +kernel
theorem d_T_person_103 : decode Y_T_person.2.1 103 = .ok (.aload_n 0, 1) := by decide +kernel
theorem d_T_person_104 : decode Y_T_person.2.1 104 = .ok (.getfield 43, 3) := by decide +kernel
theorem d_T_person_107 : decode Y_T_person.2.1 107 = .ok (.getfield 131, 3) := by decide +kernel
theorem d_T_person_110 : decode Y_T_person.2.1 110 = .ok (.iload_n 1, 1) := by decide +kernel
theorem d_T_person_111 : decode Y_T_person.2.1 111 = .ok (.iaload, 1) := by decide +kernel
theorem d_T_person_112 : decode Y_T_person.2.1 112 = .ok (.invokevirtual 114, 3) := by decide +kernel
theorem d_T_person_115 : decode Y_T_person.2.1 115 = .ok (.ireturn, 1) := by decide +kernel
theorem d_T_person_116 : decode Y_T_person.2.1 116 = .ok (.aload_n 0, 1) := by decide +kernel
theorem d_T_person_117 : decode Y_T_person.2.1 117 = .ok (.aload_n 0, 1) := by decide +kernel
theorem d_T_person_118 : decode Y_T_person.2.1 118 = .ok (.getfield 43, 3) := by decide +kernel
theorem d_T_person_121 : decode Y_T_person.2.1 121 = .ok (.getfield 134, 3) := by decide +kernel
theorem d_T_person_124 : decode Y_T_person.2.1 124 = .ok (.iload_n 1, 1) := by decide +kernel
theorem d_T_person_125 : decode Y_T_person.2.1 125 = .ok (.iaload, 1) := by decide +kernel
theorem d_T_person_126 : decode Y_T_person.2.1 126 = .ok (.invokevirtual 114, 3) := by decide +kernel
theorem d_T_person_129 : decode Y_T_person.2.1 129 = .ok (.ireturn, 1) := by decide +kernel
theorem d_T_person_130 : decode Y_T_person.2.1 130 = .ok (.aload_n 0, 1) := by decide +kernel
theorem d_T_person_131 : decode Y_T_person.2.1 131 = .ok (.aload_n 0, 1) := by decide +kernel
theorem d_T_person_132 : decode Y_T_person.2.1 132 = .ok (.getfield 43, 3) := by decide +kernel
theorem d_T_person_135 : decode Y_T_person.2.1 135 = .ok (.getfield 137, 3) := by decide +kernel
theorem d_T_person_138 : decode Y_T_person.2.1 138 = .ok (.iload_n 1, 1) := by decide +kernel
theorem d_T_person_139 : decode Y_T_person.2.1 139 = .ok (.iaload, 1) := by decide +kernel
theorem d_T_person_140 : decode Y_T_person.2.1 140 = .ok (.invokevirtual 114, 3) := by decide +kernel
theorem d_T_person_143 : decode Y_T_person.2.1 143 = .ok (.ireturn, 1) := by decide +kernel
def f_T_person (h : PH) (a0 : Option Nat) (a1 : Int32) (a2 : Int32) : Option (Int32 × PH) := (cl h 10 a0 (f_T_isPerson h a0 a1)).bind fun v1 => if v1 = 0 then ((cl h 10 a0 (f_T_refuse h a0 (1 : Int32))).bind fun v2 => some (v2.1, v2.2)) else (if a2 < 0 then ((cl h 10 a0 (f_T_refuse h a0 (1 : Int32))).bind fun v3 => some (v3.1, v3.2)) else (if a2 ≤ (5 : Int32) then (if a2.toInt < 0 ∨ 4 < a2.toInt then ((gR h 10 a0 6).bind fun v4 => (gR h 2 v4 6).bind fun v5 => (aI h v5 a1).bind fun v6 => (cl h 10 a0 (f_T_fine h a0 v6)).bind fun v7 => some (v7.1, v7.2)) else (if a2 = (0 : Int32) then ((gR h 10 a0 2).bind fun v8 => (gR h 1 v8 6).bind fun v9 => (aI h v9 a1).bind fun v10 => (cl h 10 a0 (f_T_fine h a0 v10)).bind fun v11 => some (v11.1, v11.2)) else (if a2 = (1 : Int32) then ((gR h 10 a0 2).bind fun v12 => (gR h 1 v12 7).bind fun v13 => (aI h v13 a1).bind fun v14 => (cl h 10 a0 (f_T_fine h a0 v14)).bind fun v15 => some (v15.1, v15.2)) else (if a2 = (2 : Int32) then ((gR h 10 a0 6).bind fun v16 => (gR h 2 v16 3).bind fun v17 => (aI h v17 a1).bind fun v18 => (cl h 10 a0 (f_T_fine h a0 v18)).bind fun v19 => some (v19.1, v19.2)) else (if a2 = (3 : Int32) then ((gR h 10 a0 6).bind fun v20 => (gR h 2 v20 4).bind fun v21 => (aI h v21 a1).bind fun v22 => (cl h 10 a0 (f_T_fine h a0 v22)).bind fun v23 => some (v23.1, v23.2)) else (if a2 = (4 : Int32) then ((gR h 10 a0 6).bind fun v24 => (gR h 2 v24 5).bind fun v25 => (aI h v25 a1).bind fun v26 => (cl h 10 a0 (f_T_fine h a0 v26)).bind fun v27 => some (v27.1, v27.2)) else (none))))))) else ((cl h 10 a0 (f_T_refuse h a0 (1 : Int32))).bind fun v28 => some (v28.1, v28.2))))
set_option maxRecDepth 20000 in
theorem PM_T_person {l : Launch} {G : Cx} {h : PH} {a0 : Option Nat} {a1 : Int32} {a2 : Int32} {z : (Int32 × PH)} (hz : f_T_person h a0 a1 a2 = some z) : PM l G 2 0 0 Y_T_person [.inr (.inr a0), .inl a1, .inl a2] h (some (.inl z.1), z.2) := by
  refine PM.of (Y := Y_T_person) (cv := (fun z : (Int32 × PH) => (((some (.inl z.1), z.2) : Option PV × PH)))) (by decide) (L0 := [some (.inr (.inr a0)), some (.inl a1), some (.inl a2)]) 0 rfl (Nat.le_of_ble_eq_true rfl) ?_ hz
  unfold f_T_person
  refine PJ.aload_n (pc := 0) d_T_person_0 rfl ?_
  refine PJ.iload_n (pc := 1) d_T_person_1 rfl ?_
  refine PJ.cVpI (pc := 2) cs_T_117 (fun z hz => PM_T_isPerson hz) (pj_fitb rfl) rfl rfl (Nat.le_of_ble_eq_true rfl) d_T_person_2 (fun v1 => ?_)
  refine PJ.if_eq (pc := 5) (tgt := 17) d_T_person_5 (by decide) (fun _ => ?_) (fun _ => ?_)
  · refine PJ.aload_n (pc := 17) d_T_person_17 rfl ?_
    refine PJ.iconst (pc := 18) (v := 1) d_T_person_18 (by decide) ?_
    refine PJ.cVI (pc := 19) cs_T_95 (fun z hz => PM_T_refuse hz) (pj_fitb rfl) rfl rfl (Nat.le_of_ble_eq_true rfl) d_T_person_19 (fun v2 => ?_)
    exact PJ.iret (pc := 22) d_T_person_22 rfl (Nat.le_of_ble_eq_true rfl) (Nat.le_of_ble_eq_true rfl)
  · refine PJ.iload_n (pc := 8) d_T_person_8 rfl ?_
    refine PJ.if_lt (pc := 9) (tgt := 17) d_T_person_9 (by decide) (fun _ => ?_) (fun _ => ?_)
    · refine PJ.aload_n (pc := 17) d_T_person_17 rfl ?_
      refine PJ.iconst (pc := 18) (v := 1) d_T_person_18 (by decide) ?_
      refine PJ.cVI (pc := 19) cs_T_95 (fun z hz => PM_T_refuse hz) (pj_fitb rfl) rfl rfl (Nat.le_of_ble_eq_true rfl) d_T_person_19 (fun v3 => ?_)
      exact PJ.iret (pc := 22) d_T_person_22 rfl (Nat.le_of_ble_eq_true rfl) (Nat.le_of_ble_eq_true rfl)
    · refine PJ.iload_n (pc := 12) d_T_person_12 rfl ?_
      refine PJ.iconst (pc := 13) (v := 5) d_T_person_13 (by decide) ?_
      refine PJ.icmp_le (pc := 14) (tgt := 23) d_T_person_14 (by decide) (fun _ => ?_) (fun _ => ?_)
      · refine PJ.iload_n (pc := 23) d_T_person_23 rfl ?_
        refine PJ.swo (pc := 24) (tgt := 130) d_T_person_24 (by decide) (fun _ => ?_) (fun _ => ?_)
        · refine PJ.aload_n (pc := 130) d_T_person_130 rfl ?_
          refine PJ.aload_n (pc := 131) d_T_person_131 rfl ?_
          refine PJ.getR (pc := 132) fs_T_43 d_T_person_132 (fun v4 => ?_)
          refine PJ.getR (pc := 135) fs_T_137 d_T_person_135 (fun v5 => ?_)
          refine PJ.iload_n (pc := 138) d_T_person_138 rfl ?_
          refine PJ.iald (pc := 139) d_T_person_139 (fun v6 => ?_)
          refine PJ.cVI (pc := 140) cs_T_114 (fun z hz => PM_T_fine hz) (pj_fitb rfl) rfl rfl (Nat.le_of_ble_eq_true rfl) d_T_person_140 (fun v7 => ?_)
          exact PJ.iret (pc := 143) d_T_person_143 rfl (Nat.le_of_ble_eq_true rfl) (Nat.le_of_ble_eq_true rfl)
        · refine PJ.swc (pc := 24) (tgt := 60) (off := 36) (0 : Int32) d_T_person_24 (by decide +kernel) (by decide +kernel) (by decide +kernel) (by decide) (fun _ => ?_) (fun _ => ?_)
          · refine PJ.aload_n (pc := 60) d_T_person_60 rfl ?_
            refine PJ.aload_n (pc := 61) d_T_person_61 rfl ?_
            refine PJ.getR (pc := 62) fs_T_20 d_T_person_62 (fun v8 => ?_)
            refine PJ.getR (pc := 65) fs_T_121 d_T_person_65 (fun v9 => ?_)
            refine PJ.iload_n (pc := 68) d_T_person_68 rfl ?_
            refine PJ.iald (pc := 69) d_T_person_69 (fun v10 => ?_)
            refine PJ.cVI (pc := 70) cs_T_114 (fun z hz => PM_T_fine hz) (pj_fitb rfl) rfl rfl (Nat.le_of_ble_eq_true rfl) d_T_person_70 (fun v11 => ?_)
            exact PJ.iret (pc := 73) d_T_person_73 rfl (Nat.le_of_ble_eq_true rfl) (Nat.le_of_ble_eq_true rfl)
          · refine PJ.swc (pc := 24) (tgt := 74) (off := 50) (1 : Int32) d_T_person_24 (by decide +kernel) (by decide +kernel) (by decide +kernel) (by decide) (fun _ => ?_) (fun _ => ?_)
            · refine PJ.aload_n (pc := 74) d_T_person_74 rfl ?_
              refine PJ.aload_n (pc := 75) d_T_person_75 rfl ?_
              refine PJ.getR (pc := 76) fs_T_20 d_T_person_76 (fun v12 => ?_)
              refine PJ.getR (pc := 79) fs_T_125 d_T_person_79 (fun v13 => ?_)
              refine PJ.iload_n (pc := 82) d_T_person_82 rfl ?_
              refine PJ.iald (pc := 83) d_T_person_83 (fun v14 => ?_)
              refine PJ.cVI (pc := 84) cs_T_114 (fun z hz => PM_T_fine hz) (pj_fitb rfl) rfl rfl (Nat.le_of_ble_eq_true rfl) d_T_person_84 (fun v15 => ?_)
              exact PJ.iret (pc := 87) d_T_person_87 rfl (Nat.le_of_ble_eq_true rfl) (Nat.le_of_ble_eq_true rfl)
            · refine PJ.swc (pc := 24) (tgt := 88) (off := 64) (2 : Int32) d_T_person_24 (by decide +kernel) (by decide +kernel) (by decide +kernel) (by decide) (fun _ => ?_) (fun _ => ?_)
              · refine PJ.aload_n (pc := 88) d_T_person_88 rfl ?_
                refine PJ.aload_n (pc := 89) d_T_person_89 rfl ?_
                refine PJ.getR (pc := 90) fs_T_43 d_T_person_90 (fun v16 => ?_)
                refine PJ.getR (pc := 93) fs_T_128 d_T_person_93 (fun v17 => ?_)
                refine PJ.iload_n (pc := 96) d_T_person_96 rfl ?_
                refine PJ.iald (pc := 97) d_T_person_97 (fun v18 => ?_)
                refine PJ.cVI (pc := 98) cs_T_114 (fun z hz => PM_T_fine hz) (pj_fitb rfl) rfl rfl (Nat.le_of_ble_eq_true rfl) d_T_person_98 (fun v19 => ?_)
                exact PJ.iret (pc := 101) d_T_person_101 rfl (Nat.le_of_ble_eq_true rfl) (Nat.le_of_ble_eq_true rfl)
              · refine PJ.swc (pc := 24) (tgt := 102) (off := 78) (3 : Int32) d_T_person_24 (by decide +kernel) (by decide +kernel) (by decide +kernel) (by decide) (fun _ => ?_) (fun _ => ?_)
                · refine PJ.aload_n (pc := 102) d_T_person_102 rfl ?_
                  refine PJ.aload_n (pc := 103) d_T_person_103 rfl ?_
                  refine PJ.getR (pc := 104) fs_T_43 d_T_person_104 (fun v20 => ?_)
                  refine PJ.getR (pc := 107) fs_T_131 d_T_person_107 (fun v21 => ?_)
                  refine PJ.iload_n (pc := 110) d_T_person_110 rfl ?_
                  refine PJ.iald (pc := 111) d_T_person_111 (fun v22 => ?_)
                  refine PJ.cVI (pc := 112) cs_T_114 (fun z hz => PM_T_fine hz) (pj_fitb rfl) rfl rfl (Nat.le_of_ble_eq_true rfl) d_T_person_112 (fun v23 => ?_)
                  exact PJ.iret (pc := 115) d_T_person_115 rfl (Nat.le_of_ble_eq_true rfl) (Nat.le_of_ble_eq_true rfl)
                · refine PJ.swc (pc := 24) (tgt := 116) (off := 92) (4 : Int32) d_T_person_24 (by decide +kernel) (by decide +kernel) (by decide +kernel) (by decide) (fun _ => ?_) (fun _ => ?_)
                  · refine PJ.aload_n (pc := 116) d_T_person_116 rfl ?_
                    refine PJ.aload_n (pc := 117) d_T_person_117 rfl ?_
                    refine PJ.getR (pc := 118) fs_T_43 d_T_person_118 (fun v24 => ?_)
                    refine PJ.getR (pc := 121) fs_T_134 d_T_person_121 (fun v25 => ?_)
                    refine PJ.iload_n (pc := 124) d_T_person_124 rfl ?_
                    refine PJ.iald (pc := 125) d_T_person_125 (fun v26 => ?_)
                    refine PJ.cVI (pc := 126) cs_T_114 (fun z hz => PM_T_fine hz) (pj_fitb rfl) rfl rfl (Nat.le_of_ble_eq_true rfl) d_T_person_126 (fun v27 => ?_)
                    exact PJ.iret (pc := 129) d_T_person_129 rfl (Nat.le_of_ble_eq_true rfl) (Nat.le_of_ble_eq_true rfl)
                  · exact PJ.nn
      · refine PJ.aload_n (pc := 17) d_T_person_17 rfl ?_
        refine PJ.iconst (pc := 18) (v := 1) d_T_person_18 (by decide) ?_
        refine PJ.cVI (pc := 19) cs_T_95 (fun z hz => PM_T_refuse hz) (pj_fitb rfl) rfl rfl (Nat.le_of_ble_eq_true rfl) d_T_person_19 (fun v28 => ?_)
        exact PJ.iret (pc := 22) d_T_person_22 rfl (Nat.le_of_ble_eq_true rfl) (Nat.le_of_ble_eq_true rfl)
theorem d_T_isChoice_0 : decode Y_T_isChoice.2.1 0 = .ok (.iload_n 1, 1) := by decide +kernel
theorem d_T_isChoice_1 : decode Y_T_isChoice.2.1 1 = .ok (.ifCond .lt 18, 3) := by decide +kernel
theorem d_T_isChoice_4 : decode Y_T_isChoice.2.1 4 = .ok (.iload_n 1, 1) := by decide +kernel
theorem d_T_isChoice_5 : decode Y_T_isChoice.2.1 5 = .ok (.aload_n 0, 1) := by decide +kernel
theorem d_T_isChoice_6 : decode Y_T_isChoice.2.1 6 = .ok (.getfield 20, 3) := by decide +kernel
theorem d_T_isChoice_9 : decode Y_T_isChoice.2.1 9 = .ok (.getfield 167, 3) := by decide +kernel
theorem d_T_isChoice_12 : decode Y_T_isChoice.2.1 12 = .ok (.if_icmp .ge 7, 3) := by decide +kernel
theorem d_T_isChoice_15 : decode Y_T_isChoice.2.1 15 = .ok (.iconst 1, 1) := by decide +kernel
theorem d_T_isChoice_16 : decode Y_T_isChoice.2.1 16 = .ok (.goto 4, 3) := by decide +kernel
theorem d_T_isChoice_19 : decode Y_T_isChoice.2.1 19 = .ok (.iconst 0, 1) := by decide +kernel
theorem d_T_isChoice_20 : decode Y_T_isChoice.2.1 20 = .ok (.ireturn, 1) := by decide +kernel
def f_T_isChoice (h : PH) (a0 : Option Nat) (a1 : Int32) : Option Int32 := if a1 < 0 then (some (0 : Int32)) else ((gR h 10 a0 2).bind fun v1 => (gI h 1 v1 2).bind fun v2 => if v2 ≤ a1 then (some (0 : Int32)) else (some (1 : Int32)))
set_option maxRecDepth 20000 in
theorem PM_T_isChoice {l : Launch} {G : Cx} {h : PH} {a0 : Option Nat} {a1 : Int32} {z : Int32} (hz : f_T_isChoice h a0 a1 = some z) : PM l G 1 0 0 Y_T_isChoice [.inr (.inr a0), .inl a1] h (some (.inl z), h) := by
  refine PM.of (Y := Y_T_isChoice) (cv := (fun z : Int32 => (((some (.inl z), h) : Option PV × PH)))) (by decide) (L0 := [some (.inr (.inr a0)), some (.inl a1)]) 0 rfl (Nat.le_of_ble_eq_true rfl) ?_ hz
  unfold f_T_isChoice
  refine PJ.iload_n (pc := 0) d_T_isChoice_0 rfl ?_
  refine PJ.if_lt (pc := 1) (tgt := 19) d_T_isChoice_1 (by decide) (fun _ => ?_) (fun _ => ?_)
  · refine PJ.iconst (pc := 19) (v := 0) d_T_isChoice_19 (by decide) ?_
    exact PJ.zretp (pc := 20) d_T_isChoice_20 rfl rfl (Nat.le_of_ble_eq_true rfl) (Nat.le_of_ble_eq_true rfl)
  · refine PJ.iload_n (pc := 4) d_T_isChoice_4 rfl ?_
    refine PJ.aload_n (pc := 5) d_T_isChoice_5 rfl ?_
    refine PJ.getR (pc := 6) fs_T_20 d_T_isChoice_6 (fun v1 => ?_)
    refine PJ.getI (pc := 9) fs_T_167 d_T_isChoice_9 (fun v2 => ?_)
    refine PJ.icmp_ge (pc := 12) (tgt := 19) d_T_isChoice_12 (by decide) (fun _ => ?_) (fun _ => ?_)
    · refine PJ.iconst (pc := 19) (v := 0) d_T_isChoice_19 (by decide) ?_
      exact PJ.zretp (pc := 20) d_T_isChoice_20 rfl rfl (Nat.le_of_ble_eq_true rfl) (Nat.le_of_ble_eq_true rfl)
    · refine PJ.iconst (pc := 15) (v := 1) d_T_isChoice_15 (by decide) ?_
      refine PJ.goto (pc := 16) (tgt := 20) d_T_isChoice_16 (by decide) ?_
      exact PJ.zretp (pc := 20) d_T_isChoice_20 rfl rfl (Nat.le_of_ble_eq_true rfl) (Nat.le_of_ble_eq_true rfl)
theorem d_Law_apart_0 : decode Y_Law_apart.2.1 0 = .ok (.iload_n 1, 1) := by decide +kernel
theorem d_Law_apart_1 : decode Y_Law_apart.2.1 1 = .ok (.iload_n 2, 1) := by decide +kernel
theorem d_Law_apart_2 : decode Y_Law_apart.2.1 2 = .ok (.if_icmp .ne 5, 3) := by decide +kernel
theorem d_Law_apart_5 : decode Y_Law_apart.2.1 5 = .ok (.iconst 0, 1) := by decide +kernel
theorem d_Law_apart_6 : decode Y_Law_apart.2.1 6 = .ok (.ireturn, 1) := by decide +kernel
theorem d_Law_apart_7 : decode Y_Law_apart.2.1 7 = .ok (.aload_n 0, 1) := by decide +kernel
theorem d_Law_apart_8 : decode Y_Law_apart.2.1 8 = .ok (.getfield 29, 3) := by decide +kernel
theorem d_Law_apart_11 : decode Y_Law_apart.2.1 11 = .ok (.iload_n 1, 1) := by decide +kernel
theorem d_Law_apart_12 : decode Y_Law_apart.2.1 12 = .ok (.aaload, 1) := by decide +kernel
theorem d_Law_apart_13 : decode Y_Law_apart.2.1 13 = .ok (.iload_n 2, 1) := by decide +kernel
theorem d_Law_apart_14 : decode Y_Law_apart.2.1 14 = .ok (.iaload, 1) := by decide +kernel
theorem d_Law_apart_15 : decode Y_Law_apart.2.1 15 = .ok (.ifCond .ne 7, 3) := by decide +kernel
theorem d_Law_apart_18 : decode Y_Law_apart.2.1 18 = .ok (.iconst 1, 1) := by decide +kernel
theorem d_Law_apart_19 : decode Y_Law_apart.2.1 19 = .ok (.goto 11, 3) := by decide +kernel
theorem d_Law_apart_22 : decode Y_Law_apart.2.1 22 = .ok (.aload_n 0, 1) := by decide +kernel
theorem d_Law_apart_23 : decode Y_Law_apart.2.1 23 = .ok (.getfield 29, 3) := by decide +kernel
theorem d_Law_apart_26 : decode Y_Law_apart.2.1 26 = .ok (.iload_n 1, 1) := by decide +kernel
theorem d_Law_apart_27 : decode Y_Law_apart.2.1 27 = .ok (.aaload, 1) := by decide +kernel
theorem d_Law_apart_28 : decode Y_Law_apart.2.1 28 = .ok (.iload_n 2, 1) := by decide +kernel
theorem d_Law_apart_29 : decode Y_Law_apart.2.1 29 = .ok (.iaload, 1) := by decide +kernel
theorem d_Law_apart_30 : decode Y_Law_apart.2.1 30 = .ok (.ireturn, 1) := by decide +kernel
def f_Law_apart (h : PH) (a0 : Option Nat) (a1 : Int32) (a2 : Int32) : Option Int32 := if ¬ a1 = a2 then ((gR h 1 a0 5).bind fun v1 => (aR h 53 v1 a1).bind fun v2 => (aI h v2 a2).bind fun v3 => if ¬ v3 = 0 then ((gR h 1 a0 5).bind fun v4 => (aR h 53 v4 a1).bind fun v5 => (aI h v5 a2).bind fun v6 => some v6) else (some (1 : Int32))) else (some (0 : Int32))
set_option maxRecDepth 20000 in
theorem PM_Law_apart {l : Launch} {G : Cx} {h : PH} {a0 : Option Nat} {a1 : Int32} {a2 : Int32} {z : Int32} (hz : f_Law_apart h a0 a1 a2 = some z) : PM l G 1 0 0 Y_Law_apart [.inr (.inr a0), .inl a1, .inl a2] h (some (.inl z), h) := by
  refine PM.of (Y := Y_Law_apart) (cv := (fun z : Int32 => (((some (.inl z), h) : Option PV × PH)))) (by decide) (L0 := [some (.inr (.inr a0)), some (.inl a1), some (.inl a2)]) 0 rfl (Nat.le_of_ble_eq_true rfl) ?_ hz
  unfold f_Law_apart
  refine PJ.iload_n (pc := 0) d_Law_apart_0 rfl ?_
  refine PJ.iload_n (pc := 1) d_Law_apart_1 rfl ?_
  refine PJ.icmp_ne (pc := 2) (tgt := 7) d_Law_apart_2 (by decide) (fun _ => ?_) (fun _ => ?_)
  · refine PJ.aload_n (pc := 7) d_Law_apart_7 rfl ?_
    refine PJ.getR (pc := 8) fs_Law_29 d_Law_apart_8 (fun v1 => ?_)
    refine PJ.iload_n (pc := 11) d_Law_apart_11 rfl ?_
    refine PJ.aald (pc := 12) 53 (by decide) d_Law_apart_12 (fun v2 => ?_)
    refine PJ.iload_n (pc := 13) d_Law_apart_13 rfl ?_
    refine PJ.iald (pc := 14) d_Law_apart_14 (fun v3 => ?_)
    refine PJ.if_ne (pc := 15) (tgt := 22) d_Law_apart_15 (by decide) (fun _ => ?_) (fun _ => ?_)
    · refine PJ.aload_n (pc := 22) d_Law_apart_22 rfl ?_
      refine PJ.getR (pc := 23) fs_Law_29 d_Law_apart_23 (fun v4 => ?_)
      refine PJ.iload_n (pc := 26) d_Law_apart_26 rfl ?_
      refine PJ.aald (pc := 27) 53 (by decide) d_Law_apart_27 (fun v5 => ?_)
      refine PJ.iload_n (pc := 28) d_Law_apart_28 rfl ?_
      refine PJ.iald (pc := 29) d_Law_apart_29 (fun v6 => ?_)
      exact PJ.iretp (pc := 30) d_Law_apart_30 rfl (Nat.le_of_ble_eq_true rfl) (Nat.le_of_ble_eq_true rfl)
    · refine PJ.iconst (pc := 18) (v := 1) d_Law_apart_18 (by decide) ?_
      refine PJ.goto (pc := 19) (tgt := 30) d_Law_apart_19 (by decide) ?_
      exact PJ.iretp (pc := 30) d_Law_apart_30 rfl (Nat.le_of_ble_eq_true rfl) (Nat.le_of_ble_eq_true rfl)
  · refine PJ.iconst (pc := 5) (v := 0) d_Law_apart_5 (by decide) ?_
    exact PJ.iretp (pc := 6) d_Law_apart_6 rfl (Nat.le_of_ble_eq_true rfl) (Nat.le_of_ble_eq_true rfl)
theorem d_T_far_0 : decode Y_T_far.2.1 0 = .ok (.aload_n 0, 1) := by decide +kernel
theorem d_T_far_1 : decode Y_T_far.2.1 1 = .ok (.iload_n 1, 1) := by decide +kernel
theorem d_T_far_2 : decode Y_T_far.2.1 2 = .ok (.invokevirtual 140, 3) := by decide +kernel
theorem d_T_far_5 : decode Y_T_far.2.1 5 = .ok (.ifCond .eq 11, 3) := by decide +kernel
theorem d_T_far_8 : decode Y_T_far.2.1 8 = .ok (.aload_n 0, 1) := by decide +kernel
theorem d_T_far_9 : decode Y_T_far.2.1 9 = .ok (.iload_n 2, 1) := by decide +kernel
theorem d_T_far_10 : decode Y_T_far.2.1 10 = .ok (.invokevirtual 140, 3) := by decide +kernel
theorem d_T_far_13 : decode Y_T_far.2.1 13 = .ok (.ifCond .ne 9, 3) := by decide +kernel
theorem d_T_far_16 : decode Y_T_far.2.1 16 = .ok (.aload_n 0, 1) := by decide +kernel
theorem d_T_far_17 : decode Y_T_far.2.1 17 = .ok (.iconst 1, 1) := by decide +kernel
theorem d_T_far_18 : decode Y_T_far.2.1 18 = .ok (.invokevirtual 95, 3) := by decide +kernel
theorem d_T_far_21 : decode Y_T_far.2.1 21 = .ok (.ireturn, 1) := by decide +kernel
theorem d_T_far_22 : decode Y_T_far.2.1 22 = .ok (.aload_n 0, 1) := by decide +kernel
theorem d_T_far_23 : decode Y_T_far.2.1 23 = .ok (.aload_n 0, 1) := by decide +kernel
theorem d_T_far_24 : decode Y_T_far.2.1 24 = .ok (.getfield 20, 3) := by decide +kernel
theorem d_T_far_27 : decode Y_T_far.2.1 27 = .ok (.iload_n 1, 1) := by decide +kernel
theorem d_T_far_28 : decode Y_T_far.2.1 28 = .ok (.iload_n 2, 1) := by decide +kernel
theorem d_T_far_29 : decode Y_T_far.2.1 29 = .ok (.invokevirtual 143, 3) := by decide +kernel
theorem d_T_far_32 : decode Y_T_far.2.1 32 = .ok (.invokevirtual 114, 3) := by decide +kernel
theorem d_T_far_35 : decode Y_T_far.2.1 35 = .ok (.ireturn, 1) := by decide +kernel
def f_T_far (h : PH) (a0 : Option Nat) (a1 : Int32) (a2 : Int32) : Option (Int32 × PH) := (cl h 10 a0 (f_T_isChoice h a0 a1)).bind fun v1 => if v1 = 0 then ((cl h 10 a0 (f_T_refuse h a0 (1 : Int32))).bind fun v2 => some (v2.1, v2.2)) else ((cl h 10 a0 (f_T_isChoice h a0 a2)).bind fun v3 => if ¬ v3 = 0 then ((gR h 10 a0 2).bind fun v4 => (cl h 1 v4 (f_Law_apart h v4 a1 a2)).bind fun v5 => (cl h 10 a0 (f_T_fine h a0 v5)).bind fun v6 => some (v6.1, v6.2)) else ((cl h 10 a0 (f_T_refuse h a0 (1 : Int32))).bind fun v7 => some (v7.1, v7.2)))
set_option maxRecDepth 20000 in
theorem PM_T_far {l : Launch} {G : Cx} {h : PH} {a0 : Option Nat} {a1 : Int32} {a2 : Int32} {z : (Int32 × PH)} (hz : f_T_far h a0 a1 a2 = some z) : PM l G 2 0 0 Y_T_far [.inr (.inr a0), .inl a1, .inl a2] h (some (.inl z.1), z.2) := by
  refine PM.of (Y := Y_T_far) (cv := (fun z : (Int32 × PH) => (((some (.inl z.1), z.2) : Option PV × PH)))) (by decide) (L0 := [some (.inr (.inr a0)), some (.inl a1), some (.inl a2)]) 0 rfl (Nat.le_of_ble_eq_true rfl) ?_ hz
  unfold f_T_far
  refine PJ.aload_n (pc := 0) d_T_far_0 rfl ?_
  refine PJ.iload_n (pc := 1) d_T_far_1 rfl ?_
  refine PJ.cVpI (pc := 2) cs_T_140 (fun z hz => PM_T_isChoice hz) (pj_fitb rfl) rfl rfl (Nat.le_of_ble_eq_true rfl) d_T_far_2 (fun v1 => ?_)
  refine PJ.if_eq (pc := 5) (tgt := 16) d_T_far_5 (by decide) (fun _ => ?_) (fun _ => ?_)
  · refine PJ.aload_n (pc := 16) d_T_far_16 rfl ?_
    refine PJ.iconst (pc := 17) (v := 1) d_T_far_17 (by decide) ?_
    refine PJ.cVI (pc := 18) cs_T_95 (fun z hz => PM_T_refuse hz) (pj_fitb rfl) rfl rfl (Nat.le_of_ble_eq_true rfl) d_T_far_18 (fun v2 => ?_)
    exact PJ.iret (pc := 21) d_T_far_21 rfl (Nat.le_of_ble_eq_true rfl) (Nat.le_of_ble_eq_true rfl)
  · refine PJ.aload_n (pc := 8) d_T_far_8 rfl ?_
    refine PJ.iload_n (pc := 9) d_T_far_9 rfl ?_
    refine PJ.cVpI (pc := 10) cs_T_140 (fun z hz => PM_T_isChoice hz) (pj_fitb rfl) rfl rfl (Nat.le_of_ble_eq_true rfl) d_T_far_10 (fun v3 => ?_)
    refine PJ.if_ne (pc := 13) (tgt := 22) d_T_far_13 (by decide) (fun _ => ?_) (fun _ => ?_)
    · refine PJ.aload_n (pc := 22) d_T_far_22 rfl ?_
      refine PJ.aload_n (pc := 23) d_T_far_23 rfl ?_
      refine PJ.getR (pc := 24) fs_T_20 d_T_far_24 (fun v4 => ?_)
      refine PJ.iload_n (pc := 27) d_T_far_27 rfl ?_
      refine PJ.iload_n (pc := 28) d_T_far_28 rfl ?_
      refine PJ.cVpI (pc := 29) cs_T_143 (fun z hz => PM_Law_apart hz) (pj_fitb rfl) rfl rfl (Nat.le_of_ble_eq_true rfl) d_T_far_29 (fun v5 => ?_)
      refine PJ.cVI (pc := 32) cs_T_114 (fun z hz => PM_T_fine hz) (pj_fitb rfl) rfl rfl (Nat.le_of_ble_eq_true rfl) d_T_far_32 (fun v6 => ?_)
      exact PJ.iret (pc := 35) d_T_far_35 rfl (Nat.le_of_ble_eq_true rfl) (Nat.le_of_ble_eq_true rfl)
    · refine PJ.aload_n (pc := 16) d_T_far_16 rfl ?_
      refine PJ.iconst (pc := 17) (v := 1) d_T_far_17 (by decide) ?_
      refine PJ.cVI (pc := 18) cs_T_95 (fun z hz => PM_T_refuse hz) (pj_fitb rfl) rfl rfl (Nat.le_of_ble_eq_true rfl) d_T_far_18 (fun v7 => ?_)
      exact PJ.iret (pc := 21) d_T_far_21 rfl (Nat.le_of_ble_eq_true rfl) (Nat.le_of_ble_eq_true rfl)
theorem d_Desk_look_0 : decode Y_Desk_look.2.1 0 = .ok (.aload_n 0, 1) := by decide +kernel
theorem d_Desk_look_1 : decode Y_Desk_look.2.1 1 = .ok (.aload_n 1, 1) := by decide +kernel
theorem d_Desk_look_2 : decode Y_Desk_look.2.1 2 = .ok (.putfield 18, 3) := by decide +kernel
theorem d_Desk_look_5 : decode Y_Desk_look.2.1 5 = .ok (.aload_n 0, 1) := by decide +kernel
theorem d_Desk_look_6 : decode Y_Desk_look.2.1 6 = .ok (.aload_n 2, 1) := by decide +kernel
theorem d_Desk_look_7 : decode Y_Desk_look.2.1 7 = .ok (.putfield 22, 3) := by decide +kernel
theorem d_Desk_look_10 : decode Y_Desk_look.2.1 10 = .ok (.aload_n 0, 1) := by decide +kernel
theorem d_Desk_look_11 : decode Y_Desk_look.2.1 11 = .ok (.iconst (-1), 1) := by decide +kernel
theorem d_Desk_look_12 : decode Y_Desk_look.2.1 12 = .ok (.putfield 9, 3) := by decide +kernel
theorem d_Desk_look_15 : decode Y_Desk_look.2.1 15 = .ok (.aload_n 0, 1) := by decide +kernel
theorem d_Desk_look_16 : decode Y_Desk_look.2.1 16 = .ok (.aload_n 1, 1) := by decide +kernel
theorem d_Desk_look_17 : decode Y_Desk_look.2.1 17 = .ok (.getfield 26, 3) := by decide +kernel
theorem d_Desk_look_20 : decode Y_Desk_look.2.1 20 = .ok (.putfield 15, 3) := by decide +kernel
theorem d_Desk_look_23 : decode Y_Desk_look.2.1 23 = .ok (.return_, 1) := by decide +kernel
def f_Desk_look (h : PH) (a0 : Option Nat) (a1 : Option Nat) (a2 : Option Nat) : Option PH := (sF h 0 a0 0 (.inr (.inr a1))).bind fun h1 => (sF h1 0 a0 1 (.inr (.inr a2))).bind fun h2 => (sF h2 0 a0 2 (.inl (-1 : Int32))).bind fun h3 => (gI h3 1 a1 1).bind fun v4 => (sF h3 0 a0 3 (.inl v4)).bind fun h5 => some h5
set_option maxRecDepth 20000 in
theorem PM_Desk_look {l : Launch} {G : Cx} {h : PH} {a0 : Option Nat} {a1 : Option Nat} {a2 : Option Nat} {z : PH} (hz : f_Desk_look h a0 a1 a2 = some z) : PM l G 1 0 0 Y_Desk_look [.inr (.inr a0), .inr (.inr a1), .inr (.inr a2)] h (none, z) := by
  refine PM.of (Y := Y_Desk_look) (cv := (fun z : PH => (((none, z) : Option PV × PH)))) (by decide) (L0 := [some (.inr (.inr a0)), some (.inr (.inr a1)), some (.inr (.inr a2))]) 0 rfl (Nat.le_of_ble_eq_true rfl) ?_ hz
  unfold f_Desk_look
  refine PJ.aload_n (pc := 0) d_Desk_look_0 rfl ?_
  refine PJ.aload_n (pc := 1) d_Desk_look_1 rfl ?_
  refine PJ.putR (pc := 2) ps_Desk_18 rfl d_Desk_look_2 (fun h1 => ?_)
  refine PJ.aload_n (pc := 5) d_Desk_look_5 rfl ?_
  refine PJ.aload_n (pc := 6) d_Desk_look_6 rfl ?_
  refine PJ.putR (pc := 7) ps_Desk_22 rfl d_Desk_look_7 (fun h2 => ?_)
  refine PJ.aload_n (pc := 10) d_Desk_look_10 rfl ?_
  refine PJ.iconst (pc := 11) (v := -1) d_Desk_look_11 (by decide) ?_
  refine PJ.putI (pc := 12) ps_Desk_9 d_Desk_look_12 (fun h3 => ?_)
  refine PJ.aload_n (pc := 15) d_Desk_look_15 rfl ?_
  refine PJ.aload_n (pc := 16) d_Desk_look_16 rfl ?_
  refine PJ.getI (pc := 17) fs_Desk_26 d_Desk_look_17 (fun v4 => ?_)
  refine PJ.putI (pc := 20) ps_Desk_15 d_Desk_look_20 (fun h5 => ?_)
  exact PJ.vret (pc := 23) d_Desk_look_23 rfl (Nat.le_of_ble_eq_true rfl) (Nat.le_of_ble_eq_true rfl)
theorem d_T_present_0 : decode Y_T_present.2.1 0 = .ok (.aload_n 0, 1) := by decide +kernel
theorem d_T_present_1 : decode Y_T_present.2.1 1 = .ok (.getfield 55, 3) := by decide +kernel
theorem d_T_present_4 : decode Y_T_present.2.1 4 = .ok (.aload_n 0, 1) := by decide +kernel
theorem d_T_present_5 : decode Y_T_present.2.1 5 = .ok (.getfield 20, 3) := by decide +kernel
theorem d_T_present_8 : decode Y_T_present.2.1 8 = .ok (.aload_n 0, 1) := by decide +kernel
theorem d_T_present_9 : decode Y_T_present.2.1 9 = .ok (.getfield 43, 3) := by decide +kernel
theorem d_T_present_12 : decode Y_T_present.2.1 12 = .ok (.invokevirtual 252, 3) := by decide +kernel
theorem d_T_present_15 : decode Y_T_present.2.1 15 = .ok (.aload_n 0, 1) := by decide +kernel
theorem d_T_present_16 : decode Y_T_present.2.1 16 = .ok (.getfield 55, 3) := by decide +kernel
theorem d_T_present_19 : decode Y_T_present.2.1 19 = .ok (.areturn, 1) := by decide +kernel
def f_T_present (h : PH) (a0 : Option Nat) : Option (Option Nat × PH) := (gR h 10 a0 8).bind fun v1 => (gR h 10 a0 2).bind fun v2 => (gR h 10 a0 6).bind fun v3 => (cl h 0 v1 (f_Desk_look h v1 v2 v3)).bind fun h4 => (gR h4 10 a0 8).bind fun v5 => some (v5, h4)
set_option maxRecDepth 20000 in
theorem PM_T_present {l : Launch} {G : Cx} {h : PH} {a0 : Option Nat} {z : (Option Nat × PH)} (hz : f_T_present h a0 = some z) : PM l G 2 0 0 Y_T_present [.inr (.inr a0)] h (some (.inr (.inr z.1)), z.2) := by
  refine PM.of (Y := Y_T_present) (cv := (fun z : (Option Nat × PH) => (((some (.inr (.inr z.1)), z.2) : Option PV × PH)))) (by decide) (L0 := [some (.inr (.inr a0))]) 0 rfl (Nat.le_of_ble_eq_true rfl) ?_ hz
  unfold f_T_present
  refine PJ.aload_n (pc := 0) d_T_present_0 rfl ?_
  refine PJ.getR (pc := 1) fs_T_55 d_T_present_1 (fun v1 => ?_)
  refine PJ.aload_n (pc := 4) d_T_present_4 rfl ?_
  refine PJ.getR (pc := 5) fs_T_20 d_T_present_5 (fun v2 => ?_)
  refine PJ.aload_n (pc := 8) d_T_present_8 rfl ?_
  refine PJ.getR (pc := 9) fs_T_43 d_T_present_9 (fun v3 => ?_)
  refine PJ.cVV (pc := 12) cs_T_252 (fun z hz => PM_Desk_look hz) (pj_fitb rfl) rfl rfl (Nat.le_of_ble_eq_true rfl) d_T_present_12 (fun h4 => ?_)
  refine PJ.aload_n (pc := 15) d_T_present_15 rfl ?_
  refine PJ.getR (pc := 16) fs_T_55 d_T_present_16 (fun v5 => ?_)
  exact PJ.aret (pc := 19) d_T_present_19 rfl (Or.inl ⟨_, rfl⟩) (Nat.le_of_ble_eq_true rfl) (Nat.le_of_ble_eq_true rfl)
theorem d_Now_hasCome_0 : decode Y_Now_hasCome.2.1 0 = .ok (.aload_n 0, 1) := by decide +kernel
theorem d_Now_hasCome_1 : decode Y_Now_hasCome.2.1 1 = .ok (.getfield 18, 3) := by decide +kernel
theorem d_Now_hasCome_4 : decode Y_Now_hasCome.2.1 4 = .ok (.iload_n 1, 1) := by decide +kernel
theorem d_Now_hasCome_5 : decode Y_Now_hasCome.2.1 5 = .ok (.ishr, 1) := by decide +kernel
theorem d_Now_hasCome_6 : decode Y_Now_hasCome.2.1 6 = .ok (.iconst 1, 1) := by decide +kernel
theorem d_Now_hasCome_7 : decode Y_Now_hasCome.2.1 7 = .ok (.iand, 1) := by decide +kernel
theorem d_Now_hasCome_8 : decode Y_Now_hasCome.2.1 8 = .ok (.iconst 1, 1) := by decide +kernel
theorem d_Now_hasCome_9 : decode Y_Now_hasCome.2.1 9 = .ok (.if_icmp .ne 7, 3) := by decide +kernel
theorem d_Now_hasCome_12 : decode Y_Now_hasCome.2.1 12 = .ok (.iconst 1, 1) := by decide +kernel
theorem d_Now_hasCome_13 : decode Y_Now_hasCome.2.1 13 = .ok (.goto 4, 3) := by decide +kernel
theorem d_Now_hasCome_16 : decode Y_Now_hasCome.2.1 16 = .ok (.iconst 0, 1) := by decide +kernel
theorem d_Now_hasCome_17 : decode Y_Now_hasCome.2.1 17 = .ok (.ireturn, 1) := by decide +kernel
def f_Now_hasCome (h : PH) (a0 : Option Nat) (a1 : Int32) : Option Int32 := (gI h 2 a0 2).bind fun v1 => if ¬ ((v1 >>> (a1 &&& 31)) &&& (1 : Int32)) = (1 : Int32) then (some (0 : Int32)) else (some (1 : Int32))
set_option maxRecDepth 20000 in
theorem PM_Now_hasCome {l : Launch} {G : Cx} {h : PH} {a0 : Option Nat} {a1 : Int32} {z : Int32} (hz : f_Now_hasCome h a0 a1 = some z) : PM l G 1 0 0 Y_Now_hasCome [.inr (.inr a0), .inl a1] h (some (.inl z), h) := by
  refine PM.of (Y := Y_Now_hasCome) (cv := (fun z : Int32 => (((some (.inl z), h) : Option PV × PH)))) (by decide) (L0 := [some (.inr (.inr a0)), some (.inl a1)]) 0 rfl (Nat.le_of_ble_eq_true rfl) ?_ hz
  unfold f_Now_hasCome
  refine PJ.aload_n (pc := 0) d_Now_hasCome_0 rfl ?_
  refine PJ.getI (pc := 1) fs_Now_18 d_Now_hasCome_1 (fun v1 => ?_)
  refine PJ.iload_n (pc := 4) d_Now_hasCome_4 rfl ?_
  refine PJ.ishr (pc := 5) d_Now_hasCome_5 ?_
  refine PJ.iconst (pc := 6) (v := 1) d_Now_hasCome_6 (by decide) ?_
  refine PJ.iand (pc := 7) d_Now_hasCome_7 ?_
  refine PJ.iconst (pc := 8) (v := 1) d_Now_hasCome_8 (by decide) ?_
  refine PJ.icmp_ne (pc := 9) (tgt := 16) d_Now_hasCome_9 (by decide) (fun _ => ?_) (fun _ => ?_)
  · refine PJ.iconst (pc := 16) (v := 0) d_Now_hasCome_16 (by decide) ?_
    exact PJ.zretp (pc := 17) d_Now_hasCome_17 rfl rfl (Nat.le_of_ble_eq_true rfl) (Nat.le_of_ble_eq_true rfl)
  · refine PJ.iconst (pc := 12) (v := 1) d_Now_hasCome_12 (by decide) ?_
    refine PJ.goto (pc := 13) (tgt := 17) d_Now_hasCome_13 (by decide) ?_
    exact PJ.zretp (pc := 17) d_Now_hasCome_17 rfl rfl (Nat.le_of_ble_eq_true rfl) (Nat.le_of_ble_eq_true rfl)
theorem d_Desk_worthOf_0 : decode Y_Desk_worthOf.2.1 0 = .ok (.aload_n 0, 1) := by decide +kernel
theorem d_Desk_worthOf_1 : decode Y_Desk_worthOf.2.1 1 = .ok (.getfield 18, 3) := by decide +kernel
theorem d_Desk_worthOf_4 : decode Y_Desk_worthOf.2.1 4 = .ok (.getfield 57, 3) := by decide +kernel
theorem d_Desk_worthOf_7 : decode Y_Desk_worthOf.2.1 7 = .ok (.astore_n 3, 1) := by decide +kernel
theorem d_Desk_worthOf_8 : decode Y_Desk_worthOf.2.1 8 = .ok (.aload_n 0, 1) := by decide +kernel
theorem d_Desk_worthOf_9 : decode Y_Desk_worthOf.2.1 9 = .ok (.getfield 18, 3) := by decide +kernel
theorem d_Desk_worthOf_12 : decode Y_Desk_worthOf.2.1 12 = .ok (.getfield 61, 3) := by decide +kernel
theorem d_Desk_worthOf_15 : decode Y_Desk_worthOf.2.1 15 = .ok (.iload_n 1, 1) := by decide +kernel
theorem d_Desk_worthOf_16 : decode Y_Desk_worthOf.2.1 16 = .ok (.aaload, 1) := by decide +kernel
theorem d_Desk_worthOf_17 : decode Y_Desk_worthOf.2.1 17 = .ok (.iload_n 2, 1) := by decide +kernel
theorem d_Desk_worthOf_18 : decode Y_Desk_worthOf.2.1 18 = .ok (.iaload, 1) := by decide +kernel
theorem d_Desk_worthOf_19 : decode Y_Desk_worthOf.2.1 19 = .ok (.istore 4, 2) := by decide +kernel
theorem d_Desk_worthOf_21 : decode Y_Desk_worthOf.2.1 21 = .ok (.iconst 0, 1) := by decide +kernel
theorem d_Desk_worthOf_22 : decode Y_Desk_worthOf.2.1 22 = .ok (.istore 5, 2) := by decide +kernel
theorem d_Desk_worthOf_24 : decode Y_Desk_worthOf.2.1 24 = .ok (.iload 5, 2) := by decide +kernel
theorem d_Desk_worthOf_26 : decode Y_Desk_worthOf.2.1 26 = .ok (.aload_n 3, 1) := by decide +kernel
theorem d_Desk_worthOf_27 : decode Y_Desk_worthOf.2.1 27 = .ok (.getfield 65, 3) := by decide +kernel
theorem d_Desk_worthOf_30 : decode Y_Desk_worthOf.2.1 30 = .ok (.if_icmp .ge 55, 3) := by decide +kernel
theorem d_Desk_worthOf_33 : decode Y_Desk_worthOf.2.1 33 = .ok (.aload_n 3, 1) := by decide +kernel
theorem d_Desk_worthOf_34 : decode Y_Desk_worthOf.2.1 34 = .ok (.getfield 70, 3) := by decide +kernel
theorem d_Desk_worthOf_37 : decode Y_Desk_worthOf.2.1 37 = .ok (.iload 5, 2) := by decide +kernel
theorem d_Desk_worthOf_39 : decode Y_Desk_worthOf.2.1 39 = .ok (.iaload, 1) := by decide +kernel
theorem d_Desk_worthOf_40 : decode Y_Desk_worthOf.2.1 40 = .ok (.iload_n 1, 1) := by decide +kernel
theorem d_Desk_worthOf_41 : decode Y_Desk_worthOf.2.1 41 = .ok (.if_icmp .ne 38, 3) := by decide +kernel
theorem d_Desk_worthOf_44 : decode Y_Desk_worthOf.2.1 44 = .ok (.aload_n 3, 1) := by decide +kernel
theorem d_Desk_worthOf_45 : decode Y_Desk_worthOf.2.1 45 = .ok (.getfield 73, 3) := by decide +kernel
theorem d_Desk_worthOf_48 : decode Y_Desk_worthOf.2.1 48 = .ok (.iload 5, 2) := by decide +kernel
theorem d_Desk_worthOf_50 : decode Y_Desk_worthOf.2.1 50 = .ok (.iaload, 1) := by decide +kernel
theorem d_Desk_worthOf_51 : decode Y_Desk_worthOf.2.1 51 = .ok (.iload_n 2, 1) := by decide +kernel
theorem d_Desk_worthOf_52 : decode Y_Desk_worthOf.2.1 52 = .ok (.if_icmp .ne 27, 3) := by decide +kernel
theorem d_Desk_worthOf_55 : decode Y_Desk_worthOf.2.1 55 = .ok (.aload_n 0, 1) := by decide +kernel
theorem d_Desk_worthOf_56 : decode Y_Desk_worthOf.2.1 56 = .ok (.getfield 22, 3) := by decide +kernel
theorem d_Desk_worthOf_59 : decode Y_Desk_worthOf.2.1 59 = .ok (.iload 5, 2) := by decide +kernel
theorem d_Desk_worthOf_61 : decode Y_Desk_worthOf.2.1 61 = .ok (.invokevirtual 76, 3) := by decide +kernel
theorem d_Desk_worthOf_64 : decode Y_Desk_worthOf.2.1 64 = .ok (.ifCond .eq 15, 3) := by decide +kernel
theorem d_Desk_worthOf_67 : decode Y_Desk_worthOf.2.1 67 = .ok (.iload 4, 2) := by decide +kernel
theorem d_Desk_worthOf_69 : decode Y_Desk_worthOf.2.1 69 = .ok (.aload_n 3, 1) := by decide +kernel
theorem d_Desk_worthOf_70 : decode Y_Desk_worthOf.2.1 70 = .ok (.getfield 80, 3) := by decide +kernel
theorem d_Desk_worthOf_73 : decode Y_Desk_worthOf.2.1 73 = .ok (.iload 5, 2) := by decide +kernel
theorem d_Desk_worthOf_75 : decode Y_Desk_worthOf.2.1 75 = .ok (.iaload, 1) := by decide +kernel
theorem d_Desk_worthOf_76 : decode Y_Desk_worthOf.2.1 76 = .ok (.iadd, 1) := by decide +kernel
theorem d_Desk_worthOf_77 : decode Y_Desk_worthOf.2.1 77 = .ok (.istore 4, 2) := by decide +kernel
theorem d_Desk_worthOf_79 : decode Y_Desk_worthOf.2.1 79 = .ok (.iinc 5 1, 3) := by decide +kernel
theorem d_Desk_worthOf_82 : decode Y_Desk_worthOf.2.1 82 = .ok (.goto (-58), 3) := by decide +kernel
theorem d_Desk_worthOf_85 : decode Y_Desk_worthOf.2.1 85 = .ok (.iload 4, 2) := by decide +kernel
theorem d_Desk_worthOf_87 : decode Y_Desk_worthOf.2.1 87 = .ok (.ireturn, 1) := by decide +kernel
def f_Desk_worthOf (h : PH) (a0 : Option Nat) (a1 : Int32) (a2 : Int32) : Option Int32 := (gR h 0 a0 0).bind fun v1 => (gR h 1 v1 10).bind fun v2 => (gR h 0 a0 0).bind fun v3 => (gR h 1 v3 8).bind fun v4 => (aR h 53 v4 a1).bind fun v5 => (aI h v5 a2).bind fun v6 => (pj_it (X := Int32) (fun s7 : Int32 × Int32 => (gI h 6 v2 0).bind fun v9 => if v9 ≤ s7.2 then (some (.inr s7.1)) else ((gR h 6 v2 1).bind fun v10 => (aI h v10 s7.2).bind fun v11 => if ¬ v11 = a1 then (some (.inl (s7.1, (s7.2 + (1 : Int32))))) else ((gR h 6 v2 2).bind fun v12 => (aI h v12 s7.2).bind fun v13 => if ¬ v13 = a2 then (some (.inl (s7.1, (s7.2 + (1 : Int32))))) else ((gR h 0 a0 1).bind fun v14 => (cl h 2 v14 (f_Now_hasCome h v14 s7.2)).bind fun v15 => if v15 = 0 then (some (.inl (s7.1, (s7.2 + (1 : Int32))))) else ((gR h 6 v2 5).bind fun v16 => (aI h v16 s7.2).bind fun v17 => some (.inl ((s7.1 + v17), (s7.2 + (1 : Int32))))))))) FU (v6, (0 : Int32))).bind fun x8 => some x8
set_option maxRecDepth 20000 in
theorem PM_Desk_worthOf {l : Launch} {G : Cx} {h : PH} {a0 : Option Nat} {a1 : Int32} {a2 : Int32} {z : Int32} (hz : f_Desk_worthOf h a0 a1 a2 = some z) : PM l G 2 0 0 Y_Desk_worthOf [.inr (.inr a0), .inl a1, .inl a2] h (some (.inl z), h) := by
  refine PM.of (Y := Y_Desk_worthOf) (cv := (fun z : Int32 => (((some (.inl z), h) : Option PV × PH)))) (by decide) (L0 := [some (.inr (.inr a0)), some (.inl a1), some (.inl a2), none, none, none]) 3 rfl (Nat.le_of_ble_eq_true rfl) ?_ hz
  unfold f_Desk_worthOf
  refine PJ.aload_n (pc := 0) d_Desk_worthOf_0 rfl ?_
  refine PJ.getR (pc := 1) fs_Desk_18 d_Desk_worthOf_1 (fun v1 => ?_)
  refine PJ.getR (pc := 4) fs_Desk_57 d_Desk_worthOf_4 (fun v2 => ?_)
  refine PJ.astore_n (pc := 7) (L1 := [some (.inr (.inr a0)), some (.inl a1), some (.inl a2), some (.inr (.inr v2)), none, none]) d_Desk_worthOf_7 (Nat.le_of_ble_eq_true rfl) rfl rfl ?_
  refine PJ.aload_n (pc := 8) d_Desk_worthOf_8 rfl ?_
  refine PJ.getR (pc := 9) fs_Desk_18 d_Desk_worthOf_9 (fun v3 => ?_)
  refine PJ.getR (pc := 12) fs_Desk_61 d_Desk_worthOf_12 (fun v4 => ?_)
  refine PJ.iload_n (pc := 15) d_Desk_worthOf_15 rfl ?_
  refine PJ.aald (pc := 16) 53 (by decide) d_Desk_worthOf_16 (fun v5 => ?_)
  refine PJ.iload_n (pc := 17) d_Desk_worthOf_17 rfl ?_
  refine PJ.iald (pc := 18) d_Desk_worthOf_18 (fun v6 => ?_)
  refine PJ.istore (pc := 19) (L1 := [some (.inr (.inr a0)), some (.inl a1), some (.inl a2), some (.inr (.inr v2)), some (.inl v6), none]) d_Desk_worthOf_19 (Nat.le_of_ble_eq_true rfl) rfl rfl ?_
  refine PJ.iconst (pc := 21) (v := 0) d_Desk_worthOf_21 (by decide) ?_
  refine PJ.istore (pc := 22) (L1 := [some (.inr (.inr a0)), some (.inl a1), some (.inl a2), some (.inr (.inr v2)), some (.inl v6), some (.inl (0 : Int32))]) d_Desk_worthOf_22 (Nat.le_of_ble_eq_true rfl) rfl rfl ?_
  refine PJ.bind (fun x8 : Int32 => ((85 : Nat), ([none, none, none, none, some (.inl x8), none] : List (Option PV)), ([] : List PV), (h : PH), (0 : Nat), (0 : Nat))) (PJ.it (E := (fun s7 : Int32 × Int32 => ((24 : Nat), ([some (.inr (.inr a0)), some (.inl a1), some (.inl a2), some (.inr (.inr v2)), some (.inl s7.1), some (.inl s7.2)] : List (Option PV)), ([] : List PV), (h : PH), (0 : Nat), (0 : Nat)))) (F := (fun x8 : Int32 => ((85 : Nat), ([none, none, none, none, some (.inl x8), none] : List (Option PV)), ([] : List PV), (h : PH), (0 : Nat), (0 : Nat)))) (fun s7 => ?_) FU (v6, (0 : Int32))) (fun x8 => ?_)
  · show PJ l G (pj_rm 2 0 0) Y_Desk_worthOf 24 [some (.inr (.inr a0)), some (.inl a1), some (.inl a2), some (.inr (.inr v2)), some (.inl s7.1), some (.inl s7.2)] [] h 0 0 _ _
    refine PJ.iload (pc := 24) d_Desk_worthOf_24 rfl ?_
    refine PJ.aload_n (pc := 26) d_Desk_worthOf_26 rfl ?_
    refine PJ.getI (pc := 27) fs_Desk_65 d_Desk_worthOf_27 (fun v9 => ?_)
    refine PJ.icmp_ge (pc := 30) (tgt := 85) d_Desk_worthOf_30 (by decide) (fun _ => ?_) (fun _ => ?_)
    · refine PJ.mk (L1 := [none, none, none, none, some (.inl s7.1), none]) [false, false, false, false, true, false] rfl ?_
      exact PJ.done rfl
    · refine PJ.aload_n (pc := 33) d_Desk_worthOf_33 rfl ?_
      refine PJ.getR (pc := 34) fs_Desk_70 d_Desk_worthOf_34 (fun v10 => ?_)
      refine PJ.iload (pc := 37) d_Desk_worthOf_37 rfl ?_
      refine PJ.iald (pc := 39) d_Desk_worthOf_39 (fun v11 => ?_)
      refine PJ.iload_n (pc := 40) d_Desk_worthOf_40 rfl ?_
      refine PJ.icmp_ne (pc := 41) (tgt := 79) d_Desk_worthOf_41 (by decide) (fun _ => ?_) (fun _ => ?_)
      · refine PJ.iinc (pc := 79) (v := 1) (L1 := [some (.inr (.inr a0)), some (.inl a1), some (.inl a2), some (.inr (.inr v2)), some (.inl s7.1), some (.inl (s7.2 + (1 : Int32)))]) d_Desk_worthOf_79 rfl (by decide) (Nat.le_of_ble_eq_true rfl) rfl rfl ?_
        refine PJ.goto (pc := 82) (tgt := 24) d_Desk_worthOf_82 (by decide) ?_
        exact PJ.done rfl
      · refine PJ.aload_n (pc := 44) d_Desk_worthOf_44 rfl ?_
        refine PJ.getR (pc := 45) fs_Desk_73 d_Desk_worthOf_45 (fun v12 => ?_)
        refine PJ.iload (pc := 48) d_Desk_worthOf_48 rfl ?_
        refine PJ.iald (pc := 50) d_Desk_worthOf_50 (fun v13 => ?_)
        refine PJ.iload_n (pc := 51) d_Desk_worthOf_51 rfl ?_
        refine PJ.icmp_ne (pc := 52) (tgt := 79) d_Desk_worthOf_52 (by decide) (fun _ => ?_) (fun _ => ?_)
        · refine PJ.iinc (pc := 79) (v := 1) (L1 := [some (.inr (.inr a0)), some (.inl a1), some (.inl a2), some (.inr (.inr v2)), some (.inl s7.1), some (.inl (s7.2 + (1 : Int32)))]) d_Desk_worthOf_79 rfl (by decide) (Nat.le_of_ble_eq_true rfl) rfl rfl ?_
          refine PJ.goto (pc := 82) (tgt := 24) d_Desk_worthOf_82 (by decide) ?_
          exact PJ.done rfl
        · refine PJ.aload_n (pc := 55) d_Desk_worthOf_55 rfl ?_
          refine PJ.getR (pc := 56) fs_Desk_22 d_Desk_worthOf_56 (fun v14 => ?_)
          refine PJ.iload (pc := 59) d_Desk_worthOf_59 rfl ?_
          refine PJ.cVpI (pc := 61) cs_Desk_76 (fun z hz => PM_Now_hasCome hz) (pj_fitb rfl) rfl rfl (Nat.le_of_ble_eq_true rfl) d_Desk_worthOf_61 (fun v15 => ?_)
          refine PJ.if_eq (pc := 64) (tgt := 79) d_Desk_worthOf_64 (by decide) (fun _ => ?_) (fun _ => ?_)
          · refine PJ.iinc (pc := 79) (v := 1) (L1 := [some (.inr (.inr a0)), some (.inl a1), some (.inl a2), some (.inr (.inr v2)), some (.inl s7.1), some (.inl (s7.2 + (1 : Int32)))]) d_Desk_worthOf_79 rfl (by decide) (Nat.le_of_ble_eq_true rfl) rfl rfl ?_
            refine PJ.goto (pc := 82) (tgt := 24) d_Desk_worthOf_82 (by decide) ?_
            exact PJ.done rfl
          · refine PJ.iload (pc := 67) d_Desk_worthOf_67 rfl ?_
            refine PJ.aload_n (pc := 69) d_Desk_worthOf_69 rfl ?_
            refine PJ.getR (pc := 70) fs_Desk_80 d_Desk_worthOf_70 (fun v16 => ?_)
            refine PJ.iload (pc := 73) d_Desk_worthOf_73 rfl ?_
            refine PJ.iald (pc := 75) d_Desk_worthOf_75 (fun v17 => ?_)
            refine PJ.iadd (pc := 76) d_Desk_worthOf_76 ?_
            refine PJ.istore (pc := 77) (L1 := [some (.inr (.inr a0)), some (.inl a1), some (.inl a2), some (.inr (.inr v2)), some (.inl (s7.1 + v17)), some (.inl s7.2)]) d_Desk_worthOf_77 (Nat.le_of_ble_eq_true rfl) rfl rfl ?_
            refine PJ.iinc (pc := 79) (v := 1) (L1 := [some (.inr (.inr a0)), some (.inl a1), some (.inl a2), some (.inr (.inr v2)), some (.inl (s7.1 + v17)), some (.inl (s7.2 + (1 : Int32)))]) d_Desk_worthOf_79 rfl (by decide) (Nat.le_of_ble_eq_true rfl) rfl rfl ?_
            refine PJ.goto (pc := 82) (tgt := 24) d_Desk_worthOf_82 (by decide) ?_
            exact PJ.done rfl
  · show PJ l G (pj_rm 2 0 0) Y_Desk_worthOf 85 [none, none, none, none, some (.inl x8), none] [] h 0 0 _ _
    refine PJ.iload (pc := 85) d_Desk_worthOf_85 rfl ?_
    exact PJ.iretp (pc := 87) d_Desk_worthOf_87 rfl (Nat.le_of_ble_eq_true rfl) (Nat.le_of_ble_eq_true rfl)
theorem d_T_worth_0 : decode Y_T_worth.2.1 0 = .ok (.aload_n 0, 1) := by decide +kernel
theorem d_T_worth_1 : decode Y_T_worth.2.1 1 = .ok (.iload_n 1, 1) := by decide +kernel
theorem d_T_worth_2 : decode Y_T_worth.2.1 2 = .ok (.invokevirtual 117, 3) := by decide +kernel
theorem d_T_worth_5 : decode Y_T_worth.2.1 5 = .ok (.ifCond .eq 11, 3) := by decide +kernel
theorem d_T_worth_8 : decode Y_T_worth.2.1 8 = .ok (.aload_n 0, 1) := by decide +kernel
theorem d_T_worth_9 : decode Y_T_worth.2.1 9 = .ok (.iload_n 2, 1) := by decide +kernel
theorem d_T_worth_10 : decode Y_T_worth.2.1 10 = .ok (.invokevirtual 140, 3) := by decide +kernel
theorem d_T_worth_13 : decode Y_T_worth.2.1 13 = .ok (.ifCond .ne 9, 3) := by decide +kernel
theorem d_T_worth_16 : decode Y_T_worth.2.1 16 = .ok (.aload_n 0, 1) := by decide +kernel
theorem d_T_worth_17 : decode Y_T_worth.2.1 17 = .ok (.iconst 1, 1) := by decide +kernel
theorem d_T_worth_18 : decode Y_T_worth.2.1 18 = .ok (.invokevirtual 95, 3) := by decide +kernel
theorem d_T_worth_21 : decode Y_T_worth.2.1 21 = .ok (.ireturn, 1) := by decide +kernel
theorem d_T_worth_22 : decode Y_T_worth.2.1 22 = .ok (.aload_n 0, 1) := by decide +kernel
theorem d_T_worth_23 : decode Y_T_worth.2.1 23 = .ok (.aload_n 0, 1) := by decide +kernel
theorem d_T_worth_24 : decode Y_T_worth.2.1 24 = .ok (.invokevirtual 147, 3) := by decide +kernel
theorem d_T_worth_27 : decode Y_T_worth.2.1 27 = .ok (.iload_n 1, 1) := by decide +kernel
theorem d_T_worth_28 : decode Y_T_worth.2.1 28 = .ok (.iload_n 2, 1) := by decide +kernel
theorem d_T_worth_29 : decode Y_T_worth.2.1 29 = .ok (.invokevirtual 151, 3) := by decide +kernel
theorem d_T_worth_32 : decode Y_T_worth.2.1 32 = .ok (.invokevirtual 114, 3) := by decide +kernel
theorem d_T_worth_35 : decode Y_T_worth.2.1 35 = .ok (.ireturn, 1) := by decide +kernel
def f_T_worth (h : PH) (a0 : Option Nat) (a1 : Int32) (a2 : Int32) : Option (Int32 × PH) := (cl h 10 a0 (f_T_isPerson h a0 a1)).bind fun v1 => if v1 = 0 then ((cl h 10 a0 (f_T_refuse h a0 (1 : Int32))).bind fun v2 => some (v2.1, v2.2)) else ((cl h 10 a0 (f_T_isChoice h a0 a2)).bind fun v3 => if ¬ v3 = 0 then ((cl h 10 a0 (f_T_present h a0)).bind fun v4 => (cl v4.2 0 v4.1 (f_Desk_worthOf v4.2 v4.1 a1 a2)).bind fun v5 => (cl v4.2 10 a0 (f_T_fine v4.2 a0 v5)).bind fun v6 => some (v6.1, v6.2)) else ((cl h 10 a0 (f_T_refuse h a0 (1 : Int32))).bind fun v7 => some (v7.1, v7.2)))
set_option maxRecDepth 20000 in
theorem PM_T_worth {l : Launch} {G : Cx} {h : PH} {a0 : Option Nat} {a1 : Int32} {a2 : Int32} {z : (Int32 × PH)} (hz : f_T_worth h a0 a1 a2 = some z) : PM l G 3 0 0 Y_T_worth [.inr (.inr a0), .inl a1, .inl a2] h (some (.inl z.1), z.2) := by
  refine PM.of (Y := Y_T_worth) (cv := (fun z : (Int32 × PH) => (((some (.inl z.1), z.2) : Option PV × PH)))) (by decide) (L0 := [some (.inr (.inr a0)), some (.inl a1), some (.inl a2)]) 0 rfl (Nat.le_of_ble_eq_true rfl) ?_ hz
  unfold f_T_worth
  refine PJ.aload_n (pc := 0) d_T_worth_0 rfl ?_
  refine PJ.iload_n (pc := 1) d_T_worth_1 rfl ?_
  refine PJ.cVpI (pc := 2) cs_T_117 (fun z hz => PM_T_isPerson hz) (pj_fitb rfl) rfl rfl (Nat.le_of_ble_eq_true rfl) d_T_worth_2 (fun v1 => ?_)
  refine PJ.if_eq (pc := 5) (tgt := 16) d_T_worth_5 (by decide) (fun _ => ?_) (fun _ => ?_)
  · refine PJ.aload_n (pc := 16) d_T_worth_16 rfl ?_
    refine PJ.iconst (pc := 17) (v := 1) d_T_worth_17 (by decide) ?_
    refine PJ.cVI (pc := 18) cs_T_95 (fun z hz => PM_T_refuse hz) (pj_fitb rfl) rfl rfl (Nat.le_of_ble_eq_true rfl) d_T_worth_18 (fun v2 => ?_)
    exact PJ.iret (pc := 21) d_T_worth_21 rfl (Nat.le_of_ble_eq_true rfl) (Nat.le_of_ble_eq_true rfl)
  · refine PJ.aload_n (pc := 8) d_T_worth_8 rfl ?_
    refine PJ.iload_n (pc := 9) d_T_worth_9 rfl ?_
    refine PJ.cVpI (pc := 10) cs_T_140 (fun z hz => PM_T_isChoice hz) (pj_fitb rfl) rfl rfl (Nat.le_of_ble_eq_true rfl) d_T_worth_10 (fun v3 => ?_)
    refine PJ.if_ne (pc := 13) (tgt := 22) d_T_worth_13 (by decide) (fun _ => ?_) (fun _ => ?_)
    · refine PJ.aload_n (pc := 22) d_T_worth_22 rfl ?_
      refine PJ.aload_n (pc := 23) d_T_worth_23 rfl ?_
      refine PJ.cVR (pc := 24) cs_T_147 (fun z hz => PM_T_present hz) (pj_fitb rfl) rfl rfl (Nat.le_of_ble_eq_true rfl) d_T_worth_24 (fun v4 => ?_)
      refine PJ.iload_n (pc := 27) d_T_worth_27 rfl ?_
      refine PJ.iload_n (pc := 28) d_T_worth_28 rfl ?_
      refine PJ.cVpI (pc := 29) cs_T_151 (fun z hz => PM_Desk_worthOf hz) (pj_fitb rfl) rfl rfl (Nat.le_of_ble_eq_true rfl) d_T_worth_29 (fun v5 => ?_)
      refine PJ.cVI (pc := 32) cs_T_114 (fun z hz => PM_T_fine hz) (pj_fitb rfl) rfl rfl (Nat.le_of_ble_eq_true rfl) d_T_worth_32 (fun v6 => ?_)
      exact PJ.iret (pc := 35) d_T_worth_35 rfl (Nat.le_of_ble_eq_true rfl) (Nat.le_of_ble_eq_true rfl)
    · refine PJ.aload_n (pc := 16) d_T_worth_16 rfl ?_
      refine PJ.iconst (pc := 17) (v := 1) d_T_worth_17 (by decide) ?_
      refine PJ.cVI (pc := 18) cs_T_95 (fun z hz => PM_T_refuse hz) (pj_fitb rfl) rfl rfl (Nat.le_of_ble_eq_true rfl) d_T_worth_18 (fun v7 => ?_)
      exact PJ.iret (pc := 21) d_T_worth_21 rfl (Nat.le_of_ble_eq_true rfl) (Nat.le_of_ble_eq_true rfl)
theorem d_Desk_taxOf_0 : decode Y_Desk_taxOf.2.1 0 = .ok (.aload_n 0, 1) := by decide +kernel
theorem d_Desk_taxOf_1 : decode Y_Desk_taxOf.2.1 1 = .ok (.getfield 18, 3) := by decide +kernel
theorem d_Desk_taxOf_4 : decode Y_Desk_taxOf.2.1 4 = .ok (.getfield 29, 3) := by decide +kernel
theorem d_Desk_taxOf_7 : decode Y_Desk_taxOf.2.1 7 = .ok (.iload_n 1, 1) := by decide +kernel
theorem d_Desk_taxOf_8 : decode Y_Desk_taxOf.2.1 8 = .ok (.iaload, 1) := by decide +kernel
theorem d_Desk_taxOf_9 : decode Y_Desk_taxOf.2.1 9 = .ok (.istore_n 3, 1) := by decide +kernel
theorem d_Desk_taxOf_10 : decode Y_Desk_taxOf.2.1 10 = .ok (.iload_n 2, 1) := by decide +kernel
theorem d_Desk_taxOf_11 : decode Y_Desk_taxOf.2.1 11 = .ok (.aload_n 0, 1) := by decide +kernel
theorem d_Desk_taxOf_12 : decode Y_Desk_taxOf.2.1 12 = .ok (.getfield 22, 3) := by decide +kernel
theorem d_Desk_taxOf_15 : decode Y_Desk_taxOf.2.1 15 = .ok (.getfield 33, 3) := by decide +kernel
theorem d_Desk_taxOf_18 : decode Y_Desk_taxOf.2.1 18 = .ok (.iload_n 1, 1) := by decide +kernel
theorem d_Desk_taxOf_19 : decode Y_Desk_taxOf.2.1 19 = .ok (.iaload, 1) := by decide +kernel
theorem d_Desk_taxOf_20 : decode Y_Desk_taxOf.2.1 20 = .ok (.if_icmp .eq 13, 3) := by decide +kernel
theorem d_Desk_taxOf_23 : decode Y_Desk_taxOf.2.1 23 = .ok (.iload_n 3, 1) := by decide +kernel
theorem d_Desk_taxOf_24 : decode Y_Desk_taxOf.2.1 24 = .ok (.iconst 1, 1) := by decide +kernel
theorem d_Desk_taxOf_25 : decode Y_Desk_taxOf.2.1 25 = .ok (.if_icmp .eq 8, 3) := by decide +kernel
theorem d_Desk_taxOf_28 : decode Y_Desk_taxOf.2.1 28 = .ok (.iload_n 3, 1) := by decide +kernel
theorem d_Desk_taxOf_29 : decode Y_Desk_taxOf.2.1 29 = .ok (.iconst 2, 1) := by decide +kernel
theorem d_Desk_taxOf_30 : decode Y_Desk_taxOf.2.1 30 = .ok (.if_icmp .ne 5, 3) := by decide +kernel
theorem d_Desk_taxOf_33 : decode Y_Desk_taxOf.2.1 33 = .ok (.iconst 0, 1) := by decide +kernel
theorem d_Desk_taxOf_34 : decode Y_Desk_taxOf.2.1 34 = .ok (.ireturn, 1) := by decide +kernel
theorem d_Desk_taxOf_35 : decode Y_Desk_taxOf.2.1 35 = .ok (.aload_n 0, 1) := by decide +kernel
theorem d_Desk_taxOf_36 : decode Y_Desk_taxOf.2.1 36 = .ok (.getfield 9, 3) := by decide +kernel
theorem d_Desk_taxOf_39 : decode Y_Desk_taxOf.2.1 39 = .ok (.iconst (-1), 1) := by decide +kernel
theorem d_Desk_taxOf_40 : decode Y_Desk_taxOf.2.1 40 = .ok (.if_icmp .ne 23, 3) := by decide +kernel
theorem d_Desk_taxOf_43 : decode Y_Desk_taxOf.2.1 43 = .ok (.aload_n 0, 1) := by decide +kernel
theorem d_Desk_taxOf_44 : decode Y_Desk_taxOf.2.1 44 = .ok (.getfield 18, 3) := by decide +kernel
theorem d_Desk_taxOf_47 : decode Y_Desk_taxOf.2.1 47 = .ok (.aload_n 0, 1) := by decide +kernel
theorem d_Desk_taxOf_48 : decode Y_Desk_taxOf.2.1 48 = .ok (.getfield 22, 3) := by decide +kernel
theorem d_Desk_taxOf_51 : decode Y_Desk_taxOf.2.1 51 = .ok (.getfield 33, 3) := by decide +kernel
theorem d_Desk_taxOf_54 : decode Y_Desk_taxOf.2.1 54 = .ok (.iload_n 1, 1) := by decide +kernel
theorem d_Desk_taxOf_55 : decode Y_Desk_taxOf.2.1 55 = .ok (.iaload, 1) := by decide +kernel
theorem d_Desk_taxOf_56 : decode Y_Desk_taxOf.2.1 56 = .ok (.iload_n 2, 1) := by decide +kernel
theorem d_Desk_taxOf_57 : decode Y_Desk_taxOf.2.1 57 = .ok (.invokevirtual 38, 3) := by decide +kernel
theorem d_Desk_taxOf_60 : decode Y_Desk_taxOf.2.1 60 = .ok (.goto 7, 3) := by decide +kernel
theorem d_Desk_taxOf_63 : decode Y_Desk_taxOf.2.1 63 = .ok (.aload_n 0, 1) := by decide +kernel
theorem d_Desk_taxOf_64 : decode Y_Desk_taxOf.2.1 64 = .ok (.getfield 9, 3) := by decide +kernel
theorem d_Desk_taxOf_67 : decode Y_Desk_taxOf.2.1 67 = .ok (.istore 4, 2) := by decide +kernel
theorem d_Desk_taxOf_69 : decode Y_Desk_taxOf.2.1 69 = .ok (.aload_n 0, 1) := by decide +kernel
theorem d_Desk_taxOf_70 : decode Y_Desk_taxOf.2.1 70 = .ok (.getfield 22, 3) := by decide +kernel
theorem d_Desk_taxOf_73 : decode Y_Desk_taxOf.2.1 73 = .ok (.getfield 42, 3) := by decide +kernel
theorem d_Desk_taxOf_76 : decode Y_Desk_taxOf.2.1 76 = .ok (.iload_n 1, 1) := by decide +kernel
theorem d_Desk_taxOf_77 : decode Y_Desk_taxOf.2.1 77 = .ok (.iaload, 1) := by decide +kernel
theorem d_Desk_taxOf_78 : decode Y_Desk_taxOf.2.1 78 = .ok (.ifCond .le 36, 3) := by decide +kernel
theorem d_Desk_taxOf_81 : decode Y_Desk_taxOf.2.1 81 = .ok (.aload_n 0, 1) := by decide +kernel
theorem d_Desk_taxOf_82 : decode Y_Desk_taxOf.2.1 82 = .ok (.getfield 22, 3) := by decide +kernel
theorem d_Desk_taxOf_85 : decode Y_Desk_taxOf.2.1 85 = .ok (.getfield 45, 3) := by decide +kernel
theorem d_Desk_taxOf_88 : decode Y_Desk_taxOf.2.1 88 = .ok (.aload_n 0, 1) := by decide +kernel
theorem d_Desk_taxOf_89 : decode Y_Desk_taxOf.2.1 89 = .ok (.getfield 22, 3) := by decide +kernel
theorem d_Desk_taxOf_92 : decode Y_Desk_taxOf.2.1 92 = .ok (.getfield 48, 3) := by decide +kernel
theorem d_Desk_taxOf_95 : decode Y_Desk_taxOf.2.1 95 = .ok (.iload_n 1, 1) := by decide +kernel
theorem d_Desk_taxOf_96 : decode Y_Desk_taxOf.2.1 96 = .ok (.iaload, 1) := by decide +kernel
theorem d_Desk_taxOf_97 : decode Y_Desk_taxOf.2.1 97 = .ok (.isub, 1) := by decide +kernel
theorem d_Desk_taxOf_98 : decode Y_Desk_taxOf.2.1 98 = .ok (.aload_n 0, 1) := by decide +kernel
theorem d_Desk_taxOf_99 : decode Y_Desk_taxOf.2.1 99 = .ok (.getfield 18, 3) := by decide +kernel
theorem d_Desk_taxOf_102 : decode Y_Desk_taxOf.2.1 102 = .ok (.getfield 51, 3) := by decide +kernel
theorem d_Desk_taxOf_105 : decode Y_Desk_taxOf.2.1 105 = .ok (.if_icmp .ge 9, 3) := by decide +kernel
theorem d_Desk_taxOf_108 : decode Y_Desk_taxOf.2.1 108 = .ok (.iload 4, 2) := by decide +kernel
theorem d_Desk_taxOf_110 : decode Y_Desk_taxOf.2.1 110 = .ok (.iconst 2, 1) := by decide +kernel
theorem d_Desk_taxOf_111 : decode Y_Desk_taxOf.2.1 111 = .ok (.imul, 1) := by decide +kernel
theorem d_Desk_taxOf_112 : decode Y_Desk_taxOf.2.1 112 = .ok (.istore 4, 2) := by decide +kernel
theorem d_Desk_taxOf_114 : decode Y_Desk_taxOf.2.1 114 = .ok (.aload_n 0, 1) := by decide +kernel
theorem d_Desk_taxOf_115 : decode Y_Desk_taxOf.2.1 115 = .ok (.getfield 22, 3) := by decide +kernel
theorem d_Desk_taxOf_118 : decode Y_Desk_taxOf.2.1 118 = .ok (.getfield 42, 3) := by decide +kernel
theorem d_Desk_taxOf_121 : decode Y_Desk_taxOf.2.1 121 = .ok (.iload_n 1, 1) := by decide +kernel
theorem d_Desk_taxOf_122 : decode Y_Desk_taxOf.2.1 122 = .ok (.iaload, 1) := by decide +kernel
theorem d_Desk_taxOf_123 : decode Y_Desk_taxOf.2.1 123 = .ok (.iconst 2, 1) := by decide +kernel
theorem d_Desk_taxOf_124 : decode Y_Desk_taxOf.2.1 124 = .ok (.if_icmp .lt 12, 3) := by decide +kernel
theorem d_Desk_taxOf_127 : decode Y_Desk_taxOf.2.1 127 = .ok (.iload 4, 2) := by decide +kernel
theorem d_Desk_taxOf_129 : decode Y_Desk_taxOf.2.1 129 = .ok (.aload_n 0, 1) := by decide +kernel
theorem d_Desk_taxOf_130 : decode Y_Desk_taxOf.2.1 130 = .ok (.getfield 15, 3) := by decide +kernel
theorem d_Desk_taxOf_133 : decode Y_Desk_taxOf.2.1 133 = .ok (.imul, 1) := by decide +kernel
theorem d_Desk_taxOf_134 : decode Y_Desk_taxOf.2.1 134 = .ok (.istore 4, 2) := by decide +kernel
theorem d_Desk_taxOf_136 : decode Y_Desk_taxOf.2.1 136 = .ok (.iload_n 2, 1) := by decide +kernel
theorem d_Desk_taxOf_137 : decode Y_Desk_taxOf.2.1 137 = .ok (.aload_n 0, 1) := by decide +kernel
theorem d_Desk_taxOf_138 : decode Y_Desk_taxOf.2.1 138 = .ok (.getfield 18, 3) := by decide +kernel
theorem d_Desk_taxOf_141 : decode Y_Desk_taxOf.2.1 141 = .ok (.getfield 54, 3) := by decide +kernel
theorem d_Desk_taxOf_144 : decode Y_Desk_taxOf.2.1 144 = .ok (.iload_n 1, 1) := by decide +kernel
theorem d_Desk_taxOf_145 : decode Y_Desk_taxOf.2.1 145 = .ok (.iaload, 1) := by decide +kernel
theorem d_Desk_taxOf_146 : decode Y_Desk_taxOf.2.1 146 = .ok (.if_icmp .ne 9, 3) := by decide +kernel
theorem d_Desk_taxOf_149 : decode Y_Desk_taxOf.2.1 149 = .ok (.iload 4, 2) := by decide +kernel
theorem d_Desk_taxOf_151 : decode Y_Desk_taxOf.2.1 151 = .ok (.iconst 2, 1) := by decide +kernel
theorem d_Desk_taxOf_152 : decode Y_Desk_taxOf.2.1 152 = .ok (.idiv, 1) := by decide +kernel
theorem d_Desk_taxOf_153 : decode Y_Desk_taxOf.2.1 153 = .ok (.istore 4, 2) := by decide +kernel
theorem d_Desk_taxOf_155 : decode Y_Desk_taxOf.2.1 155 = .ok (.iload_n 3, 1) := by decide +kernel
theorem d_Desk_taxOf_156 : decode Y_Desk_taxOf.2.1 156 = .ok (.iconst 3, 1) := by decide +kernel
theorem d_Desk_taxOf_157 : decode Y_Desk_taxOf.2.1 157 = .ok (.if_icmp .ne 10, 3) := by decide +kernel
theorem d_Desk_taxOf_160 : decode Y_Desk_taxOf.2.1 160 = .ok (.iconst 2, 1) := by decide +kernel
theorem d_Desk_taxOf_161 : decode Y_Desk_taxOf.2.1 161 = .ok (.iload 4, 2) := by decide +kernel
theorem d_Desk_taxOf_163 : decode Y_Desk_taxOf.2.1 163 = .ok (.imul, 1) := by decide +kernel
theorem d_Desk_taxOf_164 : decode Y_Desk_taxOf.2.1 164 = .ok (.goto 5, 3) := by decide +kernel
theorem d_Desk_taxOf_167 : decode Y_Desk_taxOf.2.1 167 = .ok (.iload 4, 2) := by decide +kernel
theorem d_Desk_taxOf_169 : decode Y_Desk_taxOf.2.1 169 = .ok (.ireturn, 1) := by decide +kernel
def f_Desk_taxOf (h : PH) (a0 : Option Nat) (a1 : Int32) (a2 : Int32) : Option Int32 := (gR h 0 a0 0).bind fun v1 => (gR h 1 v1 6).bind fun v2 => (aI h v2 a1).bind fun v3 => (gR h 0 a0 1).bind fun v4 => (gR h 2 v4 3).bind fun v5 => (aI h v5 a1).bind fun v6 => if a2 = v6 then (some (0 : Int32)) else (if v3 = (1 : Int32) then (some (0 : Int32)) else (if ¬ v3 = (2 : Int32) then ((gI h 0 a0 2).bind fun v7 => (if ¬ v7 = (-1 : Int32) then ((gI h 0 a0 2).bind fun v9 => some v9) else ((gR h 0 a0 0).bind fun v10 => (gR h 0 a0 1).bind fun v11 => (gR h 2 v11 3).bind fun v12 => (aI h v12 a1).bind fun v13 => (cl h 1 v10 (f_Law_apart h v10 v13 a2)).bind fun v14 => some v14) : Option (Int32)).bind fun j8 => (gR h 0 a0 1).bind fun v15 => (gR h 2 v15 4).bind fun v16 => (aI h v16 a1).bind fun v17 => (if v17 ≤ 0 then (some j8) else ((gR h 0 a0 1).bind fun v19 => (gI h 2 v19 0).bind fun v20 => (gR h 0 a0 1).bind fun v21 => (gR h 2 v21 6).bind fun v22 => (aI h v22 a1).bind fun v23 => (gR h 0 a0 0).bind fun v24 => (gI h 1 v24 0).bind fun v25 => if v25 ≤ (v20 - v23) then (some j8) else (some (j8 * (2 : Int32)))) : Option (Int32)).bind fun j18 => (gR h 0 a0 1).bind fun v26 => (gR h 2 v26 4).bind fun v27 => (aI h v27 a1).bind fun v28 => (if v28 < (2 : Int32) then (some j18) else ((gI h 0 a0 3).bind fun v30 => some (j18 * v30)) : Option (Int32)).bind fun j29 => (gR h 0 a0 0).bind fun v31 => (gR h 1 v31 7).bind fun v32 => (aI h v32 a1).bind fun v33 => (if ¬ a2 = v33 then (some j29) else (if (2 : Int32) = 0 then none else (some (j29 / (2 : Int32)))) : Option (Int32)).bind fun j34 => if ¬ v3 = (3 : Int32) then (some j34) else (some ((2 : Int32) * j34))) else (some (0 : Int32))))
set_option maxRecDepth 20000 in
theorem PM_Desk_taxOf {l : Launch} {G : Cx} {h : PH} {a0 : Option Nat} {a1 : Int32} {a2 : Int32} {z : Int32} (hz : f_Desk_taxOf h a0 a1 a2 = some z) : PM l G 2 0 0 Y_Desk_taxOf [.inr (.inr a0), .inl a1, .inl a2] h (some (.inl z), h) := by
  refine PM.of (Y := Y_Desk_taxOf) (cv := (fun z : Int32 => (((some (.inl z), h) : Option PV × PH)))) (by decide) (L0 := [some (.inr (.inr a0)), some (.inl a1), some (.inl a2), none, none]) 2 rfl (Nat.le_of_ble_eq_true rfl) ?_ hz
  unfold f_Desk_taxOf
  refine PJ.aload_n (pc := 0) d_Desk_taxOf_0 rfl ?_
  refine PJ.getR (pc := 1) fs_Desk_18 d_Desk_taxOf_1 (fun v1 => ?_)
  refine PJ.getR (pc := 4) fs_Desk_29 d_Desk_taxOf_4 (fun v2 => ?_)
  refine PJ.iload_n (pc := 7) d_Desk_taxOf_7 rfl ?_
  refine PJ.iald (pc := 8) d_Desk_taxOf_8 (fun v3 => ?_)
  refine PJ.istore_n (pc := 9) (L1 := [some (.inr (.inr a0)), some (.inl a1), some (.inl a2), some (.inl v3), none]) d_Desk_taxOf_9 (Nat.le_of_ble_eq_true rfl) rfl rfl ?_
  refine PJ.iload_n (pc := 10) d_Desk_taxOf_10 rfl ?_
  refine PJ.aload_n (pc := 11) d_Desk_taxOf_11 rfl ?_
  refine PJ.getR (pc := 12) fs_Desk_22 d_Desk_taxOf_12 (fun v4 => ?_)
  refine PJ.getR (pc := 15) fs_Desk_33 d_Desk_taxOf_15 (fun v5 => ?_)
  refine PJ.iload_n (pc := 18) d_Desk_taxOf_18 rfl ?_
  refine PJ.iald (pc := 19) d_Desk_taxOf_19 (fun v6 => ?_)
  refine PJ.icmp_eq (pc := 20) (tgt := 33) d_Desk_taxOf_20 (by decide) (fun _ => ?_) (fun _ => ?_)
  · refine PJ.iconst (pc := 33) (v := 0) d_Desk_taxOf_33 (by decide) ?_
    exact PJ.iretp (pc := 34) d_Desk_taxOf_34 rfl (Nat.le_of_ble_eq_true rfl) (Nat.le_of_ble_eq_true rfl)
  · refine PJ.iload_n (pc := 23) d_Desk_taxOf_23 rfl ?_
    refine PJ.iconst (pc := 24) (v := 1) d_Desk_taxOf_24 (by decide) ?_
    refine PJ.icmp_eq (pc := 25) (tgt := 33) d_Desk_taxOf_25 (by decide) (fun _ => ?_) (fun _ => ?_)
    · refine PJ.iconst (pc := 33) (v := 0) d_Desk_taxOf_33 (by decide) ?_
      exact PJ.iretp (pc := 34) d_Desk_taxOf_34 rfl (Nat.le_of_ble_eq_true rfl) (Nat.le_of_ble_eq_true rfl)
    · refine PJ.iload_n (pc := 28) d_Desk_taxOf_28 rfl ?_
      refine PJ.iconst (pc := 29) (v := 2) d_Desk_taxOf_29 (by decide) ?_
      refine PJ.icmp_ne (pc := 30) (tgt := 35) d_Desk_taxOf_30 (by decide) (fun _ => ?_) (fun _ => ?_)
      · refine PJ.aload_n (pc := 35) d_Desk_taxOf_35 rfl ?_
        refine PJ.getI (pc := 36) fs_Desk_9 d_Desk_taxOf_36 (fun v7 => ?_)
        refine PJ.iconst (pc := 39) (v := -1) d_Desk_taxOf_39 (by decide) ?_
        refine PJ.bind (fun j8 : Int32 => ((67 : Nat), ([some (.inr (.inr a0)), some (.inl a1), some (.inl a2), some (.inl v3), none] : List (Option PV)), ([.inl j8] : List PV), (h : PH), (0 : Nat), (0 : Nat))) ?_ (fun j8 => ?_)
        · refine PJ.icmp_ne (pc := 40) (tgt := 63) d_Desk_taxOf_40 (by decide) (fun _ => ?_) (fun _ => ?_)
          · refine PJ.aload_n (pc := 63) d_Desk_taxOf_63 rfl ?_
            refine PJ.getI (pc := 64) fs_Desk_9 d_Desk_taxOf_64 (fun v9 => ?_)
            exact PJ.done rfl
          · refine PJ.aload_n (pc := 43) d_Desk_taxOf_43 rfl ?_
            refine PJ.getR (pc := 44) fs_Desk_18 d_Desk_taxOf_44 (fun v10 => ?_)
            refine PJ.aload_n (pc := 47) d_Desk_taxOf_47 rfl ?_
            refine PJ.getR (pc := 48) fs_Desk_22 d_Desk_taxOf_48 (fun v11 => ?_)
            refine PJ.getR (pc := 51) fs_Desk_33 d_Desk_taxOf_51 (fun v12 => ?_)
            refine PJ.iload_n (pc := 54) d_Desk_taxOf_54 rfl ?_
            refine PJ.iald (pc := 55) d_Desk_taxOf_55 (fun v13 => ?_)
            refine PJ.iload_n (pc := 56) d_Desk_taxOf_56 rfl ?_
            refine PJ.cVpI (pc := 57) cs_Desk_38 (fun z hz => PM_Law_apart hz) (pj_fitb rfl) rfl rfl (Nat.le_of_ble_eq_true rfl) d_Desk_taxOf_57 (fun v14 => ?_)
            refine PJ.goto (pc := 60) (tgt := 67) d_Desk_taxOf_60 (by decide) ?_
            exact PJ.done rfl
        · show PJ l G (pj_rm 2 0 0) Y_Desk_taxOf 67 [some (.inr (.inr a0)), some (.inl a1), some (.inl a2), some (.inl v3), none] [.inl j8] h 0 0 _ _
          refine PJ.istore (pc := 67) (L1 := [some (.inr (.inr a0)), some (.inl a1), some (.inl a2), some (.inl v3), some (.inl j8)]) d_Desk_taxOf_67 (Nat.le_of_ble_eq_true rfl) rfl rfl ?_
          refine PJ.aload_n (pc := 69) d_Desk_taxOf_69 rfl ?_
          refine PJ.getR (pc := 70) fs_Desk_22 d_Desk_taxOf_70 (fun v15 => ?_)
          refine PJ.getR (pc := 73) fs_Desk_42 d_Desk_taxOf_73 (fun v16 => ?_)
          refine PJ.iload_n (pc := 76) d_Desk_taxOf_76 rfl ?_
          refine PJ.iald (pc := 77) d_Desk_taxOf_77 (fun v17 => ?_)
          refine PJ.bind (fun j18 : Int32 => ((114 : Nat), ([some (.inr (.inr a0)), some (.inl a1), some (.inl a2), some (.inl v3), some (.inl j18)] : List (Option PV)), ([] : List PV), (h : PH), (0 : Nat), (0 : Nat))) ?_ (fun j18 => ?_)
          · refine PJ.if_le (pc := 78) (tgt := 114) d_Desk_taxOf_78 (by decide) (fun _ => ?_) (fun _ => ?_)
            · exact PJ.done rfl
            · refine PJ.aload_n (pc := 81) d_Desk_taxOf_81 rfl ?_
              refine PJ.getR (pc := 82) fs_Desk_22 d_Desk_taxOf_82 (fun v19 => ?_)
              refine PJ.getI (pc := 85) fs_Desk_45 d_Desk_taxOf_85 (fun v20 => ?_)
              refine PJ.aload_n (pc := 88) d_Desk_taxOf_88 rfl ?_
              refine PJ.getR (pc := 89) fs_Desk_22 d_Desk_taxOf_89 (fun v21 => ?_)
              refine PJ.getR (pc := 92) fs_Desk_48 d_Desk_taxOf_92 (fun v22 => ?_)
              refine PJ.iload_n (pc := 95) d_Desk_taxOf_95 rfl ?_
              refine PJ.iald (pc := 96) d_Desk_taxOf_96 (fun v23 => ?_)
              refine PJ.isub (pc := 97) d_Desk_taxOf_97 ?_
              refine PJ.aload_n (pc := 98) d_Desk_taxOf_98 rfl ?_
              refine PJ.getR (pc := 99) fs_Desk_18 d_Desk_taxOf_99 (fun v24 => ?_)
              refine PJ.getI (pc := 102) fs_Desk_51 d_Desk_taxOf_102 (fun v25 => ?_)
              refine PJ.icmp_ge (pc := 105) (tgt := 114) d_Desk_taxOf_105 (by decide) (fun _ => ?_) (fun _ => ?_)
              · exact PJ.done rfl
              · refine PJ.iload (pc := 108) d_Desk_taxOf_108 rfl ?_
                refine PJ.iconst (pc := 110) (v := 2) d_Desk_taxOf_110 (by decide) ?_
                refine PJ.imul (pc := 111) d_Desk_taxOf_111 ?_
                refine PJ.istore (pc := 112) (L1 := [some (.inr (.inr a0)), some (.inl a1), some (.inl a2), some (.inl v3), some (.inl (j8 * (2 : Int32)))]) d_Desk_taxOf_112 (Nat.le_of_ble_eq_true rfl) rfl rfl ?_
                exact PJ.done rfl
          · show PJ l G (pj_rm 2 0 0) Y_Desk_taxOf 114 [some (.inr (.inr a0)), some (.inl a1), some (.inl a2), some (.inl v3), some (.inl j18)] [] h 0 0 _ _
            refine PJ.aload_n (pc := 114) d_Desk_taxOf_114 rfl ?_
            refine PJ.getR (pc := 115) fs_Desk_22 d_Desk_taxOf_115 (fun v26 => ?_)
            refine PJ.getR (pc := 118) fs_Desk_42 d_Desk_taxOf_118 (fun v27 => ?_)
            refine PJ.iload_n (pc := 121) d_Desk_taxOf_121 rfl ?_
            refine PJ.iald (pc := 122) d_Desk_taxOf_122 (fun v28 => ?_)
            refine PJ.iconst (pc := 123) (v := 2) d_Desk_taxOf_123 (by decide) ?_
            refine PJ.bind (fun j29 : Int32 => ((136 : Nat), ([some (.inr (.inr a0)), some (.inl a1), some (.inl a2), some (.inl v3), some (.inl j29)] : List (Option PV)), ([] : List PV), (h : PH), (0 : Nat), (0 : Nat))) ?_ (fun j29 => ?_)
            · refine PJ.icmp_lt (pc := 124) (tgt := 136) d_Desk_taxOf_124 (by decide) (fun _ => ?_) (fun _ => ?_)
              · exact PJ.done rfl
              · refine PJ.iload (pc := 127) d_Desk_taxOf_127 rfl ?_
                refine PJ.aload_n (pc := 129) d_Desk_taxOf_129 rfl ?_
                refine PJ.getI (pc := 130) fs_Desk_15 d_Desk_taxOf_130 (fun v30 => ?_)
                refine PJ.imul (pc := 133) d_Desk_taxOf_133 ?_
                refine PJ.istore (pc := 134) (L1 := [some (.inr (.inr a0)), some (.inl a1), some (.inl a2), some (.inl v3), some (.inl (j18 * v30))]) d_Desk_taxOf_134 (Nat.le_of_ble_eq_true rfl) rfl rfl ?_
                exact PJ.done rfl
            · show PJ l G (pj_rm 2 0 0) Y_Desk_taxOf 136 [some (.inr (.inr a0)), some (.inl a1), some (.inl a2), some (.inl v3), some (.inl j29)] [] h 0 0 _ _
              refine PJ.iload_n (pc := 136) d_Desk_taxOf_136 rfl ?_
              refine PJ.aload_n (pc := 137) d_Desk_taxOf_137 rfl ?_
              refine PJ.getR (pc := 138) fs_Desk_18 d_Desk_taxOf_138 (fun v31 => ?_)
              refine PJ.getR (pc := 141) fs_Desk_54 d_Desk_taxOf_141 (fun v32 => ?_)
              refine PJ.iload_n (pc := 144) d_Desk_taxOf_144 rfl ?_
              refine PJ.iald (pc := 145) d_Desk_taxOf_145 (fun v33 => ?_)
              refine PJ.bind (fun j34 : Int32 => ((155 : Nat), ([none, none, none, some (.inl v3), some (.inl j34)] : List (Option PV)), ([] : List PV), (h : PH), (0 : Nat), (0 : Nat))) ?_ (fun j34 => ?_)
              · refine PJ.icmp_ne (pc := 146) (tgt := 155) d_Desk_taxOf_146 (by decide) (fun _ => ?_) (fun _ => ?_)
                · refine PJ.mk (L1 := [none, none, none, some (.inl v3), some (.inl j29)]) [false, false, false, true, true] rfl ?_
                  exact PJ.done rfl
                · refine PJ.iload (pc := 149) d_Desk_taxOf_149 rfl ?_
                  refine PJ.iconst (pc := 151) (v := 2) d_Desk_taxOf_151 (by decide) ?_
                  refine PJ.idiv (pc := 152) d_Desk_taxOf_152 (fun _ => ?_)
                  refine PJ.istore (pc := 153) (L1 := [some (.inr (.inr a0)), some (.inl a1), some (.inl a2), some (.inl v3), some (.inl (j29 / (2 : Int32)))]) d_Desk_taxOf_153 (Nat.le_of_ble_eq_true rfl) rfl rfl ?_
                  refine PJ.mk (L1 := [none, none, none, some (.inl v3), some (.inl (j29 / (2 : Int32)))]) [false, false, false, true, true] rfl ?_
                  exact PJ.done rfl
              · show PJ l G (pj_rm 2 0 0) Y_Desk_taxOf 155 [none, none, none, some (.inl v3), some (.inl j34)] [] h 0 0 _ _
                refine PJ.iload_n (pc := 155) d_Desk_taxOf_155 rfl ?_
                refine PJ.iconst (pc := 156) (v := 3) d_Desk_taxOf_156 (by decide) ?_
                refine PJ.icmp_ne (pc := 157) (tgt := 167) d_Desk_taxOf_157 (by decide) (fun _ => ?_) (fun _ => ?_)
                · refine PJ.iload (pc := 167) d_Desk_taxOf_167 rfl ?_
                  exact PJ.iretp (pc := 169) d_Desk_taxOf_169 rfl (Nat.le_of_ble_eq_true rfl) (Nat.le_of_ble_eq_true rfl)
                · refine PJ.iconst (pc := 160) (v := 2) d_Desk_taxOf_160 (by decide) ?_
                  refine PJ.iload (pc := 161) d_Desk_taxOf_161 rfl ?_
                  refine PJ.imul (pc := 163) d_Desk_taxOf_163 ?_
                  refine PJ.goto (pc := 164) (tgt := 169) d_Desk_taxOf_164 (by decide) ?_
                  exact PJ.iretp (pc := 169) d_Desk_taxOf_169 rfl (Nat.le_of_ble_eq_true rfl) (Nat.le_of_ble_eq_true rfl)
      · refine PJ.iconst (pc := 33) (v := 0) d_Desk_taxOf_33 (by decide) ?_
        exact PJ.iretp (pc := 34) d_Desk_taxOf_34 rfl (Nat.le_of_ble_eq_true rfl) (Nat.le_of_ble_eq_true rfl)
theorem d_T_tax_0 : decode Y_T_tax.2.1 0 = .ok (.aload_n 0, 1) := by decide +kernel
theorem d_T_tax_1 : decode Y_T_tax.2.1 1 = .ok (.iload_n 1, 1) := by decide +kernel
theorem d_T_tax_2 : decode Y_T_tax.2.1 2 = .ok (.invokevirtual 117, 3) := by decide +kernel
theorem d_T_tax_5 : decode Y_T_tax.2.1 5 = .ok (.ifCond .eq 11, 3) := by decide +kernel
theorem d_T_tax_8 : decode Y_T_tax.2.1 8 = .ok (.aload_n 0, 1) := by decide +kernel
theorem d_T_tax_9 : decode Y_T_tax.2.1 9 = .ok (.iload_n 2, 1) := by decide +kernel
theorem d_T_tax_10 : decode Y_T_tax.2.1 10 = .ok (.invokevirtual 140, 3) := by decide +kernel
theorem d_T_tax_13 : decode Y_T_tax.2.1 13 = .ok (.ifCond .ne 9, 3) := by decide +kernel
theorem d_T_tax_16 : decode Y_T_tax.2.1 16 = .ok (.aload_n 0, 1) := by decide +kernel
theorem d_T_tax_17 : decode Y_T_tax.2.1 17 = .ok (.iconst 1, 1) := by decide +kernel
theorem d_T_tax_18 : decode Y_T_tax.2.1 18 = .ok (.invokevirtual 95, 3) := by decide +kernel
theorem d_T_tax_21 : decode Y_T_tax.2.1 21 = .ok (.ireturn, 1) := by decide +kernel
theorem d_T_tax_22 : decode Y_T_tax.2.1 22 = .ok (.aload_n 0, 1) := by decide +kernel
theorem d_T_tax_23 : decode Y_T_tax.2.1 23 = .ok (.aload_n 0, 1) := by decide +kernel
theorem d_T_tax_24 : decode Y_T_tax.2.1 24 = .ok (.invokevirtual 147, 3) := by decide +kernel
theorem d_T_tax_27 : decode Y_T_tax.2.1 27 = .ok (.iload_n 1, 1) := by decide +kernel
theorem d_T_tax_28 : decode Y_T_tax.2.1 28 = .ok (.iload_n 2, 1) := by decide +kernel
theorem d_T_tax_29 : decode Y_T_tax.2.1 29 = .ok (.invokevirtual 154, 3) := by decide +kernel
theorem d_T_tax_32 : decode Y_T_tax.2.1 32 = .ok (.invokevirtual 114, 3) := by decide +kernel
theorem d_T_tax_35 : decode Y_T_tax.2.1 35 = .ok (.ireturn, 1) := by decide +kernel
def f_T_tax (h : PH) (a0 : Option Nat) (a1 : Int32) (a2 : Int32) : Option (Int32 × PH) := (cl h 10 a0 (f_T_isPerson h a0 a1)).bind fun v1 => if v1 = 0 then ((cl h 10 a0 (f_T_refuse h a0 (1 : Int32))).bind fun v2 => some (v2.1, v2.2)) else ((cl h 10 a0 (f_T_isChoice h a0 a2)).bind fun v3 => if ¬ v3 = 0 then ((cl h 10 a0 (f_T_present h a0)).bind fun v4 => (cl v4.2 0 v4.1 (f_Desk_taxOf v4.2 v4.1 a1 a2)).bind fun v5 => (cl v4.2 10 a0 (f_T_fine v4.2 a0 v5)).bind fun v6 => some (v6.1, v6.2)) else ((cl h 10 a0 (f_T_refuse h a0 (1 : Int32))).bind fun v7 => some (v7.1, v7.2)))
set_option maxRecDepth 20000 in
theorem PM_T_tax {l : Launch} {G : Cx} {h : PH} {a0 : Option Nat} {a1 : Int32} {a2 : Int32} {z : (Int32 × PH)} (hz : f_T_tax h a0 a1 a2 = some z) : PM l G 3 0 0 Y_T_tax [.inr (.inr a0), .inl a1, .inl a2] h (some (.inl z.1), z.2) := by
  refine PM.of (Y := Y_T_tax) (cv := (fun z : (Int32 × PH) => (((some (.inl z.1), z.2) : Option PV × PH)))) (by decide) (L0 := [some (.inr (.inr a0)), some (.inl a1), some (.inl a2)]) 0 rfl (Nat.le_of_ble_eq_true rfl) ?_ hz
  unfold f_T_tax
  refine PJ.aload_n (pc := 0) d_T_tax_0 rfl ?_
  refine PJ.iload_n (pc := 1) d_T_tax_1 rfl ?_
  refine PJ.cVpI (pc := 2) cs_T_117 (fun z hz => PM_T_isPerson hz) (pj_fitb rfl) rfl rfl (Nat.le_of_ble_eq_true rfl) d_T_tax_2 (fun v1 => ?_)
  refine PJ.if_eq (pc := 5) (tgt := 16) d_T_tax_5 (by decide) (fun _ => ?_) (fun _ => ?_)
  · refine PJ.aload_n (pc := 16) d_T_tax_16 rfl ?_
    refine PJ.iconst (pc := 17) (v := 1) d_T_tax_17 (by decide) ?_
    refine PJ.cVI (pc := 18) cs_T_95 (fun z hz => PM_T_refuse hz) (pj_fitb rfl) rfl rfl (Nat.le_of_ble_eq_true rfl) d_T_tax_18 (fun v2 => ?_)
    exact PJ.iret (pc := 21) d_T_tax_21 rfl (Nat.le_of_ble_eq_true rfl) (Nat.le_of_ble_eq_true rfl)
  · refine PJ.aload_n (pc := 8) d_T_tax_8 rfl ?_
    refine PJ.iload_n (pc := 9) d_T_tax_9 rfl ?_
    refine PJ.cVpI (pc := 10) cs_T_140 (fun z hz => PM_T_isChoice hz) (pj_fitb rfl) rfl rfl (Nat.le_of_ble_eq_true rfl) d_T_tax_10 (fun v3 => ?_)
    refine PJ.if_ne (pc := 13) (tgt := 22) d_T_tax_13 (by decide) (fun _ => ?_) (fun _ => ?_)
    · refine PJ.aload_n (pc := 22) d_T_tax_22 rfl ?_
      refine PJ.aload_n (pc := 23) d_T_tax_23 rfl ?_
      refine PJ.cVR (pc := 24) cs_T_147 (fun z hz => PM_T_present hz) (pj_fitb rfl) rfl rfl (Nat.le_of_ble_eq_true rfl) d_T_tax_24 (fun v4 => ?_)
      refine PJ.iload_n (pc := 27) d_T_tax_27 rfl ?_
      refine PJ.iload_n (pc := 28) d_T_tax_28 rfl ?_
      refine PJ.cVpI (pc := 29) cs_T_154 (fun z hz => PM_Desk_taxOf hz) (pj_fitb rfl) rfl rfl (Nat.le_of_ble_eq_true rfl) d_T_tax_29 (fun v5 => ?_)
      refine PJ.cVI (pc := 32) cs_T_114 (fun z hz => PM_T_fine hz) (pj_fitb rfl) rfl rfl (Nat.le_of_ble_eq_true rfl) d_T_tax_32 (fun v6 => ?_)
      exact PJ.iret (pc := 35) d_T_tax_35 rfl (Nat.le_of_ble_eq_true rfl) (Nat.le_of_ble_eq_true rfl)
    · refine PJ.aload_n (pc := 16) d_T_tax_16 rfl ?_
      refine PJ.iconst (pc := 17) (v := 1) d_T_tax_17 (by decide) ?_
      refine PJ.cVI (pc := 18) cs_T_95 (fun z hz => PM_T_refuse hz) (pj_fitb rfl) rfl rfl (Nat.le_of_ble_eq_true rfl) d_T_tax_18 (fun v7 => ?_)
      exact PJ.iret (pc := 21) d_T_tax_21 rfl (Nat.le_of_ble_eq_true rfl) (Nat.le_of_ble_eq_true rfl)
theorem d_Desk_leftOf_0 : decode Y_Desk_leftOf.2.1 0 = .ok (.aload_n 0, 1) := by decide +kernel
theorem d_Desk_leftOf_1 : decode Y_Desk_leftOf.2.1 1 = .ok (.iload_n 1, 1) := by decide +kernel
theorem d_Desk_leftOf_2 : decode Y_Desk_leftOf.2.1 2 = .ok (.iload_n 2, 1) := by decide +kernel
theorem d_Desk_leftOf_3 : decode Y_Desk_leftOf.2.1 3 = .ok (.invokevirtual 83, 3) := by decide +kernel
theorem d_Desk_leftOf_6 : decode Y_Desk_leftOf.2.1 6 = .ok (.aload_n 0, 1) := by decide +kernel
theorem d_Desk_leftOf_7 : decode Y_Desk_leftOf.2.1 7 = .ok (.iload_n 1, 1) := by decide +kernel
theorem d_Desk_leftOf_8 : decode Y_Desk_leftOf.2.1 8 = .ok (.iload_n 2, 1) := by decide +kernel
theorem d_Desk_leftOf_9 : decode Y_Desk_leftOf.2.1 9 = .ok (.invokevirtual 86, 3) := by decide +kernel
theorem d_Desk_leftOf_12 : decode Y_Desk_leftOf.2.1 12 = .ok (.isub, 1) := by decide +kernel
theorem d_Desk_leftOf_13 : decode Y_Desk_leftOf.2.1 13 = .ok (.ireturn, 1) := by decide +kernel
def f_Desk_leftOf (h : PH) (a0 : Option Nat) (a1 : Int32) (a2 : Int32) : Option Int32 := (cl h 0 a0 (f_Desk_worthOf h a0 a1 a2)).bind fun v1 => (cl h 0 a0 (f_Desk_taxOf h a0 a1 a2)).bind fun v2 => some (v1 - v2)
set_option maxRecDepth 20000 in
theorem PM_Desk_leftOf {l : Launch} {G : Cx} {h : PH} {a0 : Option Nat} {a1 : Int32} {a2 : Int32} {z : Int32} (hz : f_Desk_leftOf h a0 a1 a2 = some z) : PM l G 3 0 0 Y_Desk_leftOf [.inr (.inr a0), .inl a1, .inl a2] h (some (.inl z), h) := by
  refine PM.of (Y := Y_Desk_leftOf) (cv := (fun z : Int32 => (((some (.inl z), h) : Option PV × PH)))) (by decide) (L0 := [some (.inr (.inr a0)), some (.inl a1), some (.inl a2)]) 0 rfl (Nat.le_of_ble_eq_true rfl) ?_ hz
  unfold f_Desk_leftOf
  refine PJ.aload_n (pc := 0) d_Desk_leftOf_0 rfl ?_
  refine PJ.iload_n (pc := 1) d_Desk_leftOf_1 rfl ?_
  refine PJ.iload_n (pc := 2) d_Desk_leftOf_2 rfl ?_
  refine PJ.cVpI (pc := 3) cs_Desk_83 (fun z hz => PM_Desk_worthOf hz) (pj_fitb rfl) rfl rfl (Nat.le_of_ble_eq_true rfl) d_Desk_leftOf_3 (fun v1 => ?_)
  refine PJ.aload_n (pc := 6) d_Desk_leftOf_6 rfl ?_
  refine PJ.iload_n (pc := 7) d_Desk_leftOf_7 rfl ?_
  refine PJ.iload_n (pc := 8) d_Desk_leftOf_8 rfl ?_
  refine PJ.cVpI (pc := 9) cs_Desk_86 (fun z hz => PM_Desk_taxOf hz) (pj_fitb rfl) rfl rfl (Nat.le_of_ble_eq_true rfl) d_Desk_leftOf_9 (fun v2 => ?_)
  refine PJ.isub (pc := 12) d_Desk_leftOf_12 ?_
  exact PJ.iretp (pc := 13) d_Desk_leftOf_13 rfl (Nat.le_of_ble_eq_true rfl) (Nat.le_of_ble_eq_true rfl)
theorem d_Desk_choiceOf_0 : decode Y_Desk_choiceOf.2.1 0 = .ok (.aload_n 0, 1) := by decide +kernel
theorem d_Desk_choiceOf_1 : decode Y_Desk_choiceOf.2.1 1 = .ok (.getfield 22, 3) := by decide +kernel
theorem d_Desk_choiceOf_4 : decode Y_Desk_choiceOf.2.1 4 = .ok (.getfield 33, 3) := by decide +kernel
theorem d_Desk_choiceOf_7 : decode Y_Desk_choiceOf.2.1 7 = .ok (.iload_n 1, 1) := by decide +kernel
theorem d_Desk_choiceOf_8 : decode Y_Desk_choiceOf.2.1 8 = .ok (.iaload, 1) := by decide +kernel
theorem d_Desk_choiceOf_9 : decode Y_Desk_choiceOf.2.1 9 = .ok (.istore_n 2, 1) := by decide +kernel
theorem d_Desk_choiceOf_10 : decode Y_Desk_choiceOf.2.1 10 = .ok (.aload_n 0, 1) := by decide +kernel
theorem d_Desk_choiceOf_11 : decode Y_Desk_choiceOf.2.1 11 = .ok (.iload_n 1, 1) := by decide +kernel
theorem d_Desk_choiceOf_12 : decode Y_Desk_choiceOf.2.1 12 = .ok (.iload_n 2, 1) := by decide +kernel
theorem d_Desk_choiceOf_13 : decode Y_Desk_choiceOf.2.1 13 = .ok (.invokevirtual 89, 3) := by decide +kernel
theorem d_Desk_choiceOf_16 : decode Y_Desk_choiceOf.2.1 16 = .ok (.istore_n 3, 1) := by decide +kernel
theorem d_Desk_choiceOf_17 : decode Y_Desk_choiceOf.2.1 17 = .ok (.iconst 0, 1) := by decide +kernel
theorem d_Desk_choiceOf_18 : decode Y_Desk_choiceOf.2.1 18 = .ok (.istore 4, 2) := by decide +kernel
theorem d_Desk_choiceOf_20 : decode Y_Desk_choiceOf.2.1 20 = .ok (.iload 4, 2) := by decide +kernel
theorem d_Desk_choiceOf_22 : decode Y_Desk_choiceOf.2.1 22 = .ok (.aload_n 0, 1) := by decide +kernel
theorem d_Desk_choiceOf_23 : decode Y_Desk_choiceOf.2.1 23 = .ok (.getfield 18, 3) := by decide +kernel
theorem d_Desk_choiceOf_26 : decode Y_Desk_choiceOf.2.1 26 = .ok (.getfield 92, 3) := by decide +kernel
theorem d_Desk_choiceOf_29 : decode Y_Desk_choiceOf.2.1 29 = .ok (.if_icmp .ge 30, 3) := by decide +kernel
theorem d_Desk_choiceOf_32 : decode Y_Desk_choiceOf.2.1 32 = .ok (.aload_n 0, 1) := by decide +kernel
theorem d_Desk_choiceOf_33 : decode Y_Desk_choiceOf.2.1 33 = .ok (.iload_n 1, 1) := by decide +kernel
theorem d_Desk_choiceOf_34 : decode Y_Desk_choiceOf.2.1 34 = .ok (.iload 4, 2) := by decide +kernel
theorem d_Desk_choiceOf_36 : decode Y_Desk_choiceOf.2.1 36 = .ok (.invokevirtual 89, 3) := by decide +kernel
theorem d_Desk_choiceOf_39 : decode Y_Desk_choiceOf.2.1 39 = .ok (.istore 5, 2) := by decide +kernel
theorem d_Desk_choiceOf_41 : decode Y_Desk_choiceOf.2.1 41 = .ok (.iload 5, 2) := by decide +kernel
theorem d_Desk_choiceOf_43 : decode Y_Desk_choiceOf.2.1 43 = .ok (.iload_n 3, 1) := by decide +kernel
theorem d_Desk_choiceOf_44 : decode Y_Desk_choiceOf.2.1 44 = .ok (.if_icmp .le 9, 3) := by decide +kernel
theorem d_Desk_choiceOf_47 : decode Y_Desk_choiceOf.2.1 47 = .ok (.iload 4, 2) := by decide +kernel
theorem d_Desk_choiceOf_49 : decode Y_Desk_choiceOf.2.1 49 = .ok (.istore_n 2, 1) := by decide +kernel
theorem d_Desk_choiceOf_50 : decode Y_Desk_choiceOf.2.1 50 = .ok (.iload 5, 2) := by decide +kernel
theorem d_Desk_choiceOf_52 : decode Y_Desk_choiceOf.2.1 52 = .ok (.istore_n 3, 1) := by decide +kernel
theorem d_Desk_choiceOf_53 : decode Y_Desk_choiceOf.2.1 53 = .ok (.iinc 4 1, 3) := by decide +kernel
theorem d_Desk_choiceOf_56 : decode Y_Desk_choiceOf.2.1 56 = .ok (.goto (-36), 3) := by decide +kernel
theorem d_Desk_choiceOf_59 : decode Y_Desk_choiceOf.2.1 59 = .ok (.iload_n 2, 1) := by decide +kernel
theorem d_Desk_choiceOf_60 : decode Y_Desk_choiceOf.2.1 60 = .ok (.ireturn, 1) := by decide +kernel
def f_Desk_choiceOf (h : PH) (a0 : Option Nat) (a1 : Int32) : Option Int32 := (gR h 0 a0 1).bind fun v1 => (gR h 2 v1 3).bind fun v2 => (aI h v2 a1).bind fun v3 => (cl h 0 a0 (f_Desk_leftOf h a0 a1 v3)).bind fun v4 => (pj_it (X := Int32) (fun s5 : Int32 × Int32 × Int32 => (gR h 0 a0 0).bind fun v7 => (gI h 1 v7 2).bind fun v8 => if v8 ≤ s5.2.2 then (some (.inr s5.1)) else ((cl h 0 a0 (f_Desk_leftOf h a0 a1 s5.2.2)).bind fun v9 => if v9 ≤ s5.2.1 then (some (.inl (s5.1, s5.2.1, (s5.2.2 + (1 : Int32))))) else (some (.inl (s5.2.2, v9, (s5.2.2 + (1 : Int32))))))) FU (v3, v4, (0 : Int32))).bind fun x6 => some x6
set_option maxRecDepth 20000 in
theorem PM_Desk_choiceOf {l : Launch} {G : Cx} {h : PH} {a0 : Option Nat} {a1 : Int32} {z : Int32} (hz : f_Desk_choiceOf h a0 a1 = some z) : PM l G 4 0 0 Y_Desk_choiceOf [.inr (.inr a0), .inl a1] h (some (.inl z), h) := by
  refine PM.of (Y := Y_Desk_choiceOf) (cv := (fun z : Int32 => (((some (.inl z), h) : Option PV × PH)))) (by decide) (L0 := [some (.inr (.inr a0)), some (.inl a1), none, none, none, none]) 4 rfl (Nat.le_of_ble_eq_true rfl) ?_ hz
  unfold f_Desk_choiceOf
  refine PJ.aload_n (pc := 0) d_Desk_choiceOf_0 rfl ?_
  refine PJ.getR (pc := 1) fs_Desk_22 d_Desk_choiceOf_1 (fun v1 => ?_)
  refine PJ.getR (pc := 4) fs_Desk_33 d_Desk_choiceOf_4 (fun v2 => ?_)
  refine PJ.iload_n (pc := 7) d_Desk_choiceOf_7 rfl ?_
  refine PJ.iald (pc := 8) d_Desk_choiceOf_8 (fun v3 => ?_)
  refine PJ.istore_n (pc := 9) (L1 := [some (.inr (.inr a0)), some (.inl a1), some (.inl v3), none, none, none]) d_Desk_choiceOf_9 (Nat.le_of_ble_eq_true rfl) rfl rfl ?_
  refine PJ.aload_n (pc := 10) d_Desk_choiceOf_10 rfl ?_
  refine PJ.iload_n (pc := 11) d_Desk_choiceOf_11 rfl ?_
  refine PJ.iload_n (pc := 12) d_Desk_choiceOf_12 rfl ?_
  refine PJ.cVpI (pc := 13) cs_Desk_89 (fun z hz => PM_Desk_leftOf hz) (pj_fitb rfl) rfl rfl (Nat.le_of_ble_eq_true rfl) d_Desk_choiceOf_13 (fun v4 => ?_)
  refine PJ.istore_n (pc := 16) (L1 := [some (.inr (.inr a0)), some (.inl a1), some (.inl v3), some (.inl v4), none, none]) d_Desk_choiceOf_16 (Nat.le_of_ble_eq_true rfl) rfl rfl ?_
  refine PJ.iconst (pc := 17) (v := 0) d_Desk_choiceOf_17 (by decide) ?_
  refine PJ.istore (pc := 18) (L1 := [some (.inr (.inr a0)), some (.inl a1), some (.inl v3), some (.inl v4), some (.inl (0 : Int32)), none]) d_Desk_choiceOf_18 (Nat.le_of_ble_eq_true rfl) rfl rfl ?_
  refine PJ.bind (fun x6 : Int32 => ((59 : Nat), ([none, none, some (.inl x6), none, none, none] : List (Option PV)), ([] : List PV), (h : PH), (0 : Nat), (0 : Nat))) (PJ.it (E := (fun s5 : Int32 × Int32 × Int32 => ((20 : Nat), ([some (.inr (.inr a0)), some (.inl a1), some (.inl s5.1), some (.inl s5.2.1), some (.inl s5.2.2), none] : List (Option PV)), ([] : List PV), (h : PH), (0 : Nat), (0 : Nat)))) (F := (fun x6 : Int32 => ((59 : Nat), ([none, none, some (.inl x6), none, none, none] : List (Option PV)), ([] : List PV), (h : PH), (0 : Nat), (0 : Nat)))) (fun s5 => ?_) FU (v3, v4, (0 : Int32))) (fun x6 => ?_)
  · show PJ l G (pj_rm 4 0 0) Y_Desk_choiceOf 20 [some (.inr (.inr a0)), some (.inl a1), some (.inl s5.1), some (.inl s5.2.1), some (.inl s5.2.2), none] [] h 0 0 _ _
    refine PJ.iload (pc := 20) d_Desk_choiceOf_20 rfl ?_
    refine PJ.aload_n (pc := 22) d_Desk_choiceOf_22 rfl ?_
    refine PJ.getR (pc := 23) fs_Desk_18 d_Desk_choiceOf_23 (fun v7 => ?_)
    refine PJ.getI (pc := 26) fs_Desk_92 d_Desk_choiceOf_26 (fun v8 => ?_)
    refine PJ.icmp_ge (pc := 29) (tgt := 59) d_Desk_choiceOf_29 (by decide) (fun _ => ?_) (fun _ => ?_)
    · refine PJ.mk (L1 := [none, none, some (.inl s5.1), none, none, none]) [false, false, true, false, false, false] rfl ?_
      exact PJ.done rfl
    · refine PJ.aload_n (pc := 32) d_Desk_choiceOf_32 rfl ?_
      refine PJ.iload_n (pc := 33) d_Desk_choiceOf_33 rfl ?_
      refine PJ.iload (pc := 34) d_Desk_choiceOf_34 rfl ?_
      refine PJ.cVpI (pc := 36) cs_Desk_89 (fun z hz => PM_Desk_leftOf hz) (pj_fitb rfl) rfl rfl (Nat.le_of_ble_eq_true rfl) d_Desk_choiceOf_36 (fun v9 => ?_)
      refine PJ.istore (pc := 39) (L1 := [some (.inr (.inr a0)), some (.inl a1), some (.inl s5.1), some (.inl s5.2.1), some (.inl s5.2.2), some (.inl v9)]) d_Desk_choiceOf_39 (Nat.le_of_ble_eq_true rfl) rfl rfl ?_
      refine PJ.iload (pc := 41) d_Desk_choiceOf_41 rfl ?_
      refine PJ.iload_n (pc := 43) d_Desk_choiceOf_43 rfl ?_
      refine PJ.icmp_le (pc := 44) (tgt := 53) d_Desk_choiceOf_44 (by decide) (fun _ => ?_) (fun _ => ?_)
      · refine PJ.iinc (pc := 53) (v := 1) (L1 := [some (.inr (.inr a0)), some (.inl a1), some (.inl s5.1), some (.inl s5.2.1), some (.inl (s5.2.2 + (1 : Int32))), some (.inl v9)]) d_Desk_choiceOf_53 rfl (by decide) (Nat.le_of_ble_eq_true rfl) rfl rfl ?_
        refine PJ.goto (pc := 56) (tgt := 20) d_Desk_choiceOf_56 (by decide) ?_
        refine PJ.mk (L1 := [some (.inr (.inr a0)), some (.inl a1), some (.inl s5.1), some (.inl s5.2.1), some (.inl (s5.2.2 + (1 : Int32))), none]) [true, true, true, true, true, false] rfl ?_
        exact PJ.done rfl
      · refine PJ.iload (pc := 47) d_Desk_choiceOf_47 rfl ?_
        refine PJ.istore_n (pc := 49) (L1 := [some (.inr (.inr a0)), some (.inl a1), some (.inl s5.2.2), some (.inl s5.2.1), some (.inl s5.2.2), some (.inl v9)]) d_Desk_choiceOf_49 (Nat.le_of_ble_eq_true rfl) rfl rfl ?_
        refine PJ.iload (pc := 50) d_Desk_choiceOf_50 rfl ?_
        refine PJ.istore_n (pc := 52) (L1 := [some (.inr (.inr a0)), some (.inl a1), some (.inl s5.2.2), some (.inl v9), some (.inl s5.2.2), some (.inl v9)]) d_Desk_choiceOf_52 (Nat.le_of_ble_eq_true rfl) rfl rfl ?_
        refine PJ.iinc (pc := 53) (v := 1) (L1 := [some (.inr (.inr a0)), some (.inl a1), some (.inl s5.2.2), some (.inl v9), some (.inl (s5.2.2 + (1 : Int32))), some (.inl v9)]) d_Desk_choiceOf_53 rfl (by decide) (Nat.le_of_ble_eq_true rfl) rfl rfl ?_
        refine PJ.goto (pc := 56) (tgt := 20) d_Desk_choiceOf_56 (by decide) ?_
        refine PJ.mk (L1 := [some (.inr (.inr a0)), some (.inl a1), some (.inl s5.2.2), some (.inl v9), some (.inl (s5.2.2 + (1 : Int32))), none]) [true, true, true, true, true, false] rfl ?_
        exact PJ.done rfl
  · show PJ l G (pj_rm 4 0 0) Y_Desk_choiceOf 59 [none, none, some (.inl x6), none, none, none] [] h 0 0 _ _
    refine PJ.iload_n (pc := 59) d_Desk_choiceOf_59 rfl ?_
    exact PJ.iretp (pc := 60) d_Desk_choiceOf_60 rfl (Nat.le_of_ble_eq_true rfl) (Nat.le_of_ble_eq_true rfl)
theorem d_T_chooses_0 : decode Y_T_chooses.2.1 0 = .ok (.aload_n 0, 1) := by decide +kernel
theorem d_T_chooses_1 : decode Y_T_chooses.2.1 1 = .ok (.iload_n 1, 1) := by decide +kernel
theorem d_T_chooses_2 : decode Y_T_chooses.2.1 2 = .ok (.invokevirtual 117, 3) := by decide +kernel
theorem d_T_chooses_5 : decode Y_T_chooses.2.1 5 = .ok (.ifCond .ne 9, 3) := by decide +kernel
theorem d_T_chooses_8 : decode Y_T_chooses.2.1 8 = .ok (.aload_n 0, 1) := by decide +kernel
theorem d_T_chooses_9 : decode Y_T_chooses.2.1 9 = .ok (.iconst 1, 1) := by decide +kernel
theorem d_T_chooses_10 : decode Y_T_chooses.2.1 10 = .ok (.invokevirtual 95, 3) := by decide +kernel
theorem d_T_chooses_13 : decode Y_T_chooses.2.1 13 = .ok (.ireturn, 1) := by decide +kernel
theorem d_T_chooses_14 : decode Y_T_chooses.2.1 14 = .ok (.aload_n 0, 1) := by decide +kernel
theorem d_T_chooses_15 : decode Y_T_chooses.2.1 15 = .ok (.aload_n 0, 1) := by decide +kernel
theorem d_T_chooses_16 : decode Y_T_chooses.2.1 16 = .ok (.invokevirtual 147, 3) := by decide +kernel
theorem d_T_chooses_19 : decode Y_T_chooses.2.1 19 = .ok (.iload_n 1, 1) := by decide +kernel
theorem d_T_chooses_20 : decode Y_T_chooses.2.1 20 = .ok (.invokevirtual 157, 3) := by decide +kernel
theorem d_T_chooses_23 : decode Y_T_chooses.2.1 23 = .ok (.invokevirtual 114, 3) := by decide +kernel
theorem d_T_chooses_26 : decode Y_T_chooses.2.1 26 = .ok (.ireturn, 1) := by decide +kernel
def f_T_chooses (h : PH) (a0 : Option Nat) (a1 : Int32) : Option (Int32 × PH) := (cl h 10 a0 (f_T_isPerson h a0 a1)).bind fun v1 => if ¬ v1 = 0 then ((cl h 10 a0 (f_T_present h a0)).bind fun v2 => (cl v2.2 0 v2.1 (f_Desk_choiceOf v2.2 v2.1 a1)).bind fun v3 => (cl v2.2 10 a0 (f_T_fine v2.2 a0 v3)).bind fun v4 => some (v4.1, v4.2)) else ((cl h 10 a0 (f_T_refuse h a0 (1 : Int32))).bind fun v5 => some (v5.1, v5.2))
set_option maxRecDepth 20000 in
theorem PM_T_chooses {l : Launch} {G : Cx} {h : PH} {a0 : Option Nat} {a1 : Int32} {z : (Int32 × PH)} (hz : f_T_chooses h a0 a1 = some z) : PM l G 5 0 0 Y_T_chooses [.inr (.inr a0), .inl a1] h (some (.inl z.1), z.2) := by
  refine PM.of (Y := Y_T_chooses) (cv := (fun z : (Int32 × PH) => (((some (.inl z.1), z.2) : Option PV × PH)))) (by decide) (L0 := [some (.inr (.inr a0)), some (.inl a1)]) 0 rfl (Nat.le_of_ble_eq_true rfl) ?_ hz
  unfold f_T_chooses
  refine PJ.aload_n (pc := 0) d_T_chooses_0 rfl ?_
  refine PJ.iload_n (pc := 1) d_T_chooses_1 rfl ?_
  refine PJ.cVpI (pc := 2) cs_T_117 (fun z hz => PM_T_isPerson hz) (pj_fitb rfl) rfl rfl (Nat.le_of_ble_eq_true rfl) d_T_chooses_2 (fun v1 => ?_)
  refine PJ.if_ne (pc := 5) (tgt := 14) d_T_chooses_5 (by decide) (fun _ => ?_) (fun _ => ?_)
  · refine PJ.aload_n (pc := 14) d_T_chooses_14 rfl ?_
    refine PJ.aload_n (pc := 15) d_T_chooses_15 rfl ?_
    refine PJ.cVR (pc := 16) cs_T_147 (fun z hz => PM_T_present hz) (pj_fitb rfl) rfl rfl (Nat.le_of_ble_eq_true rfl) d_T_chooses_16 (fun v2 => ?_)
    refine PJ.iload_n (pc := 19) d_T_chooses_19 rfl ?_
    refine PJ.cVpI (pc := 20) cs_T_157 (fun z hz => PM_Desk_choiceOf hz) (pj_fitb rfl) rfl rfl (Nat.le_of_ble_eq_true rfl) d_T_chooses_20 (fun v3 => ?_)
    refine PJ.cVI (pc := 23) cs_T_114 (fun z hz => PM_T_fine hz) (pj_fitb rfl) rfl rfl (Nat.le_of_ble_eq_true rfl) d_T_chooses_23 (fun v4 => ?_)
    exact PJ.iret (pc := 26) d_T_chooses_26 rfl (Nat.le_of_ble_eq_true rfl) (Nat.le_of_ble_eq_true rfl)
  · refine PJ.aload_n (pc := 8) d_T_chooses_8 rfl ?_
    refine PJ.iconst (pc := 9) (v := 1) d_T_chooses_9 (by decide) ?_
    refine PJ.cVI (pc := 10) cs_T_95 (fun z hz => PM_T_refuse hz) (pj_fitb rfl) rfl rfl (Nat.le_of_ble_eq_true rfl) d_T_chooses_10 (fun v5 => ?_)
    exact PJ.iret (pc := 13) d_T_chooses_13 rfl (Nat.le_of_ble_eq_true rfl) (Nat.le_of_ble_eq_true rfl)
theorem d_Desk_wavering_0 : decode Y_Desk_wavering.2.1 0 = .ok (.iconst 0, 1) := by decide +kernel
theorem d_Desk_wavering_1 : decode Y_Desk_wavering.2.1 1 = .ok (.istore_n 1, 1) := by decide +kernel
theorem d_Desk_wavering_2 : decode Y_Desk_wavering.2.1 2 = .ok (.iconst 0, 1) := by decide +kernel
theorem d_Desk_wavering_3 : decode Y_Desk_wavering.2.1 3 = .ok (.istore_n 2, 1) := by decide +kernel
theorem d_Desk_wavering_4 : decode Y_Desk_wavering.2.1 4 = .ok (.iload_n 2, 1) := by decide +kernel
theorem d_Desk_wavering_5 : decode Y_Desk_wavering.2.1 5 = .ok (.aload_n 0, 1) := by decide +kernel
theorem d_Desk_wavering_6 : decode Y_Desk_wavering.2.1 6 = .ok (.getfield 18, 3) := by decide +kernel
theorem d_Desk_wavering_9 : decode Y_Desk_wavering.2.1 9 = .ok (.getfield 95, 3) := by decide +kernel
theorem d_Desk_wavering_12 : decode Y_Desk_wavering.2.1 12 = .ok (.if_icmp .ge 32, 3) := by decide +kernel
theorem d_Desk_wavering_15 : decode Y_Desk_wavering.2.1 15 = .ok (.aload_n 0, 1) := by decide +kernel
theorem d_Desk_wavering_16 : decode Y_Desk_wavering.2.1 16 = .ok (.iload_n 2, 1) := by decide +kernel
theorem d_Desk_wavering_17 : decode Y_Desk_wavering.2.1 17 = .ok (.invokevirtual 98, 3) := by decide +kernel
theorem d_Desk_wavering_20 : decode Y_Desk_wavering.2.1 20 = .ok (.aload_n 0, 1) := by decide +kernel
theorem d_Desk_wavering_21 : decode Y_Desk_wavering.2.1 21 = .ok (.getfield 22, 3) := by decide +kernel
theorem d_Desk_wavering_24 : decode Y_Desk_wavering.2.1 24 = .ok (.getfield 33, 3) := by decide +kernel
theorem d_Desk_wavering_27 : decode Y_Desk_wavering.2.1 27 = .ok (.iload_n 2, 1) := by decide +kernel
theorem d_Desk_wavering_28 : decode Y_Desk_wavering.2.1 28 = .ok (.iaload, 1) := by decide +kernel
theorem d_Desk_wavering_29 : decode Y_Desk_wavering.2.1 29 = .ok (.if_icmp .eq 9, 3) := by decide +kernel
theorem d_Desk_wavering_32 : decode Y_Desk_wavering.2.1 32 = .ok (.iload_n 1, 1) := by decide +kernel
theorem d_Desk_wavering_33 : decode Y_Desk_wavering.2.1 33 = .ok (.iconst 1, 1) := by decide +kernel
theorem d_Desk_wavering_34 : decode Y_Desk_wavering.2.1 34 = .ok (.iload_n 2, 1) := by decide +kernel
theorem d_Desk_wavering_35 : decode Y_Desk_wavering.2.1 35 = .ok (.ishl, 1) := by decide +kernel
theorem d_Desk_wavering_36 : decode Y_Desk_wavering.2.1 36 = .ok (.ior, 1) := by decide +kernel
theorem d_Desk_wavering_37 : decode Y_Desk_wavering.2.1 37 = .ok (.istore_n 1, 1) := by decide +kernel
theorem d_Desk_wavering_38 : decode Y_Desk_wavering.2.1 38 = .ok (.iinc 2 1, 3) := by decide +kernel
theorem d_Desk_wavering_41 : decode Y_Desk_wavering.2.1 41 = .ok (.goto (-37), 3) := by decide +kernel
theorem d_Desk_wavering_44 : decode Y_Desk_wavering.2.1 44 = .ok (.iload_n 1, 1) := by decide +kernel
theorem d_Desk_wavering_45 : decode Y_Desk_wavering.2.1 45 = .ok (.ireturn, 1) := by decide +kernel
def f_Desk_wavering (h : PH) (a0 : Option Nat) : Option Int32 := (pj_it (X := Int32) (fun s1 : Int32 × Int32 => (gR h 0 a0 0).bind fun v3 => (gI h 1 v3 3).bind fun v4 => if v4 ≤ s1.2 then (some (.inr s1.1)) else ((cl h 0 a0 (f_Desk_choiceOf h a0 s1.2)).bind fun v5 => (gR h 0 a0 1).bind fun v6 => (gR h 2 v6 3).bind fun v7 => (aI h v7 s1.2).bind fun v8 => if v5 = v8 then (some (.inl (s1.1, (s1.2 + (1 : Int32))))) else (some (.inl ((s1.1 ||| ((1 : Int32) <<< (s1.2 &&& 31))), (s1.2 + (1 : Int32))))))) FU ((0 : Int32), (0 : Int32))).bind fun x2 => some x2
set_option maxRecDepth 20000 in
theorem PM_Desk_wavering {l : Launch} {G : Cx} {h : PH} {a0 : Option Nat} {z : Int32} (hz : f_Desk_wavering h a0 = some z) : PM l G 5 0 0 Y_Desk_wavering [.inr (.inr a0)] h (some (.inl z), h) := by
  refine PM.of (Y := Y_Desk_wavering) (cv := (fun z : Int32 => (((some (.inl z), h) : Option PV × PH)))) (by decide) (L0 := [some (.inr (.inr a0)), none, none]) 2 rfl (Nat.le_of_ble_eq_true rfl) ?_ hz
  unfold f_Desk_wavering
  refine PJ.iconst (pc := 0) (v := 0) d_Desk_wavering_0 (by decide) ?_
  refine PJ.istore_n (pc := 1) (L1 := [some (.inr (.inr a0)), some (.inl (0 : Int32)), none]) d_Desk_wavering_1 (Nat.le_of_ble_eq_true rfl) rfl rfl ?_
  refine PJ.iconst (pc := 2) (v := 0) d_Desk_wavering_2 (by decide) ?_
  refine PJ.istore_n (pc := 3) (L1 := [some (.inr (.inr a0)), some (.inl (0 : Int32)), some (.inl (0 : Int32))]) d_Desk_wavering_3 (Nat.le_of_ble_eq_true rfl) rfl rfl ?_
  refine PJ.bind (fun x2 : Int32 => ((44 : Nat), ([none, some (.inl x2), none] : List (Option PV)), ([] : List PV), (h : PH), (0 : Nat), (0 : Nat))) (PJ.it (E := (fun s1 : Int32 × Int32 => ((4 : Nat), ([some (.inr (.inr a0)), some (.inl s1.1), some (.inl s1.2)] : List (Option PV)), ([] : List PV), (h : PH), (0 : Nat), (0 : Nat)))) (F := (fun x2 : Int32 => ((44 : Nat), ([none, some (.inl x2), none] : List (Option PV)), ([] : List PV), (h : PH), (0 : Nat), (0 : Nat)))) (fun s1 => ?_) FU ((0 : Int32), (0 : Int32))) (fun x2 => ?_)
  · show PJ l G (pj_rm 5 0 0) Y_Desk_wavering 4 [some (.inr (.inr a0)), some (.inl s1.1), some (.inl s1.2)] [] h 0 0 _ _
    refine PJ.iload_n (pc := 4) d_Desk_wavering_4 rfl ?_
    refine PJ.aload_n (pc := 5) d_Desk_wavering_5 rfl ?_
    refine PJ.getR (pc := 6) fs_Desk_18 d_Desk_wavering_6 (fun v3 => ?_)
    refine PJ.getI (pc := 9) fs_Desk_95 d_Desk_wavering_9 (fun v4 => ?_)
    refine PJ.icmp_ge (pc := 12) (tgt := 44) d_Desk_wavering_12 (by decide) (fun _ => ?_) (fun _ => ?_)
    · refine PJ.mk (L1 := [none, some (.inl s1.1), none]) [false, true, false] rfl ?_
      exact PJ.done rfl
    · refine PJ.aload_n (pc := 15) d_Desk_wavering_15 rfl ?_
      refine PJ.iload_n (pc := 16) d_Desk_wavering_16 rfl ?_
      refine PJ.cVpI (pc := 17) cs_Desk_98 (fun z hz => PM_Desk_choiceOf hz) (pj_fitb rfl) rfl rfl (Nat.le_of_ble_eq_true rfl) d_Desk_wavering_17 (fun v5 => ?_)
      refine PJ.aload_n (pc := 20) d_Desk_wavering_20 rfl ?_
      refine PJ.getR (pc := 21) fs_Desk_22 d_Desk_wavering_21 (fun v6 => ?_)
      refine PJ.getR (pc := 24) fs_Desk_33 d_Desk_wavering_24 (fun v7 => ?_)
      refine PJ.iload_n (pc := 27) d_Desk_wavering_27 rfl ?_
      refine PJ.iald (pc := 28) d_Desk_wavering_28 (fun v8 => ?_)
      refine PJ.icmp_eq (pc := 29) (tgt := 38) d_Desk_wavering_29 (by decide) (fun _ => ?_) (fun _ => ?_)
      · refine PJ.iinc (pc := 38) (v := 1) (L1 := [some (.inr (.inr a0)), some (.inl s1.1), some (.inl (s1.2 + (1 : Int32)))]) d_Desk_wavering_38 rfl (by decide) (Nat.le_of_ble_eq_true rfl) rfl rfl ?_
        refine PJ.goto (pc := 41) (tgt := 4) d_Desk_wavering_41 (by decide) ?_
        exact PJ.done rfl
      · refine PJ.iload_n (pc := 32) d_Desk_wavering_32 rfl ?_
        refine PJ.iconst (pc := 33) (v := 1) d_Desk_wavering_33 (by decide) ?_
        refine PJ.iload_n (pc := 34) d_Desk_wavering_34 rfl ?_
        refine PJ.ishl (pc := 35) d_Desk_wavering_35 ?_
        refine PJ.ior (pc := 36) d_Desk_wavering_36 ?_
        refine PJ.istore_n (pc := 37) (L1 := [some (.inr (.inr a0)), some (.inl (s1.1 ||| ((1 : Int32) <<< (s1.2 &&& 31)))), some (.inl s1.2)]) d_Desk_wavering_37 (Nat.le_of_ble_eq_true rfl) rfl rfl ?_
        refine PJ.iinc (pc := 38) (v := 1) (L1 := [some (.inr (.inr a0)), some (.inl (s1.1 ||| ((1 : Int32) <<< (s1.2 &&& 31)))), some (.inl (s1.2 + (1 : Int32)))]) d_Desk_wavering_38 rfl (by decide) (Nat.le_of_ble_eq_true rfl) rfl rfl ?_
        refine PJ.goto (pc := 41) (tgt := 4) d_Desk_wavering_41 (by decide) ?_
        exact PJ.done rfl
  · show PJ l G (pj_rm 5 0 0) Y_Desk_wavering 44 [none, some (.inl x2), none] [] h 0 0 _ _
    refine PJ.iload_n (pc := 44) d_Desk_wavering_44 rfl ?_
    exact PJ.iretp (pc := 45) d_Desk_wavering_45 rfl (Nat.le_of_ble_eq_true rfl) (Nat.le_of_ble_eq_true rfl)
theorem d_T_waverers_0 : decode Y_T_waverers.2.1 0 = .ok (.aload_n 0, 1) := by decide +kernel
theorem d_T_waverers_1 : decode Y_T_waverers.2.1 1 = .ok (.getfield 36, 3) := by decide +kernel
theorem d_T_waverers_4 : decode Y_T_waverers.2.1 4 = .ok (.ifCond .eq 17, 3) := by decide +kernel
theorem d_T_waverers_7 : decode Y_T_waverers.2.1 7 = .ok (.aload_n 0, 1) := by decide +kernel
theorem d_T_waverers_8 : decode Y_T_waverers.2.1 8 = .ok (.aload_n 0, 1) := by decide +kernel
theorem d_T_waverers_9 : decode Y_T_waverers.2.1 9 = .ok (.invokevirtual 147, 3) := by decide +kernel
theorem d_T_waverers_12 : decode Y_T_waverers.2.1 12 = .ok (.invokevirtual 160, 3) := by decide +kernel
theorem d_T_waverers_15 : decode Y_T_waverers.2.1 15 = .ok (.invokevirtual 114, 3) := by decide +kernel
theorem d_T_waverers_18 : decode Y_T_waverers.2.1 18 = .ok (.goto 8, 3) := by decide +kernel
theorem d_T_waverers_21 : decode Y_T_waverers.2.1 21 = .ok (.aload_n 0, 1) := by decide +kernel
theorem d_T_waverers_22 : decode Y_T_waverers.2.1 22 = .ok (.iconst 1, 1) := by decide +kernel
theorem d_T_waverers_23 : decode Y_T_waverers.2.1 23 = .ok (.invokevirtual 95, 3) := by decide +kernel
theorem d_T_waverers_26 : decode Y_T_waverers.2.1 26 = .ok (.ireturn, 1) := by decide +kernel
def f_T_waverers (h : PH) (a0 : Option Nat) : Option (Int32 × PH) := (gI h 10 a0 5).bind fun v1 => if v1 = 0 then ((cl h 10 a0 (f_T_refuse h a0 (1 : Int32))).bind fun v2 => some (v2.1, v2.2)) else ((cl h 10 a0 (f_T_present h a0)).bind fun v3 => (cl v3.2 0 v3.1 (f_Desk_wavering v3.2 v3.1)).bind fun v4 => (cl v3.2 10 a0 (f_T_fine v3.2 a0 v4)).bind fun v5 => some (v5.1, v5.2))
set_option maxRecDepth 20000 in
theorem PM_T_waverers {l : Launch} {G : Cx} {h : PH} {a0 : Option Nat} {z : (Int32 × PH)} (hz : f_T_waverers h a0 = some z) : PM l G 6 0 0 Y_T_waverers [.inr (.inr a0)] h (some (.inl z.1), z.2) := by
  refine PM.of (Y := Y_T_waverers) (cv := (fun z : (Int32 × PH) => (((some (.inl z.1), z.2) : Option PV × PH)))) (by decide) (L0 := [some (.inr (.inr a0))]) 0 rfl (Nat.le_of_ble_eq_true rfl) ?_ hz
  unfold f_T_waverers
  refine PJ.aload_n (pc := 0) d_T_waverers_0 rfl ?_
  refine PJ.getI (pc := 1) fs_T_36 d_T_waverers_1 (fun v1 => ?_)
  refine PJ.if_eq (pc := 4) (tgt := 21) d_T_waverers_4 (by decide) (fun _ => ?_) (fun _ => ?_)
  · refine PJ.aload_n (pc := 21) d_T_waverers_21 rfl ?_
    refine PJ.iconst (pc := 22) (v := 1) d_T_waverers_22 (by decide) ?_
    refine PJ.cVI (pc := 23) cs_T_95 (fun z hz => PM_T_refuse hz) (pj_fitb rfl) rfl rfl (Nat.le_of_ble_eq_true rfl) d_T_waverers_23 (fun v2 => ?_)
    exact PJ.iret (pc := 26) d_T_waverers_26 rfl (Nat.le_of_ble_eq_true rfl) (Nat.le_of_ble_eq_true rfl)
  · refine PJ.aload_n (pc := 7) d_T_waverers_7 rfl ?_
    refine PJ.aload_n (pc := 8) d_T_waverers_8 rfl ?_
    refine PJ.cVR (pc := 9) cs_T_147 (fun z hz => PM_T_present hz) (pj_fitb rfl) rfl rfl (Nat.le_of_ble_eq_true rfl) d_T_waverers_9 (fun v3 => ?_)
    refine PJ.cVpI (pc := 12) cs_T_160 (fun z hz => PM_Desk_wavering hz) (pj_fitb rfl) rfl rfl (Nat.le_of_ble_eq_true rfl) d_T_waverers_12 (fun v4 => ?_)
    refine PJ.cVI (pc := 15) cs_T_114 (fun z hz => PM_T_fine hz) (pj_fitb rfl) rfl rfl (Nat.le_of_ble_eq_true rfl) d_T_waverers_15 (fun v5 => ?_)
    refine PJ.goto (pc := 18) (tgt := 26) d_T_waverers_18 (by decide) ?_
    exact PJ.iret (pc := 26) d_T_waverers_26 rfl (Nat.le_of_ble_eq_true rfl) (Nat.le_of_ble_eq_true rfl)
theorem d_T_holding_0 : decode Y_T_holding.2.1 0 = .ok (.iconst 0, 1) := by decide +kernel
theorem d_T_holding_1 : decode Y_T_holding.2.1 1 = .ok (.istore_n 2, 1) := by decide +kernel
theorem d_T_holding_2 : decode Y_T_holding.2.1 2 = .ok (.iconst 0, 1) := by decide +kernel
theorem d_T_holding_3 : decode Y_T_holding.2.1 3 = .ok (.istore_n 3, 1) := by decide +kernel
theorem d_T_holding_4 : decode Y_T_holding.2.1 4 = .ok (.iload_n 3, 1) := by decide +kernel
theorem d_T_holding_5 : decode Y_T_holding.2.1 5 = .ok (.aload_n 0, 1) := by decide +kernel
theorem d_T_holding_6 : decode Y_T_holding.2.1 6 = .ok (.getfield 20, 3) := by decide +kernel
theorem d_T_holding_9 : decode Y_T_holding.2.1 9 = .ok (.getfield 111, 3) := by decide +kernel
theorem d_T_holding_12 : decode Y_T_holding.2.1 12 = .ok (.if_icmp .ge 28, 3) := by decide +kernel
theorem d_T_holding_15 : decode Y_T_holding.2.1 15 = .ok (.aload_n 0, 1) := by decide +kernel
theorem d_T_holding_16 : decode Y_T_holding.2.1 16 = .ok (.getfield 43, 3) := by decide +kernel
theorem d_T_holding_19 : decode Y_T_holding.2.1 19 = .ok (.getfield 128, 3) := by decide +kernel
theorem d_T_holding_22 : decode Y_T_holding.2.1 22 = .ok (.iload_n 3, 1) := by decide +kernel
theorem d_T_holding_23 : decode Y_T_holding.2.1 23 = .ok (.iaload, 1) := by decide +kernel
theorem d_T_holding_24 : decode Y_T_holding.2.1 24 = .ok (.iload_n 1, 1) := by decide +kernel
theorem d_T_holding_25 : decode Y_T_holding.2.1 25 = .ok (.if_icmp .ne 9, 3) := by decide +kernel
theorem d_T_holding_28 : decode Y_T_holding.2.1 28 = .ok (.iload_n 2, 1) := by decide +kernel
theorem d_T_holding_29 : decode Y_T_holding.2.1 29 = .ok (.iconst 1, 1) := by decide +kernel
theorem d_T_holding_30 : decode Y_T_holding.2.1 30 = .ok (.iload_n 3, 1) := by decide +kernel
theorem d_T_holding_31 : decode Y_T_holding.2.1 31 = .ok (.ishl, 1) := by decide +kernel
theorem d_T_holding_32 : decode Y_T_holding.2.1 32 = .ok (.ior, 1) := by decide +kernel
theorem d_T_holding_33 : decode Y_T_holding.2.1 33 = .ok (.istore_n 2, 1) := by decide +kernel
theorem d_T_holding_34 : decode Y_T_holding.2.1 34 = .ok (.iinc 3 1, 3) := by decide +kernel
theorem d_T_holding_37 : decode Y_T_holding.2.1 37 = .ok (.goto (-33), 3) := by decide +kernel
theorem d_T_holding_40 : decode Y_T_holding.2.1 40 = .ok (.iload_n 2, 1) := by decide +kernel
theorem d_T_holding_41 : decode Y_T_holding.2.1 41 = .ok (.ireturn, 1) := by decide +kernel
def f_T_holding (h : PH) (a0 : Option Nat) (a1 : Int32) : Option Int32 := (pj_it (X := Int32) (fun s1 : Int32 × Int32 => (gR h 10 a0 2).bind fun v3 => (gI h 1 v3 3).bind fun v4 => if v4 ≤ s1.2 then (some (.inr s1.1)) else ((gR h 10 a0 6).bind fun v5 => (gR h 2 v5 3).bind fun v6 => (aI h v6 s1.2).bind fun v7 => if ¬ v7 = a1 then (some (.inl (s1.1, (s1.2 + (1 : Int32))))) else (some (.inl ((s1.1 ||| ((1 : Int32) <<< (s1.2 &&& 31))), (s1.2 + (1 : Int32))))))) FU ((0 : Int32), (0 : Int32))).bind fun x2 => some x2
set_option maxRecDepth 20000 in
theorem PM_T_holding {l : Launch} {G : Cx} {h : PH} {a0 : Option Nat} {a1 : Int32} {z : Int32} (hz : f_T_holding h a0 a1 = some z) : PM l G 1 0 0 Y_T_holding [.inr (.inr a0), .inl a1] h (some (.inl z), h) := by
  refine PM.of (Y := Y_T_holding) (cv := (fun z : Int32 => (((some (.inl z), h) : Option PV × PH)))) (by decide) (L0 := [some (.inr (.inr a0)), some (.inl a1), none, none]) 2 rfl (Nat.le_of_ble_eq_true rfl) ?_ hz
  unfold f_T_holding
  refine PJ.iconst (pc := 0) (v := 0) d_T_holding_0 (by decide) ?_
  refine PJ.istore_n (pc := 1) (L1 := [some (.inr (.inr a0)), some (.inl a1), some (.inl (0 : Int32)), none]) d_T_holding_1 (Nat.le_of_ble_eq_true rfl) rfl rfl ?_
  refine PJ.iconst (pc := 2) (v := 0) d_T_holding_2 (by decide) ?_
  refine PJ.istore_n (pc := 3) (L1 := [some (.inr (.inr a0)), some (.inl a1), some (.inl (0 : Int32)), some (.inl (0 : Int32))]) d_T_holding_3 (Nat.le_of_ble_eq_true rfl) rfl rfl ?_
  refine PJ.bind (fun x2 : Int32 => ((40 : Nat), ([none, none, some (.inl x2), none] : List (Option PV)), ([] : List PV), (h : PH), (0 : Nat), (0 : Nat))) (PJ.it (E := (fun s1 : Int32 × Int32 => ((4 : Nat), ([some (.inr (.inr a0)), some (.inl a1), some (.inl s1.1), some (.inl s1.2)] : List (Option PV)), ([] : List PV), (h : PH), (0 : Nat), (0 : Nat)))) (F := (fun x2 : Int32 => ((40 : Nat), ([none, none, some (.inl x2), none] : List (Option PV)), ([] : List PV), (h : PH), (0 : Nat), (0 : Nat)))) (fun s1 => ?_) FU ((0 : Int32), (0 : Int32))) (fun x2 => ?_)
  · show PJ l G (pj_rm 1 0 0) Y_T_holding 4 [some (.inr (.inr a0)), some (.inl a1), some (.inl s1.1), some (.inl s1.2)] [] h 0 0 _ _
    refine PJ.iload_n (pc := 4) d_T_holding_4 rfl ?_
    refine PJ.aload_n (pc := 5) d_T_holding_5 rfl ?_
    refine PJ.getR (pc := 6) fs_T_20 d_T_holding_6 (fun v3 => ?_)
    refine PJ.getI (pc := 9) fs_T_111 d_T_holding_9 (fun v4 => ?_)
    refine PJ.icmp_ge (pc := 12) (tgt := 40) d_T_holding_12 (by decide) (fun _ => ?_) (fun _ => ?_)
    · refine PJ.mk (L1 := [none, none, some (.inl s1.1), none]) [false, false, true, false] rfl ?_
      exact PJ.done rfl
    · refine PJ.aload_n (pc := 15) d_T_holding_15 rfl ?_
      refine PJ.getR (pc := 16) fs_T_43 d_T_holding_16 (fun v5 => ?_)
      refine PJ.getR (pc := 19) fs_T_128 d_T_holding_19 (fun v6 => ?_)
      refine PJ.iload_n (pc := 22) d_T_holding_22 rfl ?_
      refine PJ.iald (pc := 23) d_T_holding_23 (fun v7 => ?_)
      refine PJ.iload_n (pc := 24) d_T_holding_24 rfl ?_
      refine PJ.icmp_ne (pc := 25) (tgt := 34) d_T_holding_25 (by decide) (fun _ => ?_) (fun _ => ?_)
      · refine PJ.iinc (pc := 34) (v := 1) (L1 := [some (.inr (.inr a0)), some (.inl a1), some (.inl s1.1), some (.inl (s1.2 + (1 : Int32)))]) d_T_holding_34 rfl (by decide) (Nat.le_of_ble_eq_true rfl) rfl rfl ?_
        refine PJ.goto (pc := 37) (tgt := 4) d_T_holding_37 (by decide) ?_
        exact PJ.done rfl
      · refine PJ.iload_n (pc := 28) d_T_holding_28 rfl ?_
        refine PJ.iconst (pc := 29) (v := 1) d_T_holding_29 (by decide) ?_
        refine PJ.iload_n (pc := 30) d_T_holding_30 rfl ?_
        refine PJ.ishl (pc := 31) d_T_holding_31 ?_
        refine PJ.ior (pc := 32) d_T_holding_32 ?_
        refine PJ.istore_n (pc := 33) (L1 := [some (.inr (.inr a0)), some (.inl a1), some (.inl (s1.1 ||| ((1 : Int32) <<< (s1.2 &&& 31)))), some (.inl s1.2)]) d_T_holding_33 (Nat.le_of_ble_eq_true rfl) rfl rfl ?_
        refine PJ.iinc (pc := 34) (v := 1) (L1 := [some (.inr (.inr a0)), some (.inl a1), some (.inl (s1.1 ||| ((1 : Int32) <<< (s1.2 &&& 31)))), some (.inl (s1.2 + (1 : Int32)))]) d_T_holding_34 rfl (by decide) (Nat.le_of_ble_eq_true rfl) rfl rfl ?_
        refine PJ.goto (pc := 37) (tgt := 4) d_T_holding_37 (by decide) ?_
        exact PJ.done rfl
  · show PJ l G (pj_rm 1 0 0) Y_T_holding 40 [none, none, some (.inl x2), none] [] h 0 0 _ _
    refine PJ.iload_n (pc := 40) d_T_holding_40 rfl ?_
    exact PJ.iretp (pc := 41) d_T_holding_41 rfl (Nat.le_of_ble_eq_true rfl) (Nat.le_of_ble_eq_true rfl)
