theorem cd_0 : pj_cd 0 "WaverTax$Desk" qT0 4 qY0 := ⟨rfl, by decide, ql0, qn0, qy0, by decide +kernel⟩
theorem cn_0 {G : Cx} (j : Nat) (hj : j < 4) : defaultValue (qY0 j) = pj_f G (pj_new 0) j := by
  rcases (show j = 0 ∨ j = 1 ∨ j = 2 ∨ j = 3 by omega) with rfl | rfl | rfl | rfl <;> rfl
theorem cd_1 : pj_cd 1 "WaverTax$Law" qT1 13 qY1 := ⟨rfl, by decide, ql1, qn1, qy1, by decide +kernel⟩
theorem cn_1 {G : Cx} (j : Nat) (hj : j < 13) : defaultValue (qY1 j) = pj_f G (pj_new 1) j := by
  rcases (show j = 0 ∨ j = 1 ∨ j = 2 ∨ j = 3 ∨ j = 4 ∨ j = 5 ∨ j = 6 ∨ j = 7 ∨ j = 8 ∨ j = 9 ∨ j = 10 ∨ j = 11 ∨ j = 12 by omega) with rfl | rfl | rfl | rfl | rfl | rfl | rfl | rfl | rfl | rfl | rfl | rfl | rfl <;> rfl
theorem cd_2 : pj_cd 2 "WaverTax$Now" qT2 7 qY2 := ⟨rfl, by decide, ql2, qn2, qy2, by decide +kernel⟩
theorem cn_2 {G : Cx} (j : Nat) (hj : j < 7) : defaultValue (qY2 j) = pj_f G (pj_new 2) j := by
  rcases (show j = 0 ∨ j = 1 ∨ j = 2 ∨ j = 3 ∨ j = 4 ∨ j = 5 ∨ j = 6 by omega) with rfl | rfl | rfl | rfl | rfl | rfl | rfl <;> rfl
theorem cd_3 : pj_cd 3 "WaverTax$Past" qT3 4 qY3 := ⟨rfl, by decide, ql3, qn3, qy3, by decide +kernel⟩
theorem cn_3 {G : Cx} (j : Nat) (hj : j < 4) : defaultValue (qY3 j) = pj_f G (pj_new 3) j := by
  rcases (show j = 0 ∨ j = 1 ∨ j = 2 ∨ j = 3 by omega) with rfl | rfl | rfl | rfl <;> rfl
theorem cd_4 : pj_cd 4 "WaverTax$Planner" qT4 4 qY4 := ⟨rfl, by decide, ql4, qn4, qy4, by decide +kernel⟩
theorem cn_4 {G : Cx} (j : Nat) (hj : j < 4) : defaultValue (qY4 j) = pj_f G (pj_new 4) j := by
  rcases (show j = 0 ∨ j = 1 ∨ j = 2 ∨ j = 3 by omega) with rfl | rfl | rfl | rfl <;> rfl
theorem cd_5 : pj_cd 5 "WaverTax$Reader" qT5 14 qY5 := ⟨rfl, by decide, ql5, qn5, qy5, by decide +kernel⟩
theorem cn_5 {G : Cx} (j : Nat) (hj : j < 14) : defaultValue (qY5 j) = pj_f G (pj_new 5) j := by
  rcases (show j = 0 ∨ j = 1 ∨ j = 2 ∨ j = 3 ∨ j = 4 ∨ j = 5 ∨ j = 6 ∨ j = 7 ∨ j = 8 ∨ j = 9 ∨ j = 10 ∨ j = 11 ∨ j = 12 ∨ j = 13 by omega) with rfl | rfl | rfl | rfl | rfl | rfl | rfl | rfl | rfl | rfl | rfl | rfl | rfl | rfl <;> rfl
theorem cd_6 : pj_cd 6 "WaverTax$Reasons" qT6 6 qY6 := ⟨rfl, by decide, ql6, qn6, qy6, by decide +kernel⟩
theorem cn_6 {G : Cx} (j : Nat) (hj : j < 6) : defaultValue (qY6 j) = pj_f G (pj_new 6) j := by
  rcases (show j = 0 ∨ j = 1 ∨ j = 2 ∨ j = 3 ∨ j = 4 ∨ j = 5 by omega) with rfl | rfl | rfl | rfl | rfl | rfl <;> rfl
theorem cd_7 : pj_cd 7 "WaverTax$Receipts" qT7 4 qY7 := ⟨rfl, by decide, ql7, qn7, qy7, by decide +kernel⟩
theorem cn_7 {G : Cx} (j : Nat) (hj : j < 4) : defaultValue (qY7 j) = pj_f G (pj_new 7) j := by
  rcases (show j = 0 ∨ j = 1 ∨ j = 2 ∨ j = 3 by omega) with rfl | rfl | rfl | rfl <;> rfl
theorem cd_8 : pj_cd 8 "WaverTax$Rows" qT8 9 qY8 := ⟨rfl, by decide, ql8, qn8, qy8, by decide +kernel⟩
theorem cn_8 {G : Cx} (j : Nat) (hj : j < 9) : defaultValue (qY8 j) = pj_f G (pj_new 8) j := by
  rcases (show j = 0 ∨ j = 1 ∨ j = 2 ∨ j = 3 ∨ j = 4 ∨ j = 5 ∨ j = 6 ∨ j = 7 ∨ j = 8 by omega) with rfl | rfl | rfl | rfl | rfl | rfl | rfl | rfl | rfl <;> rfl
theorem cd_9 : pj_cd 9 "WaverTax$Shops" qT9 4 qY9 := ⟨rfl, by decide, ql9, qn9, qy9, by decide +kernel⟩
theorem cn_9 {G : Cx} (j : Nat) (hj : j < 4) : defaultValue (qY9 j) = pj_f G (pj_new 9) j := by
  rcases (show j = 0 ∨ j = 1 ∨ j = 2 ∨ j = 3 by omega) with rfl | rfl | rfl | rfl <;> rfl
theorem cd_10 : pj_cd 10 "WaverTax" qT10 15 qY10 := ⟨rfl, by decide, ql10, qn10, qy10, by decide +kernel⟩
theorem cn_10 {G : Cx} (j : Nat) (hj : j < 15) : defaultValue (qY10 j) = pj_f G (pj_new 10) j := by
  rcases (show j = 0 ∨ j = 1 ∨ j = 2 ∨ j = 3 ∨ j = 4 ∨ j = 5 ∨ j = 6 ∨ j = 7 ∨ j = 8 ∨ j = 9 ∨ j = 10 ∨ j = 11 ∨ j = 12 ∨ j = 13 ∨ j = 14 by omega) with rfl | rfl | rfl | rfl | rfl | rfl | rfl | rfl | rfl | rfl | rfl | rfl | rfl | rfl | rfl <;> rfl
theorem cd_11 : pj_cd 11 "WaverTaxModel$Law" qT11 27 qY11 := ⟨rfl, by decide, ql11, qn11, qy11, by decide +kernel⟩
theorem cn_11 {G : Cx} (j : Nat) (hj : j < 27) : defaultValue (qY11 j) = pj_f G (pj_new 11) j := by
  rcases (show j = 0 ∨ j = 1 ∨ j = 2 ∨ j = 3 ∨ j = 4 ∨ j = 5 ∨ j = 6 ∨ j = 7 ∨ j = 8 ∨ j = 9 ∨ j = 10 ∨ j = 11 ∨ j = 12 ∨ j = 13 ∨ j = 14 ∨ j = 15 ∨ j = 16 ∨ j = 17 ∨ j = 18 ∨ j = 19 ∨ j = 20 ∨ j = 21 ∨ j = 22 ∨ j = 23 ∨ j = 24 ∨ j = 25 ∨ j = 26 by omega) with rfl | rfl | rfl | rfl | rfl | rfl | rfl | rfl | rfl | rfl | rfl | rfl | rfl | rfl | rfl | rfl | rfl | rfl | rfl | rfl | rfl | rfl | rfl | rfl | rfl | rfl | rfl <;> rfl
theorem cd_12 : pj_cd 12 "WaverTaxModel" qT12 32 qY12 := ⟨rfl, by decide, ql12, qn12, qy12, by decide +kernel⟩
theorem cn_12 {G : Cx} (j : Nat) (hj : j < 32) : defaultValue (qY12 j) = pj_f G (pj_new 12) j := by
  rcases (show j = 0 ∨ j = 1 ∨ j = 2 ∨ j = 3 ∨ j = 4 ∨ j = 5 ∨ j = 6 ∨ j = 7 ∨ j = 8 ∨ j = 9 ∨ j = 10 ∨ j = 11 ∨ j = 12 ∨ j = 13 ∨ j = 14 ∨ j = 15 ∨ j = 16 ∨ j = 17 ∨ j = 18 ∨ j = 19 ∨ j = 20 ∨ j = 21 ∨ j = 22 ∨ j = 23 ∨ j = 24 ∨ j = 25 ∨ j = 26 ∨ j = 27 ∨ j = 28 ∨ j = 29 ∨ j = 30 ∨ j = 31 by omega) with rfl | rfl | rfl | rfl | rfl | rfl | rfl | rfl | rfl | rfl | rfl | rfl | rfl | rfl | rfl | rfl | rfl | rfl | rfl | rfl | rfl | rfl | rfl | rfl | rfl | rfl | rfl | rfl | rfl | rfl | rfl | rfl <;> rfl
-- sites and methods: try
abbrev Y_Now_hasCome : MI := (⟨"WaverTax$Now", "hasCome", "(I)Z"⟩, prog_4_method_4_code, 2, (some .boolean))
abbrev Y_Law_apart : MI := (⟨"WaverTax$Law", "apart", "(II)I"⟩, prog_3_method_3_code, 3, (some .int))
abbrev Y_Desk_taxOf : MI := (⟨"WaverTax$Desk", "taxOf", "(II)I"⟩, prog_2_method_3_code, 5, (some .int))
abbrev Y_Desk_worthOf : MI := (⟨"WaverTax$Desk", "worthOf", "(II)I"⟩, prog_2_method_4_code, 6, (some .int))
abbrev Y_Desk_leftOf : MI := (⟨"WaverTax$Desk", "leftOf", "(II)I"⟩, prog_2_method_5_code, 3, (some .int))
abbrev Y_Desk_choiceOf : MI := (⟨"WaverTax$Desk", "choiceOf", "(I)I"⟩, prog_2_method_6_code, 6, (some .int))
abbrev Y_Receipts_nextOf : MI := (⟨"WaverTax$Receipts", "nextOf", "(II)I"⟩, prog_9_method_3_code, 4, (some .int))
theorem cm_Law_apart : (Cond.code Y_Law_apart.1 Y_Law_apart.2.1 Y_Law_apart.2.2.1 Y_Law_apart.2.2.2 ∈ pj_ws) ∧ (Cond.initialized Y_Law_apart.1.cls ∈ pj_ws) ∧ (Y_Law_apart.1.cls ≠ "java/lang/invoke/MethodHandle" ∧ Y_Law_apart.1.cls ≠ "java/lang/invoke/VarHandle" ∧ (parseMethodDescriptor Y_Law_apart.1.desc).map (fun d => d.parameters.length) = some 2) ∧ (Cond.instanceMethod Y_Law_apart.1 ∈ pj_ws) ∧ (Cond.selects Y_Law_apart.1.cls Y_Law_apart.1 Y_Law_apart.1 ∈ pj_ws) := ⟨pj_mem 845 (by decide +kernel) rfl, pj_mem 131 (by decide +kernel) rfl, ⟨by decide +kernel, by decide +kernel, by decide +kernel⟩, pj_mem 843 (by decide +kernel) rfl, pj_mem 844 (by decide +kernel) rfl⟩
theorem cm_Now_hasCome : (Cond.code Y_Now_hasCome.1 Y_Now_hasCome.2.1 Y_Now_hasCome.2.2.1 Y_Now_hasCome.2.2.2 ∈ pj_ws) ∧ (Cond.initialized Y_Now_hasCome.1.cls ∈ pj_ws) ∧ (Y_Now_hasCome.1.cls ≠ "java/lang/invoke/MethodHandle" ∧ Y_Now_hasCome.1.cls ≠ "java/lang/invoke/VarHandle" ∧ (parseMethodDescriptor Y_Now_hasCome.1.desc).map (fun d => d.parameters.length) = some 1) ∧ (Cond.instanceMethod Y_Now_hasCome.1 ∈ pj_ws) ∧ (Cond.selects Y_Now_hasCome.1.cls Y_Now_hasCome.1 Y_Now_hasCome.1 ∈ pj_ws) := ⟨pj_mem 865 (by decide +kernel) rfl, pj_mem 136 (by decide +kernel) rfl, ⟨by decide +kernel, by decide +kernel, by decide +kernel⟩, pj_mem 863 (by decide +kernel) rfl, pj_mem 864 (by decide +kernel) rfl⟩
theorem cm_Desk_worthOf : (Cond.code Y_Desk_worthOf.1 Y_Desk_worthOf.2.1 Y_Desk_worthOf.2.2.1 Y_Desk_worthOf.2.2.2 ∈ pj_ws) ∧ (Cond.initialized Y_Desk_worthOf.1.cls ∈ pj_ws) ∧ (Y_Desk_worthOf.1.cls ≠ "java/lang/invoke/MethodHandle" ∧ Y_Desk_worthOf.1.cls ≠ "java/lang/invoke/VarHandle" ∧ (parseMethodDescriptor Y_Desk_worthOf.1.desc).map (fun d => d.parameters.length) = some 2) ∧ (Cond.instanceMethod Y_Desk_worthOf.1 ∈ pj_ws) ∧ (Cond.selects Y_Desk_worthOf.1.cls Y_Desk_worthOf.1 Y_Desk_worthOf.1 ∈ pj_ws) := ⟨pj_mem 861 (by decide +kernel) rfl, pj_mem 137 (by decide +kernel) rfl, ⟨by decide +kernel, by decide +kernel, by decide +kernel⟩, pj_mem 859 (by decide +kernel) rfl, pj_mem 860 (by decide +kernel) rfl⟩
theorem cm_Desk_taxOf : (Cond.code Y_Desk_taxOf.1 Y_Desk_taxOf.2.1 Y_Desk_taxOf.2.2.1 Y_Desk_taxOf.2.2.2 ∈ pj_ws) ∧ (Cond.initialized Y_Desk_taxOf.1.cls ∈ pj_ws) ∧ (Y_Desk_taxOf.1.cls ≠ "java/lang/invoke/MethodHandle" ∧ Y_Desk_taxOf.1.cls ≠ "java/lang/invoke/VarHandle" ∧ (parseMethodDescriptor Y_Desk_taxOf.1.desc).map (fun d => d.parameters.length) = some 2) ∧ (Cond.instanceMethod Y_Desk_taxOf.1 ∈ pj_ws) ∧ (Cond.selects Y_Desk_taxOf.1.cls Y_Desk_taxOf.1 Y_Desk_taxOf.1 ∈ pj_ws) := ⟨pj_mem 873 (by decide +kernel) rfl, pj_mem 137 (by decide +kernel) rfl, ⟨by decide +kernel, by decide +kernel, by decide +kernel⟩, pj_mem 871 (by decide +kernel) rfl, pj_mem 872 (by decide +kernel) rfl⟩
theorem cm_Desk_leftOf : (Cond.code Y_Desk_leftOf.1 Y_Desk_leftOf.2.1 Y_Desk_leftOf.2.2.1 Y_Desk_leftOf.2.2.2 ∈ pj_ws) ∧ (Cond.initialized Y_Desk_leftOf.1.cls ∈ pj_ws) ∧ (Y_Desk_leftOf.1.cls ≠ "java/lang/invoke/MethodHandle" ∧ Y_Desk_leftOf.1.cls ≠ "java/lang/invoke/VarHandle" ∧ (parseMethodDescriptor Y_Desk_leftOf.1.desc).map (fun d => d.parameters.length) = some 2) ∧ (Cond.instanceMethod Y_Desk_leftOf.1 ∈ pj_ws) ∧ (Cond.selects Y_Desk_leftOf.1.cls Y_Desk_leftOf.1 Y_Desk_leftOf.1 ∈ pj_ws) := ⟨pj_mem 886 (by decide +kernel) rfl, pj_mem 137 (by decide +kernel) rfl, ⟨by decide +kernel, by decide +kernel, by decide +kernel⟩, pj_mem 884 (by decide +kernel) rfl, pj_mem 885 (by decide +kernel) rfl⟩
theorem cs_Desk_38 : pj_cV "WaverTax$Desk" 38 Y_Law_apart 2 1 := ⟨⟨cm_Law_apart.1, cm_Law_apart.2.1, cm_Law_apart.2.2.1, Or.inl (pj_mem 874 (by decide +kernel) rfl)⟩, by decide, cm_Law_apart.2.2.2.1, cm_Law_apart.2.2.2.2, ⟨_, rfl, rfl⟩⟩
theorem cs_Desk_76 : pj_cV "WaverTax$Desk" 76 Y_Now_hasCome 1 2 := ⟨⟨cm_Now_hasCome.1, cm_Now_hasCome.2.1, cm_Now_hasCome.2.2.1, Or.inl (pj_mem 862 (by decide +kernel) rfl)⟩, by decide, cm_Now_hasCome.2.2.2.1, cm_Now_hasCome.2.2.2.2, ⟨_, rfl, rfl⟩⟩
theorem cs_Desk_83 : pj_cV "WaverTax$Desk" 83 Y_Desk_worthOf 2 0 := ⟨⟨cm_Desk_worthOf.1, cm_Desk_worthOf.2.1, cm_Desk_worthOf.2.2.1, Or.inl (pj_mem 887 (by decide +kernel) rfl)⟩, by decide, cm_Desk_worthOf.2.2.2.1, cm_Desk_worthOf.2.2.2.2, ⟨_, rfl, rfl⟩⟩
theorem cs_Desk_86 : pj_cV "WaverTax$Desk" 86 Y_Desk_taxOf 2 0 := ⟨⟨cm_Desk_taxOf.1, cm_Desk_taxOf.2.1, cm_Desk_taxOf.2.2.1, Or.inl (pj_mem 888 (by decide +kernel) rfl)⟩, by decide, cm_Desk_taxOf.2.2.2.1, cm_Desk_taxOf.2.2.2.2, ⟨_, rfl, rfl⟩⟩
theorem cs_Desk_89 : pj_cV "WaverTax$Desk" 89 Y_Desk_leftOf 2 0 := ⟨⟨cm_Desk_leftOf.1, cm_Desk_leftOf.2.1, cm_Desk_leftOf.2.2.1, Or.inl (pj_mem 883 (by decide +kernel) rfl)⟩, by decide, cm_Desk_leftOf.2.2.2.1, cm_Desk_leftOf.2.2.2.2, ⟨_, rfl, rfl⟩⟩
theorem fs_Desk_15 : pj_fs "WaverTax$Desk" 0 3 15 (.int) := ⟨_, _, _, _, cd_0, by decide, rfl, Or.inl (pj_mem 458 (by decide +kernel) rfl)⟩
theorem fs_Desk_18 : pj_fs "WaverTax$Desk" 0 0 18 (.object "WaverTax$Law") := ⟨_, _, _, _, cd_0, by decide, rfl, Or.inl (pj_mem 454 (by decide +kernel) rfl)⟩
theorem fs_Desk_22 : pj_fs "WaverTax$Desk" 0 1 22 (.object "WaverTax$Now") := ⟨_, _, _, _, cd_0, by decide, rfl, Or.inl (pj_mem 455 (by decide +kernel) rfl)⟩
theorem fs_Desk_29 : pj_fs "WaverTax$Desk" 1 6 29 (.array (.int)) := ⟨_, _, _, _, cd_1, by decide, rfl, Or.inl (pj_mem 299 (by decide +kernel) rfl)⟩
theorem fs_Desk_33 : pj_fs "WaverTax$Desk" 2 3 33 (.array (.int)) := ⟨_, _, _, _, cd_2, by decide, rfl, Or.inl (pj_mem 417 (by decide +kernel) rfl)⟩
theorem fs_Desk_42 : pj_fs "WaverTax$Desk" 2 4 42 (.array (.int)) := ⟨_, _, _, _, cd_2, by decide, rfl, Or.inl (pj_mem 423 (by decide +kernel) rfl)⟩
theorem fs_Desk_45 : pj_fs "WaverTax$Desk" 2 0 45 (.int) := ⟨_, _, _, _, cd_2, by decide, rfl, Or.inl (pj_mem 409 (by decide +kernel) rfl)⟩
theorem fs_Desk_48 : pj_fs "WaverTax$Desk" 2 6 48 (.array (.int)) := ⟨_, _, _, _, cd_2, by decide, rfl, Or.inl (pj_mem 430 (by decide +kernel) rfl)⟩
theorem fs_Desk_51 : pj_fs "WaverTax$Desk" 1 0 51 (.int) := ⟨_, _, _, _, cd_1, by decide, rfl, Or.inl (pj_mem 275 (by decide +kernel) rfl)⟩
theorem fs_Desk_54 : pj_fs "WaverTax$Desk" 1 7 54 (.array (.int)) := ⟨_, _, _, _, cd_1, by decide, rfl, Or.inl (pj_mem 304 (by decide +kernel) rfl)⟩
theorem fs_Desk_57 : pj_fs "WaverTax$Desk" 1 10 57 (.object "WaverTax$Reasons") := ⟨_, _, _, _, cd_1, by decide, rfl, Or.inl (pj_mem 314 (by decide +kernel) rfl)⟩
theorem fs_Desk_61 : pj_fs "WaverTax$Desk" 1 8 61 (.array (.array (.int))) := ⟨_, _, _, _, cd_1, by decide, rfl, Or.inl (pj_mem 308 (by decide +kernel) rfl)⟩
theorem fs_Desk_65 : pj_fs "WaverTax$Desk" 6 0 65 (.int) := ⟨_, _, _, _, cd_6, by decide, rfl, Or.inl (pj_mem 179 (by decide +kernel) rfl)⟩
theorem fs_Desk_70 : pj_fs "WaverTax$Desk" 6 1 70 (.array (.int)) := ⟨_, _, _, _, cd_6, by decide, rfl, Or.inl (pj_mem 185 (by decide +kernel) rfl)⟩
theorem fs_Desk_73 : pj_fs "WaverTax$Desk" 6 2 73 (.array (.int)) := ⟨_, _, _, _, cd_6, by decide, rfl, Or.inl (pj_mem 189 (by decide +kernel) rfl)⟩
theorem fs_Desk_80 : pj_fs "WaverTax$Desk" 6 5 80 (.array (.int)) := ⟨_, _, _, _, cd_6, by decide, rfl, Or.inl (pj_mem 201 (by decide +kernel) rfl)⟩
theorem fs_Desk_9 : pj_fs "WaverTax$Desk" 0 2 9 (.int) := ⟨_, _, _, _, cd_0, by decide, rfl, Or.inl (pj_mem 456 (by decide +kernel) rfl)⟩
theorem fs_Desk_92 : pj_fs "WaverTax$Desk" 1 2 92 (.int) := ⟨_, _, _, _, cd_1, by decide, rfl, Or.inl (pj_mem 286 (by decide +kernel) rfl)⟩
theorem fs_Law_29 : pj_fs "WaverTax$Law" 1 5 29 (.array (.array (.int))) := ⟨_, _, _, _, cd_1, by decide, rfl, Or.inl (pj_mem 296 (by decide +kernel) rfl)⟩
theorem fs_Now_18 : pj_fs "WaverTax$Now" 2 2 18 (.int) := ⟨_, _, _, _, cd_2, by decide, rfl, Or.inl (pj_mem 414 (by decide +kernel) rfl)⟩
theorem fs_Receipts_15 : pj_fs "WaverTax$Receipts" 7 1 15 (.array (.int)) := ⟨_, _, _, _, cd_7, by decide, rfl, Or.inl (pj_mem 230 (by decide +kernel) rfl)⟩
theorem fs_Receipts_9 : pj_fs "WaverTax$Receipts" 7 0 9 (.int) := ⟨_, _, _, _, cd_7, by decide, rfl, Or.inl (pj_mem 225 (by decide +kernel) rfl)⟩
theorem d_Now_hasCome_0 : decode Y_Now_hasCome.2.1 0 = .ok (.aload_n 0, 1) := by decide +kernel
theorem d_Now_hasCome_1 : decode Y_Now_hasCome.2.1 1 = .ok (.getfield 18, 3) := by decide +kernel
theorem d_Now_hasCome_4 : decode Y_Now_hasCome.2.1 4 = .ok (.iload_n 1, 1) := by decide +kernel
theorem d_Now_hasCome_5 : decode Y_Now_hasCome.2.1 5 = .ok (.ishr, 1) := by decide +kernel
theorem d_Now_hasCome_6 : decode Y_Now_hasCome.2.1 6 = .ok (.iconst 1, 1) := by decide +kernel
theorem d_Now_hasCome_7 : decode Y_Now_hasCome.2.1 7 = .ok (.iand, 1) := by decide +kernel
theorem d_Now_hasCome_8 : decode Y_Now_hasCome.2.1 8 = .ok (.iconst 1, 1) := by decide +kernel
theorem d_Now_hasCome_9 : decode Y_Now_hasCome.2.1 9 = .ok (.if_icmp .ne 7, 3) := by decide +kernel
theorem d_Now_hasCome_12 : decode Y_Now_hasCome.2.1 12 = .ok (.iconst 1, 1) := by decide +kernel
theorem d_Now_hasCome_13 : decode Y_Now_hasCome.2.1 13 = .ok (.goto 4, 3) := by decide +kernel
theorem d_Now_hasCome_16 : decode Y_Now_hasCome.2.1 16 = .ok (.iconst 0, 1) := by decide +kernel
theorem d_Now_hasCome_17 : decode Y_Now_hasCome.2.1 17 = .ok (.ireturn, 1) := by decide +kernel
def f_Now_hasCome (h : PH) (a0 : Option Nat) (a1 : Int32) : Option Int32 := (gI h 2 a0 2).bind fun v1 => if ¬ ((v1 >>> (a1 &&& 31)) &&& (1 : Int32)) = (1 : Int32) then (some (0 : Int32)) else (some (1 : Int32))
set_option maxRecDepth 20000 in
theorem PM_Now_hasCome {l : Launch} {G : Cx} {h : PH} {a0 : Option Nat} {a1 : Int32} {z : Int32} (hz : f_Now_hasCome h a0 a1 = some z) : PM l G 1 0 0 Y_Now_hasCome [.inr (.inr a0), .inl a1] h (some (.inl z), h) := by
  refine PM.of (Y := Y_Now_hasCome) (cv := (fun z : Int32 => (((some (.inl z), h) : Option PV × PH)))) (by decide) (L0 := [some (.inr (.inr a0)), some (.inl a1)]) 0 rfl (Nat.le_of_ble_eq_true rfl) ?_ hz
  unfold f_Now_hasCome
  refine PJ.aload_n (pc := 0) d_Now_hasCome_0 rfl ?_
  refine PJ.getI (pc := 1) fs_Now_18 d_Now_hasCome_1 (fun v1 => ?_)
  refine PJ.iload_n (pc := 4) d_Now_hasCome_4 rfl ?_
  refine PJ.ishr (pc := 5) d_Now_hasCome_5 ?_
  refine PJ.iconst (pc := 6) (v := 1) d_Now_hasCome_6 (by decide) ?_
  refine PJ.iand (pc := 7) d_Now_hasCome_7 ?_
  refine PJ.iconst (pc := 8) (v := 1) d_Now_hasCome_8 (by decide) ?_
  refine PJ.icmp_ne (pc := 9) (tgt := 16) d_Now_hasCome_9 (by decide) (fun _ => ?_) (fun _ => ?_)
  · refine PJ.iconst (pc := 16) (v := 0) d_Now_hasCome_16 (by decide) ?_
    exact PJ.zretp (pc := 17) d_Now_hasCome_17 rfl rfl (Nat.le_of_ble_eq_true rfl) (Nat.le_of_ble_eq_true rfl)
  · refine PJ.iconst (pc := 12) (v := 1) d_Now_hasCome_12 (by decide) ?_
    refine PJ.goto (pc := 13) (tgt := 17) d_Now_hasCome_13 (by decide) ?_
    exact PJ.zretp (pc := 17) d_Now_hasCome_17 rfl rfl (Nat.le_of_ble_eq_true rfl) (Nat.le_of_ble_eq_true rfl)
theorem d_Law_apart_0 : decode Y_Law_apart.2.1 0 = .ok (.iload_n 1, 1) := by decide +kernel
theorem d_Law_apart_1 : decode Y_Law_apart.2.1 1 = .ok (.iload_n 2, 1) := by decide +kernel
theorem d_Law_apart_2 : decode Y_Law_apart.2.1 2 = .ok (.if_icmp .ne 5, 3) := by decide +kernel
theorem d_Law_apart_5 : decode Y_Law_apart.2.1 5 = .ok (.iconst 0, 1) := by decide +kernel
theorem d_Law_apart_6 : decode Y_Law_apart.2.1 6 = .ok (.ireturn, 1) := by decide +kernel
theorem d_Law_apart_7 : decode Y_Law_apart.2.1 7 = .ok (.aload_n 0, 1) := by decide +kernel
theorem d_Law_apart_8 : decode Y_Law_apart.2.1 8 = .ok (.getfield 29, 3) := by decide +kernel
theorem d_Law_apart_11 : decode Y_Law_apart.2.1 11 = .ok (.iload_n 1, 1) := by decide +kernel
theorem d_Law_apart_12 : decode Y_Law_apart.2.1 12 = .ok (.aaload, 1) := by decide +kernel
theorem d_Law_apart_13 : decode Y_Law_apart.2.1 13 = .ok (.iload_n 2, 1) := by decide +kernel
theorem d_Law_apart_14 : decode Y_Law_apart.2.1 14 = .ok (.iaload, 1) := by decide +kernel
theorem d_Law_apart_15 : decode Y_Law_apart.2.1 15 = .ok (.ifCond .ne 7, 3) := by decide +kernel
theorem d_Law_apart_18 : decode Y_Law_apart.2.1 18 = .ok (.iconst 1, 1) := by decide +kernel
theorem d_Law_apart_19 : decode Y_Law_apart.2.1 19 = .ok (.goto 11, 3) := by decide +kernel
theorem d_Law_apart_22 : decode Y_Law_apart.2.1 22 = .ok (.aload_n 0, 1) := by decide +kernel
theorem d_Law_apart_23 : decode Y_Law_apart.2.1 23 = .ok (.getfield 29, 3) := by decide +kernel
theorem d_Law_apart_26 : decode Y_Law_apart.2.1 26 = .ok (.iload_n 1, 1) := by decide +kernel
theorem d_Law_apart_27 : decode Y_Law_apart.2.1 27 = .ok (.aaload, 1) := by decide +kernel
theorem d_Law_apart_28 : decode Y_Law_apart.2.1 28 = .ok (.iload_n 2, 1) := by decide +kernel
theorem d_Law_apart_29 : decode Y_Law_apart.2.1 29 = .ok (.iaload, 1) := by decide +kernel
theorem d_Law_apart_30 : decode Y_Law_apart.2.1 30 = .ok (.ireturn, 1) := by decide +kernel
def f_Law_apart (h : PH) (a0 : Option Nat) (a1 : Int32) (a2 : Int32) : Option Int32 := if ¬ a1 = a2 then ((gR h 1 a0 5).bind fun v1 => (aR h 53 v1 a1).bind fun v2 => (aI h v2 a2).bind fun v3 => if ¬ v3 = 0 then ((gR h 1 a0 5).bind fun v4 => (aR h 53 v4 a1).bind fun v5 => (aI h v5 a2).bind fun v6 => some v6) else (some (1 : Int32))) else (some (0 : Int32))
set_option maxRecDepth 20000 in
theorem PM_Law_apart {l : Launch} {G : Cx} {h : PH} {a0 : Option Nat} {a1 : Int32} {a2 : Int32} {z : Int32} (hz : f_Law_apart h a0 a1 a2 = some z) : PM l G 1 0 0 Y_Law_apart [.inr (.inr a0), .inl a1, .inl a2] h (some (.inl z), h) := by
  refine PM.of (Y := Y_Law_apart) (cv := (fun z : Int32 => (((some (.inl z), h) : Option PV × PH)))) (by decide) (L0 := [some (.inr (.inr a0)), some (.inl a1), some (.inl a2)]) 0 rfl (Nat.le_of_ble_eq_true rfl) ?_ hz
  unfold f_Law_apart
  refine PJ.iload_n (pc := 0) d_Law_apart_0 rfl ?_
  refine PJ.iload_n (pc := 1) d_Law_apart_1 rfl ?_
  refine PJ.icmp_ne (pc := 2) (tgt := 7) d_Law_apart_2 (by decide) (fun _ => ?_) (fun _ => ?_)
  · refine PJ.aload_n (pc := 7) d_Law_apart_7 rfl ?_
    refine PJ.getR (pc := 8) fs_Law_29 d_Law_apart_8 (fun v1 => ?_)
    refine PJ.iload_n (pc := 11) d_Law_apart_11 rfl ?_
    refine PJ.aald (pc := 12) 53 (by decide) d_Law_apart_12 (fun v2 => ?_)
    refine PJ.iload_n (pc := 13) d_Law_apart_13 rfl ?_
    refine PJ.iald (pc := 14) d_Law_apart_14 (fun v3 => ?_)
    refine PJ.if_ne (pc := 15) (tgt := 22) d_Law_apart_15 (by decide) (fun _ => ?_) (fun _ => ?_)
    · refine PJ.aload_n (pc := 22) d_Law_apart_22 rfl ?_
      refine PJ.getR (pc := 23) fs_Law_29 d_Law_apart_23 (fun v4 => ?_)
      refine PJ.iload_n (pc := 26) d_Law_apart_26 rfl ?_
      refine PJ.aald (pc := 27) 53 (by decide) d_Law_apart_27 (fun v5 => ?_)
      refine PJ.iload_n (pc := 28) d_Law_apart_28 rfl ?_
      refine PJ.iald (pc := 29) d_Law_apart_29 (fun v6 => ?_)
      exact PJ.iretp (pc := 30) d_Law_apart_30 rfl (Nat.le_of_ble_eq_true rfl) (Nat.le_of_ble_eq_true rfl)
    · refine PJ.iconst (pc := 18) (v := 1) d_Law_apart_18 (by decide) ?_
      refine PJ.goto (pc := 19) (tgt := 30) d_Law_apart_19 (by decide) ?_
      exact PJ.iretp (pc := 30) d_Law_apart_30 rfl (Nat.le_of_ble_eq_true rfl) (Nat.le_of_ble_eq_true rfl)
  · refine PJ.iconst (pc := 5) (v := 0) d_Law_apart_5 (by decide) ?_
    exact PJ.iretp (pc := 6) d_Law_apart_6 rfl (Nat.le_of_ble_eq_true rfl) (Nat.le_of_ble_eq_true rfl)
theorem d_Desk_taxOf_0 : decode Y_Desk_taxOf.2.1 0 = .ok (.aload_n 0, 1) := by decide +kernel
theorem d_Desk_taxOf_1 : decode Y_Desk_taxOf.2.1 1 = .ok (.getfield 18, 3) := by decide +kernel
theorem d_Desk_taxOf_4 : decode Y_Desk_taxOf.2.1 4 = .ok (.getfield 29, 3) := by decide +kernel
theorem d_Desk_taxOf_7 : decode Y_Desk_taxOf.2.1 7 = .ok (.iload_n 1, 1) := by decide +kernel
theorem d_Desk_taxOf_8 : decode Y_Desk_taxOf.2.1 8 = .ok (.iaload, 1) := by decide +kernel
theorem d_Desk_taxOf_9 : decode Y_Desk_taxOf.2.1 9 = .ok (.istore_n 3, 1) := by decide +kernel
theorem d_Desk_taxOf_10 : decode Y_Desk_taxOf.2.1 10 = .ok (.iload_n 2, 1) := by decide +kernel
theorem d_Desk_taxOf_11 : decode Y_Desk_taxOf.2.1 11 = .ok (.aload_n 0, 1) := by decide +kernel
theorem d_Desk_taxOf_12 : decode Y_Desk_taxOf.2.1 12 = .ok (.getfield 22, 3) := by decide +kernel
theorem d_Desk_taxOf_15 : decode Y_Desk_taxOf.2.1 15 = .ok (.getfield 33, 3) := by decide +kernel
theorem d_Desk_taxOf_18 : decode Y_Desk_taxOf.2.1 18 = .ok (.iload_n 1, 1) := by decide +kernel
theorem d_Desk_taxOf_19 : decode Y_Desk_taxOf.2.1 19 = .ok (.iaload, 1) := by decide +kernel
theorem d_Desk_taxOf_20 : decode Y_Desk_taxOf.2.1 20 = .ok (.if_icmp .eq 13, 3) := by decide +kernel
theorem d_Desk_taxOf_23 : decode Y_Desk_taxOf.2.1 23 = .ok (.iload_n 3, 1) := by decide +kernel
theorem d_Desk_taxOf_24 : decode Y_Desk_taxOf.2.1 24 = .ok (.iconst 1, 1) := by decide +kernel
theorem d_Desk_taxOf_25 : decode Y_Desk_taxOf.2.1 25 = .ok (.if_icmp .eq 8, 3) := by decide +kernel
theorem d_Desk_taxOf_28 : decode Y_Desk_taxOf.2.1 28 = .ok (.iload_n 3, 1) := by decide +kernel
theorem d_Desk_taxOf_29 : decode Y_Desk_taxOf.2.1 29 = .ok (.iconst 2, 1) := by decide +kernel
theorem d_Desk_taxOf_30 : decode Y_Desk_taxOf.2.1 30 = .ok (.if_icmp .ne 5, 3) := by decide +kernel
theorem d_Desk_taxOf_33 : decode Y_Desk_taxOf.2.1 33 = .ok (.iconst 0, 1) := by decide +kernel
theorem d_Desk_taxOf_34 : decode Y_Desk_taxOf.2.1 34 = .ok (.ireturn, 1) := by decide +kernel
theorem d_Desk_taxOf_35 : decode Y_Desk_taxOf.2.1 35 = .ok (.aload_n 0, 1) := by decide +kernel
theorem d_Desk_taxOf_36 : decode Y_Desk_taxOf.2.1 36 = .ok (.getfield 9, 3) := by decide +kernel
theorem d_Desk_taxOf_39 : decode Y_Desk_taxOf.2.1 39 = .ok (.iconst (-1), 1) := by decide +kernel
theorem d_Desk_taxOf_40 : decode Y_Desk_taxOf.2.1 40 = .ok (.if_icmp .ne 23, 3) := by decide +kernel
theorem d_Desk_taxOf_43 : decode Y_Desk_taxOf.2.1 43 = .ok (.aload_n 0, 1) := by decide +kernel
theorem d_Desk_taxOf_44 : decode Y_Desk_taxOf.2.1 44 = .ok (.getfield 18, 3) := by decide +kernel
theorem d_Desk_taxOf_47 : decode Y_Desk_taxOf.2.1 47 = .ok (.aload_n 0, 1) := by decide +kernel
theorem d_Desk_taxOf_48 : decode Y_Desk_taxOf.2.1 48 = .ok (.getfield 22, 3) := by decide +kernel
theorem d_Desk_taxOf_51 : decode Y_Desk_taxOf.2.1 51 = .ok (.getfield 33, 3) := by decide +kernel
theorem d_Desk_taxOf_54 : decode Y_Desk_taxOf.2.1 54 = .ok (.iload_n 1, 1) := by decide +kernel
theorem d_Desk_taxOf_55 : decode Y_Desk_taxOf.2.1 55 = .ok (.iaload, 1) := by decide +kernel
theorem d_Desk_taxOf_56 : decode Y_Desk_taxOf.2.1 56 = .ok (.iload_n 2, 1) := by decide +kernel
theorem d_Desk_taxOf_57 : decode Y_Desk_taxOf.2.1 57 = .ok (.invokevirtual 38, 3) := by decide +kernel
theorem d_Desk_taxOf_60 : decode Y_Desk_taxOf.2.1 60 = .ok (.goto 7, 3) := by decide +kernel
theorem d_Desk_taxOf_63 : decode Y_Desk_taxOf.2.1 63 = .ok (.aload_n 0, 1) := by decide +kernel
theorem d_Desk_taxOf_64 : decode Y_Desk_taxOf.2.1 64 = .ok (.getfield 9, 3) := by decide +kernel
theorem d_Desk_taxOf_67 : decode Y_Desk_taxOf.2.1 67 = .ok (.istore 4, 2) := by decide +kernel
theorem d_Desk_taxOf_69 : decode Y_Desk_taxOf.2.1 69 = .ok (.aload_n 0, 1) := by decide +kernel
theorem d_Desk_taxOf_70 : decode Y_Desk_taxOf.2.1 70 = .ok (.getfield 22, 3) := by decide +kernel
theorem d_Desk_taxOf_73 : decode Y_Desk_taxOf.2.1 73 = .ok (.getfield 42, 3) := by decide +kernel
theorem d_Desk_taxOf_76 : decode Y_Desk_taxOf.2.1 76 = .ok (.iload_n 1, 1) := by decide +kernel
theorem d_Desk_taxOf_77 : decode Y_Desk_taxOf.2.1 77 = .ok (.iaload, 1) := by decide +kernel
theorem d_Desk_taxOf_78 : decode Y_Desk_taxOf.2.1 78 = .ok (.ifCond .le 36, 3) := by decide +kernel
theorem d_Desk_taxOf_81 : decode Y_Desk_taxOf.2.1 81 = .ok (.aload_n 0, 1) := by decide +kernel
theorem d_Desk_taxOf_82 : decode Y_Desk_taxOf.2.1 82 = .ok (.getfield 22, 3) := by decide +kernel
theorem d_Desk_taxOf_85 : decode Y_Desk_taxOf.2.1 85 = .ok (.getfield 45, 3) := by decide +kernel
theorem d_Desk_taxOf_88 : decode Y_Desk_taxOf.2.1 88 = .ok (.aload_n 0, 1) := by decide +kernel
theorem d_Desk_taxOf_89 : decode Y_Desk_taxOf.2.1 89 = .ok (.getfield 22, 3) := by decide +kernel
theorem d_Desk_taxOf_92 : decode Y_Desk_taxOf.2.1 92 = .ok (.getfield 48, 3) := by decide +kernel
theorem d_Desk_taxOf_95 : decode Y_Desk_taxOf.2.1 95 = .ok (.iload_n 1, 1) := by decide +kernel
theorem d_Desk_taxOf_96 : decode Y_Desk_taxOf.2.1 96 = .ok (.iaload, 1) := by decide +kernel
theorem d_Desk_taxOf_97 : decode Y_Desk_taxOf.2.1 97 = .ok (.isub, 1) := by decide +kernel
theorem d_Desk_taxOf_98 : decode Y_Desk_taxOf.2.1 98 = .ok (.aload_n 0, 1) := by decide +kernel
theorem d_Desk_taxOf_99 : decode Y_Desk_taxOf.2.1 99 = .ok (.getfield 18, 3) := by decide +kernel
theorem d_Desk_taxOf_102 : decode Y_Desk_taxOf.2.1 102 = .ok (.getfield 51, 3) := by decide +kernel
theorem d_Desk_taxOf_105 : decode Y_Desk_taxOf.2.1 105 = .ok (.if_icmp .ge 9, 3) := by decide +kernel
theorem d_Desk_taxOf_108 : decode Y_Desk_taxOf.2.1 108 = .ok (.iload 4, 2) := by decide +kernel
theorem d_Desk_taxOf_110 : decode Y_Desk_taxOf.2.1 110 = .ok (.iconst 2, 1) := by decide +kernel
theorem d_Desk_taxOf_111 : decode Y_Desk_taxOf.2.1 111 = .ok (.imul, 1) := by decide +kernel
theorem d_Desk_taxOf_112 : decode Y_Desk_taxOf.2.1 112 = .ok (.istore 4, 2) := by decide +kernel
theorem d_Desk_taxOf_114 : decode Y_Desk_taxOf.2.1 114 = .ok (.aload_n 0, 1) := by decide +kernel
theorem d_Desk_taxOf_115 : decode Y_Desk_taxOf.2.1 115 = .ok (.getfield 22, 3) := by decide +kernel
theorem d_Desk_taxOf_118 : decode Y_Desk_taxOf.2.1 118 = .ok (.getfield 42, 3) := by decide +kernel
theorem d_Desk_taxOf_121 : decode Y_Desk_taxOf.2.1 121 = .ok (.iload_n 1, 1) := by decide +kernel
theorem d_Desk_taxOf_122 : decode Y_Desk_taxOf.2.1 122 = .ok (.iaload, 1) := by decide +kernel
theorem d_Desk_taxOf_123 : decode Y_Desk_taxOf.2.1 123 = .ok (.iconst 2, 1) := by decide +kernel
theorem d_Desk_taxOf_124 : decode Y_Desk_taxOf.2.1 124 = .ok (.if_icmp .lt 12, 3) := by decide +kernel
theorem d_Desk_taxOf_127 : decode Y_Desk_taxOf.2.1 127 = .ok (.iload 4, 2) := by decide +kernel
theorem d_Desk_taxOf_129 : decode Y_Desk_taxOf.2.1 129 = .ok (.aload_n 0, 1) := by decide +kernel
theorem d_Desk_taxOf_130 : decode Y_Desk_taxOf.2.1 130 = .ok (.getfield 15, 3) := by decide +kernel
theorem d_Desk_taxOf_133 : decode Y_Desk_taxOf.2.1 133 = .ok (.imul, 1) := by decide +kernel
theorem d_Desk_taxOf_134 : decode Y_Desk_taxOf.2.1 134 = .ok (.istore 4, 2) := by decide +kernel
theorem d_Desk_taxOf_136 : decode Y_Desk_taxOf.2.1 136 = .ok (.iload_n 2, 1) := by decide +kernel
theorem d_Desk_taxOf_137 : decode Y_Desk_taxOf.2.1 137 = .ok (.aload_n 0, 1) := by decide +kernel
theorem d_Desk_taxOf_138 : decode Y_Desk_taxOf.2.1 138 = .ok (.getfield 18, 3) := by decide +kernel
theorem d_Desk_taxOf_141 : decode Y_Desk_taxOf.2.1 141 = .ok (.getfield 54, 3) := by decide +kernel
theorem d_Desk_taxOf_144 : decode Y_Desk_taxOf.2.1 144 = .ok (.iload_n 1, 1) := by decide +kernel
theorem d_Desk_taxOf_145 : decode Y_Desk_taxOf.2.1 145 = .ok (.iaload, 1) := by decide +kernel
theorem d_Desk_taxOf_146 : decode Y_Desk_taxOf.2.1 146 = .ok (.if_icmp .ne 9, 3) := by decide +kernel
theorem d_Desk_taxOf_149 : decode Y_Desk_taxOf.2.1 149 = .ok (.iload 4, 2) := by decide +kernel
theorem d_Desk_taxOf_151 : decode Y_Desk_taxOf.2.1 151 = .ok (.iconst 2, 1) := by decide +kernel
theorem d_Desk_taxOf_152 : decode Y_Desk_taxOf.2.1 152 = .ok (.idiv, 1) := by decide +kernel
theorem d_Desk_taxOf_153 : decode Y_Desk_taxOf.2.1 153 = .ok (.istore 4, 2) := by decide +kernel
theorem d_Desk_taxOf_155 : decode Y_Desk_taxOf.2.1 155 = .ok (.iload_n 3, 1) := by decide +kernel
theorem d_Desk_taxOf_156 : decode Y_Desk_taxOf.2.1 156 = .ok (.iconst 3, 1) := by decide +kernel
theorem d_Desk_taxOf_157 : decode Y_Desk_taxOf.2.1 157 = .ok (.if_icmp .ne 10, 3) := by decide +kernel
theorem d_Desk_taxOf_160 : decode Y_Desk_taxOf.2.1 160 = .ok (.iconst 2, 1) := by decide +kernel
theorem d_Desk_taxOf_161 : decode Y_Desk_taxOf.2.1 161 = .ok (.iload 4, 2) := by decide +kernel
theorem d_Desk_taxOf_163 : decode Y_Desk_taxOf.2.1 163 = .ok (.imul, 1) := by decide +kernel
theorem d_Desk_taxOf_164 : decode Y_Desk_taxOf.2.1 164 = .ok (.goto 5, 3) := by decide +kernel
theorem d_Desk_taxOf_167 : decode Y_Desk_taxOf.2.1 167 = .ok (.iload 4, 2) := by decide +kernel
theorem d_Desk_taxOf_169 : decode Y_Desk_taxOf.2.1 169 = .ok (.ireturn, 1) := by decide +kernel
def f_Desk_taxOf (h : PH) (a0 : Option Nat) (a1 : Int32) (a2 : Int32) : Option Int32 := (gR h 0 a0 0).bind fun v1 => (gR h 1 v1 6).bind fun v2 => (aI h v2 a1).bind fun v3 => (gR h 0 a0 1).bind fun v4 => (gR h 2 v4 3).bind fun v5 => (aI h v5 a1).bind fun v6 => if a2 = v6 then (some (0 : Int32)) else (if v3 = (1 : Int32) then (some (0 : Int32)) else (if ¬ v3 = (2 : Int32) then ((gI h 0 a0 2).bind fun v7 => (if ¬ v7 = (-1 : Int32) then ((gI h 0 a0 2).bind fun v9 => some v9) else ((gR h 0 a0 0).bind fun v10 => (gR h 0 a0 1).bind fun v11 => (gR h 2 v11 3).bind fun v12 => (aI h v12 a1).bind fun v13 => (cl h 1 v10 (f_Law_apart h v10 v13 a2)).bind fun v14 => some v14) : Option (Int32)).bind fun j8 => (gR h 0 a0 1).bind fun v15 => (gR h 2 v15 4).bind fun v16 => (aI h v16 a1).bind fun v17 => (if v17 ≤ 0 then (some j8) else ((gR h 0 a0 1).bind fun v19 => (gI h 2 v19 0).bind fun v20 => (gR h 0 a0 1).bind fun v21 => (gR h 2 v21 6).bind fun v22 => (aI h v22 a1).bind fun v23 => (gR h 0 a0 0).bind fun v24 => (gI h 1 v24 0).bind fun v25 => if v25 ≤ (v20 - v23) then (some j8) else (some (j8 * (2 : Int32)))) : Option (Int32)).bind fun j18 => (gR h 0 a0 1).bind fun v26 => (gR h 2 v26 4).bind fun v27 => (aI h v27 a1).bind fun v28 => (if v28 < (2 : Int32) then (some j18) else ((gI h 0 a0 3).bind fun v30 => some (j18 * v30)) : Option (Int32)).bind fun j29 => (gR h 0 a0 0).bind fun v31 => (gR h 1 v31 7).bind fun v32 => (aI h v32 a1).bind fun v33 => (if ¬ a2 = v33 then (some j29) else (if (2 : Int32) = 0 then none else (some (j29 / (2 : Int32)))) : Option (Int32)).bind fun j34 => if ¬ v3 = (3 : Int32) then (some j34) else (some ((2 : Int32) * j34))) else (some (0 : Int32))))
set_option maxRecDepth 20000 in
theorem PM_Desk_taxOf {l : Launch} {G : Cx} {h : PH} {a0 : Option Nat} {a1 : Int32} {a2 : Int32} {z : Int32} (hz : f_Desk_taxOf h a0 a1 a2 = some z) : PM l G 2 0 0 Y_Desk_taxOf [.inr (.inr a0), .inl a1, .inl a2] h (some (.inl z), h) := by
  refine PM.of (Y := Y_Desk_taxOf) (cv := (fun z : Int32 => (((some (.inl z), h) : Option PV × PH)))) (by decide) (L0 := [some (.inr (.inr a0)), some (.inl a1), some (.inl a2), none, none]) 2 rfl (Nat.le_of_ble_eq_true rfl) ?_ hz
  unfold f_Desk_taxOf
  refine PJ.aload_n (pc := 0) d_Desk_taxOf_0 rfl ?_
  refine PJ.getR (pc := 1) fs_Desk_18 d_Desk_taxOf_1 (fun v1 => ?_)
  refine PJ.getR (pc := 4) fs_Desk_29 d_Desk_taxOf_4 (fun v2 => ?_)
  refine PJ.iload_n (pc := 7) d_Desk_taxOf_7 rfl ?_
  refine PJ.iald (pc := 8) d_Desk_taxOf_8 (fun v3 => ?_)
  refine PJ.istore_n (pc := 9) (L1 := [some (.inr (.inr a0)), some (.inl a1), some (.inl a2), some (.inl v3), none]) d_Desk_taxOf_9 (Nat.le_of_ble_eq_true rfl) rfl rfl ?_
  refine PJ.iload_n (pc := 10) d_Desk_taxOf_10 rfl ?_
  refine PJ.aload_n (pc := 11) d_Desk_taxOf_11 rfl ?_
  refine PJ.getR (pc := 12) fs_Desk_22 d_Desk_taxOf_12 (fun v4 => ?_)
  refine PJ.getR (pc := 15) fs_Desk_33 d_Desk_taxOf_15 (fun v5 => ?_)
  refine PJ.iload_n (pc := 18) d_Desk_taxOf_18 rfl ?_
  refine PJ.iald (pc := 19) d_Desk_taxOf_19 (fun v6 => ?_)
  refine PJ.icmp_eq (pc := 20) (tgt := 33) d_Desk_taxOf_20 (by decide) (fun _ => ?_) (fun _ => ?_)
  · refine PJ.iconst (pc := 33) (v := 0) d_Desk_taxOf_33 (by decide) ?_
    exact PJ.iretp (pc := 34) d_Desk_taxOf_34 rfl (Nat.le_of_ble_eq_true rfl) (Nat.le_of_ble_eq_true rfl)
  · refine PJ.iload_n (pc := 23) d_Desk_taxOf_23 rfl ?_
    refine PJ.iconst (pc := 24) (v := 1) d_Desk_taxOf_24 (by decide) ?_
    refine PJ.icmp_eq (pc := 25) (tgt := 33) d_Desk_taxOf_25 (by decide) (fun _ => ?_) (fun _ => ?_)
    · refine PJ.iconst (pc := 33) (v := 0) d_Desk_taxOf_33 (by decide) ?_
      exact PJ.iretp (pc := 34) d_Desk_taxOf_34 rfl (Nat.le_of_ble_eq_true rfl) (Nat.le_of_ble_eq_true rfl)
    · refine PJ.iload_n (pc := 28) d_Desk_taxOf_28 rfl ?_
      refine PJ.iconst (pc := 29) (v := 2) d_Desk_taxOf_29 (by decide) ?_
      refine PJ.icmp_ne (pc := 30) (tgt := 35) d_Desk_taxOf_30 (by decide) (fun _ => ?_) (fun _ => ?_)
      · refine PJ.aload_n (pc := 35) d_Desk_taxOf_35 rfl ?_
        refine PJ.getI (pc := 36) fs_Desk_9 d_Desk_taxOf_36 (fun v7 => ?_)
        refine PJ.iconst (pc := 39) (v := -1) d_Desk_taxOf_39 (by decide) ?_
        refine PJ.bind (fun j8 : Int32 => ((67 : Nat), ([some (.inr (.inr a0)), some (.inl a1), some (.inl a2), some (.inl v3), none] : List (Option PV)), ([.inl j8] : List PV), (h : PH), (0 : Nat), (0 : Nat))) ?_ (fun j8 => ?_)
        · refine PJ.icmp_ne (pc := 40) (tgt := 63) d_Desk_taxOf_40 (by decide) (fun _ => ?_) (fun _ => ?_)
          · refine PJ.aload_n (pc := 63) d_Desk_taxOf_63 rfl ?_
            refine PJ.getI (pc := 64) fs_Desk_9 d_Desk_taxOf_64 (fun v9 => ?_)
            exact PJ.done rfl
          · refine PJ.aload_n (pc := 43) d_Desk_taxOf_43 rfl ?_
            refine PJ.getR (pc := 44) fs_Desk_18 d_Desk_taxOf_44 (fun v10 => ?_)
            refine PJ.aload_n (pc := 47) d_Desk_taxOf_47 rfl ?_
            refine PJ.getR (pc := 48) fs_Desk_22 d_Desk_taxOf_48 (fun v11 => ?_)
            refine PJ.getR (pc := 51) fs_Desk_33 d_Desk_taxOf_51 (fun v12 => ?_)
            refine PJ.iload_n (pc := 54) d_Desk_taxOf_54 rfl ?_
            refine PJ.iald (pc := 55) d_Desk_taxOf_55 (fun v13 => ?_)
            refine PJ.iload_n (pc := 56) d_Desk_taxOf_56 rfl ?_
            refine PJ.cVpI (pc := 57) cs_Desk_38 (fun z hz => PM_Law_apart hz) (pj_fitb rfl) rfl rfl (Nat.le_of_ble_eq_true rfl) d_Desk_taxOf_57 (fun v14 => ?_)
            refine PJ.goto (pc := 60) (tgt := 67) d_Desk_taxOf_60 (by decide) ?_
            exact PJ.done rfl
        · show PJ l G (pj_rm 2 0 0) Y_Desk_taxOf 67 [some (.inr (.inr a0)), some (.inl a1), some (.inl a2), some (.inl v3), none] [.inl j8] h 0 0 _ _
          refine PJ.istore (pc := 67) (L1 := [some (.inr (.inr a0)), some (.inl a1), some (.inl a2), some (.inl v3), some (.inl j8)]) d_Desk_taxOf_67 (Nat.le_of_ble_eq_true rfl) rfl rfl ?_
          refine PJ.aload_n (pc := 69) d_Desk_taxOf_69 rfl ?_
          refine PJ.getR (pc := 70) fs_Desk_22 d_Desk_taxOf_70 (fun v15 => ?_)
          refine PJ.getR (pc := 73) fs_Desk_42 d_Desk_taxOf_73 (fun v16 => ?_)
          refine PJ.iload_n (pc := 76) d_Desk_taxOf_76 rfl ?_
          refine PJ.iald (pc := 77) d_Desk_taxOf_77 (fun v17 => ?_)
          refine PJ.bind (fun j18 : Int32 => ((114 : Nat), ([some (.inr (.inr a0)), some (.inl a1), some (.inl a2), some (.inl v3), some (.inl j18)] : List (Option PV)), ([] : List PV), (h : PH), (0 : Nat), (0 : Nat))) ?_ (fun j18 => ?_)
          · refine PJ.if_le (pc := 78) (tgt := 114) d_Desk_taxOf_78 (by decide) (fun _ => ?_) (fun _ => ?_)
            · exact PJ.done rfl
            · refine PJ.aload_n (pc := 81) d_Desk_taxOf_81 rfl ?_
              refine PJ.getR (pc := 82) fs_Desk_22 d_Desk_taxOf_82 (fun v19 => ?_)
              refine PJ.getI (pc := 85) fs_Desk_45 d_Desk_taxOf_85 (fun v20 => ?_)
              refine PJ.aload_n (pc := 88) d_Desk_taxOf_88 rfl ?_
              refine PJ.getR (pc := 89) fs_Desk_22 d_Desk_taxOf_89 (fun v21 => ?_)
              refine PJ.getR (pc := 92) fs_Desk_48 d_Desk_taxOf_92 (fun v22 => ?_)
              refine PJ.iload_n (pc := 95) d_Desk_taxOf_95 rfl ?_
              refine PJ.iald (pc := 96) d_Desk_taxOf_96 (fun v23 => ?_)
              refine PJ.isub (pc := 97) d_Desk_taxOf_97 ?_
              refine PJ.aload_n (pc := 98) d_Desk_taxOf_98 rfl ?_
              refine PJ.getR (pc := 99) fs_Desk_18 d_Desk_taxOf_99 (fun v24 => ?_)
              refine PJ.getI (pc := 102) fs_Desk_51 d_Desk_taxOf_102 (fun v25 => ?_)
              refine PJ.icmp_ge (pc := 105) (tgt := 114) d_Desk_taxOf_105 (by decide) (fun _ => ?_) (fun _ => ?_)
              · exact PJ.done rfl
              · refine PJ.iload (pc := 108) d_Desk_taxOf_108 rfl ?_
                refine PJ.iconst (pc := 110) (v := 2) d_Desk_taxOf_110 (by decide) ?_
                refine PJ.imul (pc := 111) d_Desk_taxOf_111 ?_
                refine PJ.istore (pc := 112) (L1 := [some (.inr (.inr a0)), some (.inl a1), some (.inl a2), some (.inl v3), some (.inl (j8 * (2 : Int32)))]) d_Desk_taxOf_112 (Nat.le_of_ble_eq_true rfl) rfl rfl ?_
                exact PJ.done rfl
          · show PJ l G (pj_rm 2 0 0) Y_Desk_taxOf 114 [some (.inr (.inr a0)), some (.inl a1), some (.inl a2), some (.inl v3), some (.inl j18)] [] h 0 0 _ _
            refine PJ.aload_n (pc := 114) d_Desk_taxOf_114 rfl ?_
            refine PJ.getR (pc := 115) fs_Desk_22 d_Desk_taxOf_115 (fun v26 => ?_)
            refine PJ.getR (pc := 118) fs_Desk_42 d_Desk_taxOf_118 (fun v27 => ?_)
            refine PJ.iload_n (pc := 121) d_Desk_taxOf_121 rfl ?_
            refine PJ.iald (pc := 122) d_Desk_taxOf_122 (fun v28 => ?_)
            refine PJ.iconst (pc := 123) (v := 2) d_Desk_taxOf_123 (by decide) ?_
            refine PJ.bind (fun j29 : Int32 => ((136 : Nat), ([some (.inr (.inr a0)), some (.inl a1), some (.inl a2), some (.inl v3), some (.inl j29)] : List (Option PV)), ([] : List PV), (h : PH), (0 : Nat), (0 : Nat))) ?_ (fun j29 => ?_)
            · refine PJ.icmp_lt (pc := 124) (tgt := 136) d_Desk_taxOf_124 (by decide) (fun _ => ?_) (fun _ => ?_)
              · exact PJ.done rfl
              · refine PJ.iload (pc := 127) d_Desk_taxOf_127 rfl ?_
                refine PJ.aload_n (pc := 129) d_Desk_taxOf_129 rfl ?_
                refine PJ.getI (pc := 130) fs_Desk_15 d_Desk_taxOf_130 (fun v30 => ?_)
                refine PJ.imul (pc := 133) d_Desk_taxOf_133 ?_
                refine PJ.istore (pc := 134) (L1 := [some (.inr (.inr a0)), some (.inl a1), some (.inl a2), some (.inl v3), some (.inl (j18 * v30))]) d_Desk_taxOf_134 (Nat.le_of_ble_eq_true rfl) rfl rfl ?_
                exact PJ.done rfl
            · show PJ l G (pj_rm 2 0 0) Y_Desk_taxOf 136 [some (.inr (.inr a0)), some (.inl a1), some (.inl a2), some (.inl v3), some (.inl j29)] [] h 0 0 _ _
              refine PJ.iload_n (pc := 136) d_Desk_taxOf_136 rfl ?_
              refine PJ.aload_n (pc := 137) d_Desk_taxOf_137 rfl ?_
              refine PJ.getR (pc := 138) fs_Desk_18 d_Desk_taxOf_138 (fun v31 => ?_)
              refine PJ.getR (pc := 141) fs_Desk_54 d_Desk_taxOf_141 (fun v32 => ?_)
              refine PJ.iload_n (pc := 144) d_Desk_taxOf_144 rfl ?_
              refine PJ.iald (pc := 145) d_Desk_taxOf_145 (fun v33 => ?_)
              refine PJ.bind (fun j34 : Int32 => ((155 : Nat), ([none, none, none, some (.inl v3), some (.inl j34)] : List (Option PV)), ([] : List PV), (h : PH), (0 : Nat), (0 : Nat))) ?_ (fun j34 => ?_)
              · refine PJ.icmp_ne (pc := 146) (tgt := 155) d_Desk_taxOf_146 (by decide) (fun _ => ?_) (fun _ => ?_)
                · refine PJ.mk (L1 := [none, none, none, some (.inl v3), some (.inl j29)]) [false, false, false, true, true] rfl ?_
                  exact PJ.done rfl
                · refine PJ.iload (pc := 149) d_Desk_taxOf_149 rfl ?_
                  refine PJ.iconst (pc := 151) (v := 2) d_Desk_taxOf_151 (by decide) ?_
                  refine PJ.idiv (pc := 152) d_Desk_taxOf_152 (fun _ => ?_)
                  refine PJ.istore (pc := 153) (L1 := [some (.inr (.inr a0)), some (.inl a1), some (.inl a2), some (.inl v3), some (.inl (j29 / (2 : Int32)))]) d_Desk_taxOf_153 (Nat.le_of_ble_eq_true rfl) rfl rfl ?_
                  refine PJ.mk (L1 := [none, none, none, some (.inl v3), some (.inl (j29 / (2 : Int32)))]) [false, false, false, true, true] rfl ?_
                  exact PJ.done rfl
              · show PJ l G (pj_rm 2 0 0) Y_Desk_taxOf 155 [none, none, none, some (.inl v3), some (.inl j34)] [] h 0 0 _ _
                refine PJ.iload_n (pc := 155) d_Desk_taxOf_155 rfl ?_
                refine PJ.iconst (pc := 156) (v := 3) d_Desk_taxOf_156 (by decide) ?_
                refine PJ.icmp_ne (pc := 157) (tgt := 167) d_Desk_taxOf_157 (by decide) (fun _ => ?_) (fun _ => ?_)
                · refine PJ.iload (pc := 167) d_Desk_taxOf_167 rfl ?_
                  exact PJ.iretp (pc := 169) d_Desk_taxOf_169 rfl (Nat.le_of_ble_eq_true rfl) (Nat.le_of_ble_eq_true rfl)
                · refine PJ.iconst (pc := 160) (v := 2) d_Desk_taxOf_160 (by decide) ?_
                  refine PJ.iload (pc := 161) d_Desk_taxOf_161 rfl ?_
                  refine PJ.imul (pc := 163) d_Desk_taxOf_163 ?_
                  refine PJ.goto (pc := 164) (tgt := 169) d_Desk_taxOf_164 (by decide) ?_
                  exact PJ.iretp (pc := 169) d_Desk_taxOf_169 rfl (Nat.le_of_ble_eq_true rfl) (Nat.le_of_ble_eq_true rfl)
      · refine PJ.iconst (pc := 33) (v := 0) d_Desk_taxOf_33 (by decide) ?_
        exact PJ.iretp (pc := 34) d_Desk_taxOf_34 rfl (Nat.le_of_ble_eq_true rfl) (Nat.le_of_ble_eq_true rfl)
theorem d_Desk_worthOf_0 : decode Y_Desk_worthOf.2.1 0 = .ok (.aload_n 0, 1) := by decide +kernel
theorem d_Desk_worthOf_1 : decode Y_Desk_worthOf.2.1 1 = .ok (.getfield 18, 3) := by decide +kernel
theorem d_Desk_worthOf_4 : decode Y_Desk_worthOf.2.1 4 = .ok (.getfield 57, 3) := by decide +kernel
theorem d_Desk_worthOf_7 : decode Y_Desk_worthOf.2.1 7 = .ok (.astore_n 3, 1) := by decide +kernel
theorem d_Desk_worthOf_8 : decode Y_Desk_worthOf.2.1 8 = .ok (.aload_n 0, 1) := by decide +kernel
theorem d_Desk_worthOf_9 : decode Y_Desk_worthOf.2.1 9 = .ok (.getfield 18, 3) := by decide +kernel
theorem d_Desk_worthOf_12 : decode Y_Desk_worthOf.2.1 12 = .ok (.getfield 61, 3) := by decide +kernel
theorem d_Desk_worthOf_15 : decode Y_Desk_worthOf.2.1 15 = .ok (.iload_n 1, 1) := by decide +kernel
theorem d_Desk_worthOf_16 : decode Y_Desk_worthOf.2.1 16 = .ok (.aaload, 1) := by decide +kernel
theorem d_Desk_worthOf_17 : decode Y_Desk_worthOf.2.1 17 = .ok (.iload_n 2, 1) := by decide +kernel
theorem d_Desk_worthOf_18 : decode Y_Desk_worthOf.2.1 18 = .ok (.iaload, 1) := by decide +kernel
theorem d_Desk_worthOf_19 : decode Y_Desk_worthOf.2.1 19 = .ok (.istore 4, 2) := by decide +kernel
theorem d_Desk_worthOf_21 : decode Y_Desk_worthOf.2.1 21 = .ok (.iconst 0, 1) := by decide +kernel
theorem d_Desk_worthOf_22 : decode Y_Desk_worthOf.2.1 22 = .ok (.istore 5, 2) := by decide +kernel
theorem d_Desk_worthOf_24 : decode Y_Desk_worthOf.2.1 24 = .ok (.iload 5, 2) := by decide +kernel
theorem d_Desk_worthOf_26 : decode Y_Desk_worthOf.2.1 26 = .ok (.aload_n 3, 1) := by decide +kernel
theorem d_Desk_worthOf_27 : decode Y_Desk_worthOf.2.1 27 = .ok (.getfield 65, 3) := by decide +kernel
theorem d_Desk_worthOf_30 : decode Y_Desk_worthOf.2.1 30 = .ok (.if_icmp .ge 55, 3) := by decide +kernel
theorem d_Desk_worthOf_33 : decode Y_Desk_worthOf.2.1 33 = .ok (.aload_n 3, 1) := by decide +kernel
theorem d_Desk_worthOf_34 : decode Y_Desk_worthOf.2.1 34 = .ok (.getfield 70, 3) := by decide +kernel
theorem d_Desk_worthOf_37 : decode Y_Desk_worthOf.2.1 37 = .ok (.iload 5, 2) := by decide +kernel
theorem d_Desk_worthOf_39 : decode Y_Desk_worthOf.2.1 39 = .ok (.iaload, 1) := by decide +kernel
theorem d_Desk_worthOf_40 : decode Y_Desk_worthOf.2.1 40 = .ok (.iload_n 1, 1) := by decide +kernel
theorem d_Desk_worthOf_41 : decode Y_Desk_worthOf.2.1 41 = .ok (.if_icmp .ne 38, 3) := by decide +kernel
theorem d_Desk_worthOf_44 : decode Y_Desk_worthOf.2.1 44 = .ok (.aload_n 3, 1) := by decide +kernel
theorem d_Desk_worthOf_45 : decode Y_Desk_worthOf.2.1 45 = .ok (.getfield 73, 3) := by decide +kernel
theorem d_Desk_worthOf_48 : decode Y_Desk_worthOf.2.1 48 = .ok (.iload 5, 2) := by decide +kernel
theorem d_Desk_worthOf_50 : decode Y_Desk_worthOf.2.1 50 = .ok (.iaload, 1) := by decide +kernel
theorem d_Desk_worthOf_51 : decode Y_Desk_worthOf.2.1 51 = .ok (.iload_n 2, 1) := by decide +kernel
theorem d_Desk_worthOf_52 : decode Y_Desk_worthOf.2.1 52 = .ok (.if_icmp .ne 27, 3) := by decide +kernel
theorem d_Desk_worthOf_55 : decode Y_Desk_worthOf.2.1 55 = .ok (.aload_n 0, 1) := by decide +kernel
theorem d_Desk_worthOf_56 : decode Y_Desk_worthOf.2.1 56 = .ok (.getfield 22, 3) := by decide +kernel
theorem d_Desk_worthOf_59 : decode Y_Desk_worthOf.2.1 59 = .ok (.iload 5, 2) := by decide +kernel
theorem d_Desk_worthOf_61 : decode Y_Desk_worthOf.2.1 61 = .ok (.invokevirtual 76, 3) := by decide +kernel
theorem d_Desk_worthOf_64 : decode Y_Desk_worthOf.2.1 64 = .ok (.ifCond .eq 15, 3) := by decide +kernel
theorem d_Desk_worthOf_67 : decode Y_Desk_worthOf.2.1 67 = .ok (.iload 4, 2) := by decide +kernel
theorem d_Desk_worthOf_69 : decode Y_Desk_worthOf.2.1 69 = .ok (.aload_n 3, 1) := by decide +kernel
theorem d_Desk_worthOf_70 : decode Y_Desk_worthOf.2.1 70 = .ok (.getfield 80, 3) := by decide +kernel
theorem d_Desk_worthOf_73 : decode Y_Desk_worthOf.2.1 73 = .ok (.iload 5, 2) := by decide +kernel
theorem d_Desk_worthOf_75 : decode Y_Desk_worthOf.2.1 75 = .ok (.iaload, 1) := by decide +kernel
theorem d_Desk_worthOf_76 : decode Y_Desk_worthOf.2.1 76 = .ok (.iadd, 1) := by decide +kernel
theorem d_Desk_worthOf_77 : decode Y_Desk_worthOf.2.1 77 = .ok (.istore 4, 2) := by decide +kernel
theorem d_Desk_worthOf_79 : decode Y_Desk_worthOf.2.1 79 = .ok (.iinc 5 1, 3) := by decide +kernel
theorem d_Desk_worthOf_82 : decode Y_Desk_worthOf.2.1 82 = .ok (.goto (-58), 3) := by decide +kernel
theorem d_Desk_worthOf_85 : decode Y_Desk_worthOf.2.1 85 = .ok (.iload 4, 2) := by decide +kernel
theorem d_Desk_worthOf_87 : decode Y_Desk_worthOf.2.1 87 = .ok (.ireturn, 1) := by decide +kernel
def f_Desk_worthOf (h : PH) (a0 : Option Nat) (a1 : Int32) (a2 : Int32) : Option Int32 := (gR h 0 a0 0).bind fun v1 => (gR h 1 v1 10).bind fun v2 => (gR h 0 a0 0).bind fun v3 => (gR h 1 v3 8).bind fun v4 => (aR h 53 v4 a1).bind fun v5 => (aI h v5 a2).bind fun v6 => (pj_it (X := Int32) (fun s7 : Int32 × Int32 => (gI h 6 v2 0).bind fun v9 => if v9 ≤ s7.2 then (some (.inr s7.1)) else ((gR h 6 v2 1).bind fun v10 => (aI h v10 s7.2).bind fun v11 => if ¬ v11 = a1 then (some (.inl (s7.1, (s7.2 + (1 : Int32))))) else ((gR h 6 v2 2).bind fun v12 => (aI h v12 s7.2).bind fun v13 => if ¬ v13 = a2 then (some (.inl (s7.1, (s7.2 + (1 : Int32))))) else ((gR h 0 a0 1).bind fun v14 => (cl h 2 v14 (f_Now_hasCome h v14 s7.2)).bind fun v15 => if v15 = 0 then (some (.inl (s7.1, (s7.2 + (1 : Int32))))) else ((gR h 6 v2 5).bind fun v16 => (aI h v16 s7.2).bind fun v17 => some (.inl ((s7.1 + v17), (s7.2 + (1 : Int32))))))))) FU (v6, (0 : Int32))).bind fun x8 => some x8
set_option maxRecDepth 20000 in
theorem PM_Desk_worthOf {l : Launch} {G : Cx} {h : PH} {a0 : Option Nat} {a1 : Int32} {a2 : Int32} {z : Int32} (hz : f_Desk_worthOf h a0 a1 a2 = some z) : PM l G 2 0 0 Y_Desk_worthOf [.inr (.inr a0), .inl a1, .inl a2] h (some (.inl z), h) := by
  refine PM.of (Y := Y_Desk_worthOf) (cv := (fun z : Int32 => (((some (.inl z), h) : Option PV × PH)))) (by decide) (L0 := [some (.inr (.inr a0)), some (.inl a1), some (.inl a2), none, none, none]) 3 rfl (Nat.le_of_ble_eq_true rfl) ?_ hz
  unfold f_Desk_worthOf
  refine PJ.aload_n (pc := 0) d_Desk_worthOf_0 rfl ?_
  refine PJ.getR (pc := 1) fs_Desk_18 d_Desk_worthOf_1 (fun v1 => ?_)
  refine PJ.getR (pc := 4) fs_Desk_57 d_Desk_worthOf_4 (fun v2 => ?_)
  refine PJ.astore_n (pc := 7) (L1 := [some (.inr (.inr a0)), some (.inl a1), some (.inl a2), some (.inr (.inr v2)), none, none]) d_Desk_worthOf_7 (Nat.le_of_ble_eq_true rfl) rfl rfl ?_
  refine PJ.aload_n (pc := 8) d_Desk_worthOf_8 rfl ?_
  refine PJ.getR (pc := 9) fs_Desk_18 d_Desk_worthOf_9 (fun v3 => ?_)
  refine PJ.getR (pc := 12) fs_Desk_61 d_Desk_worthOf_12 (fun v4 => ?_)
  refine PJ.iload_n (pc := 15) d_Desk_worthOf_15 rfl ?_
  refine PJ.aald (pc := 16) 53 (by decide) d_Desk_worthOf_16 (fun v5 => ?_)
  refine PJ.iload_n (pc := 17) d_Desk_worthOf_17 rfl ?_
  refine PJ.iald (pc := 18) d_Desk_worthOf_18 (fun v6 => ?_)
  refine PJ.istore (pc := 19) (L1 := [some (.inr (.inr a0)), some (.inl a1), some (.inl a2), some (.inr (.inr v2)), some (.inl v6), none]) d_Desk_worthOf_19 (Nat.le_of_ble_eq_true rfl) rfl rfl ?_
  refine PJ.iconst (pc := 21) (v := 0) d_Desk_worthOf_21 (by decide) ?_
  refine PJ.istore (pc := 22) (L1 := [some (.inr (.inr a0)), some (.inl a1), some (.inl a2), some (.inr (.inr v2)), some (.inl v6), some (.inl (0 : Int32))]) d_Desk_worthOf_22 (Nat.le_of_ble_eq_true rfl) rfl rfl ?_
  refine PJ.bind (fun x8 : Int32 => ((85 : Nat), ([some (.inr (.inr a0)), some (.inl a1), some (.inl a2), some (.inr (.inr v2)), some (.inl x8), none] : List (Option PV)), ([] : List PV), (h : PH), (0 : Nat), (0 : Nat))) (PJ.it (E := (fun s7 : Int32 × Int32 => ((24 : Nat), ([some (.inr (.inr a0)), some (.inl a1), some (.inl a2), some (.inr (.inr v2)), some (.inl s7.1), some (.inl s7.2)] : List (Option PV)), ([] : List PV), (h : PH), (0 : Nat), (0 : Nat)))) (F := (fun x8 : Int32 => ((85 : Nat), ([some (.inr (.inr a0)), some (.inl a1), some (.inl a2), some (.inr (.inr v2)), some (.inl x8), none] : List (Option PV)), ([] : List PV), (h : PH), (0 : Nat), (0 : Nat)))) (fun s7 => ?_) FU (v6, (0 : Int32))) (fun x8 => ?_)
  · show PJ l G (pj_rm 2 0 0) Y_Desk_worthOf 24 [some (.inr (.inr a0)), some (.inl a1), some (.inl a2), some (.inr (.inr v2)), some (.inl s7.1), some (.inl s7.2)] [] h 0 0 _ _
    refine PJ.iload (pc := 24) d_Desk_worthOf_24 rfl ?_
    refine PJ.aload_n (pc := 26) d_Desk_worthOf_26 rfl ?_
    refine PJ.getI (pc := 27) fs_Desk_65 d_Desk_worthOf_27 (fun v9 => ?_)
    refine PJ.icmp_ge (pc := 30) (tgt := 85) d_Desk_worthOf_30 (by decide) (fun _ => ?_) (fun _ => ?_)
    · refine PJ.mk (L1 := [some (.inr (.inr a0)), some (.inl a1), some (.inl a2), some (.inr (.inr v2)), some (.inl s7.1), none]) [true, true, true, true, true, false] rfl ?_
      exact PJ.done rfl
    · refine PJ.aload_n (pc := 33) d_Desk_worthOf_33 rfl ?_
      refine PJ.getR (pc := 34) fs_Desk_70 d_Desk_worthOf_34 (fun v10 => ?_)
      refine PJ.iload (pc := 37) d_Desk_worthOf_37 rfl ?_
      refine PJ.iald (pc := 39) d_Desk_worthOf_39 (fun v11 => ?_)
      refine PJ.iload_n (pc := 40) d_Desk_worthOf_40 rfl ?_
      refine PJ.icmp_ne (pc := 41) (tgt := 79) d_Desk_worthOf_41 (by decide) (fun _ => ?_) (fun _ => ?_)
      · refine PJ.iinc (pc := 79) (v := 1) (L1 := [some (.inr (.inr a0)), some (.inl a1), some (.inl a2), some (.inr (.inr v2)), some (.inl s7.1), some (.inl (s7.2 + (1 : Int32)))]) d_Desk_worthOf_79 rfl (by decide) (Nat.le_of_ble_eq_true rfl) rfl rfl ?_
        refine PJ.goto (pc := 82) (tgt := 24) d_Desk_worthOf_82 (by decide) ?_
        exact PJ.done rfl
      · refine PJ.aload_n (pc := 44) d_Desk_worthOf_44 rfl ?_
        refine PJ.getR (pc := 45) fs_Desk_73 d_Desk_worthOf_45 (fun v12 => ?_)
        refine PJ.iload (pc := 48) d_Desk_worthOf_48 rfl ?_
        refine PJ.iald (pc := 50) d_Desk_worthOf_50 (fun v13 => ?_)
        refine PJ.iload_n (pc := 51) d_Desk_worthOf_51 rfl ?_
        refine PJ.icmp_ne (pc := 52) (tgt := 79) d_Desk_worthOf_52 (by decide) (fun _ => ?_) (fun _ => ?_)
        · refine PJ.iinc (pc := 79) (v := 1) (L1 := [some (.inr (.inr a0)), some (.inl a1), some (.inl a2), some (.inr (.inr v2)), some (.inl s7.1), some (.inl (s7.2 + (1 : Int32)))]) d_Desk_worthOf_79 rfl (by decide) (Nat.le_of_ble_eq_true rfl) rfl rfl ?_
          refine PJ.goto (pc := 82) (tgt := 24) d_Desk_worthOf_82 (by decide) ?_
          exact PJ.done rfl
        · refine PJ.aload_n (pc := 55) d_Desk_worthOf_55 rfl ?_
          refine PJ.getR (pc := 56) fs_Desk_22 d_Desk_worthOf_56 (fun v14 => ?_)
          refine PJ.iload (pc := 59) d_Desk_worthOf_59 rfl ?_
          refine PJ.cVpI (pc := 61) cs_Desk_76 (fun z hz => PM_Now_hasCome hz) (pj_fitb rfl) rfl rfl (Nat.le_of_ble_eq_true rfl) d_Desk_worthOf_61 (fun v15 => ?_)
          refine PJ.if_eq (pc := 64) (tgt := 79) d_Desk_worthOf_64 (by decide) (fun _ => ?_) (fun _ => ?_)
          · refine PJ.iinc (pc := 79) (v := 1) (L1 := [some (.inr (.inr a0)), some (.inl a1), some (.inl a2), some (.inr (.inr v2)), some (.inl s7.1), some (.inl (s7.2 + (1 : Int32)))]) d_Desk_worthOf_79 rfl (by decide) (Nat.le_of_ble_eq_true rfl) rfl rfl ?_
            refine PJ.goto (pc := 82) (tgt := 24) d_Desk_worthOf_82 (by decide) ?_
            exact PJ.done rfl
          · refine PJ.iload (pc := 67) d_Desk_worthOf_67 rfl ?_
            refine PJ.aload_n (pc := 69) d_Desk_worthOf_69 rfl ?_
            refine PJ.getR (pc := 70) fs_Desk_80 d_Desk_worthOf_70 (fun v16 => ?_)
            refine PJ.iload (pc := 73) d_Desk_worthOf_73 rfl ?_
            refine PJ.iald (pc := 75) d_Desk_worthOf_75 (fun v17 => ?_)
            refine PJ.iadd (pc := 76) d_Desk_worthOf_76 ?_
            refine PJ.istore (pc := 77) (L1 := [some (.inr (.inr a0)), some (.inl a1), some (.inl a2), some (.inr (.inr v2)), some (.inl (s7.1 + v17)), some (.inl s7.2)]) d_Desk_worthOf_77 (Nat.le_of_ble_eq_true rfl) rfl rfl ?_
            refine PJ.iinc (pc := 79) (v := 1) (L1 := [some (.inr (.inr a0)), some (.inl a1), some (.inl a2), some (.inr (.inr v2)), some (.inl (s7.1 + v17)), some (.inl (s7.2 + (1 : Int32)))]) d_Desk_worthOf_79 rfl (by decide) (Nat.le_of_ble_eq_true rfl) rfl rfl ?_
            refine PJ.goto (pc := 82) (tgt := 24) d_Desk_worthOf_82 (by decide) ?_
            exact PJ.done rfl
  · show PJ l G (pj_rm 2 0 0) Y_Desk_worthOf 85 [some (.inr (.inr a0)), some (.inl a1), some (.inl a2), some (.inr (.inr v2)), some (.inl x8), none] [] h 0 0 _ _
    refine PJ.iload (pc := 85) d_Desk_worthOf_85 rfl ?_
    exact PJ.iretp (pc := 87) d_Desk_worthOf_87 rfl (Nat.le_of_ble_eq_true rfl) (Nat.le_of_ble_eq_true rfl)
theorem d_Desk_leftOf_0 : decode Y_Desk_leftOf.2.1 0 = .ok (.aload_n 0, 1) := by decide +kernel
theorem d_Desk_leftOf_1 : decode Y_Desk_leftOf.2.1 1 = .ok (.iload_n 1, 1) := by decide +kernel
theorem d_Desk_leftOf_2 : decode Y_Desk_leftOf.2.1 2 = .ok (.iload_n 2, 1) := by decide +kernel
theorem d_Desk_leftOf_3 : decode Y_Desk_leftOf.2.1 3 = .ok (.invokevirtual 83, 3) := by decide +kernel
theorem d_Desk_leftOf_6 : decode Y_Desk_leftOf.2.1 6 = .ok (.aload_n 0, 1) := by decide +kernel
theorem d_Desk_leftOf_7 : decode Y_Desk_leftOf.2.1 7 = .ok (.iload_n 1, 1) := by decide +kernel
theorem d_Desk_leftOf_8 : decode Y_Desk_leftOf.2.1 8 = .ok (.iload_n 2, 1) := by decide +kernel
theorem d_Desk_leftOf_9 : decode Y_Desk_leftOf.2.1 9 = .ok (.invokevirtual 86, 3) := by decide +kernel
theorem d_Desk_leftOf_12 : decode Y_Desk_leftOf.2.1 12 = .ok (.isub, 1) := by decide +kernel
theorem d_Desk_leftOf_13 : decode Y_Desk_leftOf.2.1 13 = .ok (.ireturn, 1) := by decide +kernel
def f_Desk_leftOf (h : PH) (a0 : Option Nat) (a1 : Int32) (a2 : Int32) : Option Int32 := (cl h 0 a0 (f_Desk_worthOf h a0 a1 a2)).bind fun v1 => (cl h 0 a0 (f_Desk_taxOf h a0 a1 a2)).bind fun v2 => some (v1 - v2)
set_option maxRecDepth 20000 in
theorem PM_Desk_leftOf {l : Launch} {G : Cx} {h : PH} {a0 : Option Nat} {a1 : Int32} {a2 : Int32} {z : Int32} (hz : f_Desk_leftOf h a0 a1 a2 = some z) : PM l G 3 0 0 Y_Desk_leftOf [.inr (.inr a0), .inl a1, .inl a2] h (some (.inl z), h) := by
  refine PM.of (Y := Y_Desk_leftOf) (cv := (fun z : Int32 => (((some (.inl z), h) : Option PV × PH)))) (by decide) (L0 := [some (.inr (.inr a0)), some (.inl a1), some (.inl a2)]) 0 rfl (Nat.le_of_ble_eq_true rfl) ?_ hz
  unfold f_Desk_leftOf
  refine PJ.aload_n (pc := 0) d_Desk_leftOf_0 rfl ?_
  refine PJ.iload_n (pc := 1) d_Desk_leftOf_1 rfl ?_
  refine PJ.iload_n (pc := 2) d_Desk_leftOf_2 rfl ?_
  refine PJ.cVpI (pc := 3) cs_Desk_83 (fun z hz => PM_Desk_worthOf hz) (pj_fitb rfl) rfl rfl (Nat.le_of_ble_eq_true rfl) d_Desk_leftOf_3 (fun v1 => ?_)
  refine PJ.aload_n (pc := 6) d_Desk_leftOf_6 rfl ?_
  refine PJ.iload_n (pc := 7) d_Desk_leftOf_7 rfl ?_
  refine PJ.iload_n (pc := 8) d_Desk_leftOf_8 rfl ?_
  refine PJ.cVpI (pc := 9) cs_Desk_86 (fun z hz => PM_Desk_taxOf hz) (pj_fitb rfl) rfl rfl (Nat.le_of_ble_eq_true rfl) d_Desk_leftOf_9 (fun v2 => ?_)
  refine PJ.isub (pc := 12) d_Desk_leftOf_12 ?_
  exact PJ.iretp (pc := 13) d_Desk_leftOf_13 rfl (Nat.le_of_ble_eq_true rfl) (Nat.le_of_ble_eq_true rfl)
theorem d_Desk_choiceOf_0 : decode Y_Desk_choiceOf.2.1 0 = .ok (.aload_n 0, 1) := by decide +kernel
theorem d_Desk_choiceOf_1 : decode Y_Desk_choiceOf.2.1 1 = .ok (.getfield 22, 3) := by decide +kernel
theorem d_Desk_choiceOf_4 : decode Y_Desk_choiceOf.2.1 4 = .ok (.getfield 33, 3) := by decide +kernel
theorem d_Desk_choiceOf_7 : decode Y_Desk_choiceOf.2.1 7 = .ok (.iload_n 1, 1) := by decide +kernel
theorem d_Desk_choiceOf_8 : decode Y_Desk_choiceOf.2.1 8 = .ok (.iaload, 1) := by decide +kernel
theorem d_Desk_choiceOf_9 : decode Y_Desk_choiceOf.2.1 9 = .ok (.istore_n 2, 1) := by decide +kernel
theorem d_Desk_choiceOf_10 : decode Y_Desk_choiceOf.2.1 10 = .ok (.aload_n 0, 1) := by decide +kernel
theorem d_Desk_choiceOf_11 : decode Y_Desk_choiceOf.2.1 11 = .ok (.iload_n 1, 1) := by decide +kernel
theorem d_Desk_choiceOf_12 : decode Y_Desk_choiceOf.2.1 12 = .ok (.iload_n 2, 1) := by decide +kernel
theorem d_Desk_choiceOf_13 : decode Y_Desk_choiceOf.2.1 13 = .ok (.invokevirtual 89, 3) := by decide +kernel
theorem d_Desk_choiceOf_16 : decode Y_Desk_choiceOf.2.1 16 = .ok (.istore_n 3, 1) := by decide +kernel
theorem d_Desk_choiceOf_17 : decode Y_Desk_choiceOf.2.1 17 = .ok (.iconst 0, 1) := by decide +kernel
theorem d_Desk_choiceOf_18 : decode Y_Desk_choiceOf.2.1 18 = .ok (.istore 4, 2) := by decide +kernel
theorem d_Desk_choiceOf_20 : decode Y_Desk_choiceOf.2.1 20 = .ok (.iload 4, 2) := by decide +kernel
theorem d_Desk_choiceOf_22 : decode Y_Desk_choiceOf.2.1 22 = .ok (.aload_n 0, 1) := by decide +kernel
theorem d_Desk_choiceOf_23 : decode Y_Desk_choiceOf.2.1 23 = .ok (.getfield 18, 3) := by decide +kernel
theorem d_Desk_choiceOf_26 : decode Y_Desk_choiceOf.2.1 26 = .ok (.getfield 92, 3) := by decide +kernel
theorem d_Desk_choiceOf_29 : decode Y_Desk_choiceOf.2.1 29 = .ok (.if_icmp .ge 30, 3) := by decide +kernel
theorem d_Desk_choiceOf_32 : decode Y_Desk_choiceOf.2.1 32 = .ok (.aload_n 0, 1) := by decide +kernel
theorem d_Desk_choiceOf_33 : decode Y_Desk_choiceOf.2.1 33 = .ok (.iload_n 1, 1) := by decide +kernel
theorem d_Desk_choiceOf_34 : decode Y_Desk_choiceOf.2.1 34 = .ok (.iload 4, 2) := by decide +kernel
theorem d_Desk_choiceOf_36 : decode Y_Desk_choiceOf.2.1 36 = .ok (.invokevirtual 89, 3) := by decide +kernel
theorem d_Desk_choiceOf_39 : decode Y_Desk_choiceOf.2.1 39 = .ok (.istore 5, 2) := by decide +kernel
theorem d_Desk_choiceOf_41 : decode Y_Desk_choiceOf.2.1 41 = .ok (.iload 5, 2) := by decide +kernel
theorem d_Desk_choiceOf_43 : decode Y_Desk_choiceOf.2.1 43 = .ok (.iload_n 3, 1) := by decide +kernel
theorem d_Desk_choiceOf_44 : decode Y_Desk_choiceOf.2.1 44 = .ok (.if_icmp .le 9, 3) := by decide +kernel
theorem d_Desk_choiceOf_47 : decode Y_Desk_choiceOf.2.1 47 = .ok (.iload 4, 2) := by decide +kernel
theorem d_Desk_choiceOf_49 : decode Y_Desk_choiceOf.2.1 49 = .ok (.istore_n 2, 1) := by decide +kernel
theorem d_Desk_choiceOf_50 : decode Y_Desk_choiceOf.2.1 50 = .ok (.iload 5, 2) := by decide +kernel
theorem d_Desk_choiceOf_52 : decode Y_Desk_choiceOf.2.1 52 = .ok (.istore_n 3, 1) := by decide +kernel
theorem d_Desk_choiceOf_53 : decode Y_Desk_choiceOf.2.1 53 = .ok (.iinc 4 1, 3) := by decide +kernel
theorem d_Desk_choiceOf_56 : decode Y_Desk_choiceOf.2.1 56 = .ok (.goto (-36), 3) := by decide +kernel
theorem d_Desk_choiceOf_59 : decode Y_Desk_choiceOf.2.1 59 = .ok (.iload_n 2, 1) := by decide +kernel
theorem d_Desk_choiceOf_60 : decode Y_Desk_choiceOf.2.1 60 = .ok (.ireturn, 1) := by decide +kernel
def f_Desk_choiceOf (h : PH) (a0 : Option Nat) (a1 : Int32) : Option Int32 := (gR h 0 a0 1).bind fun v1 => (gR h 2 v1 3).bind fun v2 => (aI h v2 a1).bind fun v3 => (cl h 0 a0 (f_Desk_leftOf h a0 a1 v3)).bind fun v4 => (pj_it (X := Int32) (fun s5 : Int32 × Int32 × Int32 => (gR h 0 a0 0).bind fun v7 => (gI h 1 v7 2).bind fun v8 => if v8 ≤ s5.2.2 then (some (.inr s5.1)) else ((cl h 0 a0 (f_Desk_leftOf h a0 a1 s5.2.2)).bind fun v9 => if v9 ≤ s5.2.1 then (some (.inl (s5.1, s5.2.1, (s5.2.2 + (1 : Int32))))) else (some (.inl (s5.2.2, v9, (s5.2.2 + (1 : Int32))))))) FU (v3, v4, (0 : Int32))).bind fun x6 => some x6
set_option maxRecDepth 20000 in
theorem PM_Desk_choiceOf {l : Launch} {G : Cx} {h : PH} {a0 : Option Nat} {a1 : Int32} {z : Int32} (hz : f_Desk_choiceOf h a0 a1 = some z) : PM l G 4 0 0 Y_Desk_choiceOf [.inr (.inr a0), .inl a1] h (some (.inl z), h) := by
  refine PM.of (Y := Y_Desk_choiceOf) (cv := (fun z : Int32 => (((some (.inl z), h) : Option PV × PH)))) (by decide) (L0 := [some (.inr (.inr a0)), some (.inl a1), none, none, none, none]) 4 rfl (Nat.le_of_ble_eq_true rfl) ?_ hz
  unfold f_Desk_choiceOf
  refine PJ.aload_n (pc := 0) d_Desk_choiceOf_0 rfl ?_
  refine PJ.getR (pc := 1) fs_Desk_22 d_Desk_choiceOf_1 (fun v1 => ?_)
  refine PJ.getR (pc := 4) fs_Desk_33 d_Desk_choiceOf_4 (fun v2 => ?_)
  refine PJ.iload_n (pc := 7) d_Desk_choiceOf_7 rfl ?_
  refine PJ.iald (pc := 8) d_Desk_choiceOf_8 (fun v3 => ?_)
  refine PJ.istore_n (pc := 9) (L1 := [some (.inr (.inr a0)), some (.inl a1), some (.inl v3), none, none, none]) d_Desk_choiceOf_9 (Nat.le_of_ble_eq_true rfl) rfl rfl ?_
  refine PJ.aload_n (pc := 10) d_Desk_choiceOf_10 rfl ?_
  refine PJ.iload_n (pc := 11) d_Desk_choiceOf_11 rfl ?_
  refine PJ.iload_n (pc := 12) d_Desk_choiceOf_12 rfl ?_
  refine PJ.cVpI (pc := 13) cs_Desk_89 (fun z hz => PM_Desk_leftOf hz) (pj_fitb rfl) rfl rfl (Nat.le_of_ble_eq_true rfl) d_Desk_choiceOf_13 (fun v4 => ?_)
  refine PJ.istore_n (pc := 16) (L1 := [some (.inr (.inr a0)), some (.inl a1), some (.inl v3), some (.inl v4), none, none]) d_Desk_choiceOf_16 (Nat.le_of_ble_eq_true rfl) rfl rfl ?_
  refine PJ.iconst (pc := 17) (v := 0) d_Desk_choiceOf_17 (by decide) ?_
  refine PJ.istore (pc := 18) (L1 := [some (.inr (.inr a0)), some (.inl a1), some (.inl v3), some (.inl v4), some (.inl (0 : Int32)), none]) d_Desk_choiceOf_18 (Nat.le_of_ble_eq_true rfl) rfl rfl ?_
  refine PJ.bind (fun x6 : Int32 => ((59 : Nat), ([some (.inr (.inr a0)), some (.inl a1), some (.inl x6), none, none, none] : List (Option PV)), ([] : List PV), (h : PH), (0 : Nat), (0 : Nat))) (PJ.it (E := (fun s5 : Int32 × Int32 × Int32 => ((20 : Nat), ([some (.inr (.inr a0)), some (.inl a1), some (.inl s5.1), some (.inl s5.2.1), some (.inl s5.2.2), none] : List (Option PV)), ([] : List PV), (h : PH), (0 : Nat), (0 : Nat)))) (F := (fun x6 : Int32 => ((59 : Nat), ([some (.inr (.inr a0)), some (.inl a1), some (.inl x6), none, none, none] : List (Option PV)), ([] : List PV), (h : PH), (0 : Nat), (0 : Nat)))) (fun s5 => ?_) FU (v3, v4, (0 : Int32))) (fun x6 => ?_)
  · show PJ l G (pj_rm 4 0 0) Y_Desk_choiceOf 20 [some (.inr (.inr a0)), some (.inl a1), some (.inl s5.1), some (.inl s5.2.1), some (.inl s5.2.2), none] [] h 0 0 _ _
    refine PJ.iload (pc := 20) d_Desk_choiceOf_20 rfl ?_
    refine PJ.aload_n (pc := 22) d_Desk_choiceOf_22 rfl ?_
    refine PJ.getR (pc := 23) fs_Desk_18 d_Desk_choiceOf_23 (fun v7 => ?_)
    refine PJ.getI (pc := 26) fs_Desk_92 d_Desk_choiceOf_26 (fun v8 => ?_)
    refine PJ.icmp_ge (pc := 29) (tgt := 59) d_Desk_choiceOf_29 (by decide) (fun _ => ?_) (fun _ => ?_)
    · refine PJ.mk (L1 := [some (.inr (.inr a0)), some (.inl a1), some (.inl s5.1), none, none, none]) [true, true, true, false, false, false] rfl ?_
      exact PJ.done rfl
    · refine PJ.aload_n (pc := 32) d_Desk_choiceOf_32 rfl ?_
      refine PJ.iload_n (pc := 33) d_Desk_choiceOf_33 rfl ?_
      refine PJ.iload (pc := 34) d_Desk_choiceOf_34 rfl ?_
      refine PJ.cVpI (pc := 36) cs_Desk_89 (fun z hz => PM_Desk_leftOf hz) (pj_fitb rfl) rfl rfl (Nat.le_of_ble_eq_true rfl) d_Desk_choiceOf_36 (fun v9 => ?_)
      refine PJ.istore (pc := 39) (L1 := [some (.inr (.inr a0)), some (.inl a1), some (.inl s5.1), some (.inl s5.2.1), some (.inl s5.2.2), some (.inl v9)]) d_Desk_choiceOf_39 (Nat.le_of_ble_eq_true rfl) rfl rfl ?_
      refine PJ.iload (pc := 41) d_Desk_choiceOf_41 rfl ?_
      refine PJ.iload_n (pc := 43) d_Desk_choiceOf_43 rfl ?_
      refine PJ.icmp_le (pc := 44) (tgt := 53) d_Desk_choiceOf_44 (by decide) (fun _ => ?_) (fun _ => ?_)
      · refine PJ.iinc (pc := 53) (v := 1) (L1 := [some (.inr (.inr a0)), some (.inl a1), some (.inl s5.1), some (.inl s5.2.1), some (.inl (s5.2.2 + (1 : Int32))), some (.inl v9)]) d_Desk_choiceOf_53 rfl (by decide) (Nat.le_of_ble_eq_true rfl) rfl rfl ?_
        refine PJ.goto (pc := 56) (tgt := 20) d_Desk_choiceOf_56 (by decide) ?_
        refine PJ.mk (L1 := [some (.inr (.inr a0)), some (.inl a1), some (.inl s5.1), some (.inl s5.2.1), some (.inl (s5.2.2 + (1 : Int32))), none]) [true, true, true, true, true, false] rfl ?_
        exact PJ.done rfl
      · refine PJ.iload (pc := 47) d_Desk_choiceOf_47 rfl ?_
        refine PJ.istore_n (pc := 49) (L1 := [some (.inr (.inr a0)), some (.inl a1), some (.inl s5.2.2), some (.inl s5.2.1), some (.inl s5.2.2), some (.inl v9)]) d_Desk_choiceOf_49 (Nat.le_of_ble_eq_true rfl) rfl rfl ?_
        refine PJ.iload (pc := 50) d_Desk_choiceOf_50 rfl ?_
        refine PJ.istore_n (pc := 52) (L1 := [some (.inr (.inr a0)), some (.inl a1), some (.inl s5.2.2), some (.inl v9), some (.inl s5.2.2), some (.inl v9)]) d_Desk_choiceOf_52 (Nat.le_of_ble_eq_true rfl) rfl rfl ?_
        refine PJ.iinc (pc := 53) (v := 1) (L1 := [some (.inr (.inr a0)), some (.inl a1), some (.inl s5.2.2), some (.inl v9), some (.inl (s5.2.2 + (1 : Int32))), some (.inl v9)]) d_Desk_choiceOf_53 rfl (by decide) (Nat.le_of_ble_eq_true rfl) rfl rfl ?_
        refine PJ.goto (pc := 56) (tgt := 20) d_Desk_choiceOf_56 (by decide) ?_
        refine PJ.mk (L1 := [some (.inr (.inr a0)), some (.inl a1), some (.inl s5.2.2), some (.inl v9), some (.inl (s5.2.2 + (1 : Int32))), none]) [true, true, true, true, true, false] rfl ?_
        exact PJ.done rfl
  · show PJ l G (pj_rm 4 0 0) Y_Desk_choiceOf 59 [some (.inr (.inr a0)), some (.inl a1), some (.inl x6), none, none, none] [] h 0 0 _ _
    refine PJ.iload_n (pc := 59) d_Desk_choiceOf_59 rfl ?_
    exact PJ.iretp (pc := 60) d_Desk_choiceOf_60 rfl (Nat.le_of_ble_eq_true rfl) (Nat.le_of_ble_eq_true rfl)
theorem d_Receipts_nextOf_0 : decode Y_Receipts_nextOf.2.1 0 = .ok (.iload_n 2, 1) := by decide +kernel
theorem d_Receipts_nextOf_1 : decode Y_Receipts_nextOf.2.1 1 = .ok (.istore_n 3, 1) := by decide +kernel
theorem d_Receipts_nextOf_2 : decode Y_Receipts_nextOf.2.1 2 = .ok (.iload_n 3, 1) := by decide +kernel
theorem d_Receipts_nextOf_3 : decode Y_Receipts_nextOf.2.1 3 = .ok (.aload_n 0, 1) := by decide +kernel
theorem d_Receipts_nextOf_4 : decode Y_Receipts_nextOf.2.1 4 = .ok (.getfield 9, 3) := by decide +kernel
theorem d_Receipts_nextOf_7 : decode Y_Receipts_nextOf.2.1 7 = .ok (.if_icmp .ge 21, 3) := by decide +kernel
theorem d_Receipts_nextOf_10 : decode Y_Receipts_nextOf.2.1 10 = .ok (.aload_n 0, 1) := by decide +kernel
theorem d_Receipts_nextOf_11 : decode Y_Receipts_nextOf.2.1 11 = .ok (.getfield 15, 3) := by decide +kernel
theorem d_Receipts_nextOf_14 : decode Y_Receipts_nextOf.2.1 14 = .ok (.iload_n 3, 1) := by decide +kernel
theorem d_Receipts_nextOf_15 : decode Y_Receipts_nextOf.2.1 15 = .ok (.iaload, 1) := by decide +kernel
theorem d_Receipts_nextOf_16 : decode Y_Receipts_nextOf.2.1 16 = .ok (.iload_n 1, 1) := by decide +kernel
theorem d_Receipts_nextOf_17 : decode Y_Receipts_nextOf.2.1 17 = .ok (.if_icmp .ne 5, 3) := by decide +kernel
theorem d_Receipts_nextOf_20 : decode Y_Receipts_nextOf.2.1 20 = .ok (.iload_n 3, 1) := by decide +kernel
theorem d_Receipts_nextOf_21 : decode Y_Receipts_nextOf.2.1 21 = .ok (.ireturn, 1) := by decide +kernel
theorem d_Receipts_nextOf_22 : decode Y_Receipts_nextOf.2.1 22 = .ok (.iinc 3 1, 3) := by decide +kernel
theorem d_Receipts_nextOf_25 : decode Y_Receipts_nextOf.2.1 25 = .ok (.goto (-23), 3) := by decide +kernel
theorem d_Receipts_nextOf_28 : decode Y_Receipts_nextOf.2.1 28 = .ok (.aload_n 0, 1) := by decide +kernel
theorem d_Receipts_nextOf_29 : decode Y_Receipts_nextOf.2.1 29 = .ok (.getfield 9, 3) := by decide +kernel
theorem d_Receipts_nextOf_32 : decode Y_Receipts_nextOf.2.1 32 = .ok (.ireturn, 1) := by decide +kernel
def f_Receipts_nextOf (h : PH) (a0 : Option Nat) (a1 : Int32) (a2 : Int32) : Option Int32 := (pj_it (X := (Unit) ⊕ (Int32)) (fun s1 : Int32 => (gI h 7 a0 0).bind fun v3 => if v3 ≤ s1 then (some (.inr (.inl ()))) else ((gR h 7 a0 1).bind fun v4 => (aI h v4 s1).bind fun v5 => if ¬ v5 = a1 then (some (.inl (s1 + (1 : Int32)))) else (some (.inr (.inr s1))))) FU a2).bind fun x2 => match x2 with | (.inl yx2_0) => (gI h 7 a0 0).bind fun v6 => some v6 | (.inr yx2_1) => some yx2_1
set_option maxRecDepth 20000 in
theorem PM_Receipts_nextOf {l : Launch} {G : Cx} {h : PH} {a0 : Option Nat} {a1 : Int32} {a2 : Int32} {z : Int32} (hz : f_Receipts_nextOf h a0 a1 a2 = some z) : PM l G 1 0 0 Y_Receipts_nextOf [.inr (.inr a0), .inl a1, .inl a2] h (some (.inl z), h) := by
  refine PM.of (Y := Y_Receipts_nextOf) (cv := (fun z : Int32 => (((some (.inl z), h) : Option PV × PH)))) (by decide) (L0 := [some (.inr (.inr a0)), some (.inl a1), some (.inl a2), none]) 1 rfl (Nat.le_of_ble_eq_true rfl) ?_ hz
  unfold f_Receipts_nextOf
  refine PJ.iload_n (pc := 0) d_Receipts_nextOf_0 rfl ?_
  refine PJ.istore_n (pc := 1) (L1 := [some (.inr (.inr a0)), some (.inl a1), some (.inl a2), some (.inl a2)]) d_Receipts_nextOf_1 (Nat.le_of_ble_eq_true rfl) rfl rfl ?_
  refine PJ.bind (fun x2 : (Unit) ⊕ (Int32) => match x2 with | (.inl y0) => ((28 : Nat), ([some (.inr (.inr a0)), some (.inl a1), some (.inl a2), none] : List (Option PV)), ([] : List PV), (h : PH), (0 : Nat), (0 : Nat)) | (.inr y1) => ((20 : Nat), ([some (.inr (.inr a0)), some (.inl a1), some (.inl a2), some (.inl y1)] : List (Option PV)), ([] : List PV), (h : PH), (0 : Nat), (0 : Nat))) (PJ.it (E := (fun s1 : Int32 => ((2 : Nat), ([some (.inr (.inr a0)), some (.inl a1), some (.inl a2), some (.inl s1)] : List (Option PV)), ([] : List PV), (h : PH), (0 : Nat), (0 : Nat)))) (F := (fun x2 : (Unit) ⊕ (Int32) => match x2 with | (.inl y0) => ((28 : Nat), ([some (.inr (.inr a0)), some (.inl a1), some (.inl a2), none] : List (Option PV)), ([] : List PV), (h : PH), (0 : Nat), (0 : Nat)) | (.inr y1) => ((20 : Nat), ([some (.inr (.inr a0)), some (.inl a1), some (.inl a2), some (.inl y1)] : List (Option PV)), ([] : List PV), (h : PH), (0 : Nat), (0 : Nat)))) (fun s1 => ?_) FU a2) (fun x2 => ?_)
  · show PJ l G (pj_rm 1 0 0) Y_Receipts_nextOf 2 [some (.inr (.inr a0)), some (.inl a1), some (.inl a2), some (.inl s1)] [] h 0 0 _ _
    refine PJ.iload_n (pc := 2) d_Receipts_nextOf_2 rfl ?_
    refine PJ.aload_n (pc := 3) d_Receipts_nextOf_3 rfl ?_
    refine PJ.getI (pc := 4) fs_Receipts_9 d_Receipts_nextOf_4 (fun v3 => ?_)
    refine PJ.icmp_ge (pc := 7) (tgt := 28) d_Receipts_nextOf_7 (by decide) (fun _ => ?_) (fun _ => ?_)
    · refine PJ.mk (L1 := [some (.inr (.inr a0)), some (.inl a1), some (.inl a2), none]) [true, true, true, false] rfl ?_
      exact PJ.done rfl
    · refine PJ.aload_n (pc := 10) d_Receipts_nextOf_10 rfl ?_
      refine PJ.getR (pc := 11) fs_Receipts_15 d_Receipts_nextOf_11 (fun v4 => ?_)
      refine PJ.iload_n (pc := 14) d_Receipts_nextOf_14 rfl ?_
      refine PJ.iald (pc := 15) d_Receipts_nextOf_15 (fun v5 => ?_)
      refine PJ.iload_n (pc := 16) d_Receipts_nextOf_16 rfl ?_
      refine PJ.icmp_ne (pc := 17) (tgt := 22) d_Receipts_nextOf_17 (by decide) (fun _ => ?_) (fun _ => ?_)
      · refine PJ.iinc (pc := 22) (v := 1) (L1 := [some (.inr (.inr a0)), some (.inl a1), some (.inl a2), some (.inl (s1 + (1 : Int32)))]) d_Receipts_nextOf_22 rfl (by decide) (Nat.le_of_ble_eq_true rfl) rfl rfl ?_
        refine PJ.goto (pc := 25) (tgt := 2) d_Receipts_nextOf_25 (by decide) ?_
        exact PJ.done rfl
      · exact PJ.done rfl
  · rcases x2 with yx2_0 | yx2_1
    · show PJ l G (pj_rm 1 0 0) Y_Receipts_nextOf 28 [some (.inr (.inr a0)), some (.inl a1), some (.inl a2), none] [] h 0 0 _ _
      refine PJ.aload_n (pc := 28) d_Receipts_nextOf_28 rfl ?_
      refine PJ.getI (pc := 29) fs_Receipts_9 d_Receipts_nextOf_29 (fun v6 => ?_)
      exact PJ.iretp (pc := 32) d_Receipts_nextOf_32 rfl (Nat.le_of_ble_eq_true rfl) (Nat.le_of_ble_eq_true rfl)
    · show PJ l G (pj_rm 1 0 0) Y_Receipts_nextOf 20 [some (.inr (.inr a0)), some (.inl a1), some (.inl a2), some (.inl yx2_1)] [] h 0 0 _ _
      refine PJ.iload_n (pc := 20) d_Receipts_nextOf_20 rfl ?_
      exact PJ.iretp (pc := 21) d_Receipts_nextOf_21 rfl (Nat.le_of_ble_eq_true rfl) (Nat.le_of_ble_eq_true rfl)
