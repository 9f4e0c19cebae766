-- sites and methods: meth
abbrev Y_Reader_readTax : MI := (⟨"WaverTax$Reader", "readTax", "()V"⟩, prog_7_method_11_code, 1, (none : Option FieldType))
abbrev Y_Reader_isSpelled : MI := (⟨"WaverTax$Reader", "isSpelled", "(II)Z"⟩, prog_7_method_26_code, 4, (some .boolean))
abbrev Y_Reader_findName : MI := (⟨"WaverTax$Reader", "findName", "()I"⟩, prog_7_method_25_code, 2, (some .int))
abbrev Y_Reader_newName : MI := (⟨"WaverTax$Reader", "newName", "(II)V"⟩, prog_7_method_23_code, 3, (none : Option FieldType))
abbrev Y_Reader_readChoice : MI := (⟨"WaverTax$Reader", "readChoice", "()V"⟩, prog_7_method_12_code, 1, (none : Option FieldType))
abbrev Y_Reader_known : MI := (⟨"WaverTax$Reader", "known", "(I)I"⟩, prog_7_method_24_code, 3, (some .int))
abbrev Y_Reader_readFar : MI := (⟨"WaverTax$Reader", "readFar", "()V"⟩, prog_7_method_13_code, 5, (none : Option FieldType))
abbrev Y_Reader_personSort : MI := (⟨"WaverTax$Reader", "personSort", "()I"⟩, prog_7_method_15_code, 2, (some .int))
abbrev Y_Reader_readPerson : MI := (⟨"WaverTax$Reader", "readPerson", "()V"⟩, prog_7_method_14_code, 3, (none : Option FieldType))
abbrev Y_Reader_readLikes : MI := (⟨"WaverTax$Reader", "readLikes", "()V"⟩, prog_7_method_16_code, 5, (none : Option FieldType))
abbrev Y_Reader_readReason : MI := (⟨"WaverTax$Reader", "readReason", "()V"⟩, prog_7_method_17_code, 8, (none : Option FieldType))
theorem cm_Reader_keyword : (Cond.code Y_Reader_keyword.1 Y_Reader_keyword.2.1 Y_Reader_keyword.2.2.1 Y_Reader_keyword.2.2.2 ∈ pj_ws) ∧ (Cond.initialized Y_Reader_keyword.1.cls ∈ pj_ws) ∧ (Y_Reader_keyword.1.cls ≠ "java/lang/invoke/MethodHandle" ∧ Y_Reader_keyword.1.cls ≠ "java/lang/invoke/VarHandle" ∧ (parseMethodDescriptor Y_Reader_keyword.1.desc).map (fun d => d.parameters.length) = some 1) ∧ (Cond.instanceMethod Y_Reader_keyword.1 ∈ pj_ws) ∧ (Cond.selects Y_Reader_keyword.1.cls Y_Reader_keyword.1 Y_Reader_keyword.1 ∈ pj_ws) := ⟨pj_mem 728 (by decide +kernel) rfl, pj_mem 135 (by decide +kernel) rfl, ⟨by decide +kernel, by decide +kernel, by decide +kernel⟩, pj_mem 727 (by decide +kernel) rfl, pj_mem 11 (by decide +kernel) rfl⟩
theorem cm_Reader_whole : (Cond.code Y_Reader_whole.1 Y_Reader_whole.2.1 Y_Reader_whole.2.2.1 Y_Reader_whole.2.2.2 ∈ pj_ws) ∧ (Cond.initialized Y_Reader_whole.1.cls ∈ pj_ws) ∧ (Y_Reader_whole.1.cls ≠ "java/lang/invoke/MethodHandle" ∧ Y_Reader_whole.1.cls ≠ "java/lang/invoke/VarHandle" ∧ (parseMethodDescriptor Y_Reader_whole.1.desc).map (fun d => d.parameters.length) = some 2) ∧ (Cond.instanceMethod Y_Reader_whole.1 ∈ pj_ws) ∧ (Cond.selects Y_Reader_whole.1.cls Y_Reader_whole.1 Y_Reader_whole.1 ∈ pj_ws) := ⟨pj_mem 732 (by decide +kernel) rfl, pj_mem 135 (by decide +kernel) rfl, ⟨by decide +kernel, by decide +kernel, by decide +kernel⟩, pj_mem 731 (by decide +kernel) rfl, pj_mem 12 (by decide +kernel) rfl⟩
theorem cm_Reader_newName : (Cond.code Y_Reader_newName.1 Y_Reader_newName.2.1 Y_Reader_newName.2.2.1 Y_Reader_newName.2.2.2 ∈ pj_ws) ∧ (Cond.initialized Y_Reader_newName.1.cls ∈ pj_ws) ∧ (Y_Reader_newName.1.cls ≠ "java/lang/invoke/MethodHandle" ∧ Y_Reader_newName.1.cls ≠ "java/lang/invoke/VarHandle" ∧ (parseMethodDescriptor Y_Reader_newName.1.desc).map (fun d => d.parameters.length) = some 2) ∧ (Cond.instanceMethod Y_Reader_newName.1 ∈ pj_ws) ∧ (Cond.selects Y_Reader_newName.1.cls Y_Reader_newName.1 Y_Reader_newName.1 ∈ pj_ws) := ⟨pj_mem 741 (by decide +kernel) rfl, pj_mem 135 (by decide +kernel) rfl, ⟨by decide +kernel, by decide +kernel, by decide +kernel⟩, pj_mem 740 (by decide +kernel) rfl, pj_mem 14 (by decide +kernel) rfl⟩
theorem cm_Reader_known : (Cond.code Y_Reader_known.1 Y_Reader_known.2.1 Y_Reader_known.2.2.1 Y_Reader_known.2.2.2 ∈ pj_ws) ∧ (Cond.initialized Y_Reader_known.1.cls ∈ pj_ws) ∧ (Y_Reader_known.1.cls ≠ "java/lang/invoke/MethodHandle" ∧ Y_Reader_known.1.cls ≠ "java/lang/invoke/VarHandle" ∧ (parseMethodDescriptor Y_Reader_known.1.desc).map (fun d => d.parameters.length) = some 1) ∧ (Cond.instanceMethod Y_Reader_known.1 ∈ pj_ws) ∧ (Cond.selects Y_Reader_known.1.cls Y_Reader_known.1 Y_Reader_known.1 ∈ pj_ws) := ⟨pj_mem 757 (by decide +kernel) rfl, pj_mem 135 (by decide +kernel) rfl, ⟨by decide +kernel, by decide +kernel, by decide +kernel⟩, pj_mem 756 (by decide +kernel) rfl, pj_mem 18 (by decide +kernel) rfl⟩
theorem cm_Reader_personSort : (Cond.code Y_Reader_personSort.1 Y_Reader_personSort.2.1 Y_Reader_personSort.2.2.1 Y_Reader_personSort.2.2.2 ∈ pj_ws) ∧ (Cond.initialized Y_Reader_personSort.1.cls ∈ pj_ws) ∧ (Y_Reader_personSort.1.cls ≠ "java/lang/invoke/MethodHandle" ∧ Y_Reader_personSort.1.cls ≠ "java/lang/invoke/VarHandle" ∧ (parseMethodDescriptor Y_Reader_personSort.1.desc).map (fun d => d.parameters.length) = some 0) ∧ (Cond.instanceMethod Y_Reader_personSort.1 ∈ pj_ws) ∧ (Cond.selects Y_Reader_personSort.1.cls Y_Reader_personSort.1 Y_Reader_personSort.1 ∈ pj_ws) := ⟨pj_mem 766 (by decide +kernel) rfl, pj_mem 135 (by decide +kernel) rfl, ⟨by decide +kernel, by decide +kernel, by decide +kernel⟩, pj_mem 765 (by decide +kernel) rfl, pj_mem 20 (by decide +kernel) rfl⟩
theorem cm_Reader_findName : (Cond.code Y_Reader_findName.1 Y_Reader_findName.2.1 Y_Reader_findName.2.2.1 Y_Reader_findName.2.2.2 ∈ pj_ws) ∧ (Cond.initialized Y_Reader_findName.1.cls ∈ pj_ws) ∧ (Y_Reader_findName.1.cls ≠ "java/lang/invoke/MethodHandle" ∧ Y_Reader_findName.1.cls ≠ "java/lang/invoke/VarHandle" ∧ (parseMethodDescriptor Y_Reader_findName.1.desc).map (fun d => d.parameters.length) = some 0) ∧ (Cond.instanceMethod Y_Reader_findName.1 ∈ pj_ws) ∧ (Cond.selects Y_Reader_findName.1.cls Y_Reader_findName.1 Y_Reader_findName.1 ∈ pj_ws) := ⟨pj_mem 745 (by decide +kernel) rfl, pj_mem 135 (by decide +kernel) rfl, ⟨by decide +kernel, by decide +kernel, by decide +kernel⟩, pj_mem 744 (by decide +kernel) rfl, pj_mem 15 (by decide +kernel) rfl⟩
theorem cm_Reader_isSpelled : (Cond.code Y_Reader_isSpelled.1 Y_Reader_isSpelled.2.1 Y_Reader_isSpelled.2.2.1 Y_Reader_isSpelled.2.2.2 ∈ pj_ws) ∧ (Cond.initialized Y_Reader_isSpelled.1.cls ∈ pj_ws) ∧ (Y_Reader_isSpelled.1.cls ≠ "java/lang/invoke/MethodHandle" ∧ Y_Reader_isSpelled.1.cls ≠ "java/lang/invoke/VarHandle" ∧ (parseMethodDescriptor Y_Reader_isSpelled.1.desc).map (fun d => d.parameters.length) = some 2) ∧ (Cond.instanceMethod Y_Reader_isSpelled.1 ∈ pj_ws) ∧ (Cond.selects Y_Reader_isSpelled.1.cls Y_Reader_isSpelled.1 Y_Reader_isSpelled.1 ∈ pj_ws) := ⟨pj_mem 749 (by decide +kernel) rfl, pj_mem 135 (by decide +kernel) rfl, ⟨by decide +kernel, by decide +kernel, by decide +kernel⟩, pj_mem 748 (by decide +kernel) rfl, pj_mem 16 (by decide +kernel) rfl⟩
theorem cm_Reader_lineSort : (Cond.code Y_Reader_lineSort.1 Y_Reader_lineSort.2.1 Y_Reader_lineSort.2.2.1 Y_Reader_lineSort.2.2.2 ∈ pj_ws) ∧ (Cond.initialized Y_Reader_lineSort.1.cls ∈ pj_ws) ∧ (Y_Reader_lineSort.1.cls ≠ "java/lang/invoke/MethodHandle" ∧ Y_Reader_lineSort.1.cls ≠ "java/lang/invoke/VarHandle" ∧ (parseMethodDescriptor Y_Reader_lineSort.1.desc).map (fun d => d.parameters.length) = some 0) ∧ (Cond.instanceMethod Y_Reader_lineSort.1 ∈ pj_ws) ∧ (Cond.selects Y_Reader_lineSort.1.cls Y_Reader_lineSort.1 Y_Reader_lineSort.1 ∈ pj_ws) := ⟨pj_mem 650 (by decide +kernel) rfl, pj_mem 135 (by decide +kernel) rfl, ⟨by decide +kernel, by decide +kernel, by decide +kernel⟩, pj_mem 649 (by decide +kernel) rfl, pj_mem 6 (by decide +kernel) rfl⟩
theorem cs_Reader_188 : pj_cV "WaverTax$Reader" 188 Y_Reader_keyword 1 5 := ⟨⟨cm_Reader_keyword.1, cm_Reader_keyword.2.1, cm_Reader_keyword.2.2.1, Or.inl (pj_mem 725 (by decide +kernel) rfl)⟩, by decide, cm_Reader_keyword.2.2.2.1, cm_Reader_keyword.2.2.2.2, ⟨_, rfl, rfl⟩⟩
theorem cs_Reader_192 : pj_cV "WaverTax$Reader" 192 Y_Reader_whole 2 5 := ⟨⟨cm_Reader_whole.1, cm_Reader_whole.2.1, cm_Reader_whole.2.2.1, Or.inl (pj_mem 729 (by decide +kernel) rfl)⟩, by decide, cm_Reader_whole.2.2.2.1, cm_Reader_whole.2.2.2.2, ⟨_, rfl, rfl⟩⟩
theorem cs_Reader_201 : pj_cV "WaverTax$Reader" 201 Y_Reader_newName 2 5 := ⟨⟨cm_Reader_newName.1, cm_Reader_newName.2.1, cm_Reader_newName.2.2.1, Or.inl (pj_mem 738 (by decide +kernel) rfl)⟩, by decide, cm_Reader_newName.2.2.2.1, cm_Reader_newName.2.2.2.2, ⟨_, rfl, rfl⟩⟩
theorem cs_Reader_204 : pj_cV "WaverTax$Reader" 204 Y_Reader_known 1 5 := ⟨⟨cm_Reader_known.1, cm_Reader_known.2.1, cm_Reader_known.2.2.1, Or.inl (pj_mem 754 (by decide +kernel) rfl)⟩, by decide, cm_Reader_known.2.2.2.1, cm_Reader_known.2.2.2.2, ⟨_, rfl, rfl⟩⟩
theorem cs_Reader_214 : pj_cV "WaverTax$Reader" 214 Y_Reader_personSort 0 5 := ⟨⟨cm_Reader_personSort.1, cm_Reader_personSort.2.1, cm_Reader_personSort.2.2.1, Or.inl (pj_mem 763 (by decide +kernel) rfl)⟩, by decide, cm_Reader_personSort.2.2.2.1, cm_Reader_personSort.2.2.2.2, ⟨_, rfl, rfl⟩⟩
theorem cs_Reader_273 : pj_cV "WaverTax$Reader" 273 Y_Reader_findName 0 5 := ⟨⟨cm_Reader_findName.1, cm_Reader_findName.2.1, cm_Reader_findName.2.2.1, Or.inl (pj_mem 742 (by decide +kernel) rfl)⟩, by decide, cm_Reader_findName.2.2.2.1, cm_Reader_findName.2.2.2.2, ⟨_, rfl, rfl⟩⟩
theorem cs_Reader_276 : pj_cV "WaverTax$Reader" 276 Y_Reader_isSpelled 2 5 := ⟨⟨cm_Reader_isSpelled.1, cm_Reader_isSpelled.2.1, cm_Reader_isSpelled.2.2.1, Or.inl (pj_mem 746 (by decide +kernel) rfl)⟩, by decide, cm_Reader_isSpelled.2.2.2.1, cm_Reader_isSpelled.2.2.2.2, ⟨_, rfl, rfl⟩⟩
theorem cs_Reader_89 : pj_cV "WaverTax$Reader" 89 Y_Reader_lineSort 0 5 := ⟨⟨cm_Reader_lineSort.1, cm_Reader_lineSort.2.1, cm_Reader_lineSort.2.2.1, Or.inl (pj_mem 647 (by decide +kernel) rfl)⟩, by decide, cm_Reader_lineSort.2.2.2.1, cm_Reader_lineSort.2.2.2.2, ⟨_, rfl, rfl⟩⟩
theorem fs_Reader_208 : pj_fs "WaverTax$Reader" 1 5 208 (.array (.array (.int))) := ⟨_, _, _, _, cd_1, by decide, rfl, Or.inl (pj_mem 297 (by decide +kernel) rfl)⟩
theorem fs_Reader_219 : pj_fs "WaverTax$Reader" 1 6 219 (.array (.int)) := ⟨_, _, _, _, cd_1, by decide, rfl, Or.inl (pj_mem 301 (by decide +kernel) rfl)⟩
theorem fs_Reader_222 : pj_fs "WaverTax$Reader" 1 7 222 (.array (.int)) := ⟨_, _, _, _, cd_1, by decide, rfl, Or.inl (pj_mem 306 (by decide +kernel) rfl)⟩
theorem fs_Reader_233 : pj_fs "WaverTax$Reader" 1 9 233 (.array (.int)) := ⟨_, _, _, _, cd_1, by decide, rfl, Or.inl (pj_mem 311 (by decide +kernel) rfl)⟩
theorem fs_Reader_237 : pj_fs "WaverTax$Reader" 1 8 237 (.array (.array (.int))) := ⟨_, _, _, _, cd_1, by decide, rfl, Or.inl (pj_mem 309 (by decide +kernel) rfl)⟩
theorem fs_Reader_246 : pj_fs "WaverTax$Reader" 6 1 246 (.array (.int)) := ⟨_, _, _, _, cd_6, by decide, rfl, Or.inl (pj_mem 187 (by decide +kernel) rfl)⟩
theorem fs_Reader_248 : pj_fs "WaverTax$Reader" 6 2 248 (.array (.int)) := ⟨_, _, _, _, cd_6, by decide, rfl, Or.inl (pj_mem 191 (by decide +kernel) rfl)⟩
theorem fs_Reader_250 : pj_fs "WaverTax$Reader" 6 3 250 (.array (.int)) := ⟨_, _, _, _, cd_6, by decide, rfl, Or.inl (pj_mem 195 (by decide +kernel) rfl)⟩
theorem fs_Reader_253 : pj_fs "WaverTax$Reader" 6 4 253 (.array (.int)) := ⟨_, _, _, _, cd_6, by decide, rfl, Or.inl (pj_mem 199 (by decide +kernel) rfl)⟩
theorem fs_Reader_255 : pj_fs "WaverTax$Reader" 6 5 255 (.array (.int)) := ⟨_, _, _, _, cd_6, by decide, rfl, Or.inl (pj_mem 203 (by decide +kernel) rfl)⟩
theorem fs_Reader_34 : pj_fs "WaverTax$Reader" 5 9 34 (.int) := ⟨_, _, _, _, cd_5, by decide, rfl, Or.inl (pj_mem 367 (by decide +kernel) rfl)⟩
theorem fs_Reader_37 : pj_fs "WaverTax$Reader" 5 10 37 (.array (.int)) := ⟨_, _, _, _, cd_5, by decide, rfl, Or.inl (pj_mem 368 (by decide +kernel) rfl)⟩
theorem fs_Reader_41 : pj_fs "WaverTax$Reader" 5 11 41 (.array (.int)) := ⟨_, _, _, _, cd_5, by decide, rfl, Or.inl (pj_mem 369 (by decide +kernel) rfl)⟩
theorem fs_Reader_44 : pj_fs "WaverTax$Reader" 5 12 44 (.array (.int)) := ⟨_, _, _, _, cd_5, by decide, rfl, Or.inl (pj_mem 370 (by decide +kernel) rfl)⟩
theorem fs_Reader_47 : pj_fs "WaverTax$Reader" 5 13 47 (.array (.int)) := ⟨_, _, _, _, cd_5, by decide, rfl, Or.inl (pj_mem 371 (by decide +kernel) rfl)⟩
theorem ps_Reader_154 {mn : String} : pj_ps "WaverTax$Reader" mn 1 3 154 (.int) := ⟨_, _, _, _, cd_1, by decide, rfl, Or.inl ⟨rfl, Or.inl (pj_mem 292 (by decide +kernel) rfl)⟩⟩
theorem ps_Reader_157 {mn : String} : pj_ps "WaverTax$Reader" mn 1 4 157 (.int) := ⟨_, _, _, _, cd_1, by decide, rfl, Or.inl ⟨rfl, Or.inl (pj_mem 294 (by decide +kernel) rfl)⟩⟩
theorem ps_Reader_164 {mn : String} : pj_ps "WaverTax$Reader" mn 6 0 164 (.int) := ⟨_, _, _, _, cd_6, by decide, rfl, Or.inl ⟨rfl, Or.inl (pj_mem 182 (by decide +kernel) rfl)⟩⟩
theorem ps_Reader_195 {mn : String} : pj_ps "WaverTax$Reader" mn 1 0 195 (.int) := ⟨_, _, _, _, cd_1, by decide, rfl, Or.inl ⟨rfl, Or.inl (pj_mem 276 (by decide +kernel) rfl)⟩⟩
theorem ps_Reader_199 {mn : String} : pj_ps "WaverTax$Reader" mn 1 1 199 (.int) := ⟨_, _, _, _, cd_1, by decide, rfl, Or.inl ⟨rfl, Or.inl (pj_mem 280 (by decide +kernel) rfl)⟩⟩
theorem ps_Reader_79 {mn : String} : pj_ps "WaverTax$Reader" mn 1 2 79 (.int) := ⟨_, _, _, _, cd_1, by decide, rfl, Or.inl ⟨rfl, Or.inl (pj_mem 283 (by decide +kernel) rfl)⟩⟩
theorem d_Reader_readTax_0 : decode Y_Reader_readTax.2.1 0 = .ok (.aload_n 0, 1) := by decide +kernel
theorem d_Reader_readTax_1 : decode Y_Reader_readTax.2.1 1 = .ok (.iconst 1, 1) := by decide +kernel
theorem d_Reader_readTax_2 : decode Y_Reader_readTax.2.1 2 = .ok (.putfield 15, 3) := by decide +kernel
theorem d_Reader_readTax_5 : decode Y_Reader_readTax.2.1 5 = .ok (.aload_n 0, 1) := by decide +kernel
theorem d_Reader_readTax_6 : decode Y_Reader_readTax.2.1 6 = .ok (.ldc 186, 2) := by decide +kernel
theorem d_Reader_readTax_8 : decode Y_Reader_readTax.2.1 8 = .ok (.invokevirtual 188, 3) := by decide +kernel
theorem d_Reader_readTax_11 : decode Y_Reader_readTax.2.1 11 = .ok (.aload_n 0, 1) := by decide +kernel
theorem d_Reader_readTax_12 : decode Y_Reader_readTax.2.1 12 = .ok (.getfield 54, 3) := by decide +kernel
theorem d_Reader_readTax_15 : decode Y_Reader_readTax.2.1 15 = .ok (.aload_n 0, 1) := by decide +kernel
theorem d_Reader_readTax_16 : decode Y_Reader_readTax.2.1 16 = .ok (.iconst 0, 1) := by decide +kernel
theorem d_Reader_readTax_17 : decode Y_Reader_readTax.2.1 17 = .ok (.bipush 9, 2) := by decide +kernel
theorem d_Reader_readTax_19 : decode Y_Reader_readTax.2.1 19 = .ok (.invokevirtual 192, 3) := by decide +kernel
theorem d_Reader_readTax_22 : decode Y_Reader_readTax.2.1 22 = .ok (.putfield 195, 3) := by decide +kernel
theorem d_Reader_readTax_25 : decode Y_Reader_readTax.2.1 25 = .ok (.aload_n 0, 1) := by decide +kernel
theorem d_Reader_readTax_26 : decode Y_Reader_readTax.2.1 26 = .ok (.ldc 197, 2) := by decide +kernel
theorem d_Reader_readTax_28 : decode Y_Reader_readTax.2.1 28 = .ok (.invokevirtual 188, 3) := by decide +kernel
theorem d_Reader_readTax_31 : decode Y_Reader_readTax.2.1 31 = .ok (.aload_n 0, 1) := by decide +kernel
theorem d_Reader_readTax_32 : decode Y_Reader_readTax.2.1 32 = .ok (.getfield 54, 3) := by decide +kernel
theorem d_Reader_readTax_35 : decode Y_Reader_readTax.2.1 35 = .ok (.aload_n 0, 1) := by decide +kernel
theorem d_Reader_readTax_36 : decode Y_Reader_readTax.2.1 36 = .ok (.iconst 1, 1) := by decide +kernel
theorem d_Reader_readTax_37 : decode Y_Reader_readTax.2.1 37 = .ok (.iconst 4, 1) := by decide +kernel
theorem d_Reader_readTax_38 : decode Y_Reader_readTax.2.1 38 = .ok (.invokevirtual 192, 3) := by decide +kernel
theorem d_Reader_readTax_41 : decode Y_Reader_readTax.2.1 41 = .ok (.putfield 199, 3) := by decide +kernel
theorem d_Reader_readTax_44 : decode Y_Reader_readTax.2.1 44 = .ok (.return_, 1) := by decide +kernel
def f_Reader_readTax (h : PH) (a0 : Option Nat) : Option PH := (sZ h 5 a0 3 (1 : Int32)).bind fun h1 => (cl h1 5 a0 (f_Reader_keyword h1 a0 (some 9))).bind fun h2 => (gR h2 5 a0 2).bind fun v3 => (cl h2 5 a0 (f_Reader_whole h2 a0 (0 : Int32) (9 : Int32))).bind fun v4 => (sF v4.2 1 v3 0 (.inl v4.1)).bind fun h5 => (cl h5 5 a0 (f_Reader_keyword h5 a0 (some 10))).bind fun h6 => (gR h6 5 a0 2).bind fun v7 => (cl h6 5 a0 (f_Reader_whole h6 a0 (1 : Int32) (4 : Int32))).bind fun v8 => (sF v8.2 1 v7 1 (.inl v8.1)).bind fun h9 => some h9
set_option maxRecDepth 20000 in
theorem PM_Reader_readTax {l : Launch} {G : Cx} {h : PH} {a0 : Option Nat} {z : PH} (hz : f_Reader_readTax h a0 = some z) : PM l G 9 0 0 Y_Reader_readTax [.inr (.inr a0)] h (none, z) := by
  refine PM.of (Y := Y_Reader_readTax) (cv := (fun z : PH => (((none, z) : Option PV × PH)))) (by decide) (L0 := [some (.inr (.inr a0))]) 0 rfl (Nat.le_of_ble_eq_true rfl) ?_ hz
  unfold f_Reader_readTax
  refine PJ.aload_n (pc := 0) d_Reader_readTax_0 rfl ?_
  refine PJ.iconst (pc := 1) (v := 1) d_Reader_readTax_1 (by decide) ?_
  refine PJ.putZ (pc := 2) ps_Reader_15 d_Reader_readTax_2 (fun h1 => ?_)
  refine PJ.aload_n (pc := 5) d_Reader_readTax_5 rfl ?_
  refine PJ.ldcS (pc := 6) (i := 9) d_Reader_readTax_6 (by decide) (List.mem_of_getElem? (i := 9) rfl) ?_
  refine PJ.cVV (pc := 8) cs_Reader_188 (fun z hz => PM_Reader_keyword hz) (pj_fitb rfl) rfl rfl (Nat.le_of_ble_eq_true rfl) d_Reader_readTax_8 (fun h2 => ?_)
  refine PJ.aload_n (pc := 11) d_Reader_readTax_11 rfl ?_
  refine PJ.getR (pc := 12) fs_Reader_54 d_Reader_readTax_12 (fun v3 => ?_)
  refine PJ.aload_n (pc := 15) d_Reader_readTax_15 rfl ?_
  refine PJ.iconst (pc := 16) (v := 0) d_Reader_readTax_16 (by decide) ?_
  refine PJ.bipush (pc := 17) (v := 9) d_Reader_readTax_17 (by decide) ?_
  refine PJ.cVI (pc := 19) cs_Reader_192 (fun z hz => PM_Reader_whole hz) (pj_fitb rfl) rfl rfl (Nat.le_of_ble_eq_true rfl) d_Reader_readTax_19 (fun v4 => ?_)
  refine PJ.putI (pc := 22) ps_Reader_195 d_Reader_readTax_22 (fun h5 => ?_)
  refine PJ.aload_n (pc := 25) d_Reader_readTax_25 rfl ?_
  refine PJ.ldcS (pc := 26) (i := 10) d_Reader_readTax_26 (by decide) (List.mem_of_getElem? (i := 10) rfl) ?_
  refine PJ.cVV (pc := 28) cs_Reader_188 (fun z hz => PM_Reader_keyword hz) (pj_fitb rfl) rfl rfl (Nat.le_of_ble_eq_true rfl) d_Reader_readTax_28 (fun h6 => ?_)
  refine PJ.aload_n (pc := 31) d_Reader_readTax_31 rfl ?_
  refine PJ.getR (pc := 32) fs_Reader_54 d_Reader_readTax_32 (fun v7 => ?_)
  refine PJ.aload_n (pc := 35) d_Reader_readTax_35 rfl ?_
  refine PJ.iconst (pc := 36) (v := 1) d_Reader_readTax_36 (by decide) ?_
  refine PJ.iconst (pc := 37) (v := 4) d_Reader_readTax_37 (by decide) ?_
  refine PJ.cVI (pc := 38) cs_Reader_192 (fun z hz => PM_Reader_whole hz) (pj_fitb rfl) rfl rfl (Nat.le_of_ble_eq_true rfl) d_Reader_readTax_38 (fun v8 => ?_)
  refine PJ.putI (pc := 41) ps_Reader_199 d_Reader_readTax_41 (fun h9 => ?_)
  exact PJ.vret (pc := 44) d_Reader_readTax_44 rfl (Nat.le_of_ble_eq_true rfl) (Nat.le_of_ble_eq_true rfl)
theorem d_Reader_isSpelled_0 : decode Y_Reader_isSpelled.2.1 0 = .ok (.iload_n 2, 1) := by decide +kernel
theorem d_Reader_isSpelled_1 : decode Y_Reader_isSpelled.2.1 1 = .ok (.iload_n 1, 1) := by decide +kernel
theorem d_Reader_isSpelled_2 : decode Y_Reader_isSpelled.2.1 2 = .ok (.isub, 1) := by decide +kernel
theorem d_Reader_isSpelled_3 : decode Y_Reader_isSpelled.2.1 3 = .ok (.aload_n 0, 1) := by decide +kernel
theorem d_Reader_isSpelled_4 : decode Y_Reader_isSpelled.2.1 4 = .ok (.getfield 25, 3) := by decide +kernel
theorem d_Reader_isSpelled_7 : decode Y_Reader_isSpelled.2.1 7 = .ok (.aload_n 0, 1) := by decide +kernel
theorem d_Reader_isSpelled_8 : decode Y_Reader_isSpelled.2.1 8 = .ok (.getfield 22, 3) := by decide +kernel
theorem d_Reader_isSpelled_11 : decode Y_Reader_isSpelled.2.1 11 = .ok (.isub, 1) := by decide +kernel
theorem d_Reader_isSpelled_12 : decode Y_Reader_isSpelled.2.1 12 = .ok (.if_icmp .eq 5, 3) := by decide +kernel
theorem d_Reader_isSpelled_15 : decode Y_Reader_isSpelled.2.1 15 = .ok (.iconst 0, 1) := by decide +kernel
theorem d_Reader_isSpelled_16 : decode Y_Reader_isSpelled.2.1 16 = .ok (.ireturn, 1) := by decide +kernel
theorem d_Reader_isSpelled_17 : decode Y_Reader_isSpelled.2.1 17 = .ok (.iconst 0, 1) := by decide +kernel
theorem d_Reader_isSpelled_18 : decode Y_Reader_isSpelled.2.1 18 = .ok (.istore_n 3, 1) := by decide +kernel
theorem d_Reader_isSpelled_19 : decode Y_Reader_isSpelled.2.1 19 = .ok (.iload_n 3, 1) := by decide +kernel
theorem d_Reader_isSpelled_20 : decode Y_Reader_isSpelled.2.1 20 = .ok (.iload_n 2, 1) := by decide +kernel
theorem d_Reader_isSpelled_21 : decode Y_Reader_isSpelled.2.1 21 = .ok (.iload_n 1, 1) := by decide +kernel
theorem d_Reader_isSpelled_22 : decode Y_Reader_isSpelled.2.1 22 = .ok (.isub, 1) := by decide +kernel
theorem d_Reader_isSpelled_23 : decode Y_Reader_isSpelled.2.1 23 = .ok (.if_icmp .ge 33, 3) := by decide +kernel
theorem d_Reader_isSpelled_26 : decode Y_Reader_isSpelled.2.1 26 = .ok (.aload_n 0, 1) := by decide +kernel
theorem d_Reader_isSpelled_27 : decode Y_Reader_isSpelled.2.1 27 = .ok (.getfield 50, 3) := by decide +kernel
theorem d_Reader_isSpelled_30 : decode Y_Reader_isSpelled.2.1 30 = .ok (.iload_n 1, 1) := by decide +kernel
theorem d_Reader_isSpelled_31 : decode Y_Reader_isSpelled.2.1 31 = .ok (.iload_n 3, 1) := by decide +kernel
theorem d_Reader_isSpelled_32 : decode Y_Reader_isSpelled.2.1 32 = .ok (.iadd, 1) := by decide +kernel
theorem d_Reader_isSpelled_33 : decode Y_Reader_isSpelled.2.1 33 = .ok (.baload, 1) := by decide +kernel
theorem d_Reader_isSpelled_34 : decode Y_Reader_isSpelled.2.1 34 = .ok (.aload_n 0, 1) := by decide +kernel
theorem d_Reader_isSpelled_35 : decode Y_Reader_isSpelled.2.1 35 = .ok (.getfield 50, 3) := by decide +kernel
theorem d_Reader_isSpelled_38 : decode Y_Reader_isSpelled.2.1 38 = .ok (.aload_n 0, 1) := by decide +kernel
theorem d_Reader_isSpelled_39 : decode Y_Reader_isSpelled.2.1 39 = .ok (.getfield 22, 3) := by decide +kernel
theorem d_Reader_isSpelled_42 : decode Y_Reader_isSpelled.2.1 42 = .ok (.iload_n 3, 1) := by decide +kernel
theorem d_Reader_isSpelled_43 : decode Y_Reader_isSpelled.2.1 43 = .ok (.iadd, 1) := by decide +kernel
theorem d_Reader_isSpelled_44 : decode Y_Reader_isSpelled.2.1 44 = .ok (.baload, 1) := by decide +kernel
theorem d_Reader_isSpelled_45 : decode Y_Reader_isSpelled.2.1 45 = .ok (.if_icmp .eq 5, 3) := by decide +kernel
theorem d_Reader_isSpelled_48 : decode Y_Reader_isSpelled.2.1 48 = .ok (.iconst 0, 1) := by decide +kernel
theorem d_Reader_isSpelled_49 : decode Y_Reader_isSpelled.2.1 49 = .ok (.ireturn, 1) := by decide +kernel
theorem d_Reader_isSpelled_50 : decode Y_Reader_isSpelled.2.1 50 = .ok (.iinc 3 1, 3) := by decide +kernel
theorem d_Reader_isSpelled_53 : decode Y_Reader_isSpelled.2.1 53 = .ok (.goto (-34), 3) := by decide +kernel
theorem d_Reader_isSpelled_56 : decode Y_Reader_isSpelled.2.1 56 = .ok (.iconst 1, 1) := by decide +kernel
theorem d_Reader_isSpelled_57 : decode Y_Reader_isSpelled.2.1 57 = .ok (.ireturn, 1) := by decide +kernel
def f_Reader_isSpelled (h : PH) (a0 : Option Nat) (a1 : Int32) (a2 : Int32) : Option Int32 := (gI h 5 a0 6).bind fun v1 => (gI h 5 a0 5).bind fun v2 => if (a2 - a1) = (v1 - v2) then ((pj_it (X := (Unit) ⊕ (Unit)) (fun s3 : Int32 => if (a2 - a1) ≤ s3 then (some (.inr (.inl ()))) else ((gR h 5 a0 0).bind fun v5 => (aB h v5 (a1 + s3)).bind fun v6 => (gR h 5 a0 0).bind fun v7 => (gI h 5 a0 5).bind fun v8 => (aB h v7 (v8 + s3)).bind fun v9 => if v6 = v9 then (some (.inl (s3 + (1 : Int32)))) else (some (.inr (.inr ()))))) FU (0 : Int32)).bind fun x4 => match x4 with | (.inl yx4_0) => some (1 : Int32) | (.inr yx4_1) => some (0 : Int32)) else (some (0 : Int32))
set_option maxRecDepth 20000 in
theorem PM_Reader_isSpelled {l : Launch} {G : Cx} {h : PH} {a0 : Option Nat} {a1 : Int32} {a2 : Int32} {z : Int32} (hz : f_Reader_isSpelled h a0 a1 a2 = some z) : PM l G 1 0 0 Y_Reader_isSpelled [.inr (.inr a0), .inl a1, .inl a2] h (some (.inl z), h) := by
  refine PM.of (Y := Y_Reader_isSpelled) (cv := (fun z : Int32 => (((some (.inl z), h) : Option PV × PH)))) (by decide) (L0 := [some (.inr (.inr a0)), some (.inl a1), some (.inl a2), none]) 1 rfl (Nat.le_of_ble_eq_true rfl) ?_ hz
  unfold f_Reader_isSpelled
  refine PJ.iload_n (pc := 0) d_Reader_isSpelled_0 rfl ?_
  refine PJ.iload_n (pc := 1) d_Reader_isSpelled_1 rfl ?_
  refine PJ.isub (pc := 2) d_Reader_isSpelled_2 ?_
  refine PJ.aload_n (pc := 3) d_Reader_isSpelled_3 rfl ?_
  refine PJ.getI (pc := 4) fs_Reader_25 d_Reader_isSpelled_4 (fun v1 => ?_)
  refine PJ.aload_n (pc := 7) d_Reader_isSpelled_7 rfl ?_
  refine PJ.getI (pc := 8) fs_Reader_22 d_Reader_isSpelled_8 (fun v2 => ?_)
  refine PJ.isub (pc := 11) d_Reader_isSpelled_11 ?_
  refine PJ.icmp_eq (pc := 12) (tgt := 17) d_Reader_isSpelled_12 (by decide) (fun _ => ?_) (fun _ => ?_)
  · refine PJ.iconst (pc := 17) (v := 0) d_Reader_isSpelled_17 (by decide) ?_
    refine PJ.istore_n (pc := 18) (L1 := [some (.inr (.inr a0)), some (.inl a1), some (.inl a2), some (.inl (0 : Int32))]) d_Reader_isSpelled_18 (Nat.le_of_ble_eq_true rfl) rfl rfl ?_
    refine PJ.bind (fun x4 : (Unit) ⊕ (Unit) => match x4 with | (.inl y0) => ((56 : Nat), ([none, none, none, none] : List (Option PV)), ([] : List PV), (h : PH), (0 : Nat), (0 : Nat)) | (.inr y1) => ((48 : Nat), ([none, none, none, none] : List (Option PV)), ([] : List PV), (h : PH), (0 : Nat), (0 : Nat))) (PJ.it (E := (fun s3 : Int32 => ((19 : Nat), ([some (.inr (.inr a0)), some (.inl a1), some (.inl a2), some (.inl s3)] : List (Option PV)), ([] : List PV), (h : PH), (0 : Nat), (0 : Nat)))) (F := (fun x4 : (Unit) ⊕ (Unit) => match x4 with | (.inl y0) => ((56 : Nat), ([none, none, none, none] : List (Option PV)), ([] : List PV), (h : PH), (0 : Nat), (0 : Nat)) | (.inr y1) => ((48 : Nat), ([none, none, none, none] : List (Option PV)), ([] : List PV), (h : PH), (0 : Nat), (0 : Nat)))) (fun s3 => ?_) FU (0 : Int32)) (fun x4 => ?_)
    · show PJ l G (pj_rm 1 0 0) Y_Reader_isSpelled 19 [some (.inr (.inr a0)), some (.inl a1), some (.inl a2), some (.inl s3)] [] h 0 0 _ _
      refine PJ.iload_n (pc := 19) d_Reader_isSpelled_19 rfl ?_
      refine PJ.iload_n (pc := 20) d_Reader_isSpelled_20 rfl ?_
      refine PJ.iload_n (pc := 21) d_Reader_isSpelled_21 rfl ?_
      refine PJ.isub (pc := 22) d_Reader_isSpelled_22 ?_
      refine PJ.icmp_ge (pc := 23) (tgt := 56) d_Reader_isSpelled_23 (by decide) (fun _ => ?_) (fun _ => ?_)
      · refine PJ.mk (L1 := [none, none, none, none]) [false, false, false, false] rfl ?_
        exact PJ.done rfl
      · refine PJ.aload_n (pc := 26) d_Reader_isSpelled_26 rfl ?_
        refine PJ.getR (pc := 27) fs_Reader_50 d_Reader_isSpelled_27 (fun v5 => ?_)
        refine PJ.iload_n (pc := 30) d_Reader_isSpelled_30 rfl ?_
        refine PJ.iload_n (pc := 31) d_Reader_isSpelled_31 rfl ?_
        refine PJ.iadd (pc := 32) d_Reader_isSpelled_32 ?_
        refine PJ.bald (pc := 33) d_Reader_isSpelled_33 (fun v6 => ?_)
        refine PJ.aload_n (pc := 34) d_Reader_isSpelled_34 rfl ?_
        refine PJ.getR (pc := 35) fs_Reader_50 d_Reader_isSpelled_35 (fun v7 => ?_)
        refine PJ.aload_n (pc := 38) d_Reader_isSpelled_38 rfl ?_
        refine PJ.getI (pc := 39) fs_Reader_22 d_Reader_isSpelled_39 (fun v8 => ?_)
        refine PJ.iload_n (pc := 42) d_Reader_isSpelled_42 rfl ?_
        refine PJ.iadd (pc := 43) d_Reader_isSpelled_43 ?_
        refine PJ.bald (pc := 44) d_Reader_isSpelled_44 (fun v9 => ?_)
        refine PJ.icmp_eq (pc := 45) (tgt := 50) d_Reader_isSpelled_45 (by decide) (fun _ => ?_) (fun _ => ?_)
        · refine PJ.iinc (pc := 50) (v := 1) (L1 := [some (.inr (.inr a0)), some (.inl a1), some (.inl a2), some (.inl (s3 + (1 : Int32)))]) d_Reader_isSpelled_50 rfl (by decide) (Nat.le_of_ble_eq_true rfl) rfl rfl ?_
          refine PJ.goto (pc := 53) (tgt := 19) d_Reader_isSpelled_53 (by decide) ?_
          exact PJ.done rfl
        · refine PJ.mk (L1 := [none, none, none, none]) [false, false, false, false] rfl ?_
          exact PJ.done rfl
    · rcases x4 with yx4_0 | yx4_1
      · show PJ l G (pj_rm 1 0 0) Y_Reader_isSpelled 56 [none, none, none, none] [] h 0 0 _ _
        refine PJ.iconst (pc := 56) (v := 1) d_Reader_isSpelled_56 (by decide) ?_
        exact PJ.zretp (pc := 57) d_Reader_isSpelled_57 rfl rfl (Nat.le_of_ble_eq_true rfl) (Nat.le_of_ble_eq_true rfl)
      · show PJ l G (pj_rm 1 0 0) Y_Reader_isSpelled 48 [none, none, none, none] [] h 0 0 _ _
        refine PJ.iconst (pc := 48) (v := 0) d_Reader_isSpelled_48 (by decide) ?_
        exact PJ.zretp (pc := 49) d_Reader_isSpelled_49 rfl rfl (Nat.le_of_ble_eq_true rfl) (Nat.le_of_ble_eq_true rfl)
  · refine PJ.iconst (pc := 15) (v := 0) d_Reader_isSpelled_15 (by decide) ?_
    exact PJ.zretp (pc := 16) d_Reader_isSpelled_16 rfl rfl (Nat.le_of_ble_eq_true rfl) (Nat.le_of_ble_eq_true rfl)
theorem d_Reader_findName_0 : decode Y_Reader_findName.2.1 0 = .ok (.iconst 0, 1) := by decide +kernel
theorem d_Reader_findName_1 : decode Y_Reader_findName.2.1 1 = .ok (.istore_n 1, 1) := by decide +kernel
theorem d_Reader_findName_2 : decode Y_Reader_findName.2.1 2 = .ok (.iload_n 1, 1) := by decide +kernel
theorem d_Reader_findName_3 : decode Y_Reader_findName.2.1 3 = .ok (.aload_n 0, 1) := by decide +kernel
theorem d_Reader_findName_4 : decode Y_Reader_findName.2.1 4 = .ok (.getfield 34, 3) := by decide +kernel
theorem d_Reader_findName_7 : decode Y_Reader_findName.2.1 7 = .ok (.if_icmp .ge 30, 3) := by decide +kernel
theorem d_Reader_findName_10 : decode Y_Reader_findName.2.1 10 = .ok (.aload_n 0, 1) := by decide +kernel
theorem d_Reader_findName_11 : decode Y_Reader_findName.2.1 11 = .ok (.aload_n 0, 1) := by decide +kernel
theorem d_Reader_findName_12 : decode Y_Reader_findName.2.1 12 = .ok (.getfield 37, 3) := by decide +kernel
theorem d_Reader_findName_15 : decode Y_Reader_findName.2.1 15 = .ok (.iload_n 1, 1) := by decide +kernel
theorem d_Reader_findName_16 : decode Y_Reader_findName.2.1 16 = .ok (.iaload, 1) := by decide +kernel
theorem d_Reader_findName_17 : decode Y_Reader_findName.2.1 17 = .ok (.aload_n 0, 1) := by decide +kernel
theorem d_Reader_findName_18 : decode Y_Reader_findName.2.1 18 = .ok (.getfield 41, 3) := by decide +kernel
theorem d_Reader_findName_21 : decode Y_Reader_findName.2.1 21 = .ok (.iload_n 1, 1) := by decide +kernel
theorem d_Reader_findName_22 : decode Y_Reader_findName.2.1 22 = .ok (.iaload, 1) := by decide +kernel
theorem d_Reader_findName_23 : decode Y_Reader_findName.2.1 23 = .ok (.invokevirtual 276, 3) := by decide +kernel
theorem d_Reader_findName_26 : decode Y_Reader_findName.2.1 26 = .ok (.ifCond .eq 5, 3) := by decide +kernel
theorem d_Reader_findName_29 : decode Y_Reader_findName.2.1 29 = .ok (.iload_n 1, 1) := by decide +kernel
theorem d_Reader_findName_30 : decode Y_Reader_findName.2.1 30 = .ok (.ireturn, 1) := by decide +kernel
theorem d_Reader_findName_31 : decode Y_Reader_findName.2.1 31 = .ok (.iinc 1 1, 3) := by decide +kernel
theorem d_Reader_findName_34 : decode Y_Reader_findName.2.1 34 = .ok (.goto (-32), 3) := by decide +kernel
theorem d_Reader_findName_37 : decode Y_Reader_findName.2.1 37 = .ok (.iconst (-1), 1) := by decide +kernel
theorem d_Reader_findName_38 : decode Y_Reader_findName.2.1 38 = .ok (.ireturn, 1) := by decide +kernel
def f_Reader_findName (h : PH) (a0 : Option Nat) : Option Int32 := (pj_it (X := (Unit) ⊕ (Int32)) (fun s1 : Int32 => (gI h 5 a0 9).bind fun v3 => if v3 ≤ s1 then (some (.inr (.inl ()))) else ((gR h 5 a0 10).bind fun v4 => (aI h v4 s1).bind fun v5 => (gR h 5 a0 11).bind fun v6 => (aI h v6 s1).bind fun v7 => (cl h 5 a0 (f_Reader_isSpelled h a0 v5 v7)).bind fun v8 => if v8 = 0 then (some (.inl (s1 + (1 : Int32)))) else (some (.inr (.inr s1))))) FU (0 : Int32)).bind fun x2 => match x2 with | (.inl yx2_0) => some (-1 : Int32) | (.inr yx2_1) => some yx2_1
set_option maxRecDepth 20000 in
theorem PM_Reader_findName {l : Launch} {G : Cx} {h : PH} {a0 : Option Nat} {z : Int32} (hz : f_Reader_findName h a0 = some z) : PM l G 2 0 0 Y_Reader_findName [.inr (.inr a0)] h (some (.inl z), h) := by
  refine PM.of (Y := Y_Reader_findName) (cv := (fun z : Int32 => (((some (.inl z), h) : Option PV × PH)))) (by decide) (L0 := [some (.inr (.inr a0)), none]) 1 rfl (Nat.le_of_ble_eq_true rfl) ?_ hz
  unfold f_Reader_findName
  refine PJ.iconst (pc := 0) (v := 0) d_Reader_findName_0 (by decide) ?_
  refine PJ.istore_n (pc := 1) (L1 := [some (.inr (.inr a0)), some (.inl (0 : Int32))]) d_Reader_findName_1 (Nat.le_of_ble_eq_true rfl) rfl rfl ?_
  refine PJ.bind (fun x2 : (Unit) ⊕ (Int32) => match x2 with | (.inl y0) => ((37 : Nat), ([none, none] : List (Option PV)), ([] : List PV), (h : PH), (0 : Nat), (0 : Nat)) | (.inr y1) => ((29 : Nat), ([none, some (.inl y1)] : List (Option PV)), ([] : List PV), (h : PH), (0 : Nat), (0 : Nat))) (PJ.it (E := (fun s1 : Int32 => ((2 : Nat), ([some (.inr (.inr a0)), some (.inl s1)] : List (Option PV)), ([] : List PV), (h : PH), (0 : Nat), (0 : Nat)))) (F := (fun x2 : (Unit) ⊕ (Int32) => match x2 with | (.inl y0) => ((37 : Nat), ([none, none] : List (Option PV)), ([] : List PV), (h : PH), (0 : Nat), (0 : Nat)) | (.inr y1) => ((29 : Nat), ([none, some (.inl y1)] : List (Option PV)), ([] : List PV), (h : PH), (0 : Nat), (0 : Nat)))) (fun s1 => ?_) FU (0 : Int32)) (fun x2 => ?_)
  · show PJ l G (pj_rm 2 0 0) Y_Reader_findName 2 [some (.inr (.inr a0)), some (.inl s1)] [] h 0 0 _ _
    refine PJ.iload_n (pc := 2) d_Reader_findName_2 rfl ?_
    refine PJ.aload_n (pc := 3) d_Reader_findName_3 rfl ?_
    refine PJ.getI (pc := 4) fs_Reader_34 d_Reader_findName_4 (fun v3 => ?_)
    refine PJ.icmp_ge (pc := 7) (tgt := 37) d_Reader_findName_7 (by decide) (fun _ => ?_) (fun _ => ?_)
    · refine PJ.mk (L1 := [none, none]) [false, false] rfl ?_
      exact PJ.done rfl
    · refine PJ.aload_n (pc := 10) d_Reader_findName_10 rfl ?_
      refine PJ.aload_n (pc := 11) d_Reader_findName_11 rfl ?_
      refine PJ.getR (pc := 12) fs_Reader_37 d_Reader_findName_12 (fun v4 => ?_)
      refine PJ.iload_n (pc := 15) d_Reader_findName_15 rfl ?_
      refine PJ.iald (pc := 16) d_Reader_findName_16 (fun v5 => ?_)
      refine PJ.aload_n (pc := 17) d_Reader_findName_17 rfl ?_
      refine PJ.getR (pc := 18) fs_Reader_41 d_Reader_findName_18 (fun v6 => ?_)
      refine PJ.iload_n (pc := 21) d_Reader_findName_21 rfl ?_
      refine PJ.iald (pc := 22) d_Reader_findName_22 (fun v7 => ?_)
      refine PJ.cVpI (pc := 23) cs_Reader_276 (fun z hz => PM_Reader_isSpelled hz) (pj_fitb rfl) rfl rfl (Nat.le_of_ble_eq_true rfl) d_Reader_findName_23 (fun v8 => ?_)
      refine PJ.if_eq (pc := 26) (tgt := 31) d_Reader_findName_26 (by decide) (fun _ => ?_) (fun _ => ?_)
      · refine PJ.iinc (pc := 31) (v := 1) (L1 := [some (.inr (.inr a0)), some (.inl (s1 + (1 : Int32)))]) d_Reader_findName_31 rfl (by decide) (Nat.le_of_ble_eq_true rfl) rfl rfl ?_
        refine PJ.goto (pc := 34) (tgt := 2) d_Reader_findName_34 (by decide) ?_
        exact PJ.done rfl
      · refine PJ.mk (L1 := [none, some (.inl s1)]) [false, true] rfl ?_
        exact PJ.done rfl
  · rcases x2 with yx2_0 | yx2_1
    · show PJ l G (pj_rm 2 0 0) Y_Reader_findName 37 [none, none] [] h 0 0 _ _
      refine PJ.iconst (pc := 37) (v := -1) d_Reader_findName_37 (by decide) ?_
      exact PJ.iretp (pc := 38) d_Reader_findName_38 rfl (Nat.le_of_ble_eq_true rfl) (Nat.le_of_ble_eq_true rfl)
    · show PJ l G (pj_rm 2 0 0) Y_Reader_findName 29 [none, some (.inl yx2_1)] [] h 0 0 _ _
      refine PJ.iload_n (pc := 29) d_Reader_findName_29 rfl ?_
      exact PJ.iretp (pc := 30) d_Reader_findName_30 rfl (Nat.le_of_ble_eq_true rfl) (Nat.le_of_ble_eq_true rfl)
theorem d_Reader_newName_0 : decode Y_Reader_newName.2.1 0 = .ok (.aload_n 0, 1) := by decide +kernel
theorem d_Reader_newName_1 : decode Y_Reader_newName.2.1 1 = .ok (.getfield 19, 3) := by decide +kernel
theorem d_Reader_newName_4 : decode Y_Reader_newName.2.1 4 = .ok (.iconst 1, 1) := by decide +kernel
theorem d_Reader_newName_5 : decode Y_Reader_newName.2.1 5 = .ok (.if_icmp .ne 11, 3) := by decide +kernel
theorem d_Reader_newName_8 : decode Y_Reader_newName.2.1 8 = .ok (.aload_n 0, 1) := by decide +kernel
theorem d_Reader_newName_9 : decode Y_Reader_newName.2.1 9 = .ok (.invokevirtual 89, 3) := by decide +kernel
theorem d_Reader_newName_12 : decode Y_Reader_newName.2.1 12 = .ok (.iconst (-1), 1) := by decide +kernel
theorem d_Reader_newName_13 : decode Y_Reader_newName.2.1 13 = .ok (.if_icmp .eq 15, 3) := by decide +kernel
theorem d_Reader_newName_16 : decode Y_Reader_newName.2.1 16 = .ok (.aload_n 0, 1) := by decide +kernel
theorem d_Reader_newName_17 : decode Y_Reader_newName.2.1 17 = .ok (.iconst 1, 1) := by decide +kernel
theorem d_Reader_newName_18 : decode Y_Reader_newName.2.1 18 = .ok (.aload_n 0, 1) := by decide +kernel
theorem d_Reader_newName_19 : decode Y_Reader_newName.2.1 19 = .ok (.getfield 22, 3) := by decide +kernel
theorem d_Reader_newName_22 : decode Y_Reader_newName.2.1 22 = .ok (.invokevirtual 75, 3) := by decide +kernel
theorem d_Reader_newName_25 : decode Y_Reader_newName.2.1 25 = .ok (.goto 92, 3) := by decide +kernel
theorem d_Reader_newName_28 : decode Y_Reader_newName.2.1 28 = .ok (.aload_n 0, 1) := by decide +kernel
theorem d_Reader_newName_29 : decode Y_Reader_newName.2.1 29 = .ok (.invokevirtual 273, 3) := by decide +kernel
theorem d_Reader_newName_32 : decode Y_Reader_newName.2.1 32 = .ok (.iconst (-1), 1) := by decide +kernel
theorem d_Reader_newName_33 : decode Y_Reader_newName.2.1 33 = .ok (.if_icmp .eq 15, 3) := by decide +kernel
theorem d_Reader_newName_36 : decode Y_Reader_newName.2.1 36 = .ok (.aload_n 0, 1) := by decide +kernel
theorem d_Reader_newName_37 : decode Y_Reader_newName.2.1 37 = .ok (.iconst 3, 1) := by decide +kernel
theorem d_Reader_newName_38 : decode Y_Reader_newName.2.1 38 = .ok (.aload_n 0, 1) := by decide +kernel
theorem d_Reader_newName_39 : decode Y_Reader_newName.2.1 39 = .ok (.getfield 22, 3) := by decide +kernel
theorem d_Reader_newName_42 : decode Y_Reader_newName.2.1 42 = .ok (.invokevirtual 75, 3) := by decide +kernel
theorem d_Reader_newName_45 : decode Y_Reader_newName.2.1 45 = .ok (.goto 72, 3) := by decide +kernel
theorem d_Reader_newName_48 : decode Y_Reader_newName.2.1 48 = .ok (.aload_n 0, 1) := by decide +kernel
theorem d_Reader_newName_49 : decode Y_Reader_newName.2.1 49 = .ok (.getfield 34, 3) := by decide +kernel
theorem d_Reader_newName_52 : decode Y_Reader_newName.2.1 52 = .ok (.bipush 16, 2) := by decide +kernel
theorem d_Reader_newName_54 : decode Y_Reader_newName.2.1 54 = .ok (.if_icmp .ge 63, 3) := by decide +kernel
theorem d_Reader_newName_57 : decode Y_Reader_newName.2.1 57 = .ok (.aload_n 0, 1) := by decide +kernel
theorem d_Reader_newName_58 : decode Y_Reader_newName.2.1 58 = .ok (.getfield 37, 3) := by decide +kernel
theorem d_Reader_newName_61 : decode Y_Reader_newName.2.1 61 = .ok (.aload_n 0, 1) := by decide +kernel
theorem d_Reader_newName_62 : decode Y_Reader_newName.2.1 62 = .ok (.getfield 34, 3) := by decide +kernel
theorem d_Reader_newName_65 : decode Y_Reader_newName.2.1 65 = .ok (.aload_n 0, 1) := by decide +kernel
theorem d_Reader_newName_66 : decode Y_Reader_newName.2.1 66 = .ok (.getfield 22, 3) := by decide +kernel
theorem d_Reader_newName_69 : decode Y_Reader_newName.2.1 69 = .ok (.iastore, 1) := by decide +kernel
theorem d_Reader_newName_70 : decode Y_Reader_newName.2.1 70 = .ok (.aload_n 0, 1) := by decide +kernel
theorem d_Reader_newName_71 : decode Y_Reader_newName.2.1 71 = .ok (.getfield 41, 3) := by decide +kernel
theorem d_Reader_newName_74 : decode Y_Reader_newName.2.1 74 = .ok (.aload_n 0, 1) := by decide +kernel
theorem d_Reader_newName_75 : decode Y_Reader_newName.2.1 75 = .ok (.getfield 34, 3) := by decide +kernel
theorem d_Reader_newName_78 : decode Y_Reader_newName.2.1 78 = .ok (.aload_n 0, 1) := by decide +kernel
theorem d_Reader_newName_79 : decode Y_Reader_newName.2.1 79 = .ok (.getfield 25, 3) := by decide +kernel
theorem d_Reader_newName_82 : decode Y_Reader_newName.2.1 82 = .ok (.iastore, 1) := by decide +kernel
theorem d_Reader_newName_83 : decode Y_Reader_newName.2.1 83 = .ok (.aload_n 0, 1) := by decide +kernel
theorem d_Reader_newName_84 : decode Y_Reader_newName.2.1 84 = .ok (.getfield 44, 3) := by decide +kernel
theorem d_Reader_newName_87 : decode Y_Reader_newName.2.1 87 = .ok (.aload_n 0, 1) := by decide +kernel
theorem d_Reader_newName_88 : decode Y_Reader_newName.2.1 88 = .ok (.getfield 34, 3) := by decide +kernel
theorem d_Reader_newName_91 : decode Y_Reader_newName.2.1 91 = .ok (.iload_n 1, 1) := by decide +kernel
theorem d_Reader_newName_92 : decode Y_Reader_newName.2.1 92 = .ok (.iastore, 1) := by decide +kernel
theorem d_Reader_newName_93 : decode Y_Reader_newName.2.1 93 = .ok (.aload_n 0, 1) := by decide +kernel
theorem d_Reader_newName_94 : decode Y_Reader_newName.2.1 94 = .ok (.getfield 47, 3) := by decide +kernel
theorem d_Reader_newName_97 : decode Y_Reader_newName.2.1 97 = .ok (.aload_n 0, 1) := by decide +kernel
theorem d_Reader_newName_98 : decode Y_Reader_newName.2.1 98 = .ok (.getfield 34, 3) := by decide +kernel
theorem d_Reader_newName_101 : decode Y_Reader_newName.2.1 101 = .ok (.iload_n 2, 1) := by decide +kernel
theorem d_Reader_newName_102 : decode Y_Reader_newName.2.1 102 = .ok (.iastore, 1) := by decide +kernel
theorem d_Reader_newName_103 : decode Y_Reader_newName.2.1 103 = .ok (.aload_n 0, 1) := by decide +kernel
theorem d_Reader_newName_104 : decode Y_Reader_newName.2.1 104 = .ok (.dup, 1) := by decide +kernel
theorem d_Reader_newName_105 : decode Y_Reader_newName.2.1 105 = .ok (.getfield 34, 3) := by decide +kernel
theorem d_Reader_newName_108 : decode Y_Reader_newName.2.1 108 = .ok (.iconst 1, 1) := by decide +kernel
theorem d_Reader_newName_109 : decode Y_Reader_newName.2.1 109 = .ok (.iadd, 1) := by decide +kernel
theorem d_Reader_newName_110 : decode Y_Reader_newName.2.1 110 = .ok (.putfield 34, 3) := by decide +kernel
theorem d_Reader_newName_113 : decode Y_Reader_newName.2.1 113 = .ok (.aload_n 0, 1) := by decide +kernel
theorem d_Reader_newName_114 : decode Y_Reader_newName.2.1 114 = .ok (.invokevirtual 69, 3) := by decide +kernel
theorem d_Reader_newName_117 : decode Y_Reader_newName.2.1 117 = .ok (.return_, 1) := by decide +kernel
def f_Reader_newName (h : PH) (a0 : Option Nat) (a1 : Int32) (a2 : Int32) : Option PH := (gI h 5 a0 4).bind fun v1 => if ¬ v1 = (1 : Int32) then ((gI h 5 a0 5).bind fun v2 => (cl h 5 a0 (f_Reader_fail h a0 (1 : Int32) v2)).bind fun h3 => some h3) else ((cl h 5 a0 (f_Reader_lineSort h a0)).bind fun v4 => if v4 = (-1 : Int32) then ((cl h 5 a0 (f_Reader_findName h a0)).bind fun v5 => if v5 = (-1 : Int32) then ((gI h 5 a0 9).bind fun v6 => if (16 : Int32) ≤ v6 then (some h) else ((gR h 5 a0 10).bind fun v7 => (gI h 5 a0 9).bind fun v8 => (gI h 5 a0 5).bind fun v9 => (sA h 50 v7 v8 (.inl v9)).bind fun h10 => (gR h10 5 a0 11).bind fun v11 => (gI h10 5 a0 9).bind fun v12 => (gI h10 5 a0 6).bind fun v13 => (sA h10 50 v11 v12 (.inl v13)).bind fun h14 => (gR h14 5 a0 12).bind fun v15 => (gI h14 5 a0 9).bind fun v16 => (sA h14 50 v15 v16 (.inl a1)).bind fun h17 => (gR h17 5 a0 13).bind fun v18 => (gI h17 5 a0 9).bind fun v19 => (sA h17 50 v18 v19 (.inl a2)).bind fun h20 => (gI h20 5 a0 9).bind fun v21 => (sF h20 5 a0 9 (.inl (v21 + (1 : Int32)))).bind fun h22 => (cl h22 5 a0 (f_Reader_next h22 a0)).bind fun h23 => some h23)) else ((gI h 5 a0 5).bind fun v24 => (cl h 5 a0 (f_Reader_fail h a0 (3 : Int32) v24)).bind fun h25 => some h25)) else ((gI h 5 a0 5).bind fun v26 => (cl h 5 a0 (f_Reader_fail h a0 (1 : Int32) v26)).bind fun h27 => some h27))
set_option maxRecDepth 20000 in
theorem PM_Reader_newName {l : Launch} {G : Cx} {h : PH} {a0 : Option Nat} {a1 : Int32} {a2 : Int32} {z : PH} (hz : f_Reader_newName h a0 a1 a2 = some z) : PM l G 9 0 0 Y_Reader_newName [.inr (.inr a0), .inl a1, .inl a2] h (none, z) := by
  refine PM.of (Y := Y_Reader_newName) (cv := (fun z : PH => (((none, z) : Option PV × PH)))) (by decide) (L0 := [some (.inr (.inr a0)), some (.inl a1), some (.inl a2)]) 0 rfl (Nat.le_of_ble_eq_true rfl) ?_ hz
  unfold f_Reader_newName
  refine PJ.aload_n (pc := 0) d_Reader_newName_0 rfl ?_
  refine PJ.getI (pc := 1) fs_Reader_19 d_Reader_newName_1 (fun v1 => ?_)
  refine PJ.iconst (pc := 4) (v := 1) d_Reader_newName_4 (by decide) ?_
  refine PJ.icmp_ne (pc := 5) (tgt := 16) d_Reader_newName_5 (by decide) (fun _ => ?_) (fun _ => ?_)
  · refine PJ.aload_n (pc := 16) d_Reader_newName_16 rfl ?_
    refine PJ.iconst (pc := 17) (v := 1) d_Reader_newName_17 (by decide) ?_
    refine PJ.aload_n (pc := 18) d_Reader_newName_18 rfl ?_
    refine PJ.getI (pc := 19) fs_Reader_22 d_Reader_newName_19 (fun v2 => ?_)
    refine PJ.cVV (pc := 22) cs_Reader_75 (fun z hz => PM_Reader_fail hz) (pj_fitb rfl) rfl rfl (Nat.le_of_ble_eq_true rfl) d_Reader_newName_22 (fun h3 => ?_)
    refine PJ.goto (pc := 25) (tgt := 117) d_Reader_newName_25 (by decide) ?_
    exact PJ.vret (pc := 117) d_Reader_newName_117 rfl (Nat.le_of_ble_eq_true rfl) (Nat.le_of_ble_eq_true rfl)
  · refine PJ.aload_n (pc := 8) d_Reader_newName_8 rfl ?_
    refine PJ.cVpI (pc := 9) cs_Reader_89 (fun z hz => PM_Reader_lineSort hz) (pj_fitb rfl) rfl rfl (Nat.le_of_ble_eq_true rfl) d_Reader_newName_9 (fun v4 => ?_)
    refine PJ.iconst (pc := 12) (v := -1) d_Reader_newName_12 (by decide) ?_
    refine PJ.icmp_eq (pc := 13) (tgt := 28) d_Reader_newName_13 (by decide) (fun _ => ?_) (fun _ => ?_)
    · refine PJ.aload_n (pc := 28) d_Reader_newName_28 rfl ?_
      refine PJ.cVpI (pc := 29) cs_Reader_273 (fun z hz => PM_Reader_findName hz) (pj_fitb rfl) rfl rfl (Nat.le_of_ble_eq_true rfl) d_Reader_newName_29 (fun v5 => ?_)
      refine PJ.iconst (pc := 32) (v := -1) d_Reader_newName_32 (by decide) ?_
      refine PJ.icmp_eq (pc := 33) (tgt := 48) d_Reader_newName_33 (by decide) (fun _ => ?_) (fun _ => ?_)
      · refine PJ.aload_n (pc := 48) d_Reader_newName_48 rfl ?_
        refine PJ.getI (pc := 49) fs_Reader_34 d_Reader_newName_49 (fun v6 => ?_)
        refine PJ.bipush (pc := 52) (v := 16) d_Reader_newName_52 (by decide) ?_
        refine PJ.icmp_ge (pc := 54) (tgt := 117) d_Reader_newName_54 (by decide) (fun _ => ?_) (fun _ => ?_)
        · exact PJ.vret (pc := 117) d_Reader_newName_117 rfl (Nat.le_of_ble_eq_true rfl) (Nat.le_of_ble_eq_true rfl)
        · refine PJ.aload_n (pc := 57) d_Reader_newName_57 rfl ?_
          refine PJ.getR (pc := 58) fs_Reader_37 d_Reader_newName_58 (fun v7 => ?_)
          refine PJ.aload_n (pc := 61) d_Reader_newName_61 rfl ?_
          refine PJ.getI (pc := 62) fs_Reader_34 d_Reader_newName_62 (fun v8 => ?_)
          refine PJ.aload_n (pc := 65) d_Reader_newName_65 rfl ?_
          refine PJ.getI (pc := 66) fs_Reader_22 d_Reader_newName_66 (fun v9 => ?_)
          refine PJ.iast (pc := 69) d_Reader_newName_69 (fun h10 => ?_)
          refine PJ.aload_n (pc := 70) d_Reader_newName_70 rfl ?_
          refine PJ.getR (pc := 71) fs_Reader_41 d_Reader_newName_71 (fun v11 => ?_)
          refine PJ.aload_n (pc := 74) d_Reader_newName_74 rfl ?_
          refine PJ.getI (pc := 75) fs_Reader_34 d_Reader_newName_75 (fun v12 => ?_)
          refine PJ.aload_n (pc := 78) d_Reader_newName_78 rfl ?_
          refine PJ.getI (pc := 79) fs_Reader_25 d_Reader_newName_79 (fun v13 => ?_)
          refine PJ.iast (pc := 82) d_Reader_newName_82 (fun h14 => ?_)
          refine PJ.aload_n (pc := 83) d_Reader_newName_83 rfl ?_
          refine PJ.getR (pc := 84) fs_Reader_44 d_Reader_newName_84 (fun v15 => ?_)
          refine PJ.aload_n (pc := 87) d_Reader_newName_87 rfl ?_
          refine PJ.getI (pc := 88) fs_Reader_34 d_Reader_newName_88 (fun v16 => ?_)
          refine PJ.iload_n (pc := 91) d_Reader_newName_91 rfl ?_
          refine PJ.iast (pc := 92) d_Reader_newName_92 (fun h17 => ?_)
          refine PJ.aload_n (pc := 93) d_Reader_newName_93 rfl ?_
          refine PJ.getR (pc := 94) fs_Reader_47 d_Reader_newName_94 (fun v18 => ?_)
          refine PJ.aload_n (pc := 97) d_Reader_newName_97 rfl ?_
          refine PJ.getI (pc := 98) fs_Reader_34 d_Reader_newName_98 (fun v19 => ?_)
          refine PJ.iload_n (pc := 101) d_Reader_newName_101 rfl ?_
          refine PJ.iast (pc := 102) d_Reader_newName_102 (fun h20 => ?_)
          refine PJ.aload_n (pc := 103) d_Reader_newName_103 rfl ?_
          refine PJ.dup (pc := 104) d_Reader_newName_104 rfl ?_
          refine PJ.getI (pc := 105) fs_Reader_34 d_Reader_newName_105 (fun v21 => ?_)
          refine PJ.iconst (pc := 108) (v := 1) d_Reader_newName_108 (by decide) ?_
          refine PJ.iadd (pc := 109) d_Reader_newName_109 ?_
          refine PJ.putI (pc := 110) ps_Reader_34 d_Reader_newName_110 (fun h22 => ?_)
          refine PJ.aload_n (pc := 113) d_Reader_newName_113 rfl ?_
          refine PJ.cVV (pc := 114) cs_Reader_69 (fun z hz => PM_Reader_next hz) (pj_fitb rfl) rfl rfl (Nat.le_of_ble_eq_true rfl) d_Reader_newName_114 (fun h23 => ?_)
          exact PJ.vret (pc := 117) d_Reader_newName_117 rfl (Nat.le_of_ble_eq_true rfl) (Nat.le_of_ble_eq_true rfl)
      · refine PJ.aload_n (pc := 36) d_Reader_newName_36 rfl ?_
        refine PJ.iconst (pc := 37) (v := 3) d_Reader_newName_37 (by decide) ?_
        refine PJ.aload_n (pc := 38) d_Reader_newName_38 rfl ?_
        refine PJ.getI (pc := 39) fs_Reader_22 d_Reader_newName_39 (fun v24 => ?_)
        refine PJ.cVV (pc := 42) cs_Reader_75 (fun z hz => PM_Reader_fail hz) (pj_fitb rfl) rfl rfl (Nat.le_of_ble_eq_true rfl) d_Reader_newName_42 (fun h25 => ?_)
        refine PJ.goto (pc := 45) (tgt := 117) d_Reader_newName_45 (by decide) ?_
        exact PJ.vret (pc := 117) d_Reader_newName_117 rfl (Nat.le_of_ble_eq_true rfl) (Nat.le_of_ble_eq_true rfl)
    · refine PJ.aload_n (pc := 16) d_Reader_newName_16 rfl ?_
      refine PJ.iconst (pc := 17) (v := 1) d_Reader_newName_17 (by decide) ?_
      refine PJ.aload_n (pc := 18) d_Reader_newName_18 rfl ?_
      refine PJ.getI (pc := 19) fs_Reader_22 d_Reader_newName_19 (fun v26 => ?_)
      refine PJ.cVV (pc := 22) cs_Reader_75 (fun z hz => PM_Reader_fail hz) (pj_fitb rfl) rfl rfl (Nat.le_of_ble_eq_true rfl) d_Reader_newName_22 (fun h27 => ?_)
      refine PJ.goto (pc := 25) (tgt := 117) d_Reader_newName_25 (by decide) ?_
      exact PJ.vret (pc := 117) d_Reader_newName_117 rfl (Nat.le_of_ble_eq_true rfl) (Nat.le_of_ble_eq_true rfl)
theorem d_Reader_readChoice_0 : decode Y_Reader_readChoice.2.1 0 = .ok (.aload_n 0, 1) := by decide +kernel
theorem d_Reader_readChoice_1 : decode Y_Reader_readChoice.2.1 1 = .ok (.iconst 1, 1) := by decide +kernel
theorem d_Reader_readChoice_2 : decode Y_Reader_readChoice.2.1 2 = .ok (.aload_n 0, 1) := by decide +kernel
theorem d_Reader_readChoice_3 : decode Y_Reader_readChoice.2.1 3 = .ok (.getfield 54, 3) := by decide +kernel
theorem d_Reader_readChoice_6 : decode Y_Reader_readChoice.2.1 6 = .ok (.getfield 79, 3) := by decide +kernel
theorem d_Reader_readChoice_9 : decode Y_Reader_readChoice.2.1 9 = .ok (.invokevirtual 201, 3) := by decide +kernel
theorem d_Reader_readChoice_12 : decode Y_Reader_readChoice.2.1 12 = .ok (.aload_n 0, 1) := by decide +kernel
theorem d_Reader_readChoice_13 : decode Y_Reader_readChoice.2.1 13 = .ok (.getfield 28, 3) := by decide +kernel
theorem d_Reader_readChoice_16 : decode Y_Reader_readChoice.2.1 16 = .ok (.ifCond .ne 16, 3) := by decide +kernel
theorem d_Reader_readChoice_19 : decode Y_Reader_readChoice.2.1 19 = .ok (.aload_n 0, 1) := by decide +kernel
theorem d_Reader_readChoice_20 : decode Y_Reader_readChoice.2.1 20 = .ok (.getfield 54, 3) := by decide +kernel
theorem d_Reader_readChoice_23 : decode Y_Reader_readChoice.2.1 23 = .ok (.dup, 1) := by decide +kernel
theorem d_Reader_readChoice_24 : decode Y_Reader_readChoice.2.1 24 = .ok (.getfield 79, 3) := by decide +kernel
theorem d_Reader_readChoice_27 : decode Y_Reader_readChoice.2.1 27 = .ok (.iconst 1, 1) := by decide +kernel
theorem d_Reader_readChoice_28 : decode Y_Reader_readChoice.2.1 28 = .ok (.iadd, 1) := by decide +kernel
theorem d_Reader_readChoice_29 : decode Y_Reader_readChoice.2.1 29 = .ok (.putfield 79, 3) := by decide +kernel
theorem d_Reader_readChoice_32 : decode Y_Reader_readChoice.2.1 32 = .ok (.return_, 1) := by decide +kernel
def f_Reader_readChoice (h : PH) (a0 : Option Nat) : Option PH := (gR h 5 a0 2).bind fun v1 => (gI h 1 v1 2).bind fun v2 => (cl h 5 a0 (f_Reader_newName h a0 (1 : Int32) v2)).bind fun h3 => (gI h3 5 a0 7).bind fun v4 => if ¬ v4 = 0 then (some h3) else ((gR h3 5 a0 2).bind fun v5 => (gI h3 1 v5 2).bind fun v6 => (sF h3 1 v5 2 (.inl (v6 + (1 : Int32)))).bind fun h7 => some h7)
set_option maxRecDepth 20000 in
theorem PM_Reader_readChoice {l : Launch} {G : Cx} {h : PH} {a0 : Option Nat} {z : PH} (hz : f_Reader_readChoice h a0 = some z) : PM l G 10 0 0 Y_Reader_readChoice [.inr (.inr a0)] h (none, z) := by
  refine PM.of (Y := Y_Reader_readChoice) (cv := (fun z : PH => (((none, z) : Option PV × PH)))) (by decide) (L0 := [some (.inr (.inr a0))]) 0 rfl (Nat.le_of_ble_eq_true rfl) ?_ hz
  unfold f_Reader_readChoice
  refine PJ.aload_n (pc := 0) d_Reader_readChoice_0 rfl ?_
  refine PJ.iconst (pc := 1) (v := 1) d_Reader_readChoice_1 (by decide) ?_
  refine PJ.aload_n (pc := 2) d_Reader_readChoice_2 rfl ?_
  refine PJ.getR (pc := 3) fs_Reader_54 d_Reader_readChoice_3 (fun v1 => ?_)
  refine PJ.getI (pc := 6) fs_Reader_79 d_Reader_readChoice_6 (fun v2 => ?_)
  refine PJ.cVV (pc := 9) cs_Reader_201 (fun z hz => PM_Reader_newName hz) (pj_fitb rfl) rfl rfl (Nat.le_of_ble_eq_true rfl) d_Reader_readChoice_9 (fun h3 => ?_)
  refine PJ.aload_n (pc := 12) d_Reader_readChoice_12 rfl ?_
  refine PJ.getI (pc := 13) fs_Reader_28 d_Reader_readChoice_13 (fun v4 => ?_)
  refine PJ.if_ne (pc := 16) (tgt := 32) d_Reader_readChoice_16 (by decide) (fun _ => ?_) (fun _ => ?_)
  · exact PJ.vret (pc := 32) d_Reader_readChoice_32 rfl (Nat.le_of_ble_eq_true rfl) (Nat.le_of_ble_eq_true rfl)
  · refine PJ.aload_n (pc := 19) d_Reader_readChoice_19 rfl ?_
    refine PJ.getR (pc := 20) fs_Reader_54 d_Reader_readChoice_20 (fun v5 => ?_)
    refine PJ.dup (pc := 23) d_Reader_readChoice_23 rfl ?_
    refine PJ.getI (pc := 24) fs_Reader_79 d_Reader_readChoice_24 (fun v6 => ?_)
    refine PJ.iconst (pc := 27) (v := 1) d_Reader_readChoice_27 (by decide) ?_
    refine PJ.iadd (pc := 28) d_Reader_readChoice_28 ?_
    refine PJ.putI (pc := 29) ps_Reader_79 d_Reader_readChoice_29 (fun h7 => ?_)
    exact PJ.vret (pc := 32) d_Reader_readChoice_32 rfl (Nat.le_of_ble_eq_true rfl) (Nat.le_of_ble_eq_true rfl)
theorem d_Reader_known_0 : decode Y_Reader_known.2.1 0 = .ok (.aload_n 0, 1) := by decide +kernel
theorem d_Reader_known_1 : decode Y_Reader_known.2.1 1 = .ok (.getfield 28, 3) := by decide +kernel
theorem d_Reader_known_4 : decode Y_Reader_known.2.1 4 = .ok (.ifCond .eq 5, 3) := by decide +kernel
theorem d_Reader_known_7 : decode Y_Reader_known.2.1 7 = .ok (.iconst 0, 1) := by decide +kernel
theorem d_Reader_known_8 : decode Y_Reader_known.2.1 8 = .ok (.ireturn, 1) := by decide +kernel
theorem d_Reader_known_9 : decode Y_Reader_known.2.1 9 = .ok (.aload_n 0, 1) := by decide +kernel
theorem d_Reader_known_10 : decode Y_Reader_known.2.1 10 = .ok (.getfield 19, 3) := by decide +kernel
theorem d_Reader_known_13 : decode Y_Reader_known.2.1 13 = .ok (.iconst 1, 1) := by decide +kernel
theorem d_Reader_known_14 : decode Y_Reader_known.2.1 14 = .ok (.if_icmp .ne 11, 3) := by decide +kernel
theorem d_Reader_known_17 : decode Y_Reader_known.2.1 17 = .ok (.aload_n 0, 1) := by decide +kernel
theorem d_Reader_known_18 : decode Y_Reader_known.2.1 18 = .ok (.invokevirtual 89, 3) := by decide +kernel
theorem d_Reader_known_21 : decode Y_Reader_known.2.1 21 = .ok (.iconst (-1), 1) := by decide +kernel
theorem d_Reader_known_22 : decode Y_Reader_known.2.1 22 = .ok (.if_icmp .eq 14, 3) := by decide +kernel
theorem d_Reader_known_25 : decode Y_Reader_known.2.1 25 = .ok (.aload_n 0, 1) := by decide +kernel
theorem d_Reader_known_26 : decode Y_Reader_known.2.1 26 = .ok (.iconst 1, 1) := by decide +kernel
theorem d_Reader_known_27 : decode Y_Reader_known.2.1 27 = .ok (.aload_n 0, 1) := by decide +kernel
theorem d_Reader_known_28 : decode Y_Reader_known.2.1 28 = .ok (.getfield 22, 3) := by decide +kernel
theorem d_Reader_known_31 : decode Y_Reader_known.2.1 31 = .ok (.invokevirtual 75, 3) := by decide +kernel
theorem d_Reader_known_34 : decode Y_Reader_known.2.1 34 = .ok (.iconst 0, 1) := by decide +kernel
theorem d_Reader_known_35 : decode Y_Reader_known.2.1 35 = .ok (.ireturn, 1) := by decide +kernel
theorem d_Reader_known_36 : decode Y_Reader_known.2.1 36 = .ok (.aload_n 0, 1) := by decide +kernel
theorem d_Reader_known_37 : decode Y_Reader_known.2.1 37 = .ok (.invokevirtual 273, 3) := by decide +kernel
theorem d_Reader_known_40 : decode Y_Reader_known.2.1 40 = .ok (.istore_n 2, 1) := by decide +kernel
theorem d_Reader_known_41 : decode Y_Reader_known.2.1 41 = .ok (.iload_n 2, 1) := by decide +kernel
theorem d_Reader_known_42 : decode Y_Reader_known.2.1 42 = .ok (.ifCond .lt 13, 3) := by decide +kernel
theorem d_Reader_known_45 : decode Y_Reader_known.2.1 45 = .ok (.aload_n 0, 1) := by decide +kernel
theorem d_Reader_known_46 : decode Y_Reader_known.2.1 46 = .ok (.getfield 44, 3) := by decide +kernel
theorem d_Reader_known_49 : decode Y_Reader_known.2.1 49 = .ok (.iload_n 2, 1) := by decide +kernel
theorem d_Reader_known_50 : decode Y_Reader_known.2.1 50 = .ok (.iaload, 1) := by decide +kernel
theorem d_Reader_known_51 : decode Y_Reader_known.2.1 51 = .ok (.iload_n 1, 1) := by decide +kernel
theorem d_Reader_known_52 : decode Y_Reader_known.2.1 52 = .ok (.if_icmp .eq 14, 3) := by decide +kernel
theorem d_Reader_known_55 : decode Y_Reader_known.2.1 55 = .ok (.aload_n 0, 1) := by decide +kernel
theorem d_Reader_known_56 : decode Y_Reader_known.2.1 56 = .ok (.iconst 2, 1) := by decide +kernel
theorem d_Reader_known_57 : decode Y_Reader_known.2.1 57 = .ok (.aload_n 0, 1) := by decide +kernel
theorem d_Reader_known_58 : decode Y_Reader_known.2.1 58 = .ok (.getfield 22, 3) := by decide +kernel
theorem d_Reader_known_61 : decode Y_Reader_known.2.1 61 = .ok (.invokevirtual 75, 3) := by decide +kernel
theorem d_Reader_known_64 : decode Y_Reader_known.2.1 64 = .ok (.iconst 0, 1) := by decide +kernel
theorem d_Reader_known_65 : decode Y_Reader_known.2.1 65 = .ok (.ireturn, 1) := by decide +kernel
theorem d_Reader_known_66 : decode Y_Reader_known.2.1 66 = .ok (.aload_n 0, 1) := by decide +kernel
theorem d_Reader_known_67 : decode Y_Reader_known.2.1 67 = .ok (.invokevirtual 69, 3) := by decide +kernel
theorem d_Reader_known_70 : decode Y_Reader_known.2.1 70 = .ok (.aload_n 0, 1) := by decide +kernel
theorem d_Reader_known_71 : decode Y_Reader_known.2.1 71 = .ok (.getfield 47, 3) := by decide +kernel
theorem d_Reader_known_74 : decode Y_Reader_known.2.1 74 = .ok (.iload_n 2, 1) := by decide +kernel
theorem d_Reader_known_75 : decode Y_Reader_known.2.1 75 = .ok (.iaload, 1) := by decide +kernel
theorem d_Reader_known_76 : decode Y_Reader_known.2.1 76 = .ok (.ireturn, 1) := by decide +kernel
def f_Reader_known (h : PH) (a0 : Option Nat) (a1 : Int32) : Option (Int32 × PH) := (gI h 5 a0 7).bind fun v1 => if v1 = 0 then ((gI h 5 a0 4).bind fun v2 => if ¬ v2 = (1 : Int32) then ((gI h 5 a0 5).bind fun v3 => (cl h 5 a0 (f_Reader_fail h a0 (1 : Int32) v3)).bind fun h4 => some ((0 : Int32), h4)) else ((cl h 5 a0 (f_Reader_lineSort h a0)).bind fun v5 => if v5 = (-1 : Int32) then ((cl h 5 a0 (f_Reader_findName h a0)).bind fun v6 => if v6 < 0 then ((gI h 5 a0 5).bind fun v7 => (cl h 5 a0 (f_Reader_fail h a0 (2 : Int32) v7)).bind fun h8 => some ((0 : Int32), h8)) else ((gR h 5 a0 12).bind fun v9 => (aI h v9 v6).bind fun v10 => if v10 = a1 then ((cl h 5 a0 (f_Reader_next h a0)).bind fun h11 => (gR h11 5 a0 13).bind fun v12 => (aI h11 v12 v6).bind fun v13 => some (v13, h11)) else ((gI h 5 a0 5).bind fun v14 => (cl h 5 a0 (f_Reader_fail h a0 (2 : Int32) v14)).bind fun h15 => some ((0 : Int32), h15)))) else ((gI h 5 a0 5).bind fun v16 => (cl h 5 a0 (f_Reader_fail h a0 (1 : Int32) v16)).bind fun h17 => some ((0 : Int32), h17)))) else (some ((0 : Int32), h))
set_option maxRecDepth 20000 in
theorem PM_Reader_known {l : Launch} {G : Cx} {h : PH} {a0 : Option Nat} {a1 : Int32} {z : (Int32 × PH)} (hz : f_Reader_known h a0 a1 = some z) : PM l G 9 0 0 Y_Reader_known [.inr (.inr a0), .inl a1] h (some (.inl z.1), z.2) := by
  refine PM.of (Y := Y_Reader_known) (cv := (fun z : (Int32 × PH) => (((some (.inl z.1), z.2) : Option PV × PH)))) (by decide) (L0 := [some (.inr (.inr a0)), some (.inl a1), none]) 1 rfl (Nat.le_of_ble_eq_true rfl) ?_ hz
  unfold f_Reader_known
  refine PJ.aload_n (pc := 0) d_Reader_known_0 rfl ?_
  refine PJ.getI (pc := 1) fs_Reader_28 d_Reader_known_1 (fun v1 => ?_)
  refine PJ.if_eq (pc := 4) (tgt := 9) d_Reader_known_4 (by decide) (fun _ => ?_) (fun _ => ?_)
  · refine PJ.aload_n (pc := 9) d_Reader_known_9 rfl ?_
    refine PJ.getI (pc := 10) fs_Reader_19 d_Reader_known_10 (fun v2 => ?_)
    refine PJ.iconst (pc := 13) (v := 1) d_Reader_known_13 (by decide) ?_
    refine PJ.icmp_ne (pc := 14) (tgt := 25) d_Reader_known_14 (by decide) (fun _ => ?_) (fun _ => ?_)
    · refine PJ.aload_n (pc := 25) d_Reader_known_25 rfl ?_
      refine PJ.iconst (pc := 26) (v := 1) d_Reader_known_26 (by decide) ?_
      refine PJ.aload_n (pc := 27) d_Reader_known_27 rfl ?_
      refine PJ.getI (pc := 28) fs_Reader_22 d_Reader_known_28 (fun v3 => ?_)
      refine PJ.cVV (pc := 31) cs_Reader_75 (fun z hz => PM_Reader_fail hz) (pj_fitb rfl) rfl rfl (Nat.le_of_ble_eq_true rfl) d_Reader_known_31 (fun h4 => ?_)
      refine PJ.iconst (pc := 34) (v := 0) d_Reader_known_34 (by decide) ?_
      exact PJ.iret (pc := 35) d_Reader_known_35 rfl (Nat.le_of_ble_eq_true rfl) (Nat.le_of_ble_eq_true rfl)
    · refine PJ.aload_n (pc := 17) d_Reader_known_17 rfl ?_
      refine PJ.cVpI (pc := 18) cs_Reader_89 (fun z hz => PM_Reader_lineSort hz) (pj_fitb rfl) rfl rfl (Nat.le_of_ble_eq_true rfl) d_Reader_known_18 (fun v5 => ?_)
      refine PJ.iconst (pc := 21) (v := -1) d_Reader_known_21 (by decide) ?_
      refine PJ.icmp_eq (pc := 22) (tgt := 36) d_Reader_known_22 (by decide) (fun _ => ?_) (fun _ => ?_)
      · refine PJ.aload_n (pc := 36) d_Reader_known_36 rfl ?_
        refine PJ.cVpI (pc := 37) cs_Reader_273 (fun z hz => PM_Reader_findName hz) (pj_fitb rfl) rfl rfl (Nat.le_of_ble_eq_true rfl) d_Reader_known_37 (fun v6 => ?_)
        refine PJ.istore_n (pc := 40) (L1 := [some (.inr (.inr a0)), some (.inl a1), some (.inl v6)]) d_Reader_known_40 (Nat.le_of_ble_eq_true rfl) rfl rfl ?_
        refine PJ.iload_n (pc := 41) d_Reader_known_41 rfl ?_
        refine PJ.if_lt (pc := 42) (tgt := 55) d_Reader_known_42 (by decide) (fun _ => ?_) (fun _ => ?_)
        · refine PJ.aload_n (pc := 55) d_Reader_known_55 rfl ?_
          refine PJ.iconst (pc := 56) (v := 2) d_Reader_known_56 (by decide) ?_
          refine PJ.aload_n (pc := 57) d_Reader_known_57 rfl ?_
          refine PJ.getI (pc := 58) fs_Reader_22 d_Reader_known_58 (fun v7 => ?_)
          refine PJ.cVV (pc := 61) cs_Reader_75 (fun z hz => PM_Reader_fail hz) (pj_fitb rfl) rfl rfl (Nat.le_of_ble_eq_true rfl) d_Reader_known_61 (fun h8 => ?_)
          refine PJ.iconst (pc := 64) (v := 0) d_Reader_known_64 (by decide) ?_
          exact PJ.iret (pc := 65) d_Reader_known_65 rfl (Nat.le_of_ble_eq_true rfl) (Nat.le_of_ble_eq_true rfl)
        · refine PJ.aload_n (pc := 45) d_Reader_known_45 rfl ?_
          refine PJ.getR (pc := 46) fs_Reader_44 d_Reader_known_46 (fun v9 => ?_)
          refine PJ.iload_n (pc := 49) d_Reader_known_49 rfl ?_
          refine PJ.iald (pc := 50) d_Reader_known_50 (fun v10 => ?_)
          refine PJ.iload_n (pc := 51) d_Reader_known_51 rfl ?_
          refine PJ.icmp_eq (pc := 52) (tgt := 66) d_Reader_known_52 (by decide) (fun _ => ?_) (fun _ => ?_)
          · refine PJ.aload_n (pc := 66) d_Reader_known_66 rfl ?_
            refine PJ.cVV (pc := 67) cs_Reader_69 (fun z hz => PM_Reader_next hz) (pj_fitb rfl) rfl rfl (Nat.le_of_ble_eq_true rfl) d_Reader_known_67 (fun h11 => ?_)
            refine PJ.aload_n (pc := 70) d_Reader_known_70 rfl ?_
            refine PJ.getR (pc := 71) fs_Reader_47 d_Reader_known_71 (fun v12 => ?_)
            refine PJ.iload_n (pc := 74) d_Reader_known_74 rfl ?_
            refine PJ.iald (pc := 75) d_Reader_known_75 (fun v13 => ?_)
            exact PJ.iret (pc := 76) d_Reader_known_76 rfl (Nat.le_of_ble_eq_true rfl) (Nat.le_of_ble_eq_true rfl)
          · refine PJ.aload_n (pc := 55) d_Reader_known_55 rfl ?_
            refine PJ.iconst (pc := 56) (v := 2) d_Reader_known_56 (by decide) ?_
            refine PJ.aload_n (pc := 57) d_Reader_known_57 rfl ?_
            refine PJ.getI (pc := 58) fs_Reader_22 d_Reader_known_58 (fun v14 => ?_)
            refine PJ.cVV (pc := 61) cs_Reader_75 (fun z hz => PM_Reader_fail hz) (pj_fitb rfl) rfl rfl (Nat.le_of_ble_eq_true rfl) d_Reader_known_61 (fun h15 => ?_)
            refine PJ.iconst (pc := 64) (v := 0) d_Reader_known_64 (by decide) ?_
            exact PJ.iret (pc := 65) d_Reader_known_65 rfl (Nat.le_of_ble_eq_true rfl) (Nat.le_of_ble_eq_true rfl)
      · refine PJ.aload_n (pc := 25) d_Reader_known_25 rfl ?_
        refine PJ.iconst (pc := 26) (v := 1) d_Reader_known_26 (by decide) ?_
        refine PJ.aload_n (pc := 27) d_Reader_known_27 rfl ?_
        refine PJ.getI (pc := 28) fs_Reader_22 d_Reader_known_28 (fun v16 => ?_)
        refine PJ.cVV (pc := 31) cs_Reader_75 (fun z hz => PM_Reader_fail hz) (pj_fitb rfl) rfl rfl (Nat.le_of_ble_eq_true rfl) d_Reader_known_31 (fun h17 => ?_)
        refine PJ.iconst (pc := 34) (v := 0) d_Reader_known_34 (by decide) ?_
        exact PJ.iret (pc := 35) d_Reader_known_35 rfl (Nat.le_of_ble_eq_true rfl) (Nat.le_of_ble_eq_true rfl)
  · refine PJ.iconst (pc := 7) (v := 0) d_Reader_known_7 (by decide) ?_
    exact PJ.iret (pc := 8) d_Reader_known_8 rfl (Nat.le_of_ble_eq_true rfl) (Nat.le_of_ble_eq_true rfl)
theorem d_Reader_readFar_0 : decode Y_Reader_readFar.2.1 0 = .ok (.aload_n 0, 1) := by decide +kernel
theorem d_Reader_readFar_1 : decode Y_Reader_readFar.2.1 1 = .ok (.iconst 1, 1) := by decide +kernel
theorem d_Reader_readFar_2 : decode Y_Reader_readFar.2.1 2 = .ok (.invokevirtual 204, 3) := by decide +kernel
theorem d_Reader_readFar_5 : decode Y_Reader_readFar.2.1 5 = .ok (.istore_n 1, 1) := by decide +kernel
theorem d_Reader_readFar_6 : decode Y_Reader_readFar.2.1 6 = .ok (.aload_n 0, 1) := by decide +kernel
theorem d_Reader_readFar_7 : decode Y_Reader_readFar.2.1 7 = .ok (.getfield 22, 3) := by decide +kernel
theorem d_Reader_readFar_10 : decode Y_Reader_readFar.2.1 10 = .ok (.istore_n 2, 1) := by decide +kernel
theorem d_Reader_readFar_11 : decode Y_Reader_readFar.2.1 11 = .ok (.aload_n 0, 1) := by decide +kernel
theorem d_Reader_readFar_12 : decode Y_Reader_readFar.2.1 12 = .ok (.iconst 1, 1) := by decide +kernel
theorem d_Reader_readFar_13 : decode Y_Reader_readFar.2.1 13 = .ok (.invokevirtual 204, 3) := by decide +kernel
theorem d_Reader_readFar_16 : decode Y_Reader_readFar.2.1 16 = .ok (.istore_n 3, 1) := by decide +kernel
theorem d_Reader_readFar_17 : decode Y_Reader_readFar.2.1 17 = .ok (.iload_n 1, 1) := by decide +kernel
theorem d_Reader_readFar_18 : decode Y_Reader_readFar.2.1 18 = .ok (.iload_n 3, 1) := by decide +kernel
theorem d_Reader_readFar_19 : decode Y_Reader_readFar.2.1 19 = .ok (.if_icmp .eq 17, 3) := by decide +kernel
theorem d_Reader_readFar_22 : decode Y_Reader_readFar.2.1 22 = .ok (.aload_n 0, 1) := by decide +kernel
theorem d_Reader_readFar_23 : decode Y_Reader_readFar.2.1 23 = .ok (.getfield 54, 3) := by decide +kernel
theorem d_Reader_readFar_26 : decode Y_Reader_readFar.2.1 26 = .ok (.getfield 208, 3) := by decide +kernel
theorem d_Reader_readFar_29 : decode Y_Reader_readFar.2.1 29 = .ok (.iload_n 1, 1) := by decide +kernel
theorem d_Reader_readFar_30 : decode Y_Reader_readFar.2.1 30 = .ok (.aaload, 1) := by decide +kernel
theorem d_Reader_readFar_31 : decode Y_Reader_readFar.2.1 31 = .ok (.iload_n 3, 1) := by decide +kernel
theorem d_Reader_readFar_32 : decode Y_Reader_readFar.2.1 32 = .ok (.iaload, 1) := by decide +kernel
theorem d_Reader_readFar_33 : decode Y_Reader_readFar.2.1 33 = .ok (.ifCond .eq 9, 3) := by decide +kernel
theorem d_Reader_readFar_36 : decode Y_Reader_readFar.2.1 36 = .ok (.aload_n 0, 1) := by decide +kernel
theorem d_Reader_readFar_37 : decode Y_Reader_readFar.2.1 37 = .ok (.iconst 3, 1) := by decide +kernel
theorem d_Reader_readFar_38 : decode Y_Reader_readFar.2.1 38 = .ok (.iload_n 2, 1) := by decide +kernel
theorem d_Reader_readFar_39 : decode Y_Reader_readFar.2.1 39 = .ok (.invokevirtual 75, 3) := by decide +kernel
theorem d_Reader_readFar_42 : decode Y_Reader_readFar.2.1 42 = .ok (.aload_n 0, 1) := by decide +kernel
theorem d_Reader_readFar_43 : decode Y_Reader_readFar.2.1 43 = .ok (.ldc 212, 2) := by decide +kernel
theorem d_Reader_readFar_45 : decode Y_Reader_readFar.2.1 45 = .ok (.invokevirtual 188, 3) := by decide +kernel
theorem d_Reader_readFar_48 : decode Y_Reader_readFar.2.1 48 = .ok (.aload_n 0, 1) := by decide +kernel
theorem d_Reader_readFar_49 : decode Y_Reader_readFar.2.1 49 = .ok (.iconst 1, 1) := by decide +kernel
theorem d_Reader_readFar_50 : decode Y_Reader_readFar.2.1 50 = .ok (.bipush 9, 2) := by decide +kernel
theorem d_Reader_readFar_52 : decode Y_Reader_readFar.2.1 52 = .ok (.invokevirtual 192, 3) := by decide +kernel
theorem d_Reader_readFar_55 : decode Y_Reader_readFar.2.1 55 = .ok (.istore 4, 2) := by decide +kernel
theorem d_Reader_readFar_57 : decode Y_Reader_readFar.2.1 57 = .ok (.aload_n 0, 1) := by decide +kernel
theorem d_Reader_readFar_58 : decode Y_Reader_readFar.2.1 58 = .ok (.getfield 54, 3) := by decide +kernel
theorem d_Reader_readFar_61 : decode Y_Reader_readFar.2.1 61 = .ok (.getfield 208, 3) := by decide +kernel
theorem d_Reader_readFar_64 : decode Y_Reader_readFar.2.1 64 = .ok (.iload_n 1, 1) := by decide +kernel
theorem d_Reader_readFar_65 : decode Y_Reader_readFar.2.1 65 = .ok (.aaload, 1) := by decide +kernel
theorem d_Reader_readFar_66 : decode Y_Reader_readFar.2.1 66 = .ok (.iload_n 3, 1) := by decide +kernel
theorem d_Reader_readFar_67 : decode Y_Reader_readFar.2.1 67 = .ok (.iload 4, 2) := by decide +kernel
theorem d_Reader_readFar_69 : decode Y_Reader_readFar.2.1 69 = .ok (.iastore, 1) := by decide +kernel
theorem d_Reader_readFar_70 : decode Y_Reader_readFar.2.1 70 = .ok (.aload_n 0, 1) := by decide +kernel
theorem d_Reader_readFar_71 : decode Y_Reader_readFar.2.1 71 = .ok (.getfield 54, 3) := by decide +kernel
theorem d_Reader_readFar_74 : decode Y_Reader_readFar.2.1 74 = .ok (.getfield 208, 3) := by decide +kernel
theorem d_Reader_readFar_77 : decode Y_Reader_readFar.2.1 77 = .ok (.iload_n 3, 1) := by decide +kernel
theorem d_Reader_readFar_78 : decode Y_Reader_readFar.2.1 78 = .ok (.aaload, 1) := by decide +kernel
theorem d_Reader_readFar_79 : decode Y_Reader_readFar.2.1 79 = .ok (.iload_n 1, 1) := by decide +kernel
theorem d_Reader_readFar_80 : decode Y_Reader_readFar.2.1 80 = .ok (.iload 4, 2) := by decide +kernel
theorem d_Reader_readFar_82 : decode Y_Reader_readFar.2.1 82 = .ok (.iastore, 1) := by decide +kernel
theorem d_Reader_readFar_83 : decode Y_Reader_readFar.2.1 83 = .ok (.return_, 1) := by decide +kernel
def f_Reader_readFar (h : PH) (a0 : Option Nat) : Option PH := (cl h 5 a0 (f_Reader_known h a0 (1 : Int32))).bind fun v1 => (gI v1.2 5 a0 5).bind fun v2 => (cl v1.2 5 a0 (f_Reader_known v1.2 a0 (1 : Int32))).bind fun v3 => (if v1.1 = v3.1 then ((cl v3.2 5 a0 (f_Reader_fail v3.2 a0 (3 : Int32) v2)).bind fun h5 => some h5) else ((gR v3.2 5 a0 2).bind fun v6 => (gR v3.2 1 v6 5).bind fun v7 => (aR v3.2 53 v7 v1.1).bind fun v8 => (aI v3.2 v8 v3.1).bind fun v9 => if v9 = 0 then (some v3.2) else ((cl v3.2 5 a0 (f_Reader_fail v3.2 a0 (3 : Int32) v2)).bind fun h10 => some h10)) : Option (PH)).bind fun j4 => (cl j4 5 a0 (f_Reader_keyword j4 a0 (some 11))).bind fun h11 => (cl h11 5 a0 (f_Reader_whole h11 a0 (1 : Int32) (9 : Int32))).bind fun v12 => (gR v12.2 5 a0 2).bind fun v13 => (gR v12.2 1 v13 5).bind fun v14 => (aR v12.2 53 v14 v1.1).bind fun v15 => (sA v12.2 50 v15 v3.1 (.inl v12.1)).bind fun h16 => (gR h16 5 a0 2).bind fun v17 => (gR h16 1 v17 5).bind fun v18 => (aR h16 53 v18 v3.1).bind fun v19 => (sA h16 50 v19 v1.1 (.inl v12.1)).bind fun h20 => some h20
set_option maxRecDepth 20000 in
theorem PM_Reader_readFar {l : Launch} {G : Cx} {h : PH} {a0 : Option Nat} {z : PH} (hz : f_Reader_readFar h a0 = some z) : PM l G 10 0 0 Y_Reader_readFar [.inr (.inr a0)] h (none, z) := by
  refine PM.of (Y := Y_Reader_readFar) (cv := (fun z : PH => (((none, z) : Option PV × PH)))) (by decide) (L0 := [some (.inr (.inr a0)), none, none, none, none]) 4 rfl (Nat.le_of_ble_eq_true rfl) ?_ hz
  unfold f_Reader_readFar
  refine PJ.aload_n (pc := 0) d_Reader_readFar_0 rfl ?_
  refine PJ.iconst (pc := 1) (v := 1) d_Reader_readFar_1 (by decide) ?_
  refine PJ.cVI (pc := 2) cs_Reader_204 (fun z hz => PM_Reader_known hz) (pj_fitb rfl) rfl rfl (Nat.le_of_ble_eq_true rfl) d_Reader_readFar_2 (fun v1 => ?_)
  refine PJ.istore_n (pc := 5) (L1 := [some (.inr (.inr a0)), some (.inl v1.1), none, none, none]) d_Reader_readFar_5 (Nat.le_of_ble_eq_true rfl) rfl rfl ?_
  refine PJ.aload_n (pc := 6) d_Reader_readFar_6 rfl ?_
  refine PJ.getI (pc := 7) fs_Reader_22 d_Reader_readFar_7 (fun v2 => ?_)
  refine PJ.istore_n (pc := 10) (L1 := [some (.inr (.inr a0)), some (.inl v1.1), some (.inl v2), none, none]) d_Reader_readFar_10 (Nat.le_of_ble_eq_true rfl) rfl rfl ?_
  refine PJ.aload_n (pc := 11) d_Reader_readFar_11 rfl ?_
  refine PJ.iconst (pc := 12) (v := 1) d_Reader_readFar_12 (by decide) ?_
  refine PJ.cVI (pc := 13) cs_Reader_204 (fun z hz => PM_Reader_known hz) (pj_fitb rfl) rfl rfl (Nat.le_of_ble_eq_true rfl) d_Reader_readFar_13 (fun v3 => ?_)
  refine PJ.istore_n (pc := 16) (L1 := [some (.inr (.inr a0)), some (.inl v1.1), some (.inl v2), some (.inl v3.1), none]) d_Reader_readFar_16 (Nat.le_of_ble_eq_true rfl) rfl rfl ?_
  refine PJ.iload_n (pc := 17) d_Reader_readFar_17 rfl ?_
  refine PJ.iload_n (pc := 18) d_Reader_readFar_18 rfl ?_
  refine PJ.bind (fun j4 : PH => ((42 : Nat), ([some (.inr (.inr a0)), some (.inl v1.1), none, some (.inl v3.1), none] : List (Option PV)), ([] : List PV), (j4 : PH), (0 : Nat), (0 : Nat))) ?_ (fun j4 => ?_)
  · refine PJ.icmp_eq (pc := 19) (tgt := 36) d_Reader_readFar_19 (by decide) (fun _ => ?_) (fun _ => ?_)
    · refine PJ.aload_n (pc := 36) d_Reader_readFar_36 rfl ?_
      refine PJ.iconst (pc := 37) (v := 3) d_Reader_readFar_37 (by decide) ?_
      refine PJ.iload_n (pc := 38) d_Reader_readFar_38 rfl ?_
      refine PJ.cVV (pc := 39) cs_Reader_75 (fun z hz => PM_Reader_fail hz) (pj_fitb rfl) rfl rfl (Nat.le_of_ble_eq_true rfl) d_Reader_readFar_39 (fun h5 => ?_)
      refine PJ.mk (L1 := [some (.inr (.inr a0)), some (.inl v1.1), none, some (.inl v3.1), none]) [true, true, false, true, false] rfl ?_
      exact PJ.done rfl
    · refine PJ.aload_n (pc := 22) d_Reader_readFar_22 rfl ?_
      refine PJ.getR (pc := 23) fs_Reader_54 d_Reader_readFar_23 (fun v6 => ?_)
      refine PJ.getR (pc := 26) fs_Reader_208 d_Reader_readFar_26 (fun v7 => ?_)
      refine PJ.iload_n (pc := 29) d_Reader_readFar_29 rfl ?_
      refine PJ.aald (pc := 30) 53 (by decide) d_Reader_readFar_30 (fun v8 => ?_)
      refine PJ.iload_n (pc := 31) d_Reader_readFar_31 rfl ?_
      refine PJ.iald (pc := 32) d_Reader_readFar_32 (fun v9 => ?_)
      refine PJ.if_eq (pc := 33) (tgt := 42) d_Reader_readFar_33 (by decide) (fun _ => ?_) (fun _ => ?_)
      · refine PJ.mk (L1 := [some (.inr (.inr a0)), some (.inl v1.1), none, some (.inl v3.1), none]) [true, true, false, true, false] rfl ?_
        exact PJ.done rfl
      · refine PJ.aload_n (pc := 36) d_Reader_readFar_36 rfl ?_
        refine PJ.iconst (pc := 37) (v := 3) d_Reader_readFar_37 (by decide) ?_
        refine PJ.iload_n (pc := 38) d_Reader_readFar_38 rfl ?_
        refine PJ.cVV (pc := 39) cs_Reader_75 (fun z hz => PM_Reader_fail hz) (pj_fitb rfl) rfl rfl (Nat.le_of_ble_eq_true rfl) d_Reader_readFar_39 (fun h10 => ?_)
        refine PJ.mk (L1 := [some (.inr (.inr a0)), some (.inl v1.1), none, some (.inl v3.1), none]) [true, true, false, true, false] rfl ?_
        exact PJ.done rfl
  · show PJ l G (pj_rm 10 0 0) Y_Reader_readFar 42 [some (.inr (.inr a0)), some (.inl v1.1), none, some (.inl v3.1), none] [] j4 0 0 _ _
    refine PJ.aload_n (pc := 42) d_Reader_readFar_42 rfl ?_
    refine PJ.ldcS (pc := 43) (i := 11) d_Reader_readFar_43 (by decide) (List.mem_of_getElem? (i := 11) rfl) ?_
    refine PJ.cVV (pc := 45) cs_Reader_188 (fun z hz => PM_Reader_keyword hz) (pj_fitb rfl) rfl rfl (Nat.le_of_ble_eq_true rfl) d_Reader_readFar_45 (fun h11 => ?_)
    refine PJ.aload_n (pc := 48) d_Reader_readFar_48 rfl ?_
    refine PJ.iconst (pc := 49) (v := 1) d_Reader_readFar_49 (by decide) ?_
    refine PJ.bipush (pc := 50) (v := 9) d_Reader_readFar_50 (by decide) ?_
    refine PJ.cVI (pc := 52) cs_Reader_192 (fun z hz => PM_Reader_whole hz) (pj_fitb rfl) rfl rfl (Nat.le_of_ble_eq_true rfl) d_Reader_readFar_52 (fun v12 => ?_)
    refine PJ.istore (pc := 55) (L1 := [some (.inr (.inr a0)), some (.inl v1.1), none, some (.inl v3.1), some (.inl v12.1)]) d_Reader_readFar_55 (Nat.le_of_ble_eq_true rfl) rfl rfl ?_
    refine PJ.aload_n (pc := 57) d_Reader_readFar_57 rfl ?_
    refine PJ.getR (pc := 58) fs_Reader_54 d_Reader_readFar_58 (fun v13 => ?_)
    refine PJ.getR (pc := 61) fs_Reader_208 d_Reader_readFar_61 (fun v14 => ?_)
    refine PJ.iload_n (pc := 64) d_Reader_readFar_64 rfl ?_
    refine PJ.aald (pc := 65) 53 (by decide) d_Reader_readFar_65 (fun v15 => ?_)
    refine PJ.iload_n (pc := 66) d_Reader_readFar_66 rfl ?_
    refine PJ.iload (pc := 67) d_Reader_readFar_67 rfl ?_
    refine PJ.iast (pc := 69) d_Reader_readFar_69 (fun h16 => ?_)
    refine PJ.aload_n (pc := 70) d_Reader_readFar_70 rfl ?_
    refine PJ.getR (pc := 71) fs_Reader_54 d_Reader_readFar_71 (fun v17 => ?_)
    refine PJ.getR (pc := 74) fs_Reader_208 d_Reader_readFar_74 (fun v18 => ?_)
    refine PJ.iload_n (pc := 77) d_Reader_readFar_77 rfl ?_
    refine PJ.aald (pc := 78) 53 (by decide) d_Reader_readFar_78 (fun v19 => ?_)
    refine PJ.iload_n (pc := 79) d_Reader_readFar_79 rfl ?_
    refine PJ.iload (pc := 80) d_Reader_readFar_80 rfl ?_
    refine PJ.iast (pc := 82) d_Reader_readFar_82 (fun h20 => ?_)
    exact PJ.vret (pc := 83) d_Reader_readFar_83 rfl (Nat.le_of_ble_eq_true rfl) (Nat.le_of_ble_eq_true rfl)
theorem d_Reader_personSort_0 : decode Y_Reader_personSort.2.1 0 = .ok (.aload_n 0, 1) := by decide +kernel
theorem d_Reader_personSort_1 : decode Y_Reader_personSort.2.1 1 = .ok (.getfield 28, 3) := by decide +kernel
theorem d_Reader_personSort_4 : decode Y_Reader_personSort.2.1 4 = .ok (.ifCond .eq 5, 3) := by decide +kernel
theorem d_Reader_personSort_7 : decode Y_Reader_personSort.2.1 7 = .ok (.iconst 0, 1) := by decide +kernel
theorem d_Reader_personSort_8 : decode Y_Reader_personSort.2.1 8 = .ok (.ireturn, 1) := by decide +kernel
theorem d_Reader_personSort_9 : decode Y_Reader_personSort.2.1 9 = .ok (.aload_n 0, 1) := by decide +kernel
theorem d_Reader_personSort_10 : decode Y_Reader_personSort.2.1 10 = .ok (.ldc 225, 2) := by decide +kernel
theorem d_Reader_personSort_12 : decode Y_Reader_personSort.2.1 12 = .ok (.invokevirtual 125, 3) := by decide +kernel
theorem d_Reader_personSort_15 : decode Y_Reader_personSort.2.1 15 = .ok (.ifCond .eq 7, 3) := by decide +kernel
theorem d_Reader_personSort_18 : decode Y_Reader_personSort.2.1 18 = .ok (.iconst 0, 1) := by decide +kernel
theorem d_Reader_personSort_19 : decode Y_Reader_personSort.2.1 19 = .ok (.goto 43, 3) := by decide +kernel
theorem d_Reader_personSort_22 : decode Y_Reader_personSort.2.1 22 = .ok (.aload_n 0, 1) := by decide +kernel
theorem d_Reader_personSort_23 : decode Y_Reader_personSort.2.1 23 = .ok (.ldc 227, 2) := by decide +kernel
theorem d_Reader_personSort_25 : decode Y_Reader_personSort.2.1 25 = .ok (.invokevirtual 125, 3) := by decide +kernel
theorem d_Reader_personSort_28 : decode Y_Reader_personSort.2.1 28 = .ok (.ifCond .eq 7, 3) := by decide +kernel
theorem d_Reader_personSort_31 : decode Y_Reader_personSort.2.1 31 = .ok (.iconst 1, 1) := by decide +kernel
theorem d_Reader_personSort_32 : decode Y_Reader_personSort.2.1 32 = .ok (.goto 30, 3) := by decide +kernel
theorem d_Reader_personSort_35 : decode Y_Reader_personSort.2.1 35 = .ok (.aload_n 0, 1) := by decide +kernel
theorem d_Reader_personSort_36 : decode Y_Reader_personSort.2.1 36 = .ok (.ldc 229, 2) := by decide +kernel
theorem d_Reader_personSort_38 : decode Y_Reader_personSort.2.1 38 = .ok (.invokevirtual 125, 3) := by decide +kernel
theorem d_Reader_personSort_41 : decode Y_Reader_personSort.2.1 41 = .ok (.ifCond .eq 7, 3) := by decide +kernel
theorem d_Reader_personSort_44 : decode Y_Reader_personSort.2.1 44 = .ok (.iconst 2, 1) := by decide +kernel
theorem d_Reader_personSort_45 : decode Y_Reader_personSort.2.1 45 = .ok (.goto 17, 3) := by decide +kernel
theorem d_Reader_personSort_48 : decode Y_Reader_personSort.2.1 48 = .ok (.aload_n 0, 1) := by decide +kernel
theorem d_Reader_personSort_49 : decode Y_Reader_personSort.2.1 49 = .ok (.ldc 231, 2) := by decide +kernel
theorem d_Reader_personSort_51 : decode Y_Reader_personSort.2.1 51 = .ok (.invokevirtual 125, 3) := by decide +kernel
theorem d_Reader_personSort_54 : decode Y_Reader_personSort.2.1 54 = .ok (.ifCond .eq 7, 3) := by decide +kernel
theorem d_Reader_personSort_57 : decode Y_Reader_personSort.2.1 57 = .ok (.iconst 3, 1) := by decide +kernel
theorem d_Reader_personSort_58 : decode Y_Reader_personSort.2.1 58 = .ok (.goto 4, 3) := by decide +kernel
theorem d_Reader_personSort_61 : decode Y_Reader_personSort.2.1 61 = .ok (.iconst (-1), 1) := by decide +kernel
theorem d_Reader_personSort_62 : decode Y_Reader_personSort.2.1 62 = .ok (.istore_n 1, 1) := by decide +kernel
theorem d_Reader_personSort_63 : decode Y_Reader_personSort.2.1 63 = .ok (.iload_n 1, 1) := by decide +kernel
theorem d_Reader_personSort_64 : decode Y_Reader_personSort.2.1 64 = .ok (.iconst (-1), 1) := by decide +kernel
theorem d_Reader_personSort_65 : decode Y_Reader_personSort.2.1 65 = .ok (.if_icmp .ne 15, 3) := by decide +kernel
theorem d_Reader_personSort_68 : decode Y_Reader_personSort.2.1 68 = .ok (.aload_n 0, 1) := by decide +kernel
theorem d_Reader_personSort_69 : decode Y_Reader_personSort.2.1 69 = .ok (.iconst 1, 1) := by decide +kernel
theorem d_Reader_personSort_70 : decode Y_Reader_personSort.2.1 70 = .ok (.aload_n 0, 1) := by decide +kernel
theorem d_Reader_personSort_71 : decode Y_Reader_personSort.2.1 71 = .ok (.getfield 22, 3) := by decide +kernel
theorem d_Reader_personSort_74 : decode Y_Reader_personSort.2.1 74 = .ok (.invokevirtual 75, 3) := by decide +kernel
theorem d_Reader_personSort_77 : decode Y_Reader_personSort.2.1 77 = .ok (.goto 7, 3) := by decide +kernel
theorem d_Reader_personSort_80 : decode Y_Reader_personSort.2.1 80 = .ok (.aload_n 0, 1) := by decide +kernel
theorem d_Reader_personSort_81 : decode Y_Reader_personSort.2.1 81 = .ok (.invokevirtual 69, 3) := by decide +kernel
theorem d_Reader_personSort_84 : decode Y_Reader_personSort.2.1 84 = .ok (.iload_n 1, 1) := by decide +kernel
theorem d_Reader_personSort_85 : decode Y_Reader_personSort.2.1 85 = .ok (.ireturn, 1) := by decide +kernel
def f_Reader_personSort (h : PH) (a0 : Option Nat) : Option (Int32 × PH) := (gI h 5 a0 7).bind fun v1 => if v1 = 0 then ((cl h 5 a0 (f_Reader_is h a0 (some 12))).bind fun v2 => (if v2 = 0 then ((cl h 5 a0 (f_Reader_is h a0 (some 13))).bind fun v4 => if v4 = 0 then ((cl h 5 a0 (f_Reader_is h a0 (some 14))).bind fun v5 => if v5 = 0 then ((cl h 5 a0 (f_Reader_is h a0 (some 15))).bind fun v6 => if v6 = 0 then (some (-1 : Int32)) else (some (3 : Int32))) else (some (2 : Int32))) else (some (1 : Int32))) else (some (0 : Int32)) : Option (Int32)).bind fun j3 => if ¬ j3 = (-1 : Int32) then ((cl h 5 a0 (f_Reader_next h a0)).bind fun h7 => some (j3, h7)) else ((gI h 5 a0 5).bind fun v8 => (cl h 5 a0 (f_Reader_fail h a0 (1 : Int32) v8)).bind fun h9 => some (j3, h9))) else (some ((0 : Int32), h))
set_option maxRecDepth 20000 in
theorem PM_Reader_personSort {l : Launch} {G : Cx} {h : PH} {a0 : Option Nat} {z : (Int32 × PH)} (hz : f_Reader_personSort h a0 = some z) : PM l G 8 0 0 Y_Reader_personSort [.inr (.inr a0)] h (some (.inl z.1), z.2) := by
  refine PM.of (Y := Y_Reader_personSort) (cv := (fun z : (Int32 × PH) => (((some (.inl z.1), z.2) : Option PV × PH)))) (by decide) (L0 := [some (.inr (.inr a0)), none]) 1 rfl (Nat.le_of_ble_eq_true rfl) ?_ hz
  unfold f_Reader_personSort
  refine PJ.aload_n (pc := 0) d_Reader_personSort_0 rfl ?_
  refine PJ.getI (pc := 1) fs_Reader_28 d_Reader_personSort_1 (fun v1 => ?_)
  refine PJ.if_eq (pc := 4) (tgt := 9) d_Reader_personSort_4 (by decide) (fun _ => ?_) (fun _ => ?_)
  · refine PJ.aload_n (pc := 9) d_Reader_personSort_9 rfl ?_
    refine PJ.ldcS (pc := 10) (i := 12) d_Reader_personSort_10 (by decide) (List.mem_of_getElem? (i := 12) rfl) ?_
    refine PJ.cVpI (pc := 12) cs_Reader_125 (fun z hz => PM_Reader_is hz) (pj_fitb rfl) rfl rfl (Nat.le_of_ble_eq_true rfl) d_Reader_personSort_12 (fun v2 => ?_)
    refine PJ.bind (fun j3 : Int32 => ((62 : Nat), ([some (.inr (.inr a0)), none] : List (Option PV)), ([.inl j3] : List PV), (h : PH), (0 : Nat), (0 : Nat))) ?_ (fun j3 => ?_)
    · refine PJ.if_eq (pc := 15) (tgt := 22) d_Reader_personSort_15 (by decide) (fun _ => ?_) (fun _ => ?_)
      · refine PJ.aload_n (pc := 22) d_Reader_personSort_22 rfl ?_
        refine PJ.ldcS (pc := 23) (i := 13) d_Reader_personSort_23 (by decide) (List.mem_of_getElem? (i := 13) rfl) ?_
        refine PJ.cVpI (pc := 25) cs_Reader_125 (fun z hz => PM_Reader_is hz) (pj_fitb rfl) rfl rfl (Nat.le_of_ble_eq_true rfl) d_Reader_personSort_25 (fun v4 => ?_)
        refine PJ.if_eq (pc := 28) (tgt := 35) d_Reader_personSort_28 (by decide) (fun _ => ?_) (fun _ => ?_)
        · refine PJ.aload_n (pc := 35) d_Reader_personSort_35 rfl ?_
          refine PJ.ldcS (pc := 36) (i := 14) d_Reader_personSort_36 (by decide) (List.mem_of_getElem? (i := 14) rfl) ?_
          refine PJ.cVpI (pc := 38) cs_Reader_125 (fun z hz => PM_Reader_is hz) (pj_fitb rfl) rfl rfl (Nat.le_of_ble_eq_true rfl) d_Reader_personSort_38 (fun v5 => ?_)
          refine PJ.if_eq (pc := 41) (tgt := 48) d_Reader_personSort_41 (by decide) (fun _ => ?_) (fun _ => ?_)
          · refine PJ.aload_n (pc := 48) d_Reader_personSort_48 rfl ?_
            refine PJ.ldcS (pc := 49) (i := 15) d_Reader_personSort_49 (by decide) (List.mem_of_getElem? (i := 15) rfl) ?_
            refine PJ.cVpI (pc := 51) cs_Reader_125 (fun z hz => PM_Reader_is hz) (pj_fitb rfl) rfl rfl (Nat.le_of_ble_eq_true rfl) d_Reader_personSort_51 (fun v6 => ?_)
            refine PJ.if_eq (pc := 54) (tgt := 61) d_Reader_personSort_54 (by decide) (fun _ => ?_) (fun _ => ?_)
            · refine PJ.iconst (pc := 61) (v := -1) d_Reader_personSort_61 (by decide) ?_
              exact PJ.done rfl
            · refine PJ.iconst (pc := 57) (v := 3) d_Reader_personSort_57 (by decide) ?_
              refine PJ.goto (pc := 58) (tgt := 62) d_Reader_personSort_58 (by decide) ?_
              exact PJ.done rfl
          · refine PJ.iconst (pc := 44) (v := 2) d_Reader_personSort_44 (by decide) ?_
            refine PJ.goto (pc := 45) (tgt := 62) d_Reader_personSort_45 (by decide) ?_
            exact PJ.done rfl
        · refine PJ.iconst (pc := 31) (v := 1) d_Reader_personSort_31 (by decide) ?_
          refine PJ.goto (pc := 32) (tgt := 62) d_Reader_personSort_32 (by decide) ?_
          exact PJ.done rfl
      · refine PJ.iconst (pc := 18) (v := 0) d_Reader_personSort_18 (by decide) ?_
        refine PJ.goto (pc := 19) (tgt := 62) d_Reader_personSort_19 (by decide) ?_
        exact PJ.done rfl
    · show PJ l G (pj_rm 8 0 0) Y_Reader_personSort 62 [some (.inr (.inr a0)), none] [.inl j3] h 0 0 _ _
      refine PJ.istore_n (pc := 62) (L1 := [some (.inr (.inr a0)), some (.inl j3)]) d_Reader_personSort_62 (Nat.le_of_ble_eq_true rfl) rfl rfl ?_
      refine PJ.iload_n (pc := 63) d_Reader_personSort_63 rfl ?_
      refine PJ.iconst (pc := 64) (v := -1) d_Reader_personSort_64 (by decide) ?_
      refine PJ.icmp_ne (pc := 65) (tgt := 80) d_Reader_personSort_65 (by decide) (fun _ => ?_) (fun _ => ?_)
      · refine PJ.aload_n (pc := 80) d_Reader_personSort_80 rfl ?_
        refine PJ.cVV (pc := 81) cs_Reader_69 (fun z hz => PM_Reader_next hz) (pj_fitb rfl) rfl rfl (Nat.le_of_ble_eq_true rfl) d_Reader_personSort_81 (fun h7 => ?_)
        refine PJ.iload_n (pc := 84) d_Reader_personSort_84 rfl ?_
        exact PJ.iret (pc := 85) d_Reader_personSort_85 rfl (Nat.le_of_ble_eq_true rfl) (Nat.le_of_ble_eq_true rfl)
      · refine PJ.aload_n (pc := 68) d_Reader_personSort_68 rfl ?_
        refine PJ.iconst (pc := 69) (v := 1) d_Reader_personSort_69 (by decide) ?_
        refine PJ.aload_n (pc := 70) d_Reader_personSort_70 rfl ?_
        refine PJ.getI (pc := 71) fs_Reader_22 d_Reader_personSort_71 (fun v8 => ?_)
        refine PJ.cVV (pc := 74) cs_Reader_75 (fun z hz => PM_Reader_fail hz) (pj_fitb rfl) rfl rfl (Nat.le_of_ble_eq_true rfl) d_Reader_personSort_74 (fun h9 => ?_)
        refine PJ.goto (pc := 77) (tgt := 84) d_Reader_personSort_77 (by decide) ?_
        refine PJ.iload_n (pc := 84) d_Reader_personSort_84 rfl ?_
        exact PJ.iret (pc := 85) d_Reader_personSort_85 rfl (Nat.le_of_ble_eq_true rfl) (Nat.le_of_ble_eq_true rfl)
  · refine PJ.iconst (pc := 7) (v := 0) d_Reader_personSort_7 (by decide) ?_
    exact PJ.iret (pc := 8) d_Reader_personSort_8 rfl (Nat.le_of_ble_eq_true rfl) (Nat.le_of_ble_eq_true rfl)
theorem d_Reader_readPerson_0 : decode Y_Reader_readPerson.2.1 0 = .ok (.aload_n 0, 1) := by decide +kernel
theorem d_Reader_readPerson_1 : decode Y_Reader_readPerson.2.1 1 = .ok (.iconst 3, 1) := by decide +kernel
theorem d_Reader_readPerson_2 : decode Y_Reader_readPerson.2.1 2 = .ok (.aload_n 0, 1) := by decide +kernel
theorem d_Reader_readPerson_3 : decode Y_Reader_readPerson.2.1 3 = .ok (.getfield 54, 3) := by decide +kernel
theorem d_Reader_readPerson_6 : decode Y_Reader_readPerson.2.1 6 = .ok (.getfield 154, 3) := by decide +kernel
theorem d_Reader_readPerson_9 : decode Y_Reader_readPerson.2.1 9 = .ok (.invokevirtual 201, 3) := by decide +kernel
theorem d_Reader_readPerson_12 : decode Y_Reader_readPerson.2.1 12 = .ok (.aload_n 0, 1) := by decide +kernel
theorem d_Reader_readPerson_13 : decode Y_Reader_readPerson.2.1 13 = .ok (.invokevirtual 214, 3) := by decide +kernel
theorem d_Reader_readPerson_16 : decode Y_Reader_readPerson.2.1 16 = .ok (.istore_n 1, 1) := by decide +kernel
theorem d_Reader_readPerson_17 : decode Y_Reader_readPerson.2.1 17 = .ok (.aload_n 0, 1) := by decide +kernel
theorem d_Reader_readPerson_18 : decode Y_Reader_readPerson.2.1 18 = .ok (.ldc 217, 2) := by decide +kernel
theorem d_Reader_readPerson_20 : decode Y_Reader_readPerson.2.1 20 = .ok (.invokevirtual 188, 3) := by decide +kernel
theorem d_Reader_readPerson_23 : decode Y_Reader_readPerson.2.1 23 = .ok (.aload_n 0, 1) := by decide +kernel
theorem d_Reader_readPerson_24 : decode Y_Reader_readPerson.2.1 24 = .ok (.iconst 1, 1) := by decide +kernel
theorem d_Reader_readPerson_25 : decode Y_Reader_readPerson.2.1 25 = .ok (.invokevirtual 204, 3) := by decide +kernel
theorem d_Reader_readPerson_28 : decode Y_Reader_readPerson.2.1 28 = .ok (.istore_n 2, 1) := by decide +kernel
theorem d_Reader_readPerson_29 : decode Y_Reader_readPerson.2.1 29 = .ok (.aload_n 0, 1) := by decide +kernel
theorem d_Reader_readPerson_30 : decode Y_Reader_readPerson.2.1 30 = .ok (.getfield 28, 3) := by decide +kernel
theorem d_Reader_readPerson_33 : decode Y_Reader_readPerson.2.1 33 = .ok (.ifCond .ne 48, 3) := by decide +kernel
theorem d_Reader_readPerson_36 : decode Y_Reader_readPerson.2.1 36 = .ok (.aload_n 0, 1) := by decide +kernel
theorem d_Reader_readPerson_37 : decode Y_Reader_readPerson.2.1 37 = .ok (.getfield 54, 3) := by decide +kernel
theorem d_Reader_readPerson_40 : decode Y_Reader_readPerson.2.1 40 = .ok (.getfield 219, 3) := by decide +kernel
theorem d_Reader_readPerson_43 : decode Y_Reader_readPerson.2.1 43 = .ok (.aload_n 0, 1) := by decide +kernel
theorem d_Reader_readPerson_44 : decode Y_Reader_readPerson.2.1 44 = .ok (.getfield 54, 3) := by decide +kernel
theorem d_Reader_readPerson_47 : decode Y_Reader_readPerson.2.1 47 = .ok (.getfield 154, 3) := by decide +kernel
theorem d_Reader_readPerson_50 : decode Y_Reader_readPerson.2.1 50 = .ok (.iload_n 1, 1) := by decide +kernel
theorem d_Reader_readPerson_51 : decode Y_Reader_readPerson.2.1 51 = .ok (.iastore, 1) := by decide +kernel
theorem d_Reader_readPerson_52 : decode Y_Reader_readPerson.2.1 52 = .ok (.aload_n 0, 1) := by decide +kernel
theorem d_Reader_readPerson_53 : decode Y_Reader_readPerson.2.1 53 = .ok (.getfield 54, 3) := by decide +kernel
theorem d_Reader_readPerson_56 : decode Y_Reader_readPerson.2.1 56 = .ok (.getfield 222, 3) := by decide +kernel
theorem d_Reader_readPerson_59 : decode Y_Reader_readPerson.2.1 59 = .ok (.aload_n 0, 1) := by decide +kernel
theorem d_Reader_readPerson_60 : decode Y_Reader_readPerson.2.1 60 = .ok (.getfield 54, 3) := by decide +kernel
theorem d_Reader_readPerson_63 : decode Y_Reader_readPerson.2.1 63 = .ok (.getfield 154, 3) := by decide +kernel
theorem d_Reader_readPerson_66 : decode Y_Reader_readPerson.2.1 66 = .ok (.iload_n 2, 1) := by decide +kernel
theorem d_Reader_readPerson_67 : decode Y_Reader_readPerson.2.1 67 = .ok (.iastore, 1) := by decide +kernel
theorem d_Reader_readPerson_68 : decode Y_Reader_readPerson.2.1 68 = .ok (.aload_n 0, 1) := by decide +kernel
theorem d_Reader_readPerson_69 : decode Y_Reader_readPerson.2.1 69 = .ok (.getfield 54, 3) := by decide +kernel
theorem d_Reader_readPerson_72 : decode Y_Reader_readPerson.2.1 72 = .ok (.dup, 1) := by decide +kernel
theorem d_Reader_readPerson_73 : decode Y_Reader_readPerson.2.1 73 = .ok (.getfield 154, 3) := by decide +kernel
theorem d_Reader_readPerson_76 : decode Y_Reader_readPerson.2.1 76 = .ok (.iconst 1, 1) := by decide +kernel
theorem d_Reader_readPerson_77 : decode Y_Reader_readPerson.2.1 77 = .ok (.iadd, 1) := by decide +kernel
theorem d_Reader_readPerson_78 : decode Y_Reader_readPerson.2.1 78 = .ok (.putfield 154, 3) := by decide +kernel
theorem d_Reader_readPerson_81 : decode Y_Reader_readPerson.2.1 81 = .ok (.return_, 1) := by decide +kernel
def f_Reader_readPerson (h : PH) (a0 : Option Nat) : Option PH := (gR h 5 a0 2).bind fun v1 => (gI h 1 v1 3).bind fun v2 => (cl h 5 a0 (f_Reader_newName h a0 (3 : Int32) v2)).bind fun h3 => (cl h3 5 a0 (f_Reader_personSort h3 a0)).bind fun v4 => (cl v4.2 5 a0 (f_Reader_keyword v4.2 a0 (some 16))).bind fun h5 => (cl h5 5 a0 (f_Reader_known h5 a0 (1 : Int32))).bind fun v6 => (gI v6.2 5 a0 7).bind fun v7 => if ¬ v7 = 0 then (some v6.2) else ((gR v6.2 5 a0 2).bind fun v8 => (gR v6.2 1 v8 6).bind fun v9 => (gR v6.2 5 a0 2).bind fun v10 => (gI v6.2 1 v10 3).bind fun v11 => (sA v6.2 50 v9 v11 (.inl v4.1)).bind fun h12 => (gR h12 5 a0 2).bind fun v13 => (gR h12 1 v13 7).bind fun v14 => (gR h12 5 a0 2).bind fun v15 => (gI h12 1 v15 3).bind fun v16 => (sA h12 50 v14 v16 (.inl v6.1)).bind fun h17 => (gR h17 5 a0 2).bind fun v18 => (gI h17 1 v18 3).bind fun v19 => (sF h17 1 v18 3 (.inl (v19 + (1 : Int32)))).bind fun h20 => some h20)
set_option maxRecDepth 20000 in
theorem PM_Reader_readPerson {l : Launch} {G : Cx} {h : PH} {a0 : Option Nat} {z : PH} (hz : f_Reader_readPerson h a0 = some z) : PM l G 10 0 0 Y_Reader_readPerson [.inr (.inr a0)] h (none, z) := by
  refine PM.of (Y := Y_Reader_readPerson) (cv := (fun z : PH => (((none, z) : Option PV × PH)))) (by decide) (L0 := [some (.inr (.inr a0)), none, none]) 2 rfl (Nat.le_of_ble_eq_true rfl) ?_ hz
  unfold f_Reader_readPerson
  refine PJ.aload_n (pc := 0) d_Reader_readPerson_0 rfl ?_
  refine PJ.iconst (pc := 1) (v := 3) d_Reader_readPerson_1 (by decide) ?_
  refine PJ.aload_n (pc := 2) d_Reader_readPerson_2 rfl ?_
  refine PJ.getR (pc := 3) fs_Reader_54 d_Reader_readPerson_3 (fun v1 => ?_)
  refine PJ.getI (pc := 6) fs_Reader_154 d_Reader_readPerson_6 (fun v2 => ?_)
  refine PJ.cVV (pc := 9) cs_Reader_201 (fun z hz => PM_Reader_newName hz) (pj_fitb rfl) rfl rfl (Nat.le_of_ble_eq_true rfl) d_Reader_readPerson_9 (fun h3 => ?_)
  refine PJ.aload_n (pc := 12) d_Reader_readPerson_12 rfl ?_
  refine PJ.cVI (pc := 13) cs_Reader_214 (fun z hz => PM_Reader_personSort hz) (pj_fitb rfl) rfl rfl (Nat.le_of_ble_eq_true rfl) d_Reader_readPerson_13 (fun v4 => ?_)
  refine PJ.istore_n (pc := 16) (L1 := [some (.inr (.inr a0)), some (.inl v4.1), none]) d_Reader_readPerson_16 (Nat.le_of_ble_eq_true rfl) rfl rfl ?_
  refine PJ.aload_n (pc := 17) d_Reader_readPerson_17 rfl ?_
  refine PJ.ldcS (pc := 18) (i := 16) d_Reader_readPerson_18 (by decide) (List.mem_of_getElem? (i := 16) rfl) ?_
  refine PJ.cVV (pc := 20) cs_Reader_188 (fun z hz => PM_Reader_keyword hz) (pj_fitb rfl) rfl rfl (Nat.le_of_ble_eq_true rfl) d_Reader_readPerson_20 (fun h5 => ?_)
  refine PJ.aload_n (pc := 23) d_Reader_readPerson_23 rfl ?_
  refine PJ.iconst (pc := 24) (v := 1) d_Reader_readPerson_24 (by decide) ?_
  refine PJ.cVI (pc := 25) cs_Reader_204 (fun z hz => PM_Reader_known hz) (pj_fitb rfl) rfl rfl (Nat.le_of_ble_eq_true rfl) d_Reader_readPerson_25 (fun v6 => ?_)
  refine PJ.istore_n (pc := 28) (L1 := [some (.inr (.inr a0)), some (.inl v4.1), some (.inl v6.1)]) d_Reader_readPerson_28 (Nat.le_of_ble_eq_true rfl) rfl rfl ?_
  refine PJ.aload_n (pc := 29) d_Reader_readPerson_29 rfl ?_
  refine PJ.getI (pc := 30) fs_Reader_28 d_Reader_readPerson_30 (fun v7 => ?_)
  refine PJ.if_ne (pc := 33) (tgt := 81) d_Reader_readPerson_33 (by decide) (fun _ => ?_) (fun _ => ?_)
  · exact PJ.vret (pc := 81) d_Reader_readPerson_81 rfl (Nat.le_of_ble_eq_true rfl) (Nat.le_of_ble_eq_true rfl)
  · refine PJ.aload_n (pc := 36) d_Reader_readPerson_36 rfl ?_
    refine PJ.getR (pc := 37) fs_Reader_54 d_Reader_readPerson_37 (fun v8 => ?_)
    refine PJ.getR (pc := 40) fs_Reader_219 d_Reader_readPerson_40 (fun v9 => ?_)
    refine PJ.aload_n (pc := 43) d_Reader_readPerson_43 rfl ?_
    refine PJ.getR (pc := 44) fs_Reader_54 d_Reader_readPerson_44 (fun v10 => ?_)
    refine PJ.getI (pc := 47) fs_Reader_154 d_Reader_readPerson_47 (fun v11 => ?_)
    refine PJ.iload_n (pc := 50) d_Reader_readPerson_50 rfl ?_
    refine PJ.iast (pc := 51) d_Reader_readPerson_51 (fun h12 => ?_)
    refine PJ.aload_n (pc := 52) d_Reader_readPerson_52 rfl ?_
    refine PJ.getR (pc := 53) fs_Reader_54 d_Reader_readPerson_53 (fun v13 => ?_)
    refine PJ.getR (pc := 56) fs_Reader_222 d_Reader_readPerson_56 (fun v14 => ?_)
    refine PJ.aload_n (pc := 59) d_Reader_readPerson_59 rfl ?_
    refine PJ.getR (pc := 60) fs_Reader_54 d_Reader_readPerson_60 (fun v15 => ?_)
    refine PJ.getI (pc := 63) fs_Reader_154 d_Reader_readPerson_63 (fun v16 => ?_)
    refine PJ.iload_n (pc := 66) d_Reader_readPerson_66 rfl ?_
    refine PJ.iast (pc := 67) d_Reader_readPerson_67 (fun h17 => ?_)
    refine PJ.aload_n (pc := 68) d_Reader_readPerson_68 rfl ?_
    refine PJ.getR (pc := 69) fs_Reader_54 d_Reader_readPerson_69 (fun v18 => ?_)
    refine PJ.dup (pc := 72) d_Reader_readPerson_72 rfl ?_
    refine PJ.getI (pc := 73) fs_Reader_154 d_Reader_readPerson_73 (fun v19 => ?_)
    refine PJ.iconst (pc := 76) (v := 1) d_Reader_readPerson_76 (by decide) ?_
    refine PJ.iadd (pc := 77) d_Reader_readPerson_77 ?_
    refine PJ.putI (pc := 78) ps_Reader_154 d_Reader_readPerson_78 (fun h20 => ?_)
    exact PJ.vret (pc := 81) d_Reader_readPerson_81 rfl (Nat.le_of_ble_eq_true rfl) (Nat.le_of_ble_eq_true rfl)
theorem d_Reader_readLikes_0 : decode Y_Reader_readLikes.2.1 0 = .ok (.aload_n 0, 1) := by decide +kernel
theorem d_Reader_readLikes_1 : decode Y_Reader_readLikes.2.1 1 = .ok (.iconst 3, 1) := by decide +kernel
theorem d_Reader_readLikes_2 : decode Y_Reader_readLikes.2.1 2 = .ok (.invokevirtual 204, 3) := by decide +kernel
theorem d_Reader_readLikes_5 : decode Y_Reader_readLikes.2.1 5 = .ok (.istore_n 1, 1) := by decide +kernel
theorem d_Reader_readLikes_6 : decode Y_Reader_readLikes.2.1 6 = .ok (.aload_n 0, 1) := by decide +kernel
theorem d_Reader_readLikes_7 : decode Y_Reader_readLikes.2.1 7 = .ok (.getfield 22, 3) := by decide +kernel
theorem d_Reader_readLikes_10 : decode Y_Reader_readLikes.2.1 10 = .ok (.istore_n 2, 1) := by decide +kernel
theorem d_Reader_readLikes_11 : decode Y_Reader_readLikes.2.1 11 = .ok (.aload_n 0, 1) := by decide +kernel
theorem d_Reader_readLikes_12 : decode Y_Reader_readLikes.2.1 12 = .ok (.iconst 1, 1) := by decide +kernel
theorem d_Reader_readLikes_13 : decode Y_Reader_readLikes.2.1 13 = .ok (.invokevirtual 204, 3) := by decide +kernel
theorem d_Reader_readLikes_16 : decode Y_Reader_readLikes.2.1 16 = .ok (.istore_n 3, 1) := by decide +kernel
theorem d_Reader_readLikes_17 : decode Y_Reader_readLikes.2.1 17 = .ok (.aload_n 0, 1) := by decide +kernel
theorem d_Reader_readLikes_18 : decode Y_Reader_readLikes.2.1 18 = .ok (.getfield 54, 3) := by decide +kernel
theorem d_Reader_readLikes_21 : decode Y_Reader_readLikes.2.1 21 = .ok (.getfield 233, 3) := by decide +kernel
theorem d_Reader_readLikes_24 : decode Y_Reader_readLikes.2.1 24 = .ok (.iload_n 1, 1) := by decide +kernel
theorem d_Reader_readLikes_25 : decode Y_Reader_readLikes.2.1 25 = .ok (.iaload, 1) := by decide +kernel
theorem d_Reader_readLikes_26 : decode Y_Reader_readLikes.2.1 26 = .ok (.iload_n 3, 1) := by decide +kernel
theorem d_Reader_readLikes_27 : decode Y_Reader_readLikes.2.1 27 = .ok (.ishr, 1) := by decide +kernel
theorem d_Reader_readLikes_28 : decode Y_Reader_readLikes.2.1 28 = .ok (.iconst 1, 1) := by decide +kernel
theorem d_Reader_readLikes_29 : decode Y_Reader_readLikes.2.1 29 = .ok (.iand, 1) := by decide +kernel
theorem d_Reader_readLikes_30 : decode Y_Reader_readLikes.2.1 30 = .ok (.iconst 1, 1) := by decide +kernel
theorem d_Reader_readLikes_31 : decode Y_Reader_readLikes.2.1 31 = .ok (.if_icmp .ne 9, 3) := by decide +kernel
theorem d_Reader_readLikes_34 : decode Y_Reader_readLikes.2.1 34 = .ok (.aload_n 0, 1) := by decide +kernel
theorem d_Reader_readLikes_35 : decode Y_Reader_readLikes.2.1 35 = .ok (.iconst 3, 1) := by decide +kernel
theorem d_Reader_readLikes_36 : decode Y_Reader_readLikes.2.1 36 = .ok (.iload_n 2, 1) := by decide +kernel
theorem d_Reader_readLikes_37 : decode Y_Reader_readLikes.2.1 37 = .ok (.invokevirtual 75, 3) := by decide +kernel
theorem d_Reader_readLikes_40 : decode Y_Reader_readLikes.2.1 40 = .ok (.aload_n 0, 1) := by decide +kernel
theorem d_Reader_readLikes_41 : decode Y_Reader_readLikes.2.1 41 = .ok (.ldc 235, 2) := by decide +kernel
theorem d_Reader_readLikes_43 : decode Y_Reader_readLikes.2.1 43 = .ok (.invokevirtual 188, 3) := by decide +kernel
theorem d_Reader_readLikes_46 : decode Y_Reader_readLikes.2.1 46 = .ok (.aload_n 0, 1) := by decide +kernel
theorem d_Reader_readLikes_47 : decode Y_Reader_readLikes.2.1 47 = .ok (.iconst 0, 1) := by decide +kernel
theorem d_Reader_readLikes_48 : decode Y_Reader_readLikes.2.1 48 = .ok (.bipush 99, 2) := by decide +kernel
theorem d_Reader_readLikes_50 : decode Y_Reader_readLikes.2.1 50 = .ok (.invokevirtual 192, 3) := by decide +kernel
theorem d_Reader_readLikes_53 : decode Y_Reader_readLikes.2.1 53 = .ok (.istore 4, 2) := by decide +kernel
theorem d_Reader_readLikes_55 : decode Y_Reader_readLikes.2.1 55 = .ok (.aload_n 0, 1) := by decide +kernel
theorem d_Reader_readLikes_56 : decode Y_Reader_readLikes.2.1 56 = .ok (.getfield 54, 3) := by decide +kernel
theorem d_Reader_readLikes_59 : decode Y_Reader_readLikes.2.1 59 = .ok (.getfield 237, 3) := by decide +kernel
theorem d_Reader_readLikes_62 : decode Y_Reader_readLikes.2.1 62 = .ok (.iload_n 1, 1) := by decide +kernel
theorem d_Reader_readLikes_63 : decode Y_Reader_readLikes.2.1 63 = .ok (.aaload, 1) := by decide +kernel
theorem d_Reader_readLikes_64 : decode Y_Reader_readLikes.2.1 64 = .ok (.iload_n 3, 1) := by decide +kernel
theorem d_Reader_readLikes_65 : decode Y_Reader_readLikes.2.1 65 = .ok (.iload 4, 2) := by decide +kernel
theorem d_Reader_readLikes_67 : decode Y_Reader_readLikes.2.1 67 = .ok (.iastore, 1) := by decide +kernel
theorem d_Reader_readLikes_68 : decode Y_Reader_readLikes.2.1 68 = .ok (.aload_n 0, 1) := by decide +kernel
theorem d_Reader_readLikes_69 : decode Y_Reader_readLikes.2.1 69 = .ok (.getfield 54, 3) := by decide +kernel
theorem d_Reader_readLikes_72 : decode Y_Reader_readLikes.2.1 72 = .ok (.getfield 233, 3) := by decide +kernel
theorem d_Reader_readLikes_75 : decode Y_Reader_readLikes.2.1 75 = .ok (.iload_n 1, 1) := by decide +kernel
theorem d_Reader_readLikes_76 : decode Y_Reader_readLikes.2.1 76 = .ok (.dup2, 1) := by decide +kernel
theorem d_Reader_readLikes_77 : decode Y_Reader_readLikes.2.1 77 = .ok (.iaload, 1) := by decide +kernel
theorem d_Reader_readLikes_78 : decode Y_Reader_readLikes.2.1 78 = .ok (.iconst 1, 1) := by decide +kernel
theorem d_Reader_readLikes_79 : decode Y_Reader_readLikes.2.1 79 = .ok (.iload_n 3, 1) := by decide +kernel
theorem d_Reader_readLikes_80 : decode Y_Reader_readLikes.2.1 80 = .ok (.ishl, 1) := by decide +kernel
theorem d_Reader_readLikes_81 : decode Y_Reader_readLikes.2.1 81 = .ok (.ior, 1) := by decide +kernel
theorem d_Reader_readLikes_82 : decode Y_Reader_readLikes.2.1 82 = .ok (.iastore, 1) := by decide +kernel
theorem d_Reader_readLikes_83 : decode Y_Reader_readLikes.2.1 83 = .ok (.aload_n 0, 1) := by decide +kernel
theorem d_Reader_readLikes_84 : decode Y_Reader_readLikes.2.1 84 = .ok (.getfield 54, 3) := by decide +kernel
theorem d_Reader_readLikes_87 : decode Y_Reader_readLikes.2.1 87 = .ok (.dup, 1) := by decide +kernel
theorem d_Reader_readLikes_88 : decode Y_Reader_readLikes.2.1 88 = .ok (.getfield 157, 3) := by decide +kernel
theorem d_Reader_readLikes_91 : decode Y_Reader_readLikes.2.1 91 = .ok (.iconst 1, 1) := by decide +kernel
theorem d_Reader_readLikes_92 : decode Y_Reader_readLikes.2.1 92 = .ok (.iadd, 1) := by decide +kernel
theorem d_Reader_readLikes_93 : decode Y_Reader_readLikes.2.1 93 = .ok (.putfield 157, 3) := by decide +kernel
theorem d_Reader_readLikes_96 : decode Y_Reader_readLikes.2.1 96 = .ok (.return_, 1) := by decide +kernel
def f_Reader_readLikes (h : PH) (a0 : Option Nat) : Option PH := (cl h 5 a0 (f_Reader_known h a0 (3 : Int32))).bind fun v1 => (gI v1.2 5 a0 5).bind fun v2 => (cl v1.2 5 a0 (f_Reader_known v1.2 a0 (1 : Int32))).bind fun v3 => (gR v3.2 5 a0 2).bind fun v4 => (gR v3.2 1 v4 9).bind fun v5 => (aI v3.2 v5 v1.1).bind fun v6 => (if ¬ ((v6 >>> (v3.1 &&& 31)) &&& (1 : Int32)) = (1 : Int32) then (some v3.2) else ((cl v3.2 5 a0 (f_Reader_fail v3.2 a0 (3 : Int32) v2)).bind fun h8 => some h8) : Option (PH)).bind fun j7 => (cl j7 5 a0 (f_Reader_keyword j7 a0 (some 17))).bind fun h9 => (cl h9 5 a0 (f_Reader_whole h9 a0 (0 : Int32) (99 : Int32))).bind fun v10 => (gR v10.2 5 a0 2).bind fun v11 => (gR v10.2 1 v11 8).bind fun v12 => (aR v10.2 53 v12 v1.1).bind fun v13 => (sA v10.2 50 v13 v3.1 (.inl v10.1)).bind fun h14 => (gR h14 5 a0 2).bind fun v15 => (gR h14 1 v15 9).bind fun v16 => (aI h14 v16 v1.1).bind fun v17 => (sA h14 50 v16 v1.1 (.inl (v17 ||| ((1 : Int32) <<< (v3.1 &&& 31))))).bind fun h18 => (gR h18 5 a0 2).bind fun v19 => (gI h18 1 v19 4).bind fun v20 => (sF h18 1 v19 4 (.inl (v20 + (1 : Int32)))).bind fun h21 => some h21
set_option maxRecDepth 20000 in
theorem PM_Reader_readLikes {l : Launch} {G : Cx} {h : PH} {a0 : Option Nat} {z : PH} (hz : f_Reader_readLikes h a0 = some z) : PM l G 10 0 0 Y_Reader_readLikes [.inr (.inr a0)] h (none, z) := by
  refine PM.of (Y := Y_Reader_readLikes) (cv := (fun z : PH => (((none, z) : Option PV × PH)))) (by decide) (L0 := [some (.inr (.inr a0)), none, none, none, none]) 4 rfl (Nat.le_of_ble_eq_true rfl) ?_ hz
  unfold f_Reader_readLikes
  refine PJ.aload_n (pc := 0) d_Reader_readLikes_0 rfl ?_
  refine PJ.iconst (pc := 1) (v := 3) d_Reader_readLikes_1 (by decide) ?_
  refine PJ.cVI (pc := 2) cs_Reader_204 (fun z hz => PM_Reader_known hz) (pj_fitb rfl) rfl rfl (Nat.le_of_ble_eq_true rfl) d_Reader_readLikes_2 (fun v1 => ?_)
  refine PJ.istore_n (pc := 5) (L1 := [some (.inr (.inr a0)), some (.inl v1.1), none, none, none]) d_Reader_readLikes_5 (Nat.le_of_ble_eq_true rfl) rfl rfl ?_
  refine PJ.aload_n (pc := 6) d_Reader_readLikes_6 rfl ?_
  refine PJ.getI (pc := 7) fs_Reader_22 d_Reader_readLikes_7 (fun v2 => ?_)
  refine PJ.istore_n (pc := 10) (L1 := [some (.inr (.inr a0)), some (.inl v1.1), some (.inl v2), none, none]) d_Reader_readLikes_10 (Nat.le_of_ble_eq_true rfl) rfl rfl ?_
  refine PJ.aload_n (pc := 11) d_Reader_readLikes_11 rfl ?_
  refine PJ.iconst (pc := 12) (v := 1) d_Reader_readLikes_12 (by decide) ?_
  refine PJ.cVI (pc := 13) cs_Reader_204 (fun z hz => PM_Reader_known hz) (pj_fitb rfl) rfl rfl (Nat.le_of_ble_eq_true rfl) d_Reader_readLikes_13 (fun v3 => ?_)
  refine PJ.istore_n (pc := 16) (L1 := [some (.inr (.inr a0)), some (.inl v1.1), some (.inl v2), some (.inl v3.1), none]) d_Reader_readLikes_16 (Nat.le_of_ble_eq_true rfl) rfl rfl ?_
  refine PJ.aload_n (pc := 17) d_Reader_readLikes_17 rfl ?_
  refine PJ.getR (pc := 18) fs_Reader_54 d_Reader_readLikes_18 (fun v4 => ?_)
  refine PJ.getR (pc := 21) fs_Reader_233 d_Reader_readLikes_21 (fun v5 => ?_)
  refine PJ.iload_n (pc := 24) d_Reader_readLikes_24 rfl ?_
  refine PJ.iald (pc := 25) d_Reader_readLikes_25 (fun v6 => ?_)
  refine PJ.iload_n (pc := 26) d_Reader_readLikes_26 rfl ?_
  refine PJ.ishr (pc := 27) d_Reader_readLikes_27 ?_
  refine PJ.iconst (pc := 28) (v := 1) d_Reader_readLikes_28 (by decide) ?_
  refine PJ.iand (pc := 29) d_Reader_readLikes_29 ?_
  refine PJ.iconst (pc := 30) (v := 1) d_Reader_readLikes_30 (by decide) ?_
  refine PJ.bind (fun j7 : PH => ((40 : Nat), ([some (.inr (.inr a0)), some (.inl v1.1), none, some (.inl v3.1), none] : List (Option PV)), ([] : List PV), (j7 : PH), (0 : Nat), (0 : Nat))) ?_ (fun j7 => ?_)
  · refine PJ.icmp_ne (pc := 31) (tgt := 40) d_Reader_readLikes_31 (by decide) (fun _ => ?_) (fun _ => ?_)
    · refine PJ.mk (L1 := [some (.inr (.inr a0)), some (.inl v1.1), none, some (.inl v3.1), none]) [true, true, false, true, false] rfl ?_
      exact PJ.done rfl
    · refine PJ.aload_n (pc := 34) d_Reader_readLikes_34 rfl ?_
      refine PJ.iconst (pc := 35) (v := 3) d_Reader_readLikes_35 (by decide) ?_
      refine PJ.iload_n (pc := 36) d_Reader_readLikes_36 rfl ?_
      refine PJ.cVV (pc := 37) cs_Reader_75 (fun z hz => PM_Reader_fail hz) (pj_fitb rfl) rfl rfl (Nat.le_of_ble_eq_true rfl) d_Reader_readLikes_37 (fun h8 => ?_)
      refine PJ.mk (L1 := [some (.inr (.inr a0)), some (.inl v1.1), none, some (.inl v3.1), none]) [true, true, false, true, false] rfl ?_
      exact PJ.done rfl
  · show PJ l G (pj_rm 10 0 0) Y_Reader_readLikes 40 [some (.inr (.inr a0)), some (.inl v1.1), none, some (.inl v3.1), none] [] j7 0 0 _ _
    refine PJ.aload_n (pc := 40) d_Reader_readLikes_40 rfl ?_
    refine PJ.ldcS (pc := 41) (i := 17) d_Reader_readLikes_41 (by decide) (List.mem_of_getElem? (i := 17) rfl) ?_
    refine PJ.cVV (pc := 43) cs_Reader_188 (fun z hz => PM_Reader_keyword hz) (pj_fitb rfl) rfl rfl (Nat.le_of_ble_eq_true rfl) d_Reader_readLikes_43 (fun h9 => ?_)
    refine PJ.aload_n (pc := 46) d_Reader_readLikes_46 rfl ?_
    refine PJ.iconst (pc := 47) (v := 0) d_Reader_readLikes_47 (by decide) ?_
    refine PJ.bipush (pc := 48) (v := 99) d_Reader_readLikes_48 (by decide) ?_
    refine PJ.cVI (pc := 50) cs_Reader_192 (fun z hz => PM_Reader_whole hz) (pj_fitb rfl) rfl rfl (Nat.le_of_ble_eq_true rfl) d_Reader_readLikes_50 (fun v10 => ?_)
    refine PJ.istore (pc := 53) (L1 := [some (.inr (.inr a0)), some (.inl v1.1), none, some (.inl v3.1), some (.inl v10.1)]) d_Reader_readLikes_53 (Nat.le_of_ble_eq_true rfl) rfl rfl ?_
    refine PJ.aload_n (pc := 55) d_Reader_readLikes_55 rfl ?_
    refine PJ.getR (pc := 56) fs_Reader_54 d_Reader_readLikes_56 (fun v11 => ?_)
    refine PJ.getR (pc := 59) fs_Reader_237 d_Reader_readLikes_59 (fun v12 => ?_)
    refine PJ.iload_n (pc := 62) d_Reader_readLikes_62 rfl ?_
    refine PJ.aald (pc := 63) 53 (by decide) d_Reader_readLikes_63 (fun v13 => ?_)
    refine PJ.iload_n (pc := 64) d_Reader_readLikes_64 rfl ?_
    refine PJ.iload (pc := 65) d_Reader_readLikes_65 rfl ?_
    refine PJ.iast (pc := 67) d_Reader_readLikes_67 (fun h14 => ?_)
    refine PJ.aload_n (pc := 68) d_Reader_readLikes_68 rfl ?_
    refine PJ.getR (pc := 69) fs_Reader_54 d_Reader_readLikes_69 (fun v15 => ?_)
    refine PJ.getR (pc := 72) fs_Reader_233 d_Reader_readLikes_72 (fun v16 => ?_)
    refine PJ.iload_n (pc := 75) d_Reader_readLikes_75 rfl ?_
    refine PJ.dup2 (pc := 76) d_Reader_readLikes_76 rfl rfl ?_
    refine PJ.iald (pc := 77) d_Reader_readLikes_77 (fun v17 => ?_)
    refine PJ.iconst (pc := 78) (v := 1) d_Reader_readLikes_78 (by decide) ?_
    refine PJ.iload_n (pc := 79) d_Reader_readLikes_79 rfl ?_
    refine PJ.ishl (pc := 80) d_Reader_readLikes_80 ?_
    refine PJ.ior (pc := 81) d_Reader_readLikes_81 ?_
    refine PJ.iast (pc := 82) d_Reader_readLikes_82 (fun h18 => ?_)
    refine PJ.aload_n (pc := 83) d_Reader_readLikes_83 rfl ?_
    refine PJ.getR (pc := 84) fs_Reader_54 d_Reader_readLikes_84 (fun v19 => ?_)
    refine PJ.dup (pc := 87) d_Reader_readLikes_87 rfl ?_
    refine PJ.getI (pc := 88) fs_Reader_157 d_Reader_readLikes_88 (fun v20 => ?_)
    refine PJ.iconst (pc := 91) (v := 1) d_Reader_readLikes_91 (by decide) ?_
    refine PJ.iadd (pc := 92) d_Reader_readLikes_92 ?_
    refine PJ.putI (pc := 93) ps_Reader_157 d_Reader_readLikes_93 (fun h21 => ?_)
    exact PJ.vret (pc := 96) d_Reader_readLikes_96 rfl (Nat.le_of_ble_eq_true rfl) (Nat.le_of_ble_eq_true rfl)
theorem d_Reader_readReason_0 : decode Y_Reader_readReason.2.1 0 = .ok (.aload_n 0, 1) := by decide +kernel
theorem d_Reader_readReason_1 : decode Y_Reader_readReason.2.1 1 = .ok (.getfield 54, 3) := by decide +kernel
theorem d_Reader_readReason_4 : decode Y_Reader_readReason.2.1 4 = .ok (.getfield 160, 3) := by decide +kernel
theorem d_Reader_readReason_7 : decode Y_Reader_readReason.2.1 7 = .ok (.astore_n 1, 1) := by decide +kernel
theorem d_Reader_readReason_8 : decode Y_Reader_readReason.2.1 8 = .ok (.aload_n 1, 1) := by decide +kernel
theorem d_Reader_readReason_9 : decode Y_Reader_readReason.2.1 9 = .ok (.getfield 164, 3) := by decide +kernel
theorem d_Reader_readReason_12 : decode Y_Reader_readReason.2.1 12 = .ok (.istore_n 2, 1) := by decide +kernel
theorem d_Reader_readReason_13 : decode Y_Reader_readReason.2.1 13 = .ok (.aload_n 0, 1) := by decide +kernel
theorem d_Reader_readReason_14 : decode Y_Reader_readReason.2.1 14 = .ok (.iconst 3, 1) := by decide +kernel
theorem d_Reader_readReason_15 : decode Y_Reader_readReason.2.1 15 = .ok (.invokevirtual 204, 3) := by decide +kernel
theorem d_Reader_readReason_18 : decode Y_Reader_readReason.2.1 18 = .ok (.istore_n 3, 1) := by decide +kernel
theorem d_Reader_readReason_19 : decode Y_Reader_readReason.2.1 19 = .ok (.aload_n 0, 1) := by decide +kernel
theorem d_Reader_readReason_20 : decode Y_Reader_readReason.2.1 20 = .ok (.iconst 1, 1) := by decide +kernel
theorem d_Reader_readReason_21 : decode Y_Reader_readReason.2.1 21 = .ok (.invokevirtual 204, 3) := by decide +kernel
theorem d_Reader_readReason_24 : decode Y_Reader_readReason.2.1 24 = .ok (.istore 4, 2) := by decide +kernel
theorem d_Reader_readReason_26 : decode Y_Reader_readReason.2.1 26 = .ok (.aload_n 0, 1) := by decide +kernel
theorem d_Reader_readReason_27 : decode Y_Reader_readReason.2.1 27 = .ok (.ldc 240, 2) := by decide +kernel
theorem d_Reader_readReason_29 : decode Y_Reader_readReason.2.1 29 = .ok (.invokevirtual 188, 3) := by decide +kernel
theorem d_Reader_readReason_32 : decode Y_Reader_readReason.2.1 32 = .ok (.aload_n 0, 1) := by decide +kernel
theorem d_Reader_readReason_33 : decode Y_Reader_readReason.2.1 33 = .ok (.iconst 1, 1) := by decide +kernel
theorem d_Reader_readReason_34 : decode Y_Reader_readReason.2.1 34 = .ok (.bipush 12, 2) := by decide +kernel
theorem d_Reader_readReason_36 : decode Y_Reader_readReason.2.1 36 = .ok (.invokevirtual 192, 3) := by decide +kernel
theorem d_Reader_readReason_39 : decode Y_Reader_readReason.2.1 39 = .ok (.istore 5, 2) := by decide +kernel
theorem d_Reader_readReason_41 : decode Y_Reader_readReason.2.1 41 = .ok (.aload_n 0, 1) := by decide +kernel
theorem d_Reader_readReason_42 : decode Y_Reader_readReason.2.1 42 = .ok (.ldc 242, 2) := by decide +kernel
theorem d_Reader_readReason_44 : decode Y_Reader_readReason.2.1 44 = .ok (.invokevirtual 188, 3) := by decide +kernel
theorem d_Reader_readReason_47 : decode Y_Reader_readReason.2.1 47 = .ok (.aload_n 0, 1) := by decide +kernel
theorem d_Reader_readReason_48 : decode Y_Reader_readReason.2.1 48 = .ok (.iconst 0, 1) := by decide +kernel
theorem d_Reader_readReason_49 : decode Y_Reader_readReason.2.1 49 = .ok (.bipush 100, 2) := by decide +kernel
theorem d_Reader_readReason_51 : decode Y_Reader_readReason.2.1 51 = .ok (.invokevirtual 192, 3) := by decide +kernel
theorem d_Reader_readReason_54 : decode Y_Reader_readReason.2.1 54 = .ok (.istore 6, 2) := by decide +kernel
theorem d_Reader_readReason_56 : decode Y_Reader_readReason.2.1 56 = .ok (.aload_n 0, 1) := by decide +kernel
theorem d_Reader_readReason_57 : decode Y_Reader_readReason.2.1 57 = .ok (.ldc 244, 2) := by decide +kernel
theorem d_Reader_readReason_59 : decode Y_Reader_readReason.2.1 59 = .ok (.invokevirtual 188, 3) := by decide +kernel
theorem d_Reader_readReason_62 : decode Y_Reader_readReason.2.1 62 = .ok (.aload_n 0, 1) := by decide +kernel
theorem d_Reader_readReason_63 : decode Y_Reader_readReason.2.1 63 = .ok (.iconst 1, 1) := by decide +kernel
theorem d_Reader_readReason_64 : decode Y_Reader_readReason.2.1 64 = .ok (.bipush 50, 2) := by decide +kernel
theorem d_Reader_readReason_66 : decode Y_Reader_readReason.2.1 66 = .ok (.invokevirtual 192, 3) := by decide +kernel
theorem d_Reader_readReason_69 : decode Y_Reader_readReason.2.1 69 = .ok (.istore 7, 2) := by decide +kernel
theorem d_Reader_readReason_71 : decode Y_Reader_readReason.2.1 71 = .ok (.aload_n 0, 1) := by decide +kernel
theorem d_Reader_readReason_72 : decode Y_Reader_readReason.2.1 72 = .ok (.getfield 28, 3) := by decide +kernel
theorem d_Reader_readReason_75 : decode Y_Reader_readReason.2.1 75 = .ok (.ifCond .ne 52, 3) := by decide +kernel
theorem d_Reader_readReason_78 : decode Y_Reader_readReason.2.1 78 = .ok (.aload_n 1, 1) := by decide +kernel
theorem d_Reader_readReason_79 : decode Y_Reader_readReason.2.1 79 = .ok (.getfield 246, 3) := by decide +kernel
theorem d_Reader_readReason_82 : decode Y_Reader_readReason.2.1 82 = .ok (.iload_n 2, 1) := by decide +kernel
theorem d_Reader_readReason_83 : decode Y_Reader_readReason.2.1 83 = .ok (.iload_n 3, 1) := by decide +kernel
theorem d_Reader_readReason_84 : decode Y_Reader_readReason.2.1 84 = .ok (.iastore, 1) := by decide +kernel
theorem d_Reader_readReason_85 : decode Y_Reader_readReason.2.1 85 = .ok (.aload_n 1, 1) := by decide +kernel
theorem d_Reader_readReason_86 : decode Y_Reader_readReason.2.1 86 = .ok (.getfield 248, 3) := by decide +kernel
theorem d_Reader_readReason_89 : decode Y_Reader_readReason.2.1 89 = .ok (.iload_n 2, 1) := by decide +kernel
theorem d_Reader_readReason_90 : decode Y_Reader_readReason.2.1 90 = .ok (.iload 4, 2) := by decide +kernel
theorem d_Reader_readReason_92 : decode Y_Reader_readReason.2.1 92 = .ok (.iastore, 1) := by decide +kernel
theorem d_Reader_readReason_93 : decode Y_Reader_readReason.2.1 93 = .ok (.aload_n 1, 1) := by decide +kernel
theorem d_Reader_readReason_94 : decode Y_Reader_readReason.2.1 94 = .ok (.getfield 250, 3) := by decide +kernel
theorem d_Reader_readReason_97 : decode Y_Reader_readReason.2.1 97 = .ok (.iload_n 2, 1) := by decide +kernel
theorem d_Reader_readReason_98 : decode Y_Reader_readReason.2.1 98 = .ok (.iload 5, 2) := by decide +kernel
theorem d_Reader_readReason_100 : decode Y_Reader_readReason.2.1 100 = .ok (.iastore, 1) := by decide +kernel
theorem d_Reader_readReason_101 : decode Y_Reader_readReason.2.1 101 = .ok (.aload_n 1, 1) := by decide +kernel
theorem d_Reader_readReason_102 : decode Y_Reader_readReason.2.1 102 = .ok (.getfield 253, 3) := by decide +kernel
theorem d_Reader_readReason_105 : decode Y_Reader_readReason.2.1 105 = .ok (.iload_n 2, 1) := by decide +kernel
theorem d_Reader_readReason_106 : decode Y_Reader_readReason.2.1 106 = .ok (.iload 6, 2) := by decide +kernel
theorem d_Reader_readReason_108 : decode Y_Reader_readReason.2.1 108 = .ok (.iastore, 1) := by decide +kernel
theorem d_Reader_readReason_109 : decode Y_Reader_readReason.2.1 109 = .ok (.aload_n 1, 1) := by decide +kernel
theorem d_Reader_readReason_110 : decode Y_Reader_readReason.2.1 110 = .ok (.getfield 255, 3) := by decide +kernel
theorem d_Reader_readReason_113 : decode Y_Reader_readReason.2.1 113 = .ok (.iload_n 2, 1) := by decide +kernel
theorem d_Reader_readReason_114 : decode Y_Reader_readReason.2.1 114 = .ok (.iload 7, 2) := by decide +kernel
theorem d_Reader_readReason_116 : decode Y_Reader_readReason.2.1 116 = .ok (.iastore, 1) := by decide +kernel
theorem d_Reader_readReason_117 : decode Y_Reader_readReason.2.1 117 = .ok (.aload_n 1, 1) := by decide +kernel
theorem d_Reader_readReason_118 : decode Y_Reader_readReason.2.1 118 = .ok (.dup, 1) := by decide +kernel
theorem d_Reader_readReason_119 : decode Y_Reader_readReason.2.1 119 = .ok (.getfield 164, 3) := by decide +kernel
theorem d_Reader_readReason_122 : decode Y_Reader_readReason.2.1 122 = .ok (.iconst 1, 1) := by decide +kernel
theorem d_Reader_readReason_123 : decode Y_Reader_readReason.2.1 123 = .ok (.iadd, 1) := by decide +kernel
theorem d_Reader_readReason_124 : decode Y_Reader_readReason.2.1 124 = .ok (.putfield 164, 3) := by decide +kernel
theorem d_Reader_readReason_127 : decode Y_Reader_readReason.2.1 127 = .ok (.return_, 1) := by decide +kernel
def f_Reader_readReason (h : PH) (a0 : Option Nat) : Option PH := (gR h 5 a0 2).bind fun v1 => (gR h 1 v1 10).bind fun v2 => (gI h 6 v2 0).bind fun v3 => (cl h 5 a0 (f_Reader_known h a0 (3 : Int32))).bind fun v4 => (cl v4.2 5 a0 (f_Reader_known v4.2 a0 (1 : Int32))).bind fun v5 => (cl v5.2 5 a0 (f_Reader_keyword v5.2 a0 (some 18))).bind fun h6 => (cl h6 5 a0 (f_Reader_whole h6 a0 (1 : Int32) (12 : Int32))).bind fun v7 => (cl v7.2 5 a0 (f_Reader_keyword v7.2 a0 (some 19))).bind fun h8 => (cl h8 5 a0 (f_Reader_whole h8 a0 (0 : Int32) (100 : Int32))).bind fun v9 => (cl v9.2 5 a0 (f_Reader_keyword v9.2 a0 (some 20))).bind fun h10 => (cl h10 5 a0 (f_Reader_whole h10 a0 (1 : Int32) (50 : Int32))).bind fun v11 => (gI v11.2 5 a0 7).bind fun v12 => if ¬ v12 = 0 then (some v11.2) else ((gR v11.2 6 v2 1).bind fun v13 => (sA v11.2 50 v13 v3 (.inl v4.1)).bind fun h14 => (gR h14 6 v2 2).bind fun v15 => (sA h14 50 v15 v3 (.inl v5.1)).bind fun h16 => (gR h16 6 v2 3).bind fun v17 => (sA h16 50 v17 v3 (.inl v7.1)).bind fun h18 => (gR h18 6 v2 4).bind fun v19 => (sA h18 50 v19 v3 (.inl v9.1)).bind fun h20 => (gR h20 6 v2 5).bind fun v21 => (sA h20 50 v21 v3 (.inl v11.1)).bind fun h22 => (gI h22 6 v2 0).bind fun v23 => (sF h22 6 v2 0 (.inl (v23 + (1 : Int32)))).bind fun h24 => some h24)
set_option maxRecDepth 20000 in
theorem PM_Reader_readReason {l : Launch} {G : Cx} {h : PH} {a0 : Option Nat} {z : PH} (hz : f_Reader_readReason h a0 = some z) : PM l G 10 0 0 Y_Reader_readReason [.inr (.inr a0)] h (none, z) := by
  refine PM.of (Y := Y_Reader_readReason) (cv := (fun z : PH => (((none, z) : Option PV × PH)))) (by decide) (L0 := [some (.inr (.inr a0)), none, none, none, none, none, none, none]) 7 rfl (Nat.le_of_ble_eq_true rfl) ?_ hz
  unfold f_Reader_readReason
  refine PJ.aload_n (pc := 0) d_Reader_readReason_0 rfl ?_
  refine PJ.getR (pc := 1) fs_Reader_54 d_Reader_readReason_1 (fun v1 => ?_)
  refine PJ.getR (pc := 4) fs_Reader_160 d_Reader_readReason_4 (fun v2 => ?_)
  refine PJ.astore_n (pc := 7) (L1 := [some (.inr (.inr a0)), some (.inr (.inr v2)), none, none, none, none, none, none]) d_Reader_readReason_7 (Nat.le_of_ble_eq_true rfl) rfl rfl ?_
  refine PJ.aload_n (pc := 8) d_Reader_readReason_8 rfl ?_
  refine PJ.getI (pc := 9) fs_Reader_164 d_Reader_readReason_9 (fun v3 => ?_)
  refine PJ.istore_n (pc := 12) (L1 := [some (.inr (.inr a0)), some (.inr (.inr v2)), some (.inl v3), none, none, none, none, none]) d_Reader_readReason_12 (Nat.le_of_ble_eq_true rfl) rfl rfl ?_
  refine PJ.aload_n (pc := 13) d_Reader_readReason_13 rfl ?_
  refine PJ.iconst (pc := 14) (v := 3) d_Reader_readReason_14 (by decide) ?_
  refine PJ.cVI (pc := 15) cs_Reader_204 (fun z hz => PM_Reader_known hz) (pj_fitb rfl) rfl rfl (Nat.le_of_ble_eq_true rfl) d_Reader_readReason_15 (fun v4 => ?_)
  refine PJ.istore_n (pc := 18) (L1 := [some (.inr (.inr a0)), some (.inr (.inr v2)), some (.inl v3), some (.inl v4.1), none, none, none, none]) d_Reader_readReason_18 (Nat.le_of_ble_eq_true rfl) rfl rfl ?_
  refine PJ.aload_n (pc := 19) d_Reader_readReason_19 rfl ?_
  refine PJ.iconst (pc := 20) (v := 1) d_Reader_readReason_20 (by decide) ?_
  refine PJ.cVI (pc := 21) cs_Reader_204 (fun z hz => PM_Reader_known hz) (pj_fitb rfl) rfl rfl (Nat.le_of_ble_eq_true rfl) d_Reader_readReason_21 (fun v5 => ?_)
  refine PJ.istore (pc := 24) (L1 := [some (.inr (.inr a0)), some (.inr (.inr v2)), some (.inl v3), some (.inl v4.1), some (.inl v5.1), none, none, none]) d_Reader_readReason_24 (Nat.le_of_ble_eq_true rfl) rfl rfl ?_
  refine PJ.aload_n (pc := 26) d_Reader_readReason_26 rfl ?_
  refine PJ.ldcS (pc := 27) (i := 18) d_Reader_readReason_27 (by decide) (List.mem_of_getElem? (i := 18) rfl) ?_
  refine PJ.cVV (pc := 29) cs_Reader_188 (fun z hz => PM_Reader_keyword hz) (pj_fitb rfl) rfl rfl (Nat.le_of_ble_eq_true rfl) d_Reader_readReason_29 (fun h6 => ?_)
  refine PJ.aload_n (pc := 32) d_Reader_readReason_32 rfl ?_
  refine PJ.iconst (pc := 33) (v := 1) d_Reader_readReason_33 (by decide) ?_
  refine PJ.bipush (pc := 34) (v := 12) d_Reader_readReason_34 (by decide) ?_
  refine PJ.cVI (pc := 36) cs_Reader_192 (fun z hz => PM_Reader_whole hz) (pj_fitb rfl) rfl rfl (Nat.le_of_ble_eq_true rfl) d_Reader_readReason_36 (fun v7 => ?_)
  refine PJ.istore (pc := 39) (L1 := [some (.inr (.inr a0)), some (.inr (.inr v2)), some (.inl v3), some (.inl v4.1), some (.inl v5.1), some (.inl v7.1), none, none]) d_Reader_readReason_39 (Nat.le_of_ble_eq_true rfl) rfl rfl ?_
  refine PJ.aload_n (pc := 41) d_Reader_readReason_41 rfl ?_
  refine PJ.ldcS (pc := 42) (i := 19) d_Reader_readReason_42 (by decide) (List.mem_of_getElem? (i := 19) rfl) ?_
  refine PJ.cVV (pc := 44) cs_Reader_188 (fun z hz => PM_Reader_keyword hz) (pj_fitb rfl) rfl rfl (Nat.le_of_ble_eq_true rfl) d_Reader_readReason_44 (fun h8 => ?_)
  refine PJ.aload_n (pc := 47) d_Reader_readReason_47 rfl ?_
  refine PJ.iconst (pc := 48) (v := 0) d_Reader_readReason_48 (by decide) ?_
  refine PJ.bipush (pc := 49) (v := 100) d_Reader_readReason_49 (by decide) ?_
  refine PJ.cVI (pc := 51) cs_Reader_192 (fun z hz => PM_Reader_whole hz) (pj_fitb rfl) rfl rfl (Nat.le_of_ble_eq_true rfl) d_Reader_readReason_51 (fun v9 => ?_)
  refine PJ.istore (pc := 54) (L1 := [some (.inr (.inr a0)), some (.inr (.inr v2)), some (.inl v3), some (.inl v4.1), some (.inl v5.1), some (.inl v7.1), some (.inl v9.1), none]) d_Reader_readReason_54 (Nat.le_of_ble_eq_true rfl) rfl rfl ?_
  refine PJ.aload_n (pc := 56) d_Reader_readReason_56 rfl ?_
  refine PJ.ldcS (pc := 57) (i := 20) d_Reader_readReason_57 (by decide) (List.mem_of_getElem? (i := 20) rfl) ?_
  refine PJ.cVV (pc := 59) cs_Reader_188 (fun z hz => PM_Reader_keyword hz) (pj_fitb rfl) rfl rfl (Nat.le_of_ble_eq_true rfl) d_Reader_readReason_59 (fun h10 => ?_)
  refine PJ.aload_n (pc := 62) d_Reader_readReason_62 rfl ?_
  refine PJ.iconst (pc := 63) (v := 1) d_Reader_readReason_63 (by decide) ?_
  refine PJ.bipush (pc := 64) (v := 50) d_Reader_readReason_64 (by decide) ?_
  refine PJ.cVI (pc := 66) cs_Reader_192 (fun z hz => PM_Reader_whole hz) (pj_fitb rfl) rfl rfl (Nat.le_of_ble_eq_true rfl) d_Reader_readReason_66 (fun v11 => ?_)
  refine PJ.istore (pc := 69) (L1 := [some (.inr (.inr a0)), some (.inr (.inr v2)), some (.inl v3), some (.inl v4.1), some (.inl v5.1), some (.inl v7.1), some (.inl v9.1), some (.inl v11.1)]) d_Reader_readReason_69 (Nat.le_of_ble_eq_true rfl) rfl rfl ?_
  refine PJ.aload_n (pc := 71) d_Reader_readReason_71 rfl ?_
  refine PJ.getI (pc := 72) fs_Reader_28 d_Reader_readReason_72 (fun v12 => ?_)
  refine PJ.if_ne (pc := 75) (tgt := 127) d_Reader_readReason_75 (by decide) (fun _ => ?_) (fun _ => ?_)
  · exact PJ.vret (pc := 127) d_Reader_readReason_127 rfl (Nat.le_of_ble_eq_true rfl) (Nat.le_of_ble_eq_true rfl)
  · refine PJ.aload_n (pc := 78) d_Reader_readReason_78 rfl ?_
    refine PJ.getR (pc := 79) fs_Reader_246 d_Reader_readReason_79 (fun v13 => ?_)
    refine PJ.iload_n (pc := 82) d_Reader_readReason_82 rfl ?_
    refine PJ.iload_n (pc := 83) d_Reader_readReason_83 rfl ?_
    refine PJ.iast (pc := 84) d_Reader_readReason_84 (fun h14 => ?_)
    refine PJ.aload_n (pc := 85) d_Reader_readReason_85 rfl ?_
    refine PJ.getR (pc := 86) fs_Reader_248 d_Reader_readReason_86 (fun v15 => ?_)
    refine PJ.iload_n (pc := 89) d_Reader_readReason_89 rfl ?_
    refine PJ.iload (pc := 90) d_Reader_readReason_90 rfl ?_
    refine PJ.iast (pc := 92) d_Reader_readReason_92 (fun h16 => ?_)
    refine PJ.aload_n (pc := 93) d_Reader_readReason_93 rfl ?_
    refine PJ.getR (pc := 94) fs_Reader_250 d_Reader_readReason_94 (fun v17 => ?_)
    refine PJ.iload_n (pc := 97) d_Reader_readReason_97 rfl ?_
    refine PJ.iload (pc := 98) d_Reader_readReason_98 rfl ?_
    refine PJ.iast (pc := 100) d_Reader_readReason_100 (fun h18 => ?_)
    refine PJ.aload_n (pc := 101) d_Reader_readReason_101 rfl ?_
    refine PJ.getR (pc := 102) fs_Reader_253 d_Reader_readReason_102 (fun v19 => ?_)
    refine PJ.iload_n (pc := 105) d_Reader_readReason_105 rfl ?_
    refine PJ.iload (pc := 106) d_Reader_readReason_106 rfl ?_
    refine PJ.iast (pc := 108) d_Reader_readReason_108 (fun h20 => ?_)
    refine PJ.aload_n (pc := 109) d_Reader_readReason_109 rfl ?_
    refine PJ.getR (pc := 110) fs_Reader_255 d_Reader_readReason_110 (fun v21 => ?_)
    refine PJ.iload_n (pc := 113) d_Reader_readReason_113 rfl ?_
    refine PJ.iload (pc := 114) d_Reader_readReason_114 rfl ?_
    refine PJ.iast (pc := 116) d_Reader_readReason_116 (fun h22 => ?_)
    refine PJ.aload_n (pc := 117) d_Reader_readReason_117 rfl ?_
    refine PJ.dup (pc := 118) d_Reader_readReason_118 rfl ?_
    refine PJ.getI (pc := 119) fs_Reader_164 d_Reader_readReason_119 (fun v23 => ?_)
    refine PJ.iconst (pc := 122) (v := 1) d_Reader_readReason_122 (by decide) ?_
    refine PJ.iadd (pc := 123) d_Reader_readReason_123 ?_
    refine PJ.putI (pc := 124) ps_Reader_164 d_Reader_readReason_124 (fun h24 => ?_)
    exact PJ.vret (pc := 127) d_Reader_readReason_127 rfl (Nat.le_of_ble_eq_true rfl) (Nat.le_of_ble_eq_true rfl)
