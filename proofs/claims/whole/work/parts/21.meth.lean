-- sites and methods: meth
theorem ss_Reader_145 : pj_cT "WaverTax$Reader" 145 Y_Str_length 0 := ⟨⟨cm_Str_length.1, cm_Str_length.2.1, cm_Str_length.2.2.1, Or.inl (pj_mem 656 (by decide +kernel) rfl)⟩, rfl, cm_Str_length.2.2.2.1, cm_Str_length.2.2.2.2⟩
theorem ss_Reader_150 : pj_cT "WaverTax$Reader" 150 Y_Str_charAt 1 := ⟨⟨cm_Str_charAt.1, cm_Str_charAt.2.1, cm_Str_charAt.2.2.1, Or.inl (pj_mem 666 (by decide +kernel) rfl)⟩, rfl, cm_Str_charAt.2.2.2.1, cm_Str_charAt.2.2.2.2⟩
abbrev Y_Shops_wipe : MI := (⟨"WaverTax$Shops", "wipe", "()V"⟩, prog_11_method_2_code, 1, (none : Option FieldType))
abbrev Y_Law_wipe : MI := (⟨"WaverTax$Law", "wipe", "()V"⟩, prog_3_method_2_code, 2, (none : Option FieldType))
abbrev Y_Reader_isLetter : MI := (⟨"WaverTax$Reader", "isLetter", "(I)Z"⟩, prog_7_method_5_code, 2, (some .boolean))
abbrev Y_Reader_isDigit : MI := (⟨"WaverTax$Reader", "isDigit", "(I)Z"⟩, prog_7_method_6_code, 2, (some .boolean))
abbrev Y_Reader_next : MI := (⟨"WaverTax$Reader", "next", "()V"⟩, prog_7_method_4_code, 1, (none : Option FieldType))
abbrev Y_Reader_is : MI := (⟨"WaverTax$Reader", "is", "(Ljava/lang/String;)Z"⟩, prog_7_method_9_code, 3, (some .boolean))
abbrev Y_Reader_lineSort : MI := (⟨"WaverTax$Reader", "lineSort", "()I"⟩, prog_7_method_8_code, 1, (some .int))
abbrev Y_Reader_fail : MI := (⟨"WaverTax$Reader", "fail", "(II)V"⟩, prog_7_method_3_code, 3, (none : Option FieldType))
abbrev Y_Reader_isFull : MI := (⟨"WaverTax$Reader", "isFull", "(I)Z"⟩, prog_7_method_10_code, 2, (some .boolean))
abbrev Y_Reader_keyword : MI := (⟨"WaverTax$Reader", "keyword", "(Ljava/lang/String;)V"⟩, prog_7_method_21_code, 2, (none : Option FieldType))
abbrev Y_Reader_whole : MI := (⟨"WaverTax$Reader", "whole", "(II)I"⟩, prog_7_method_22_code, 5, (some .int))
theorem cm_Arrays_fill : (Cond.code Y_Arrays_fill.1 Y_Arrays_fill.2.1 Y_Arrays_fill.2.2.1 Y_Arrays_fill.2.2.2 ∈ pj_ws) ∧ (Cond.initialized Y_Arrays_fill.1.cls ∈ pj_ws) ∧ (Y_Arrays_fill.1.cls ≠ "java/lang/invoke/MethodHandle" ∧ Y_Arrays_fill.1.cls ≠ "java/lang/invoke/VarHandle" ∧ (parseMethodDescriptor Y_Arrays_fill.1.desc).map (fun d => d.parameters.length) = some 2) ∧ (Cond.static Y_Arrays_fill.1 ∈ pj_ws) := ⟨pj_mem 622 (by decide +kernel) rfl, pj_mem 142 (by decide +kernel) rfl, ⟨by decide +kernel, by decide +kernel, by decide +kernel⟩, pj_mem 621 (by decide +kernel) rfl⟩
theorem cm_Shops_wipe : (Cond.code Y_Shops_wipe.1 Y_Shops_wipe.2.1 Y_Shops_wipe.2.2.1 Y_Shops_wipe.2.2.2 ∈ pj_ws) ∧ (Cond.initialized Y_Shops_wipe.1.cls ∈ pj_ws) ∧ (Y_Shops_wipe.1.cls ≠ "java/lang/invoke/MethodHandle" ∧ Y_Shops_wipe.1.cls ≠ "java/lang/invoke/VarHandle" ∧ (parseMethodDescriptor Y_Shops_wipe.1.desc).map (fun d => d.parameters.length) = some 0) ∧ (Cond.instanceMethod Y_Shops_wipe.1 ∈ pj_ws) ∧ (Cond.selects Y_Shops_wipe.1.cls Y_Shops_wipe.1 Y_Shops_wipe.1 ∈ pj_ws) := ⟨pj_mem 626 (by decide +kernel) rfl, pj_mem 134 (by decide +kernel) rfl, ⟨by decide +kernel, by decide +kernel, by decide +kernel⟩, pj_mem 624 (by decide +kernel) rfl, pj_mem 625 (by decide +kernel) rfl⟩
theorem cm_Reader_is : (Cond.code Y_Reader_is.1 Y_Reader_is.2.1 Y_Reader_is.2.2.1 Y_Reader_is.2.2.2 ∈ pj_ws) ∧ (Cond.initialized Y_Reader_is.1.cls ∈ pj_ws) ∧ (Y_Reader_is.1.cls ≠ "java/lang/invoke/MethodHandle" ∧ Y_Reader_is.1.cls ≠ "java/lang/invoke/VarHandle" ∧ (parseMethodDescriptor Y_Reader_is.1.desc).map (fun d => d.parameters.length) = some 1) ∧ (Cond.instanceMethod Y_Reader_is.1 ∈ pj_ws) ∧ (Cond.selects Y_Reader_is.1.cls Y_Reader_is.1 Y_Reader_is.1 ∈ pj_ws) := ⟨pj_mem 655 (by decide +kernel) rfl, pj_mem 135 (by decide +kernel) rfl, ⟨by decide +kernel, by decide +kernel, by decide +kernel⟩, pj_mem 654 (by decide +kernel) rfl, pj_mem 7 (by decide +kernel) rfl⟩
theorem cm_Reader_next : (Cond.code Y_Reader_next.1 Y_Reader_next.2.1 Y_Reader_next.2.2.1 Y_Reader_next.2.2.2 ∈ pj_ws) ∧ (Cond.initialized Y_Reader_next.1.cls ∈ pj_ws) ∧ (Y_Reader_next.1.cls ≠ "java/lang/invoke/MethodHandle" ∧ Y_Reader_next.1.cls ≠ "java/lang/invoke/VarHandle" ∧ (parseMethodDescriptor Y_Reader_next.1.desc).map (fun d => d.parameters.length) = some 0) ∧ (Cond.instanceMethod Y_Reader_next.1 ∈ pj_ws) ∧ (Cond.selects Y_Reader_next.1.cls Y_Reader_next.1 Y_Reader_next.1 ∈ pj_ws) := ⟨pj_mem 634 (by decide +kernel) rfl, pj_mem 135 (by decide +kernel) rfl, ⟨by decide +kernel, by decide +kernel, by decide +kernel⟩, pj_mem 633 (by decide +kernel) rfl, pj_mem 2 (by decide +kernel) rfl⟩
theorem cm_Reader_fail : (Cond.code Y_Reader_fail.1 Y_Reader_fail.2.1 Y_Reader_fail.2.2.1 Y_Reader_fail.2.2.2 ∈ pj_ws) ∧ (Cond.initialized Y_Reader_fail.1.cls ∈ pj_ws) ∧ (Y_Reader_fail.1.cls ≠ "java/lang/invoke/MethodHandle" ∧ Y_Reader_fail.1.cls ≠ "java/lang/invoke/VarHandle" ∧ (parseMethodDescriptor Y_Reader_fail.1.desc).map (fun d => d.parameters.length) = some 2) ∧ (Cond.instanceMethod Y_Reader_fail.1 ∈ pj_ws) ∧ (Cond.selects Y_Reader_fail.1.cls Y_Reader_fail.1 Y_Reader_fail.1 ∈ pj_ws) := ⟨pj_mem 715 (by decide +kernel) rfl, pj_mem 135 (by decide +kernel) rfl, ⟨by decide +kernel, by decide +kernel, by decide +kernel⟩, pj_mem 714 (by decide +kernel) rfl, pj_mem 8 (by decide +kernel) rfl⟩
theorem cm_Reader_isLetter : (Cond.code Y_Reader_isLetter.1 Y_Reader_isLetter.2.1 Y_Reader_isLetter.2.2.1 Y_Reader_isLetter.2.2.2 ∈ pj_ws) ∧ (Cond.initialized Y_Reader_isLetter.1.cls ∈ pj_ws) ∧ (Y_Reader_isLetter.1.cls ≠ "java/lang/invoke/MethodHandle" ∧ Y_Reader_isLetter.1.cls ≠ "java/lang/invoke/VarHandle" ∧ (parseMethodDescriptor Y_Reader_isLetter.1.desc).map (fun d => d.parameters.length) = some 1) ∧ (Cond.instanceMethod Y_Reader_isLetter.1 ∈ pj_ws) ∧ (Cond.selects Y_Reader_isLetter.1.cls Y_Reader_isLetter.1 Y_Reader_isLetter.1 ∈ pj_ws) := ⟨pj_mem 638 (by decide +kernel) rfl, pj_mem 135 (by decide +kernel) rfl, ⟨by decide +kernel, by decide +kernel, by decide +kernel⟩, pj_mem 637 (by decide +kernel) rfl, pj_mem 3 (by decide +kernel) rfl⟩
theorem cm_Reader_isDigit : (Cond.code Y_Reader_isDigit.1 Y_Reader_isDigit.2.1 Y_Reader_isDigit.2.2.1 Y_Reader_isDigit.2.2.2 ∈ pj_ws) ∧ (Cond.initialized Y_Reader_isDigit.1.cls ∈ pj_ws) ∧ (Y_Reader_isDigit.1.cls ≠ "java/lang/invoke/MethodHandle" ∧ Y_Reader_isDigit.1.cls ≠ "java/lang/invoke/VarHandle" ∧ (parseMethodDescriptor Y_Reader_isDigit.1.desc).map (fun d => d.parameters.length) = some 1) ∧ (Cond.instanceMethod Y_Reader_isDigit.1 ∈ pj_ws) ∧ (Cond.selects Y_Reader_isDigit.1.cls Y_Reader_isDigit.1 Y_Reader_isDigit.1 ∈ pj_ws) := ⟨pj_mem 642 (by decide +kernel) rfl, pj_mem 135 (by decide +kernel) rfl, ⟨by decide +kernel, by decide +kernel, by decide +kernel⟩, pj_mem 641 (by decide +kernel) rfl, pj_mem 4 (by decide +kernel) rfl⟩
theorem cs_Law_66 : pj_cS "WaverTax$Law" 66 Y_Arrays_fill 2 := ⟨⟨cm_Arrays_fill.1, cm_Arrays_fill.2.1, cm_Arrays_fill.2.2.1, Or.inl (pj_mem 620 (by decide +kernel) rfl)⟩, cm_Arrays_fill.2.2.2⟩
theorem cs_Law_76 : pj_cV "WaverTax$Law" 76 Y_Shops_wipe 0 9 := ⟨⟨cm_Shops_wipe.1, cm_Shops_wipe.2.1, cm_Shops_wipe.2.2.1, Or.inl (pj_mem 623 (by decide +kernel) rfl)⟩, by decide, cm_Shops_wipe.2.2.2.1, cm_Shops_wipe.2.2.2.2, ⟨_, rfl, rfl⟩⟩
theorem cs_Reader_125 : pj_cV "WaverTax$Reader" 125 Y_Reader_is 1 5 := ⟨⟨cm_Reader_is.1, cm_Reader_is.2.1, cm_Reader_is.2.2.1, Or.inl (pj_mem 652 (by decide +kernel) rfl)⟩, by decide, cm_Reader_is.2.2.2.1, cm_Reader_is.2.2.2.2, ⟨_, rfl, rfl⟩⟩
theorem cs_Reader_69 : pj_cV "WaverTax$Reader" 69 Y_Reader_next 0 5 := ⟨⟨cm_Reader_next.1, cm_Reader_next.2.1, cm_Reader_next.2.2.1, Or.inl (pj_mem 631 (by decide +kernel) rfl)⟩, by decide, cm_Reader_next.2.2.2.1, cm_Reader_next.2.2.2.2, ⟨_, rfl, rfl⟩⟩
theorem cs_Reader_75 : pj_cV "WaverTax$Reader" 75 Y_Reader_fail 2 5 := ⟨⟨cm_Reader_fail.1, cm_Reader_fail.2.1, cm_Reader_fail.2.2.1, Or.inl (pj_mem 712 (by decide +kernel) rfl)⟩, by decide, cm_Reader_fail.2.2.2.1, cm_Reader_fail.2.2.2.2, ⟨_, rfl, rfl⟩⟩
theorem cs_Reader_82 : pj_cV "WaverTax$Reader" 82 Y_Reader_isLetter 1 5 := ⟨⟨cm_Reader_isLetter.1, cm_Reader_isLetter.2.1, cm_Reader_isLetter.2.2.1, Or.inl (pj_mem 635 (by decide +kernel) rfl)⟩, by decide, cm_Reader_isLetter.2.2.2.1, cm_Reader_isLetter.2.2.2.2, ⟨_, rfl, rfl⟩⟩
theorem cs_Reader_86 : pj_cV "WaverTax$Reader" 86 Y_Reader_isDigit 1 5 := ⟨⟨cm_Reader_isDigit.1, cm_Reader_isDigit.2.1, cm_Reader_isDigit.2.2.1, Or.inl (pj_mem 639 (by decide +kernel) rfl)⟩, by decide, cm_Reader_isDigit.2.2.2.1, cm_Reader_isDigit.2.2.2.2, ⟨_, rfl, rfl⟩⟩
theorem cs_Shops_25 : pj_cS "WaverTax$Shops" 25 Y_Arrays_fill 2 := ⟨⟨cm_Arrays_fill.1, cm_Arrays_fill.2.1, cm_Arrays_fill.2.2.1, Or.inl (pj_mem 627 (by decide +kernel) rfl)⟩, cm_Arrays_fill.2.2.2⟩
theorem fs_Law_29 : pj_fs "WaverTax$Law" 1 5 29 (.array (.array (.int))) := ⟨_, _, _, _, cd_1, by decide, rfl, Or.inl (pj_mem 296 (by decide +kernel) rfl)⟩
theorem fs_Law_39 : pj_fs "WaverTax$Law" 1 8 39 (.array (.array (.int))) := ⟨_, _, _, _, cd_1, by decide, rfl, Or.inl (pj_mem 307 (by decide +kernel) rfl)⟩
theorem fs_Law_42 : pj_fs "WaverTax$Law" 1 9 42 (.array (.int)) := ⟨_, _, _, _, cd_1, by decide, rfl, Or.inl (pj_mem 310 (by decide +kernel) rfl)⟩
theorem fs_Law_48 : pj_fs "WaverTax$Law" 1 10 48 (.object "WaverTax$Reasons") := ⟨_, _, _, _, cd_1, by decide, rfl, Or.inl (pj_mem 312 (by decide +kernel) rfl)⟩
theorem fs_Law_55 : pj_fs "WaverTax$Law" 1 11 55 (.object "WaverTax$Receipts") := ⟨_, _, _, _, cd_1, by decide, rfl, Or.inl (pj_mem 317 (by decide +kernel) rfl)⟩
theorem fs_Law_62 : pj_fs "WaverTax$Law" 1 12 62 (.object "WaverTax$Shops") := ⟨_, _, _, _, cd_1, by decide, rfl, Or.inl (pj_mem 321 (by decide +kernel) rfl)⟩
theorem fs_Reader_154 : pj_fs "WaverTax$Reader" 1 3 154 (.int) := ⟨_, _, _, _, cd_1, by decide, rfl, Or.inl (pj_mem 292 (by decide +kernel) rfl)⟩
theorem fs_Reader_157 : pj_fs "WaverTax$Reader" 1 4 157 (.int) := ⟨_, _, _, _, cd_1, by decide, rfl, Or.inl (pj_mem 294 (by decide +kernel) rfl)⟩
theorem fs_Reader_160 : pj_fs "WaverTax$Reader" 1 10 160 (.object "WaverTax$Reasons") := ⟨_, _, _, _, cd_1, by decide, rfl, Or.inl (pj_mem 315 (by decide +kernel) rfl)⟩
theorem fs_Reader_164 : pj_fs "WaverTax$Reader" 6 0 164 (.int) := ⟨_, _, _, _, cd_6, by decide, rfl, Or.inl (pj_mem 182 (by decide +kernel) rfl)⟩
theorem fs_Reader_169 : pj_fs "WaverTax$Reader" 1 11 169 (.object "WaverTax$Receipts") := ⟨_, _, _, _, cd_1, by decide, rfl, Or.inl (pj_mem 319 (by decide +kernel) rfl)⟩
theorem fs_Reader_173 : pj_fs "WaverTax$Reader" 7 0 173 (.int) := ⟨_, _, _, _, cd_7, by decide, rfl, Or.inl (pj_mem 228 (by decide +kernel) rfl)⟩
theorem fs_Reader_176 : pj_fs "WaverTax$Reader" 1 12 176 (.object "WaverTax$Shops") := ⟨_, _, _, _, cd_1, by decide, rfl, Or.inl (pj_mem 322 (by decide +kernel) rfl)⟩
theorem fs_Reader_180 : pj_fs "WaverTax$Reader" 9 0 180 (.int) := ⟨_, _, _, _, cd_9, by decide, rfl, Or.inl (pj_mem 256 (by decide +kernel) rfl)⟩
theorem fs_Reader_183 : pj_fs "WaverTax$Reader" 9 1 183 (.int) := ⟨_, _, _, _, cd_9, by decide, rfl, Or.inl (pj_mem 259 (by decide +kernel) rfl)⟩
theorem fs_Reader_19 : pj_fs "WaverTax$Reader" 5 4 19 (.int) := ⟨_, _, _, _, cd_5, by decide, rfl, Or.inl (pj_mem 361 (by decide +kernel) rfl)⟩
theorem fs_Reader_22 : pj_fs "WaverTax$Reader" 5 5 22 (.int) := ⟨_, _, _, _, cd_5, by decide, rfl, Or.inl (pj_mem 362 (by decide +kernel) rfl)⟩
theorem fs_Reader_25 : pj_fs "WaverTax$Reader" 5 6 25 (.int) := ⟨_, _, _, _, cd_5, by decide, rfl, Or.inl (pj_mem 363 (by decide +kernel) rfl)⟩
theorem fs_Reader_28 : pj_fs "WaverTax$Reader" 5 7 28 (.int) := ⟨_, _, _, _, cd_5, by decide, rfl, Or.inl (pj_mem 364 (by decide +kernel) rfl)⟩
theorem fs_Reader_50 : pj_fs "WaverTax$Reader" 5 0 50 (.array (.byte)) := ⟨_, _, _, _, cd_5, by decide, rfl, Or.inl (pj_mem 357 (by decide +kernel) rfl)⟩
theorem fs_Reader_54 : pj_fs "WaverTax$Reader" 5 2 54 (.object "WaverTax$Law") := ⟨_, _, _, _, cd_5, by decide, rfl, Or.inl (pj_mem 359 (by decide +kernel) rfl)⟩
theorem fs_Reader_79 : pj_fs "WaverTax$Reader" 1 2 79 (.int) := ⟨_, _, _, _, cd_1, by decide, rfl, Or.inl (pj_mem 283 (by decide +kernel) rfl)⟩
theorem fs_Reader_9 : pj_fs "WaverTax$Reader" 5 1 9 (.int) := ⟨_, _, _, _, cd_5, by decide, rfl, Or.inl (pj_mem 358 (by decide +kernel) rfl)⟩
theorem fs_Shops_22 : pj_fs "WaverTax$Shops" 9 3 22 (.array (.int)) := ⟨_, _, _, _, cd_9, by decide, rfl, Or.inl (pj_mem 263 (by decide +kernel) rfl)⟩
theorem ps_Law_72 {mn : String} : pj_ps "WaverTax$Law" mn 6 0 72 (.int) := ⟨_, _, _, _, cd_6, by decide, rfl, Or.inl ⟨rfl, Or.inl (pj_mem 178 (by decide +kernel) rfl)⟩⟩
theorem ps_Law_75 {mn : String} : pj_ps "WaverTax$Law" mn 7 0 75 (.int) := ⟨_, _, _, _, cd_7, by decide, rfl, Or.inl ⟨rfl, Or.inl (pj_mem 226 (by decide +kernel) rfl)⟩⟩
theorem d_Shops_wipe_0 : decode Y_Shops_wipe.2.1 0 = .ok (.aload_n 0, 1) := by decide +kernel
theorem d_Shops_wipe_1 : decode Y_Shops_wipe.2.1 1 = .ok (.iconst 0, 1) := by decide +kernel
theorem d_Shops_wipe_2 : decode Y_Shops_wipe.2.1 2 = .ok (.putfield 9, 3) := by decide +kernel
theorem d_Shops_wipe_5 : decode Y_Shops_wipe.2.1 5 = .ok (.aload_n 0, 1) := by decide +kernel
theorem d_Shops_wipe_6 : decode Y_Shops_wipe.2.1 6 = .ok (.iconst 0, 1) := by decide +kernel
theorem d_Shops_wipe_7 : decode Y_Shops_wipe.2.1 7 = .ok (.putfield 15, 3) := by decide +kernel
theorem d_Shops_wipe_10 : decode Y_Shops_wipe.2.1 10 = .ok (.aload_n 0, 1) := by decide +kernel
theorem d_Shops_wipe_11 : decode Y_Shops_wipe.2.1 11 = .ok (.getfield 22, 3) := by decide +kernel
theorem d_Shops_wipe_14 : decode Y_Shops_wipe.2.1 14 = .ok (.iconst 0, 1) := by decide +kernel
theorem d_Shops_wipe_15 : decode Y_Shops_wipe.2.1 15 = .ok (.invokestatic 25, 3) := by decide +kernel
theorem d_Shops_wipe_18 : decode Y_Shops_wipe.2.1 18 = .ok (.return_, 1) := by decide +kernel
def f_Shops_wipe (h : PH) (a0 : Option Nat) : Option PH := (sF h 9 a0 0 (.inl (0 : Int32))).bind fun h1 => (sF h1 9 a0 1 (.inl (0 : Int32))).bind fun h2 => (gR h2 9 a0 3).bind fun v3 => (f_Arrays_fill h2 v3 (0 : Int32)).bind fun h4 => some h4
set_option maxRecDepth 20000 in
theorem PM_Shops_wipe {l : Launch} {G : Cx} {h : PH} {a0 : Option Nat} {z : PH} (hz : f_Shops_wipe h a0 = some z) : PM l G 2 0 0 Y_Shops_wipe [.inr (.inr a0)] h (none, z) := by
  refine PM.of (Y := Y_Shops_wipe) (cv := (fun z : PH => (((none, z) : Option PV × PH)))) (by decide) (L0 := [some (.inr (.inr a0))]) 0 rfl (Nat.le_of_ble_eq_true rfl) ?_ hz
  unfold f_Shops_wipe
  refine PJ.aload_n (pc := 0) d_Shops_wipe_0 rfl ?_
  refine PJ.iconst (pc := 1) (v := 0) d_Shops_wipe_1 (by decide) ?_
  refine PJ.putI (pc := 2) ps_Shops_9 d_Shops_wipe_2 (fun h1 => ?_)
  refine PJ.aload_n (pc := 5) d_Shops_wipe_5 rfl ?_
  refine PJ.iconst (pc := 6) (v := 0) d_Shops_wipe_6 (by decide) ?_
  refine PJ.putI (pc := 7) ps_Shops_15 d_Shops_wipe_7 (fun h2 => ?_)
  refine PJ.aload_n (pc := 10) d_Shops_wipe_10 rfl ?_
  refine PJ.getR (pc := 11) fs_Shops_22 d_Shops_wipe_11 (fun v3 => ?_)
  refine PJ.iconst (pc := 14) (v := 0) d_Shops_wipe_14 (by decide) ?_
  refine PJ.cSV (pc := 15) cs_Shops_25 (fun z hz => PM_Arrays_fill hz) (pj_fitb rfl) rfl rfl (Nat.le_of_ble_eq_true rfl) d_Shops_wipe_15 (fun h4 => ?_)
  exact PJ.vret (pc := 18) d_Shops_wipe_18 rfl (Nat.le_of_ble_eq_true rfl) (Nat.le_of_ble_eq_true rfl)
theorem d_Law_wipe_0 : decode Y_Law_wipe.2.1 0 = .ok (.aload_n 0, 1) := by decide +kernel
theorem d_Law_wipe_1 : decode Y_Law_wipe.2.1 1 = .ok (.iconst 0, 1) := by decide +kernel
theorem d_Law_wipe_2 : decode Y_Law_wipe.2.1 2 = .ok (.putfield 9, 3) := by decide +kernel
theorem d_Law_wipe_5 : decode Y_Law_wipe.2.1 5 = .ok (.aload_n 0, 1) := by decide +kernel
theorem d_Law_wipe_6 : decode Y_Law_wipe.2.1 6 = .ok (.iconst 0, 1) := by decide +kernel
theorem d_Law_wipe_7 : decode Y_Law_wipe.2.1 7 = .ok (.putfield 15, 3) := by decide +kernel
theorem d_Law_wipe_10 : decode Y_Law_wipe.2.1 10 = .ok (.aload_n 0, 1) := by decide +kernel
theorem d_Law_wipe_11 : decode Y_Law_wipe.2.1 11 = .ok (.iconst 0, 1) := by decide +kernel
theorem d_Law_wipe_12 : decode Y_Law_wipe.2.1 12 = .ok (.putfield 18, 3) := by decide +kernel
theorem d_Law_wipe_15 : decode Y_Law_wipe.2.1 15 = .ok (.aload_n 0, 1) := by decide +kernel
theorem d_Law_wipe_16 : decode Y_Law_wipe.2.1 16 = .ok (.iconst 0, 1) := by decide +kernel
theorem d_Law_wipe_17 : decode Y_Law_wipe.2.1 17 = .ok (.putfield 21, 3) := by decide +kernel
theorem d_Law_wipe_20 : decode Y_Law_wipe.2.1 20 = .ok (.aload_n 0, 1) := by decide +kernel
theorem d_Law_wipe_21 : decode Y_Law_wipe.2.1 21 = .ok (.iconst 0, 1) := by decide +kernel
theorem d_Law_wipe_22 : decode Y_Law_wipe.2.1 22 = .ok (.putfield 24, 3) := by decide +kernel
theorem d_Law_wipe_25 : decode Y_Law_wipe.2.1 25 = .ok (.iconst 0, 1) := by decide +kernel
theorem d_Law_wipe_26 : decode Y_Law_wipe.2.1 26 = .ok (.istore_n 1, 1) := by decide +kernel
theorem d_Law_wipe_27 : decode Y_Law_wipe.2.1 27 = .ok (.iload_n 1, 1) := by decide +kernel
theorem d_Law_wipe_28 : decode Y_Law_wipe.2.1 28 = .ok (.iconst 5, 1) := by decide +kernel
theorem d_Law_wipe_29 : decode Y_Law_wipe.2.1 29 = .ok (.if_icmp .ge 19, 3) := by decide +kernel
theorem d_Law_wipe_32 : decode Y_Law_wipe.2.1 32 = .ok (.aload_n 0, 1) := by decide +kernel
theorem d_Law_wipe_33 : decode Y_Law_wipe.2.1 33 = .ok (.getfield 29, 3) := by decide +kernel
theorem d_Law_wipe_36 : decode Y_Law_wipe.2.1 36 = .ok (.iload_n 1, 1) := by decide +kernel
theorem d_Law_wipe_37 : decode Y_Law_wipe.2.1 37 = .ok (.aaload, 1) := by decide +kernel
theorem d_Law_wipe_38 : decode Y_Law_wipe.2.1 38 = .ok (.iconst 0, 1) := by decide +kernel
theorem d_Law_wipe_39 : decode Y_Law_wipe.2.1 39 = .ok (.invokestatic 66, 3) := by decide +kernel
theorem d_Law_wipe_42 : decode Y_Law_wipe.2.1 42 = .ok (.iinc 1 1, 3) := by decide +kernel
theorem d_Law_wipe_45 : decode Y_Law_wipe.2.1 45 = .ok (.goto (-18), 3) := by decide +kernel
theorem d_Law_wipe_48 : decode Y_Law_wipe.2.1 48 = .ok (.iconst 0, 1) := by decide +kernel
theorem d_Law_wipe_49 : decode Y_Law_wipe.2.1 49 = .ok (.istore_n 1, 1) := by decide +kernel
theorem d_Law_wipe_50 : decode Y_Law_wipe.2.1 50 = .ok (.iload_n 1, 1) := by decide +kernel
theorem d_Law_wipe_51 : decode Y_Law_wipe.2.1 51 = .ok (.iconst 5, 1) := by decide +kernel
theorem d_Law_wipe_52 : decode Y_Law_wipe.2.1 52 = .ok (.if_icmp .ge 19, 3) := by decide +kernel
theorem d_Law_wipe_55 : decode Y_Law_wipe.2.1 55 = .ok (.aload_n 0, 1) := by decide +kernel
theorem d_Law_wipe_56 : decode Y_Law_wipe.2.1 56 = .ok (.getfield 39, 3) := by decide +kernel
theorem d_Law_wipe_59 : decode Y_Law_wipe.2.1 59 = .ok (.iload_n 1, 1) := by decide +kernel
theorem d_Law_wipe_60 : decode Y_Law_wipe.2.1 60 = .ok (.aaload, 1) := by decide +kernel
theorem d_Law_wipe_61 : decode Y_Law_wipe.2.1 61 = .ok (.iconst 0, 1) := by decide +kernel
theorem d_Law_wipe_62 : decode Y_Law_wipe.2.1 62 = .ok (.invokestatic 66, 3) := by decide +kernel
theorem d_Law_wipe_65 : decode Y_Law_wipe.2.1 65 = .ok (.iinc 1 1, 3) := by decide +kernel
theorem d_Law_wipe_68 : decode Y_Law_wipe.2.1 68 = .ok (.goto (-18), 3) := by decide +kernel
theorem d_Law_wipe_71 : decode Y_Law_wipe.2.1 71 = .ok (.aload_n 0, 1) := by decide +kernel
theorem d_Law_wipe_72 : decode Y_Law_wipe.2.1 72 = .ok (.getfield 42, 3) := by decide +kernel
theorem d_Law_wipe_75 : decode Y_Law_wipe.2.1 75 = .ok (.iconst 0, 1) := by decide +kernel
theorem d_Law_wipe_76 : decode Y_Law_wipe.2.1 76 = .ok (.invokestatic 66, 3) := by decide +kernel
theorem d_Law_wipe_79 : decode Y_Law_wipe.2.1 79 = .ok (.aload_n 0, 1) := by decide +kernel
theorem d_Law_wipe_80 : decode Y_Law_wipe.2.1 80 = .ok (.getfield 48, 3) := by decide +kernel
theorem d_Law_wipe_83 : decode Y_Law_wipe.2.1 83 = .ok (.iconst 0, 1) := by decide +kernel
theorem d_Law_wipe_84 : decode Y_Law_wipe.2.1 84 = .ok (.putfield 72, 3) := by decide +kernel
theorem d_Law_wipe_87 : decode Y_Law_wipe.2.1 87 = .ok (.aload_n 0, 1) := by decide +kernel
theorem d_Law_wipe_88 : decode Y_Law_wipe.2.1 88 = .ok (.getfield 55, 3) := by decide +kernel
theorem d_Law_wipe_91 : decode Y_Law_wipe.2.1 91 = .ok (.iconst 0, 1) := by decide +kernel
theorem d_Law_wipe_92 : decode Y_Law_wipe.2.1 92 = .ok (.putfield 75, 3) := by decide +kernel
theorem d_Law_wipe_95 : decode Y_Law_wipe.2.1 95 = .ok (.aload_n 0, 1) := by decide +kernel
theorem d_Law_wipe_96 : decode Y_Law_wipe.2.1 96 = .ok (.getfield 62, 3) := by decide +kernel
theorem d_Law_wipe_99 : decode Y_Law_wipe.2.1 99 = .ok (.invokevirtual 76, 3) := by decide +kernel
theorem d_Law_wipe_102 : decode Y_Law_wipe.2.1 102 = .ok (.return_, 1) := by decide +kernel
def f_Law_wipe (h : PH) (a0 : Option Nat) : Option PH := (sF h 1 a0 0 (.inl (0 : Int32))).bind fun h1 => (sF h1 1 a0 1 (.inl (0 : Int32))).bind fun h2 => (sF h2 1 a0 2 (.inl (0 : Int32))).bind fun h3 => (sF h3 1 a0 3 (.inl (0 : Int32))).bind fun h4 => (sF h4 1 a0 4 (.inl (0 : Int32))).bind fun h5 => (pj_it (X := PH) (fun s6 : Int32 × PH => if (5 : Int32) ≤ s6.1 then (some (.inr s6.2)) else ((gR s6.2 1 a0 5).bind fun v8 => (aR s6.2 53 v8 s6.1).bind fun v9 => (f_Arrays_fill s6.2 v9 (0 : Int32)).bind fun h10 => some (.inl ((s6.1 + (1 : Int32)), h10)))) FU ((0 : Int32), h5)).bind fun x7 => (pj_it (X := PH) (fun s11 : Int32 × PH => if (5 : Int32) ≤ s11.1 then (some (.inr s11.2)) else ((gR s11.2 1 a0 8).bind fun v13 => (aR s11.2 53 v13 s11.1).bind fun v14 => (f_Arrays_fill s11.2 v14 (0 : Int32)).bind fun h15 => some (.inl ((s11.1 + (1 : Int32)), h15)))) FU ((0 : Int32), x7)).bind fun x12 => (gR x12 1 a0 9).bind fun v16 => (f_Arrays_fill x12 v16 (0 : Int32)).bind fun h17 => (gR h17 1 a0 10).bind fun v18 => (sF h17 6 v18 0 (.inl (0 : Int32))).bind fun h19 => (gR h19 1 a0 11).bind fun v20 => (sF h19 7 v20 0 (.inl (0 : Int32))).bind fun h21 => (gR h21 1 a0 12).bind fun v22 => (cl h21 9 v22 (f_Shops_wipe h21 v22)).bind fun h23 => some h23
set_option maxRecDepth 20000 in
theorem PM_Law_wipe {l : Launch} {G : Cx} {h : PH} {a0 : Option Nat} {z : PH} (hz : f_Law_wipe h a0 = some z) : PM l G 3 0 0 Y_Law_wipe [.inr (.inr a0)] h (none, z) := by
  refine PM.of (Y := Y_Law_wipe) (cv := (fun z : PH => (((none, z) : Option PV × PH)))) (by decide) (L0 := [some (.inr (.inr a0)), none]) 1 rfl (Nat.le_of_ble_eq_true rfl) ?_ hz
  unfold f_Law_wipe
  refine PJ.aload_n (pc := 0) d_Law_wipe_0 rfl ?_
  refine PJ.iconst (pc := 1) (v := 0) d_Law_wipe_1 (by decide) ?_
  refine PJ.putI (pc := 2) ps_Law_9 d_Law_wipe_2 (fun h1 => ?_)
  refine PJ.aload_n (pc := 5) d_Law_wipe_5 rfl ?_
  refine PJ.iconst (pc := 6) (v := 0) d_Law_wipe_6 (by decide) ?_
  refine PJ.putI (pc := 7) ps_Law_15 d_Law_wipe_7 (fun h2 => ?_)
  refine PJ.aload_n (pc := 10) d_Law_wipe_10 rfl ?_
  refine PJ.iconst (pc := 11) (v := 0) d_Law_wipe_11 (by decide) ?_
  refine PJ.putI (pc := 12) ps_Law_18 d_Law_wipe_12 (fun h3 => ?_)
  refine PJ.aload_n (pc := 15) d_Law_wipe_15 rfl ?_
  refine PJ.iconst (pc := 16) (v := 0) d_Law_wipe_16 (by decide) ?_
  refine PJ.putI (pc := 17) ps_Law_21 d_Law_wipe_17 (fun h4 => ?_)
  refine PJ.aload_n (pc := 20) d_Law_wipe_20 rfl ?_
  refine PJ.iconst (pc := 21) (v := 0) d_Law_wipe_21 (by decide) ?_
  refine PJ.putI (pc := 22) ps_Law_24 d_Law_wipe_22 (fun h5 => ?_)
  refine PJ.iconst (pc := 25) (v := 0) d_Law_wipe_25 (by decide) ?_
  refine PJ.istore_n (pc := 26) (L1 := [some (.inr (.inr a0)), some (.inl (0 : Int32))]) d_Law_wipe_26 (Nat.le_of_ble_eq_true rfl) rfl rfl ?_
  refine PJ.bind (fun x7 : PH => ((48 : Nat), ([some (.inr (.inr a0)), none] : List (Option PV)), ([] : List PV), (x7 : PH), (0 : Nat), (0 : Nat))) (PJ.it (E := (fun s6 : Int32 × PH => ((27 : Nat), ([some (.inr (.inr a0)), some (.inl s6.1)] : List (Option PV)), ([] : List PV), (s6.2 : PH), (0 : Nat), (0 : Nat)))) (F := (fun x7 : PH => ((48 : Nat), ([some (.inr (.inr a0)), none] : List (Option PV)), ([] : List PV), (x7 : PH), (0 : Nat), (0 : Nat)))) (fun s6 => ?_) FU ((0 : Int32), h5)) (fun x7 => ?_)
  · show PJ l G (pj_rm 3 0 0) Y_Law_wipe 27 [some (.inr (.inr a0)), some (.inl s6.1)] [] s6.2 0 0 _ _
    refine PJ.iload_n (pc := 27) d_Law_wipe_27 rfl ?_
    refine PJ.iconst (pc := 28) (v := 5) d_Law_wipe_28 (by decide) ?_
    refine PJ.icmp_ge (pc := 29) (tgt := 48) d_Law_wipe_29 (by decide) (fun _ => ?_) (fun _ => ?_)
    · refine PJ.mk (L1 := [some (.inr (.inr a0)), none]) [true, false] rfl ?_
      exact PJ.done rfl
    · refine PJ.aload_n (pc := 32) d_Law_wipe_32 rfl ?_
      refine PJ.getR (pc := 33) fs_Law_29 d_Law_wipe_33 (fun v8 => ?_)
      refine PJ.iload_n (pc := 36) d_Law_wipe_36 rfl ?_
      refine PJ.aald (pc := 37) 53 (by decide) d_Law_wipe_37 (fun v9 => ?_)
      refine PJ.iconst (pc := 38) (v := 0) d_Law_wipe_38 (by decide) ?_
      refine PJ.cSV (pc := 39) cs_Law_66 (fun z hz => PM_Arrays_fill hz) (pj_fitb rfl) rfl rfl (Nat.le_of_ble_eq_true rfl) d_Law_wipe_39 (fun h10 => ?_)
      refine PJ.iinc (pc := 42) (v := 1) (L1 := [some (.inr (.inr a0)), some (.inl (s6.1 + (1 : Int32)))]) d_Law_wipe_42 rfl (by decide) (Nat.le_of_ble_eq_true rfl) rfl rfl ?_
      refine PJ.goto (pc := 45) (tgt := 27) d_Law_wipe_45 (by decide) ?_
      exact PJ.done rfl
  · show PJ l G (pj_rm 3 0 0) Y_Law_wipe 48 [some (.inr (.inr a0)), none] [] x7 0 0 _ _
    refine PJ.iconst (pc := 48) (v := 0) d_Law_wipe_48 (by decide) ?_
    refine PJ.istore_n (pc := 49) (L1 := [some (.inr (.inr a0)), some (.inl (0 : Int32))]) d_Law_wipe_49 (Nat.le_of_ble_eq_true rfl) rfl rfl ?_
    refine PJ.bind (fun x12 : PH => ((71 : Nat), ([some (.inr (.inr a0)), none] : List (Option PV)), ([] : List PV), (x12 : PH), (0 : Nat), (0 : Nat))) (PJ.it (E := (fun s11 : Int32 × PH => ((50 : Nat), ([some (.inr (.inr a0)), some (.inl s11.1)] : List (Option PV)), ([] : List PV), (s11.2 : PH), (0 : Nat), (0 : Nat)))) (F := (fun x12 : PH => ((71 : Nat), ([some (.inr (.inr a0)), none] : List (Option PV)), ([] : List PV), (x12 : PH), (0 : Nat), (0 : Nat)))) (fun s11 => ?_) FU ((0 : Int32), x7)) (fun x12 => ?_)
    · show PJ l G (pj_rm 3 0 0) Y_Law_wipe 50 [some (.inr (.inr a0)), some (.inl s11.1)] [] s11.2 0 0 _ _
      refine PJ.iload_n (pc := 50) d_Law_wipe_50 rfl ?_
      refine PJ.iconst (pc := 51) (v := 5) d_Law_wipe_51 (by decide) ?_
      refine PJ.icmp_ge (pc := 52) (tgt := 71) d_Law_wipe_52 (by decide) (fun _ => ?_) (fun _ => ?_)
      · refine PJ.mk (L1 := [some (.inr (.inr a0)), none]) [true, false] rfl ?_
        exact PJ.done rfl
      · refine PJ.aload_n (pc := 55) d_Law_wipe_55 rfl ?_
        refine PJ.getR (pc := 56) fs_Law_39 d_Law_wipe_56 (fun v13 => ?_)
        refine PJ.iload_n (pc := 59) d_Law_wipe_59 rfl ?_
        refine PJ.aald (pc := 60) 53 (by decide) d_Law_wipe_60 (fun v14 => ?_)
        refine PJ.iconst (pc := 61) (v := 0) d_Law_wipe_61 (by decide) ?_
        refine PJ.cSV (pc := 62) cs_Law_66 (fun z hz => PM_Arrays_fill hz) (pj_fitb rfl) rfl rfl (Nat.le_of_ble_eq_true rfl) d_Law_wipe_62 (fun h15 => ?_)
        refine PJ.iinc (pc := 65) (v := 1) (L1 := [some (.inr (.inr a0)), some (.inl (s11.1 + (1 : Int32)))]) d_Law_wipe_65 rfl (by decide) (Nat.le_of_ble_eq_true rfl) rfl rfl ?_
        refine PJ.goto (pc := 68) (tgt := 50) d_Law_wipe_68 (by decide) ?_
        exact PJ.done rfl
    · show PJ l G (pj_rm 3 0 0) Y_Law_wipe 71 [some (.inr (.inr a0)), none] [] x12 0 0 _ _
      refine PJ.aload_n (pc := 71) d_Law_wipe_71 rfl ?_
      refine PJ.getR (pc := 72) fs_Law_42 d_Law_wipe_72 (fun v16 => ?_)
      refine PJ.iconst (pc := 75) (v := 0) d_Law_wipe_75 (by decide) ?_
      refine PJ.cSV (pc := 76) cs_Law_66 (fun z hz => PM_Arrays_fill hz) (pj_fitb rfl) rfl rfl (Nat.le_of_ble_eq_true rfl) d_Law_wipe_76 (fun h17 => ?_)
      refine PJ.aload_n (pc := 79) d_Law_wipe_79 rfl ?_
      refine PJ.getR (pc := 80) fs_Law_48 d_Law_wipe_80 (fun v18 => ?_)
      refine PJ.iconst (pc := 83) (v := 0) d_Law_wipe_83 (by decide) ?_
      refine PJ.putI (pc := 84) ps_Law_72 d_Law_wipe_84 (fun h19 => ?_)
      refine PJ.aload_n (pc := 87) d_Law_wipe_87 rfl ?_
      refine PJ.getR (pc := 88) fs_Law_55 d_Law_wipe_88 (fun v20 => ?_)
      refine PJ.iconst (pc := 91) (v := 0) d_Law_wipe_91 (by decide) ?_
      refine PJ.putI (pc := 92) ps_Law_75 d_Law_wipe_92 (fun h21 => ?_)
      refine PJ.aload_n (pc := 95) d_Law_wipe_95 rfl ?_
      refine PJ.getR (pc := 96) fs_Law_62 d_Law_wipe_96 (fun v22 => ?_)
      refine PJ.cVV (pc := 99) cs_Law_76 (fun z hz => PM_Shops_wipe hz) (pj_fitb rfl) rfl rfl (Nat.le_of_ble_eq_true rfl) d_Law_wipe_99 (fun h23 => ?_)
      exact PJ.vret (pc := 102) d_Law_wipe_102 rfl (Nat.le_of_ble_eq_true rfl) (Nat.le_of_ble_eq_true rfl)
theorem d_Reader_isLetter_0 : decode Y_Reader_isLetter.2.1 0 = .ok (.aload_n 0, 1) := by decide +kernel
theorem d_Reader_isLetter_1 : decode Y_Reader_isLetter.2.1 1 = .ok (.getfield 50, 3) := by decide +kernel
theorem d_Reader_isLetter_4 : decode Y_Reader_isLetter.2.1 4 = .ok (.iload_n 1, 1) := by decide +kernel
theorem d_Reader_isLetter_5 : decode Y_Reader_isLetter.2.1 5 = .ok (.baload, 1) := by decide +kernel
theorem d_Reader_isLetter_6 : decode Y_Reader_isLetter.2.1 6 = .ok (.bipush 97, 2) := by decide +kernel
theorem d_Reader_isLetter_8 : decode Y_Reader_isLetter.2.1 8 = .ok (.if_icmp .lt 18, 3) := by decide +kernel
theorem d_Reader_isLetter_11 : decode Y_Reader_isLetter.2.1 11 = .ok (.aload_n 0, 1) := by decide +kernel
theorem d_Reader_isLetter_12 : decode Y_Reader_isLetter.2.1 12 = .ok (.getfield 50, 3) := by decide +kernel
theorem d_Reader_isLetter_15 : decode Y_Reader_isLetter.2.1 15 = .ok (.iload_n 1, 1) := by decide +kernel
theorem d_Reader_isLetter_16 : decode Y_Reader_isLetter.2.1 16 = .ok (.baload, 1) := by decide +kernel
theorem d_Reader_isLetter_17 : decode Y_Reader_isLetter.2.1 17 = .ok (.bipush 122, 2) := by decide +kernel
theorem d_Reader_isLetter_19 : decode Y_Reader_isLetter.2.1 19 = .ok (.if_icmp .gt 7, 3) := by decide +kernel
theorem d_Reader_isLetter_22 : decode Y_Reader_isLetter.2.1 22 = .ok (.iconst 1, 1) := by decide +kernel
theorem d_Reader_isLetter_23 : decode Y_Reader_isLetter.2.1 23 = .ok (.goto 4, 3) := by decide +kernel
theorem d_Reader_isLetter_26 : decode Y_Reader_isLetter.2.1 26 = .ok (.iconst 0, 1) := by decide +kernel
theorem d_Reader_isLetter_27 : decode Y_Reader_isLetter.2.1 27 = .ok (.ireturn, 1) := by decide +kernel
def f_Reader_isLetter (h : PH) (a0 : Option Nat) (a1 : Int32) : Option Int32 := (gR h 5 a0 0).bind fun v1 => (aB h v1 a1).bind fun v2 => if v2 < (97 : Int32) then (some (0 : Int32)) else ((gR h 5 a0 0).bind fun v3 => (aB h v3 a1).bind fun v4 => if (122 : Int32) < v4 then (some (0 : Int32)) else (some (1 : Int32)))
set_option maxRecDepth 20000 in
theorem PM_Reader_isLetter {l : Launch} {G : Cx} {h : PH} {a0 : Option Nat} {a1 : Int32} {z : Int32} (hz : f_Reader_isLetter h a0 a1 = some z) : PM l G 1 0 0 Y_Reader_isLetter [.inr (.inr a0), .inl a1] h (some (.inl z), h) := by
  refine PM.of (Y := Y_Reader_isLetter) (cv := (fun z : Int32 => (((some (.inl z), h) : Option PV × PH)))) (by decide) (L0 := [some (.inr (.inr a0)), some (.inl a1)]) 0 rfl (Nat.le_of_ble_eq_true rfl) ?_ hz
  unfold f_Reader_isLetter
  refine PJ.aload_n (pc := 0) d_Reader_isLetter_0 rfl ?_
  refine PJ.getR (pc := 1) fs_Reader_50 d_Reader_isLetter_1 (fun v1 => ?_)
  refine PJ.iload_n (pc := 4) d_Reader_isLetter_4 rfl ?_
  refine PJ.bald (pc := 5) d_Reader_isLetter_5 (fun v2 => ?_)
  refine PJ.bipush (pc := 6) (v := 97) d_Reader_isLetter_6 (by decide) ?_
  refine PJ.icmp_lt (pc := 8) (tgt := 26) d_Reader_isLetter_8 (by decide) (fun _ => ?_) (fun _ => ?_)
  · refine PJ.iconst (pc := 26) (v := 0) d_Reader_isLetter_26 (by decide) ?_
    exact PJ.zretp (pc := 27) d_Reader_isLetter_27 rfl rfl (Nat.le_of_ble_eq_true rfl) (Nat.le_of_ble_eq_true rfl)
  · refine PJ.aload_n (pc := 11) d_Reader_isLetter_11 rfl ?_
    refine PJ.getR (pc := 12) fs_Reader_50 d_Reader_isLetter_12 (fun v3 => ?_)
    refine PJ.iload_n (pc := 15) d_Reader_isLetter_15 rfl ?_
    refine PJ.bald (pc := 16) d_Reader_isLetter_16 (fun v4 => ?_)
    refine PJ.bipush (pc := 17) (v := 122) d_Reader_isLetter_17 (by decide) ?_
    refine PJ.icmp_gt (pc := 19) (tgt := 26) d_Reader_isLetter_19 (by decide) (fun _ => ?_) (fun _ => ?_)
    · refine PJ.iconst (pc := 26) (v := 0) d_Reader_isLetter_26 (by decide) ?_
      exact PJ.zretp (pc := 27) d_Reader_isLetter_27 rfl rfl (Nat.le_of_ble_eq_true rfl) (Nat.le_of_ble_eq_true rfl)
    · refine PJ.iconst (pc := 22) (v := 1) d_Reader_isLetter_22 (by decide) ?_
      refine PJ.goto (pc := 23) (tgt := 27) d_Reader_isLetter_23 (by decide) ?_
      exact PJ.zretp (pc := 27) d_Reader_isLetter_27 rfl rfl (Nat.le_of_ble_eq_true rfl) (Nat.le_of_ble_eq_true rfl)
theorem d_Reader_isDigit_0 : decode Y_Reader_isDigit.2.1 0 = .ok (.aload_n 0, 1) := by decide +kernel
theorem d_Reader_isDigit_1 : decode Y_Reader_isDigit.2.1 1 = .ok (.getfield 50, 3) := by decide +kernel
theorem d_Reader_isDigit_4 : decode Y_Reader_isDigit.2.1 4 = .ok (.iload_n 1, 1) := by decide +kernel
theorem d_Reader_isDigit_5 : decode Y_Reader_isDigit.2.1 5 = .ok (.baload, 1) := by decide +kernel
theorem d_Reader_isDigit_6 : decode Y_Reader_isDigit.2.1 6 = .ok (.bipush 48, 2) := by decide +kernel
theorem d_Reader_isDigit_8 : decode Y_Reader_isDigit.2.1 8 = .ok (.if_icmp .lt 18, 3) := by decide +kernel
theorem d_Reader_isDigit_11 : decode Y_Reader_isDigit.2.1 11 = .ok (.aload_n 0, 1) := by decide +kernel
theorem d_Reader_isDigit_12 : decode Y_Reader_isDigit.2.1 12 = .ok (.getfield 50, 3) := by decide +kernel
theorem d_Reader_isDigit_15 : decode Y_Reader_isDigit.2.1 15 = .ok (.iload_n 1, 1) := by decide +kernel
theorem d_Reader_isDigit_16 : decode Y_Reader_isDigit.2.1 16 = .ok (.baload, 1) := by decide +kernel
theorem d_Reader_isDigit_17 : decode Y_Reader_isDigit.2.1 17 = .ok (.bipush 57, 2) := by decide +kernel
theorem d_Reader_isDigit_19 : decode Y_Reader_isDigit.2.1 19 = .ok (.if_icmp .gt 7, 3) := by decide +kernel
theorem d_Reader_isDigit_22 : decode Y_Reader_isDigit.2.1 22 = .ok (.iconst 1, 1) := by decide +kernel
theorem d_Reader_isDigit_23 : decode Y_Reader_isDigit.2.1 23 = .ok (.goto 4, 3) := by decide +kernel
theorem d_Reader_isDigit_26 : decode Y_Reader_isDigit.2.1 26 = .ok (.iconst 0, 1) := by decide +kernel
theorem d_Reader_isDigit_27 : decode Y_Reader_isDigit.2.1 27 = .ok (.ireturn, 1) := by decide +kernel
def f_Reader_isDigit (h : PH) (a0 : Option Nat) (a1 : Int32) : Option Int32 := (gR h 5 a0 0).bind fun v1 => (aB h v1 a1).bind fun v2 => if v2 < (48 : Int32) then (some (0 : Int32)) else ((gR h 5 a0 0).bind fun v3 => (aB h v3 a1).bind fun v4 => if (57 : Int32) < v4 then (some (0 : Int32)) else (some (1 : Int32)))
set_option maxRecDepth 20000 in
theorem PM_Reader_isDigit {l : Launch} {G : Cx} {h : PH} {a0 : Option Nat} {a1 : Int32} {z : Int32} (hz : f_Reader_isDigit h a0 a1 = some z) : PM l G 1 0 0 Y_Reader_isDigit [.inr (.inr a0), .inl a1] h (some (.inl z), h) := by
  refine PM.of (Y := Y_Reader_isDigit) (cv := (fun z : Int32 => (((some (.inl z), h) : Option PV × PH)))) (by decide) (L0 := [some (.inr (.inr a0)), some (.inl a1)]) 0 rfl (Nat.le_of_ble_eq_true rfl) ?_ hz
  unfold f_Reader_isDigit
  refine PJ.aload_n (pc := 0) d_Reader_isDigit_0 rfl ?_
  refine PJ.getR (pc := 1) fs_Reader_50 d_Reader_isDigit_1 (fun v1 => ?_)
  refine PJ.iload_n (pc := 4) d_Reader_isDigit_4 rfl ?_
  refine PJ.bald (pc := 5) d_Reader_isDigit_5 (fun v2 => ?_)
  refine PJ.bipush (pc := 6) (v := 48) d_Reader_isDigit_6 (by decide) ?_
  refine PJ.icmp_lt (pc := 8) (tgt := 26) d_Reader_isDigit_8 (by decide) (fun _ => ?_) (fun _ => ?_)
  · refine PJ.iconst (pc := 26) (v := 0) d_Reader_isDigit_26 (by decide) ?_
    exact PJ.zretp (pc := 27) d_Reader_isDigit_27 rfl rfl (Nat.le_of_ble_eq_true rfl) (Nat.le_of_ble_eq_true rfl)
  · refine PJ.aload_n (pc := 11) d_Reader_isDigit_11 rfl ?_
    refine PJ.getR (pc := 12) fs_Reader_50 d_Reader_isDigit_12 (fun v3 => ?_)
    refine PJ.iload_n (pc := 15) d_Reader_isDigit_15 rfl ?_
    refine PJ.bald (pc := 16) d_Reader_isDigit_16 (fun v4 => ?_)
    refine PJ.bipush (pc := 17) (v := 57) d_Reader_isDigit_17 (by decide) ?_
    refine PJ.icmp_gt (pc := 19) (tgt := 26) d_Reader_isDigit_19 (by decide) (fun _ => ?_) (fun _ => ?_)
    · refine PJ.iconst (pc := 26) (v := 0) d_Reader_isDigit_26 (by decide) ?_
      exact PJ.zretp (pc := 27) d_Reader_isDigit_27 rfl rfl (Nat.le_of_ble_eq_true rfl) (Nat.le_of_ble_eq_true rfl)
    · refine PJ.iconst (pc := 22) (v := 1) d_Reader_isDigit_22 (by decide) ?_
      refine PJ.goto (pc := 23) (tgt := 27) d_Reader_isDigit_23 (by decide) ?_
      exact PJ.zretp (pc := 27) d_Reader_isDigit_27 rfl rfl (Nat.le_of_ble_eq_true rfl) (Nat.le_of_ble_eq_true rfl)
theorem d_Reader_next_0 : decode Y_Reader_next.2.1 0 = .ok (.aload_n 0, 1) := by decide +kernel
theorem d_Reader_next_1 : decode Y_Reader_next.2.1 1 = .ok (.aload_n 0, 1) := by decide +kernel
theorem d_Reader_next_2 : decode Y_Reader_next.2.1 2 = .ok (.getfield 25, 3) := by decide +kernel
theorem d_Reader_next_5 : decode Y_Reader_next.2.1 5 = .ok (.putfield 22, 3) := by decide +kernel
theorem d_Reader_next_8 : decode Y_Reader_next.2.1 8 = .ok (.aload_n 0, 1) := by decide +kernel
theorem d_Reader_next_9 : decode Y_Reader_next.2.1 9 = .ok (.getfield 22, 3) := by decide +kernel
theorem d_Reader_next_12 : decode Y_Reader_next.2.1 12 = .ok (.aload_n 0, 1) := by decide +kernel
theorem d_Reader_next_13 : decode Y_Reader_next.2.1 13 = .ok (.getfield 9, 3) := by decide +kernel
theorem d_Reader_next_16 : decode Y_Reader_next.2.1 16 = .ok (.if_icmp .ge 30, 3) := by decide +kernel
theorem d_Reader_next_19 : decode Y_Reader_next.2.1 19 = .ok (.aload_n 0, 1) := by decide +kernel
theorem d_Reader_next_20 : decode Y_Reader_next.2.1 20 = .ok (.getfield 50, 3) := by decide +kernel
theorem d_Reader_next_23 : decode Y_Reader_next.2.1 23 = .ok (.aload_n 0, 1) := by decide +kernel
theorem d_Reader_next_24 : decode Y_Reader_next.2.1 24 = .ok (.getfield 22, 3) := by decide +kernel
theorem d_Reader_next_27 : decode Y_Reader_next.2.1 27 = .ok (.baload, 1) := by decide +kernel
theorem d_Reader_next_28 : decode Y_Reader_next.2.1 28 = .ok (.bipush 32, 2) := by decide +kernel
theorem d_Reader_next_30 : decode Y_Reader_next.2.1 30 = .ok (.if_icmp .ne 16, 3) := by decide +kernel
theorem d_Reader_next_33 : decode Y_Reader_next.2.1 33 = .ok (.aload_n 0, 1) := by decide +kernel
theorem d_Reader_next_34 : decode Y_Reader_next.2.1 34 = .ok (.dup, 1) := by decide +kernel
theorem d_Reader_next_35 : decode Y_Reader_next.2.1 35 = .ok (.getfield 22, 3) := by decide +kernel
theorem d_Reader_next_38 : decode Y_Reader_next.2.1 38 = .ok (.iconst 1, 1) := by decide +kernel
theorem d_Reader_next_39 : decode Y_Reader_next.2.1 39 = .ok (.iadd, 1) := by decide +kernel
theorem d_Reader_next_40 : decode Y_Reader_next.2.1 40 = .ok (.putfield 22, 3) := by decide +kernel
theorem d_Reader_next_43 : decode Y_Reader_next.2.1 43 = .ok (.goto (-35), 3) := by decide +kernel
theorem d_Reader_next_46 : decode Y_Reader_next.2.1 46 = .ok (.aload_n 0, 1) := by decide +kernel
theorem d_Reader_next_47 : decode Y_Reader_next.2.1 47 = .ok (.aload_n 0, 1) := by decide +kernel
theorem d_Reader_next_48 : decode Y_Reader_next.2.1 48 = .ok (.getfield 22, 3) := by decide +kernel
theorem d_Reader_next_51 : decode Y_Reader_next.2.1 51 = .ok (.putfield 25, 3) := by decide +kernel
theorem d_Reader_next_54 : decode Y_Reader_next.2.1 54 = .ok (.aload_n 0, 1) := by decide +kernel
theorem d_Reader_next_55 : decode Y_Reader_next.2.1 55 = .ok (.getfield 22, 3) := by decide +kernel
theorem d_Reader_next_58 : decode Y_Reader_next.2.1 58 = .ok (.aload_n 0, 1) := by decide +kernel
theorem d_Reader_next_59 : decode Y_Reader_next.2.1 59 = .ok (.getfield 9, 3) := by decide +kernel
theorem d_Reader_next_62 : decode Y_Reader_next.2.1 62 = .ok (.if_icmp .lt 11, 3) := by decide +kernel
theorem d_Reader_next_65 : decode Y_Reader_next.2.1 65 = .ok (.aload_n 0, 1) := by decide +kernel
theorem d_Reader_next_66 : decode Y_Reader_next.2.1 66 = .ok (.iconst 0, 1) := by decide +kernel
theorem d_Reader_next_67 : decode Y_Reader_next.2.1 67 = .ok (.putfield 19, 3) := by decide +kernel
theorem d_Reader_next_70 : decode Y_Reader_next.2.1 70 = .ok (.goto 179, 3) := by decide +kernel
theorem d_Reader_next_73 : decode Y_Reader_next.2.1 73 = .ok (.aload_n 0, 1) := by decide +kernel
theorem d_Reader_next_74 : decode Y_Reader_next.2.1 74 = .ok (.aload_n 0, 1) := by decide +kernel
theorem d_Reader_next_75 : decode Y_Reader_next.2.1 75 = .ok (.getfield 22, 3) := by decide +kernel
theorem d_Reader_next_78 : decode Y_Reader_next.2.1 78 = .ok (.invokevirtual 82, 3) := by decide +kernel
theorem d_Reader_next_81 : decode Y_Reader_next.2.1 81 = .ok (.ifCond .eq 64, 3) := by decide +kernel
theorem d_Reader_next_84 : decode Y_Reader_next.2.1 84 = .ok (.aload_n 0, 1) := by decide +kernel
theorem d_Reader_next_85 : decode Y_Reader_next.2.1 85 = .ok (.getfield 25, 3) := by decide +kernel
theorem d_Reader_next_88 : decode Y_Reader_next.2.1 88 = .ok (.aload_n 0, 1) := by decide +kernel
theorem d_Reader_next_89 : decode Y_Reader_next.2.1 89 = .ok (.getfield 9, 3) := by decide +kernel
theorem d_Reader_next_92 : decode Y_Reader_next.2.1 92 = .ok (.if_icmp .ge 27, 3) := by decide +kernel
theorem d_Reader_next_95 : decode Y_Reader_next.2.1 95 = .ok (.aload_n 0, 1) := by decide +kernel
theorem d_Reader_next_96 : decode Y_Reader_next.2.1 96 = .ok (.aload_n 0, 1) := by decide +kernel
theorem d_Reader_next_97 : decode Y_Reader_next.2.1 97 = .ok (.getfield 25, 3) := by decide +kernel
theorem d_Reader_next_100 : decode Y_Reader_next.2.1 100 = .ok (.invokevirtual 82, 3) := by decide +kernel
theorem d_Reader_next_103 : decode Y_Reader_next.2.1 103 = .ok (.ifCond .eq 16, 3) := by decide +kernel
theorem d_Reader_next_106 : decode Y_Reader_next.2.1 106 = .ok (.aload_n 0, 1) := by decide +kernel
theorem d_Reader_next_107 : decode Y_Reader_next.2.1 107 = .ok (.dup, 1) := by decide +kernel
theorem d_Reader_next_108 : decode Y_Reader_next.2.1 108 = .ok (.getfield 25, 3) := by decide +kernel
theorem d_Reader_next_111 : decode Y_Reader_next.2.1 111 = .ok (.iconst 1, 1) := by decide +kernel
theorem d_Reader_next_112 : decode Y_Reader_next.2.1 112 = .ok (.iadd, 1) := by decide +kernel
theorem d_Reader_next_113 : decode Y_Reader_next.2.1 113 = .ok (.putfield 25, 3) := by decide +kernel
theorem d_Reader_next_116 : decode Y_Reader_next.2.1 116 = .ok (.goto (-32), 3) := by decide +kernel
theorem d_Reader_next_119 : decode Y_Reader_next.2.1 119 = .ok (.aload_n 0, 1) := by decide +kernel
theorem d_Reader_next_120 : decode Y_Reader_next.2.1 120 = .ok (.aload_n 0, 1) := by decide +kernel
theorem d_Reader_next_121 : decode Y_Reader_next.2.1 121 = .ok (.getfield 25, 3) := by decide +kernel
theorem d_Reader_next_124 : decode Y_Reader_next.2.1 124 = .ok (.aload_n 0, 1) := by decide +kernel
theorem d_Reader_next_125 : decode Y_Reader_next.2.1 125 = .ok (.getfield 22, 3) := by decide +kernel
theorem d_Reader_next_128 : decode Y_Reader_next.2.1 128 = .ok (.isub, 1) := by decide +kernel
theorem d_Reader_next_129 : decode Y_Reader_next.2.1 129 = .ok (.bipush 8, 2) := by decide +kernel
theorem d_Reader_next_131 : decode Y_Reader_next.2.1 131 = .ok (.if_icmp .gt 7, 3) := by decide +kernel
theorem d_Reader_next_134 : decode Y_Reader_next.2.1 134 = .ok (.iconst 1, 1) := by decide +kernel
theorem d_Reader_next_135 : decode Y_Reader_next.2.1 135 = .ok (.goto 4, 3) := by decide +kernel
theorem d_Reader_next_138 : decode Y_Reader_next.2.1 138 = .ok (.iconst 4, 1) := by decide +kernel
theorem d_Reader_next_139 : decode Y_Reader_next.2.1 139 = .ok (.putfield 19, 3) := by decide +kernel
theorem d_Reader_next_142 : decode Y_Reader_next.2.1 142 = .ok (.goto 107, 3) := by decide +kernel
theorem d_Reader_next_145 : decode Y_Reader_next.2.1 145 = .ok (.aload_n 0, 1) := by decide +kernel
theorem d_Reader_next_146 : decode Y_Reader_next.2.1 146 = .ok (.aload_n 0, 1) := by decide +kernel
theorem d_Reader_next_147 : decode Y_Reader_next.2.1 147 = .ok (.getfield 22, 3) := by decide +kernel
theorem d_Reader_next_150 : decode Y_Reader_next.2.1 150 = .ok (.invokevirtual 86, 3) := by decide +kernel
theorem d_Reader_next_153 : decode Y_Reader_next.2.1 153 = .ok (.ifCond .eq 63, 3) := by decide +kernel
theorem d_Reader_next_156 : decode Y_Reader_next.2.1 156 = .ok (.aload_n 0, 1) := by decide +kernel
theorem d_Reader_next_157 : decode Y_Reader_next.2.1 157 = .ok (.getfield 25, 3) := by decide +kernel
theorem d_Reader_next_160 : decode Y_Reader_next.2.1 160 = .ok (.aload_n 0, 1) := by decide +kernel
theorem d_Reader_next_161 : decode Y_Reader_next.2.1 161 = .ok (.getfield 9, 3) := by decide +kernel
theorem d_Reader_next_164 : decode Y_Reader_next.2.1 164 = .ok (.if_icmp .ge 27, 3) := by decide +kernel
theorem d_Reader_next_167 : decode Y_Reader_next.2.1 167 = .ok (.aload_n 0, 1) := by decide +kernel
theorem d_Reader_next_168 : decode Y_Reader_next.2.1 168 = .ok (.aload_n 0, 1) := by decide +kernel
theorem d_Reader_next_169 : decode Y_Reader_next.2.1 169 = .ok (.getfield 25, 3) := by decide +kernel
theorem d_Reader_next_172 : decode Y_Reader_next.2.1 172 = .ok (.invokevirtual 86, 3) := by decide +kernel
theorem d_Reader_next_175 : decode Y_Reader_next.2.1 175 = .ok (.ifCond .eq 16, 3) := by decide +kernel
theorem d_Reader_next_178 : decode Y_Reader_next.2.1 178 = .ok (.aload_n 0, 1) := by decide +kernel
theorem d_Reader_next_179 : decode Y_Reader_next.2.1 179 = .ok (.dup, 1) := by decide +kernel
theorem d_Reader_next_180 : decode Y_Reader_next.2.1 180 = .ok (.getfield 25, 3) := by decide +kernel
theorem d_Reader_next_183 : decode Y_Reader_next.2.1 183 = .ok (.iconst 1, 1) := by decide +kernel
theorem d_Reader_next_184 : decode Y_Reader_next.2.1 184 = .ok (.iadd, 1) := by decide +kernel
theorem d_Reader_next_185 : decode Y_Reader_next.2.1 185 = .ok (.putfield 25, 3) := by decide +kernel
theorem d_Reader_next_188 : decode Y_Reader_next.2.1 188 = .ok (.goto (-32), 3) := by decide +kernel
theorem d_Reader_next_191 : decode Y_Reader_next.2.1 191 = .ok (.aload_n 0, 1) := by decide +kernel
theorem d_Reader_next_192 : decode Y_Reader_next.2.1 192 = .ok (.aload_n 0, 1) := by decide +kernel
theorem d_Reader_next_193 : decode Y_Reader_next.2.1 193 = .ok (.getfield 25, 3) := by decide +kernel
theorem d_Reader_next_196 : decode Y_Reader_next.2.1 196 = .ok (.aload_n 0, 1) := by decide +kernel
theorem d_Reader_next_197 : decode Y_Reader_next.2.1 197 = .ok (.getfield 22, 3) := by decide +kernel
theorem d_Reader_next_200 : decode Y_Reader_next.2.1 200 = .ok (.isub, 1) := by decide +kernel
theorem d_Reader_next_201 : decode Y_Reader_next.2.1 201 = .ok (.iconst 3, 1) := by decide +kernel
theorem d_Reader_next_202 : decode Y_Reader_next.2.1 202 = .ok (.if_icmp .gt 7, 3) := by decide +kernel
theorem d_Reader_next_205 : decode Y_Reader_next.2.1 205 = .ok (.iconst 2, 1) := by decide +kernel
theorem d_Reader_next_206 : decode Y_Reader_next.2.1 206 = .ok (.goto 4, 3) := by decide +kernel
theorem d_Reader_next_209 : decode Y_Reader_next.2.1 209 = .ok (.iconst 4, 1) := by decide +kernel
theorem d_Reader_next_210 : decode Y_Reader_next.2.1 210 = .ok (.putfield 19, 3) := by decide +kernel
theorem d_Reader_next_213 : decode Y_Reader_next.2.1 213 = .ok (.goto 36, 3) := by decide +kernel
theorem d_Reader_next_216 : decode Y_Reader_next.2.1 216 = .ok (.aload_n 0, 1) := by decide +kernel
theorem d_Reader_next_217 : decode Y_Reader_next.2.1 217 = .ok (.dup, 1) := by decide +kernel
theorem d_Reader_next_218 : decode Y_Reader_next.2.1 218 = .ok (.getfield 25, 3) := by decide +kernel
theorem d_Reader_next_221 : decode Y_Reader_next.2.1 221 = .ok (.iconst 1, 1) := by decide +kernel
theorem d_Reader_next_222 : decode Y_Reader_next.2.1 222 = .ok (.iadd, 1) := by decide +kernel
theorem d_Reader_next_223 : decode Y_Reader_next.2.1 223 = .ok (.putfield 25, 3) := by decide +kernel
theorem d_Reader_next_226 : decode Y_Reader_next.2.1 226 = .ok (.aload_n 0, 1) := by decide +kernel
theorem d_Reader_next_227 : decode Y_Reader_next.2.1 227 = .ok (.aload_n 0, 1) := by decide +kernel
theorem d_Reader_next_228 : decode Y_Reader_next.2.1 228 = .ok (.getfield 50, 3) := by decide +kernel
theorem d_Reader_next_231 : decode Y_Reader_next.2.1 231 = .ok (.aload_n 0, 1) := by decide +kernel
theorem d_Reader_next_232 : decode Y_Reader_next.2.1 232 = .ok (.getfield 22, 3) := by decide +kernel
theorem d_Reader_next_235 : decode Y_Reader_next.2.1 235 = .ok (.baload, 1) := by decide +kernel
theorem d_Reader_next_236 : decode Y_Reader_next.2.1 236 = .ok (.bipush 59, 2) := by decide +kernel
theorem d_Reader_next_238 : decode Y_Reader_next.2.1 238 = .ok (.if_icmp .ne 7, 3) := by decide +kernel
theorem d_Reader_next_241 : decode Y_Reader_next.2.1 241 = .ok (.iconst 3, 1) := by decide +kernel
theorem d_Reader_next_242 : decode Y_Reader_next.2.1 242 = .ok (.goto 4, 3) := by decide +kernel
theorem d_Reader_next_245 : decode Y_Reader_next.2.1 245 = .ok (.iconst 4, 1) := by decide +kernel
theorem d_Reader_next_246 : decode Y_Reader_next.2.1 246 = .ok (.putfield 19, 3) := by decide +kernel
theorem d_Reader_next_249 : decode Y_Reader_next.2.1 249 = .ok (.return_, 1) := by decide +kernel
def f_Reader_next (h : PH) (a0 : Option Nat) : Option PH := (gI h 5 a0 6).bind fun v1 => (sF h 5 a0 5 (.inl v1)).bind fun h2 => (pj_it (X := PH) (fun s3 : PH => (gI s3 5 a0 5).bind fun v5 => (gI s3 5 a0 1).bind fun v6 => if v6 ≤ v5 then (some (.inr s3)) else ((gR s3 5 a0 0).bind fun v7 => (gI s3 5 a0 5).bind fun v8 => (aB s3 v7 v8).bind fun v9 => if ¬ v9 = (32 : Int32) then (some (.inr s3)) else ((gI s3 5 a0 5).bind fun v10 => (sF s3 5 a0 5 (.inl (v10 + (1 : Int32)))).bind fun h11 => some (.inl h11)))) FU h2).bind fun x4 => (gI x4 5 a0 5).bind fun v12 => (sF x4 5 a0 6 (.inl v12)).bind fun h13 => (gI h13 5 a0 5).bind fun v14 => (gI h13 5 a0 1).bind fun v15 => if v14 < v15 then ((gI h13 5 a0 5).bind fun v16 => (cl h13 5 a0 (f_Reader_isLetter h13 a0 v16)).bind fun v17 => if v17 = 0 then ((gI h13 5 a0 5).bind fun v18 => (cl h13 5 a0 (f_Reader_isDigit h13 a0 v18)).bind fun v19 => if v19 = 0 then ((gI h13 5 a0 6).bind fun v20 => (sF h13 5 a0 6 (.inl (v20 + (1 : Int32)))).bind fun h21 => (gR h21 5 a0 0).bind fun v22 => (gI h21 5 a0 5).bind fun v23 => (aB h21 v22 v23).bind fun v24 => if ¬ v24 = (59 : Int32) then ((sF h21 5 a0 4 (.inl (4 : Int32))).bind fun h25 => some h25) else ((sF h21 5 a0 4 (.inl (3 : Int32))).bind fun h26 => some h26)) else ((pj_it (X := PH) (fun s27 : PH => (gI s27 5 a0 6).bind fun v29 => (gI s27 5 a0 1).bind fun v30 => if v30 ≤ v29 then (some (.inr s27)) else ((gI s27 5 a0 6).bind fun v31 => (cl s27 5 a0 (f_Reader_isDigit s27 a0 v31)).bind fun v32 => if v32 = 0 then (some (.inr s27)) else ((gI s27 5 a0 6).bind fun v33 => (sF s27 5 a0 6 (.inl (v33 + (1 : Int32)))).bind fun h34 => some (.inl h34)))) FU h13).bind fun x28 => (gI x28 5 a0 6).bind fun v35 => (gI x28 5 a0 5).bind fun v36 => if (3 : Int32) < (v35 - v36) then ((sF x28 5 a0 4 (.inl (4 : Int32))).bind fun h37 => some h37) else ((sF x28 5 a0 4 (.inl (2 : Int32))).bind fun h38 => some h38))) else ((pj_it (X := PH) (fun s39 : PH => (gI s39 5 a0 6).bind fun v41 => (gI s39 5 a0 1).bind fun v42 => if v42 ≤ v41 then (some (.inr s39)) else ((gI s39 5 a0 6).bind fun v43 => (cl s39 5 a0 (f_Reader_isLetter s39 a0 v43)).bind fun v44 => if v44 = 0 then (some (.inr s39)) else ((gI s39 5 a0 6).bind fun v45 => (sF s39 5 a0 6 (.inl (v45 + (1 : Int32)))).bind fun h46 => some (.inl h46)))) FU h13).bind fun x40 => (gI x40 5 a0 6).bind fun v47 => (gI x40 5 a0 5).bind fun v48 => if (8 : Int32) < (v47 - v48) then ((sF x40 5 a0 4 (.inl (4 : Int32))).bind fun h49 => some h49) else ((sF x40 5 a0 4 (.inl (1 : Int32))).bind fun h50 => some h50))) else ((sF h13 5 a0 4 (.inl (0 : Int32))).bind fun h51 => some h51)
set_option maxRecDepth 20000 in
theorem PM_Reader_next {l : Launch} {G : Cx} {h : PH} {a0 : Option Nat} {z : PH} (hz : f_Reader_next h a0 = some z) : PM l G 2 0 0 Y_Reader_next [.inr (.inr a0)] h (none, z) := by
  refine PM.of (Y := Y_Reader_next) (cv := (fun z : PH => (((none, z) : Option PV × PH)))) (by decide) (L0 := [some (.inr (.inr a0))]) 0 rfl (Nat.le_of_ble_eq_true rfl) ?_ hz
  unfold f_Reader_next
  refine PJ.aload_n (pc := 0) d_Reader_next_0 rfl ?_
  refine PJ.aload_n (pc := 1) d_Reader_next_1 rfl ?_
  refine PJ.getI (pc := 2) fs_Reader_25 d_Reader_next_2 (fun v1 => ?_)
  refine PJ.putI (pc := 5) ps_Reader_22 d_Reader_next_5 (fun h2 => ?_)
  refine PJ.bind (fun x4 : PH => ((46 : Nat), ([some (.inr (.inr a0))] : List (Option PV)), ([] : List PV), (x4 : PH), (0 : Nat), (0 : Nat))) (PJ.it (E := (fun s3 : PH => ((8 : Nat), ([some (.inr (.inr a0))] : List (Option PV)), ([] : List PV), (s3 : PH), (0 : Nat), (0 : Nat)))) (F := (fun x4 : PH => ((46 : Nat), ([some (.inr (.inr a0))] : List (Option PV)), ([] : List PV), (x4 : PH), (0 : Nat), (0 : Nat)))) (fun s3 => ?_) FU h2) (fun x4 => ?_)
  · show PJ l G (pj_rm 2 0 0) Y_Reader_next 8 [some (.inr (.inr a0))] [] s3 0 0 _ _
    refine PJ.aload_n (pc := 8) d_Reader_next_8 rfl ?_
    refine PJ.getI (pc := 9) fs_Reader_22 d_Reader_next_9 (fun v5 => ?_)
    refine PJ.aload_n (pc := 12) d_Reader_next_12 rfl ?_
    refine PJ.getI (pc := 13) fs_Reader_9 d_Reader_next_13 (fun v6 => ?_)
    refine PJ.icmp_ge (pc := 16) (tgt := 46) d_Reader_next_16 (by decide) (fun _ => ?_) (fun _ => ?_)
    · exact PJ.done rfl
    · refine PJ.aload_n (pc := 19) d_Reader_next_19 rfl ?_
      refine PJ.getR (pc := 20) fs_Reader_50 d_Reader_next_20 (fun v7 => ?_)
      refine PJ.aload_n (pc := 23) d_Reader_next_23 rfl ?_
      refine PJ.getI (pc := 24) fs_Reader_22 d_Reader_next_24 (fun v8 => ?_)
      refine PJ.bald (pc := 27) d_Reader_next_27 (fun v9 => ?_)
      refine PJ.bipush (pc := 28) (v := 32) d_Reader_next_28 (by decide) ?_
      refine PJ.icmp_ne (pc := 30) (tgt := 46) d_Reader_next_30 (by decide) (fun _ => ?_) (fun _ => ?_)
      · exact PJ.done rfl
      · refine PJ.aload_n (pc := 33) d_Reader_next_33 rfl ?_
        refine PJ.dup (pc := 34) d_Reader_next_34 rfl ?_
        refine PJ.getI (pc := 35) fs_Reader_22 d_Reader_next_35 (fun v10 => ?_)
        refine PJ.iconst (pc := 38) (v := 1) d_Reader_next_38 (by decide) ?_
        refine PJ.iadd (pc := 39) d_Reader_next_39 ?_
        refine PJ.putI (pc := 40) ps_Reader_22 d_Reader_next_40 (fun h11 => ?_)
        refine PJ.goto (pc := 43) (tgt := 8) d_Reader_next_43 (by decide) ?_
        exact PJ.done rfl
  · show PJ l G (pj_rm 2 0 0) Y_Reader_next 46 [some (.inr (.inr a0))] [] x4 0 0 _ _
    refine PJ.aload_n (pc := 46) d_Reader_next_46 rfl ?_
    refine PJ.aload_n (pc := 47) d_Reader_next_47 rfl ?_
    refine PJ.getI (pc := 48) fs_Reader_22 d_Reader_next_48 (fun v12 => ?_)
    refine PJ.putI (pc := 51) ps_Reader_25 d_Reader_next_51 (fun h13 => ?_)
    refine PJ.aload_n (pc := 54) d_Reader_next_54 rfl ?_
    refine PJ.getI (pc := 55) fs_Reader_22 d_Reader_next_55 (fun v14 => ?_)
    refine PJ.aload_n (pc := 58) d_Reader_next_58 rfl ?_
    refine PJ.getI (pc := 59) fs_Reader_9 d_Reader_next_59 (fun v15 => ?_)
    refine PJ.icmp_lt (pc := 62) (tgt := 73) d_Reader_next_62 (by decide) (fun _ => ?_) (fun _ => ?_)
    · refine PJ.aload_n (pc := 73) d_Reader_next_73 rfl ?_
      refine PJ.aload_n (pc := 74) d_Reader_next_74 rfl ?_
      refine PJ.getI (pc := 75) fs_Reader_22 d_Reader_next_75 (fun v16 => ?_)
      refine PJ.cVpI (pc := 78) cs_Reader_82 (fun z hz => PM_Reader_isLetter hz) (pj_fitb rfl) rfl rfl (Nat.le_of_ble_eq_true rfl) d_Reader_next_78 (fun v17 => ?_)
      refine PJ.if_eq (pc := 81) (tgt := 145) d_Reader_next_81 (by decide) (fun _ => ?_) (fun _ => ?_)
      · refine PJ.aload_n (pc := 145) d_Reader_next_145 rfl ?_
        refine PJ.aload_n (pc := 146) d_Reader_next_146 rfl ?_
        refine PJ.getI (pc := 147) fs_Reader_22 d_Reader_next_147 (fun v18 => ?_)
        refine PJ.cVpI (pc := 150) cs_Reader_86 (fun z hz => PM_Reader_isDigit hz) (pj_fitb rfl) rfl rfl (Nat.le_of_ble_eq_true rfl) d_Reader_next_150 (fun v19 => ?_)
        refine PJ.if_eq (pc := 153) (tgt := 216) d_Reader_next_153 (by decide) (fun _ => ?_) (fun _ => ?_)
        · refine PJ.aload_n (pc := 216) d_Reader_next_216 rfl ?_
          refine PJ.dup (pc := 217) d_Reader_next_217 rfl ?_
          refine PJ.getI (pc := 218) fs_Reader_25 d_Reader_next_218 (fun v20 => ?_)
          refine PJ.iconst (pc := 221) (v := 1) d_Reader_next_221 (by decide) ?_
          refine PJ.iadd (pc := 222) d_Reader_next_222 ?_
          refine PJ.putI (pc := 223) ps_Reader_25 d_Reader_next_223 (fun h21 => ?_)
          refine PJ.aload_n (pc := 226) d_Reader_next_226 rfl ?_
          refine PJ.aload_n (pc := 227) d_Reader_next_227 rfl ?_
          refine PJ.getR (pc := 228) fs_Reader_50 d_Reader_next_228 (fun v22 => ?_)
          refine PJ.aload_n (pc := 231) d_Reader_next_231 rfl ?_
          refine PJ.getI (pc := 232) fs_Reader_22 d_Reader_next_232 (fun v23 => ?_)
          refine PJ.bald (pc := 235) d_Reader_next_235 (fun v24 => ?_)
          refine PJ.bipush (pc := 236) (v := 59) d_Reader_next_236 (by decide) ?_
          refine PJ.icmp_ne (pc := 238) (tgt := 245) d_Reader_next_238 (by decide) (fun _ => ?_) (fun _ => ?_)
          · refine PJ.iconst (pc := 245) (v := 4) d_Reader_next_245 (by decide) ?_
            refine PJ.putI (pc := 246) ps_Reader_19 d_Reader_next_246 (fun h25 => ?_)
            exact PJ.vret (pc := 249) d_Reader_next_249 rfl (Nat.le_of_ble_eq_true rfl) (Nat.le_of_ble_eq_true rfl)
          · refine PJ.iconst (pc := 241) (v := 3) d_Reader_next_241 (by decide) ?_
            refine PJ.goto (pc := 242) (tgt := 246) d_Reader_next_242 (by decide) ?_
            refine PJ.putI (pc := 246) ps_Reader_19 d_Reader_next_246 (fun h26 => ?_)
            exact PJ.vret (pc := 249) d_Reader_next_249 rfl (Nat.le_of_ble_eq_true rfl) (Nat.le_of_ble_eq_true rfl)
        · refine PJ.bind (fun x28 : PH => ((191 : Nat), ([some (.inr (.inr a0))] : List (Option PV)), ([] : List PV), (x28 : PH), (0 : Nat), (0 : Nat))) (PJ.it (E := (fun s27 : PH => ((156 : Nat), ([some (.inr (.inr a0))] : List (Option PV)), ([] : List PV), (s27 : PH), (0 : Nat), (0 : Nat)))) (F := (fun x28 : PH => ((191 : Nat), ([some (.inr (.inr a0))] : List (Option PV)), ([] : List PV), (x28 : PH), (0 : Nat), (0 : Nat)))) (fun s27 => ?_) FU h13) (fun x28 => ?_)
          · show PJ l G (pj_rm 2 0 0) Y_Reader_next 156 [some (.inr (.inr a0))] [] s27 0 0 _ _
            refine PJ.aload_n (pc := 156) d_Reader_next_156 rfl ?_
            refine PJ.getI (pc := 157) fs_Reader_25 d_Reader_next_157 (fun v29 => ?_)
            refine PJ.aload_n (pc := 160) d_Reader_next_160 rfl ?_
            refine PJ.getI (pc := 161) fs_Reader_9 d_Reader_next_161 (fun v30 => ?_)
            refine PJ.icmp_ge (pc := 164) (tgt := 191) d_Reader_next_164 (by decide) (fun _ => ?_) (fun _ => ?_)
            · exact PJ.done rfl
            · refine PJ.aload_n (pc := 167) d_Reader_next_167 rfl ?_
              refine PJ.aload_n (pc := 168) d_Reader_next_168 rfl ?_
              refine PJ.getI (pc := 169) fs_Reader_25 d_Reader_next_169 (fun v31 => ?_)
              refine PJ.cVpI (pc := 172) cs_Reader_86 (fun z hz => PM_Reader_isDigit hz) (pj_fitb rfl) rfl rfl (Nat.le_of_ble_eq_true rfl) d_Reader_next_172 (fun v32 => ?_)
              refine PJ.if_eq (pc := 175) (tgt := 191) d_Reader_next_175 (by decide) (fun _ => ?_) (fun _ => ?_)
              · exact PJ.done rfl
              · refine PJ.aload_n (pc := 178) d_Reader_next_178 rfl ?_
                refine PJ.dup (pc := 179) d_Reader_next_179 rfl ?_
                refine PJ.getI (pc := 180) fs_Reader_25 d_Reader_next_180 (fun v33 => ?_)
                refine PJ.iconst (pc := 183) (v := 1) d_Reader_next_183 (by decide) ?_
                refine PJ.iadd (pc := 184) d_Reader_next_184 ?_
                refine PJ.putI (pc := 185) ps_Reader_25 d_Reader_next_185 (fun h34 => ?_)
                refine PJ.goto (pc := 188) (tgt := 156) d_Reader_next_188 (by decide) ?_
                exact PJ.done rfl
          · show PJ l G (pj_rm 2 0 0) Y_Reader_next 191 [some (.inr (.inr a0))] [] x28 0 0 _ _
            refine PJ.aload_n (pc := 191) d_Reader_next_191 rfl ?_
            refine PJ.aload_n (pc := 192) d_Reader_next_192 rfl ?_
            refine PJ.getI (pc := 193) fs_Reader_25 d_Reader_next_193 (fun v35 => ?_)
            refine PJ.aload_n (pc := 196) d_Reader_next_196 rfl ?_
            refine PJ.getI (pc := 197) fs_Reader_22 d_Reader_next_197 (fun v36 => ?_)
            refine PJ.isub (pc := 200) d_Reader_next_200 ?_
            refine PJ.iconst (pc := 201) (v := 3) d_Reader_next_201 (by decide) ?_
            refine PJ.icmp_gt (pc := 202) (tgt := 209) d_Reader_next_202 (by decide) (fun _ => ?_) (fun _ => ?_)
            · refine PJ.iconst (pc := 209) (v := 4) d_Reader_next_209 (by decide) ?_
              refine PJ.putI (pc := 210) ps_Reader_19 d_Reader_next_210 (fun h37 => ?_)
              refine PJ.goto (pc := 213) (tgt := 249) d_Reader_next_213 (by decide) ?_
              exact PJ.vret (pc := 249) d_Reader_next_249 rfl (Nat.le_of_ble_eq_true rfl) (Nat.le_of_ble_eq_true rfl)
            · refine PJ.iconst (pc := 205) (v := 2) d_Reader_next_205 (by decide) ?_
              refine PJ.goto (pc := 206) (tgt := 210) d_Reader_next_206 (by decide) ?_
              refine PJ.putI (pc := 210) ps_Reader_19 d_Reader_next_210 (fun h38 => ?_)
              refine PJ.goto (pc := 213) (tgt := 249) d_Reader_next_213 (by decide) ?_
              exact PJ.vret (pc := 249) d_Reader_next_249 rfl (Nat.le_of_ble_eq_true rfl) (Nat.le_of_ble_eq_true rfl)
      · refine PJ.bind (fun x40 : PH => ((119 : Nat), ([some (.inr (.inr a0))] : List (Option PV)), ([] : List PV), (x40 : PH), (0 : Nat), (0 : Nat))) (PJ.it (E := (fun s39 : PH => ((84 : Nat), ([some (.inr (.inr a0))] : List (Option PV)), ([] : List PV), (s39 : PH), (0 : Nat), (0 : Nat)))) (F := (fun x40 : PH => ((119 : Nat), ([some (.inr (.inr a0))] : List (Option PV)), ([] : List PV), (x40 : PH), (0 : Nat), (0 : Nat)))) (fun s39 => ?_) FU h13) (fun x40 => ?_)
        · show PJ l G (pj_rm 2 0 0) Y_Reader_next 84 [some (.inr (.inr a0))] [] s39 0 0 _ _
          refine PJ.aload_n (pc := 84) d_Reader_next_84 rfl ?_
          refine PJ.getI (pc := 85) fs_Reader_25 d_Reader_next_85 (fun v41 => ?_)
          refine PJ.aload_n (pc := 88) d_Reader_next_88 rfl ?_
          refine PJ.getI (pc := 89) fs_Reader_9 d_Reader_next_89 (fun v42 => ?_)
          refine PJ.icmp_ge (pc := 92) (tgt := 119) d_Reader_next_92 (by decide) (fun _ => ?_) (fun _ => ?_)
          · exact PJ.done rfl
          · refine PJ.aload_n (pc := 95) d_Reader_next_95 rfl ?_
            refine PJ.aload_n (pc := 96) d_Reader_next_96 rfl ?_
            refine PJ.getI (pc := 97) fs_Reader_25 d_Reader_next_97 (fun v43 => ?_)
            refine PJ.cVpI (pc := 100) cs_Reader_82 (fun z hz => PM_Reader_isLetter hz) (pj_fitb rfl) rfl rfl (Nat.le_of_ble_eq_true rfl) d_Reader_next_100 (fun v44 => ?_)
            refine PJ.if_eq (pc := 103) (tgt := 119) d_Reader_next_103 (by decide) (fun _ => ?_) (fun _ => ?_)
            · exact PJ.done rfl
            · refine PJ.aload_n (pc := 106) d_Reader_next_106 rfl ?_
              refine PJ.dup (pc := 107) d_Reader_next_107 rfl ?_
              refine PJ.getI (pc := 108) fs_Reader_25 d_Reader_next_108 (fun v45 => ?_)
              refine PJ.iconst (pc := 111) (v := 1) d_Reader_next_111 (by decide) ?_
              refine PJ.iadd (pc := 112) d_Reader_next_112 ?_
              refine PJ.putI (pc := 113) ps_Reader_25 d_Reader_next_113 (fun h46 => ?_)
              refine PJ.goto (pc := 116) (tgt := 84) d_Reader_next_116 (by decide) ?_
              exact PJ.done rfl
        · show PJ l G (pj_rm 2 0 0) Y_Reader_next 119 [some (.inr (.inr a0))] [] x40 0 0 _ _
          refine PJ.aload_n (pc := 119) d_Reader_next_119 rfl ?_
          refine PJ.aload_n (pc := 120) d_Reader_next_120 rfl ?_
          refine PJ.getI (pc := 121) fs_Reader_25 d_Reader_next_121 (fun v47 => ?_)
          refine PJ.aload_n (pc := 124) d_Reader_next_124 rfl ?_
          refine PJ.getI (pc := 125) fs_Reader_22 d_Reader_next_125 (fun v48 => ?_)
          refine PJ.isub (pc := 128) d_Reader_next_128 ?_
          refine PJ.bipush (pc := 129) (v := 8) d_Reader_next_129 (by decide) ?_
          refine PJ.icmp_gt (pc := 131) (tgt := 138) d_Reader_next_131 (by decide) (fun _ => ?_) (fun _ => ?_)
          · refine PJ.iconst (pc := 138) (v := 4) d_Reader_next_138 (by decide) ?_
            refine PJ.putI (pc := 139) ps_Reader_19 d_Reader_next_139 (fun h49 => ?_)
            refine PJ.goto (pc := 142) (tgt := 249) d_Reader_next_142 (by decide) ?_
            exact PJ.vret (pc := 249) d_Reader_next_249 rfl (Nat.le_of_ble_eq_true rfl) (Nat.le_of_ble_eq_true rfl)
          · refine PJ.iconst (pc := 134) (v := 1) d_Reader_next_134 (by decide) ?_
            refine PJ.goto (pc := 135) (tgt := 139) d_Reader_next_135 (by decide) ?_
            refine PJ.putI (pc := 139) ps_Reader_19 d_Reader_next_139 (fun h50 => ?_)
            refine PJ.goto (pc := 142) (tgt := 249) d_Reader_next_142 (by decide) ?_
            exact PJ.vret (pc := 249) d_Reader_next_249 rfl (Nat.le_of_ble_eq_true rfl) (Nat.le_of_ble_eq_true rfl)
    · refine PJ.aload_n (pc := 65) d_Reader_next_65 rfl ?_
      refine PJ.iconst (pc := 66) (v := 0) d_Reader_next_66 (by decide) ?_
      refine PJ.putI (pc := 67) ps_Reader_19 d_Reader_next_67 (fun h51 => ?_)
      refine PJ.goto (pc := 70) (tgt := 249) d_Reader_next_70 (by decide) ?_
      exact PJ.vret (pc := 249) d_Reader_next_249 rfl (Nat.le_of_ble_eq_true rfl) (Nat.le_of_ble_eq_true rfl)
theorem d_Reader_is_0 : decode Y_Reader_is.2.1 0 = .ok (.aload_n 0, 1) := by decide +kernel
theorem d_Reader_is_1 : decode Y_Reader_is.2.1 1 = .ok (.getfield 19, 3) := by decide +kernel
theorem d_Reader_is_4 : decode Y_Reader_is.2.1 4 = .ok (.iconst 1, 1) := by decide +kernel
theorem d_Reader_is_5 : decode Y_Reader_is.2.1 5 = .ok (.if_icmp .ne 19, 3) := by decide +kernel
theorem d_Reader_is_8 : decode Y_Reader_is.2.1 8 = .ok (.aload_n 0, 1) := by decide +kernel
theorem d_Reader_is_9 : decode Y_Reader_is.2.1 9 = .ok (.getfield 25, 3) := by decide +kernel
theorem d_Reader_is_12 : decode Y_Reader_is.2.1 12 = .ok (.aload_n 0, 1) := by decide +kernel
theorem d_Reader_is_13 : decode Y_Reader_is.2.1 13 = .ok (.getfield 22, 3) := by decide +kernel
theorem d_Reader_is_16 : decode Y_Reader_is.2.1 16 = .ok (.isub, 1) := by decide +kernel
theorem d_Reader_is_17 : decode Y_Reader_is.2.1 17 = .ok (.aload_n 1, 1) := by decide +kernel
theorem d_Reader_is_18 : decode Y_Reader_is.2.1 18 = .ok (.invokevirtual 145, 3) := by decide +kernel
theorem d_Reader_is_21 : decode Y_Reader_is.2.1 21 = .ok (.if_icmp .eq 5, 3) := by decide +kernel
theorem d_Reader_is_24 : decode Y_Reader_is.2.1 24 = .ok (.iconst 0, 1) := by decide +kernel
theorem d_Reader_is_25 : decode Y_Reader_is.2.1 25 = .ok (.ireturn, 1) := by decide +kernel
theorem d_Reader_is_26 : decode Y_Reader_is.2.1 26 = .ok (.iconst 0, 1) := by decide +kernel
theorem d_Reader_is_27 : decode Y_Reader_is.2.1 27 = .ok (.istore_n 2, 1) := by decide +kernel
theorem d_Reader_is_28 : decode Y_Reader_is.2.1 28 = .ok (.iload_n 2, 1) := by decide +kernel
theorem d_Reader_is_29 : decode Y_Reader_is.2.1 29 = .ok (.aload_n 1, 1) := by decide +kernel
theorem d_Reader_is_30 : decode Y_Reader_is.2.1 30 = .ok (.invokevirtual 145, 3) := by decide +kernel
theorem d_Reader_is_33 : decode Y_Reader_is.2.1 33 = .ok (.if_icmp .ge 30, 3) := by decide +kernel
theorem d_Reader_is_36 : decode Y_Reader_is.2.1 36 = .ok (.aload_n 0, 1) := by decide +kernel
theorem d_Reader_is_37 : decode Y_Reader_is.2.1 37 = .ok (.getfield 50, 3) := by decide +kernel
theorem d_Reader_is_40 : decode Y_Reader_is.2.1 40 = .ok (.aload_n 0, 1) := by decide +kernel
theorem d_Reader_is_41 : decode Y_Reader_is.2.1 41 = .ok (.getfield 22, 3) := by decide +kernel
theorem d_Reader_is_44 : decode Y_Reader_is.2.1 44 = .ok (.iload_n 2, 1) := by decide +kernel
theorem d_Reader_is_45 : decode Y_Reader_is.2.1 45 = .ok (.iadd, 1) := by decide +kernel
theorem d_Reader_is_46 : decode Y_Reader_is.2.1 46 = .ok (.baload, 1) := by decide +kernel
theorem d_Reader_is_47 : decode Y_Reader_is.2.1 47 = .ok (.aload_n 1, 1) := by decide +kernel
theorem d_Reader_is_48 : decode Y_Reader_is.2.1 48 = .ok (.iload_n 2, 1) := by decide +kernel
theorem d_Reader_is_49 : decode Y_Reader_is.2.1 49 = .ok (.invokevirtual 150, 3) := by decide +kernel
theorem d_Reader_is_52 : decode Y_Reader_is.2.1 52 = .ok (.if_icmp .eq 5, 3) := by decide +kernel
theorem d_Reader_is_55 : decode Y_Reader_is.2.1 55 = .ok (.iconst 0, 1) := by decide +kernel
theorem d_Reader_is_56 : decode Y_Reader_is.2.1 56 = .ok (.ireturn, 1) := by decide +kernel
theorem d_Reader_is_57 : decode Y_Reader_is.2.1 57 = .ok (.iinc 2 1, 3) := by decide +kernel
theorem d_Reader_is_60 : decode Y_Reader_is.2.1 60 = .ok (.goto (-32), 3) := by decide +kernel
theorem d_Reader_is_63 : decode Y_Reader_is.2.1 63 = .ok (.iconst 1, 1) := by decide +kernel
theorem d_Reader_is_64 : decode Y_Reader_is.2.1 64 = .ok (.ireturn, 1) := by decide +kernel
def f_Reader_is (h : PH) (a0 : Option Nat) (a1 : Option Nat) : Option Int32 := (gI h 5 a0 4).bind fun v1 => if ¬ v1 = (1 : Int32) then (some (0 : Int32)) else ((gI h 5 a0 6).bind fun v2 => (gI h 5 a0 5).bind fun v3 => (sLen a1).bind fun v4 => if (v2 - v3) = v4 then ((pj_it (X := (Unit) ⊕ (Unit)) (fun s5 : Int32 => (sLen a1).bind fun v7 => if v7 ≤ s5 then (some (.inr (.inl ()))) else ((gR h 5 a0 0).bind fun v8 => (gI h 5 a0 5).bind fun v9 => (aB h v8 (v9 + s5)).bind fun v10 => (sAt a1 s5).bind fun v11 => if v10 = v11 then (some (.inl (s5 + (1 : Int32)))) else (some (.inr (.inr ()))))) FU (0 : Int32)).bind fun x6 => match x6 with | (.inl yx6_0) => some (1 : Int32) | (.inr yx6_1) => some (0 : Int32)) else (some (0 : Int32)))
set_option maxRecDepth 20000 in
theorem PM_Reader_is {l : Launch} {G : Cx} {h : PH} {a0 : Option Nat} {a1 : Option Nat} {z : Int32} (hz : f_Reader_is h a0 a1 = some z) : PM l G 7 0 0 Y_Reader_is [.inr (.inr a0), .inr (.inr a1)] h (some (.inl z), h) := by
  refine PM.of (Y := Y_Reader_is) (cv := (fun z : Int32 => (((some (.inl z), h) : Option PV × PH)))) (by decide) (L0 := [some (.inr (.inr a0)), some (.inr (.inr a1)), none]) 1 rfl (Nat.le_of_ble_eq_true rfl) ?_ hz
  unfold f_Reader_is
  refine PJ.aload_n (pc := 0) d_Reader_is_0 rfl ?_
  refine PJ.getI (pc := 1) fs_Reader_19 d_Reader_is_1 (fun v1 => ?_)
  refine PJ.iconst (pc := 4) (v := 1) d_Reader_is_4 (by decide) ?_
  refine PJ.icmp_ne (pc := 5) (tgt := 24) d_Reader_is_5 (by decide) (fun _ => ?_) (fun _ => ?_)
  · refine PJ.iconst (pc := 24) (v := 0) d_Reader_is_24 (by decide) ?_
    exact PJ.zretp (pc := 25) d_Reader_is_25 rfl rfl (Nat.le_of_ble_eq_true rfl) (Nat.le_of_ble_eq_true rfl)
  · refine PJ.aload_n (pc := 8) d_Reader_is_8 rfl ?_
    refine PJ.getI (pc := 9) fs_Reader_25 d_Reader_is_9 (fun v2 => ?_)
    refine PJ.aload_n (pc := 12) d_Reader_is_12 rfl ?_
    refine PJ.getI (pc := 13) fs_Reader_22 d_Reader_is_13 (fun v3 => ?_)
    refine PJ.isub (pc := 16) d_Reader_is_16 ?_
    refine PJ.aload_n (pc := 17) d_Reader_is_17 rfl ?_
    refine PJ.strlen (pc := 18) (idx := 145) ss_Reader_145 (pj_fitb rfl) (Nat.le_of_ble_eq_true rfl) d_Reader_is_18 (fun v4 => ?_)
    refine PJ.icmp_eq (pc := 21) (tgt := 26) d_Reader_is_21 (by decide) (fun _ => ?_) (fun _ => ?_)
    · refine PJ.iconst (pc := 26) (v := 0) d_Reader_is_26 (by decide) ?_
      refine PJ.istore_n (pc := 27) (L1 := [some (.inr (.inr a0)), some (.inr (.inr a1)), some (.inl (0 : Int32))]) d_Reader_is_27 (Nat.le_of_ble_eq_true rfl) rfl rfl ?_
      refine PJ.bind (fun x6 : (Unit) ⊕ (Unit) => match x6 with | (.inl y0) => ((63 : Nat), ([none, none, none] : List (Option PV)), ([] : List PV), (h : PH), (0 : Nat), (0 : Nat)) | (.inr y1) => ((55 : Nat), ([none, none, none] : List (Option PV)), ([] : List PV), (h : PH), (0 : Nat), (0 : Nat))) (PJ.it (E := (fun s5 : Int32 => ((28 : Nat), ([some (.inr (.inr a0)), some (.inr (.inr a1)), some (.inl s5)] : List (Option PV)), ([] : List PV), (h : PH), (0 : Nat), (0 : Nat)))) (F := (fun x6 : (Unit) ⊕ (Unit) => match x6 with | (.inl y0) => ((63 : Nat), ([none, none, none] : List (Option PV)), ([] : List PV), (h : PH), (0 : Nat), (0 : Nat)) | (.inr y1) => ((55 : Nat), ([none, none, none] : List (Option PV)), ([] : List PV), (h : PH), (0 : Nat), (0 : Nat)))) (fun s5 => ?_) FU (0 : Int32)) (fun x6 => ?_)
      · show PJ l G (pj_rm 7 0 0) Y_Reader_is 28 [some (.inr (.inr a0)), some (.inr (.inr a1)), some (.inl s5)] [] h 0 0 _ _
        refine PJ.iload_n (pc := 28) d_Reader_is_28 rfl ?_
        refine PJ.aload_n (pc := 29) d_Reader_is_29 rfl ?_
        refine PJ.strlen (pc := 30) (idx := 145) ss_Reader_145 (pj_fitb rfl) (Nat.le_of_ble_eq_true rfl) d_Reader_is_30 (fun v7 => ?_)
        refine PJ.icmp_ge (pc := 33) (tgt := 63) d_Reader_is_33 (by decide) (fun _ => ?_) (fun _ => ?_)
        · refine PJ.mk (L1 := [none, none, none]) [false, false, false] rfl ?_
          exact PJ.done rfl
        · refine PJ.aload_n (pc := 36) d_Reader_is_36 rfl ?_
          refine PJ.getR (pc := 37) fs_Reader_50 d_Reader_is_37 (fun v8 => ?_)
          refine PJ.aload_n (pc := 40) d_Reader_is_40 rfl ?_
          refine PJ.getI (pc := 41) fs_Reader_22 d_Reader_is_41 (fun v9 => ?_)
          refine PJ.iload_n (pc := 44) d_Reader_is_44 rfl ?_
          refine PJ.iadd (pc := 45) d_Reader_is_45 ?_
          refine PJ.bald (pc := 46) d_Reader_is_46 (fun v10 => ?_)
          refine PJ.aload_n (pc := 47) d_Reader_is_47 rfl ?_
          refine PJ.iload_n (pc := 48) d_Reader_is_48 rfl ?_
          refine PJ.strat (pc := 49) (idx := 150) ss_Reader_150 (pj_fitb rfl) (Nat.le_of_ble_eq_true rfl) d_Reader_is_49 (fun v11 => ?_)
          refine PJ.icmp_eq (pc := 52) (tgt := 57) d_Reader_is_52 (by decide) (fun _ => ?_) (fun _ => ?_)
          · refine PJ.iinc (pc := 57) (v := 1) (L1 := [some (.inr (.inr a0)), some (.inr (.inr a1)), some (.inl (s5 + (1 : Int32)))]) d_Reader_is_57 rfl (by decide) (Nat.le_of_ble_eq_true rfl) rfl rfl ?_
            refine PJ.goto (pc := 60) (tgt := 28) d_Reader_is_60 (by decide) ?_
            exact PJ.done rfl
          · refine PJ.mk (L1 := [none, none, none]) [false, false, false] rfl ?_
            exact PJ.done rfl
      · rcases x6 with yx6_0 | yx6_1
        · show PJ l G (pj_rm 7 0 0) Y_Reader_is 63 [none, none, none] [] h 0 0 _ _
          refine PJ.iconst (pc := 63) (v := 1) d_Reader_is_63 (by decide) ?_
          exact PJ.zretp (pc := 64) d_Reader_is_64 rfl rfl (Nat.le_of_ble_eq_true rfl) (Nat.le_of_ble_eq_true rfl)
        · show PJ l G (pj_rm 7 0 0) Y_Reader_is 55 [none, none, none] [] h 0 0 _ _
          refine PJ.iconst (pc := 55) (v := 0) d_Reader_is_55 (by decide) ?_
          exact PJ.zretp (pc := 56) d_Reader_is_56 rfl rfl (Nat.le_of_ble_eq_true rfl) (Nat.le_of_ble_eq_true rfl)
    · refine PJ.iconst (pc := 24) (v := 0) d_Reader_is_24 (by decide) ?_
      exact PJ.zretp (pc := 25) d_Reader_is_25 rfl rfl (Nat.le_of_ble_eq_true rfl) (Nat.le_of_ble_eq_true rfl)
theorem d_Reader_lineSort_0 : decode Y_Reader_lineSort.2.1 0 = .ok (.aload_n 0, 1) := by decide +kernel
theorem d_Reader_lineSort_1 : decode Y_Reader_lineSort.2.1 1 = .ok (.getfield 19, 3) := by decide +kernel
theorem d_Reader_lineSort_4 : decode Y_Reader_lineSort.2.1 4 = .ok (.iconst 1, 1) := by decide +kernel
theorem d_Reader_lineSort_5 : decode Y_Reader_lineSort.2.1 5 = .ok (.if_icmp .eq 5, 3) := by decide +kernel
theorem d_Reader_lineSort_8 : decode Y_Reader_lineSort.2.1 8 = .ok (.iconst (-1), 1) := by decide +kernel
theorem d_Reader_lineSort_9 : decode Y_Reader_lineSort.2.1 9 = .ok (.ireturn, 1) := by decide +kernel
theorem d_Reader_lineSort_10 : decode Y_Reader_lineSort.2.1 10 = .ok (.aload_n 0, 1) := by decide +kernel
theorem d_Reader_lineSort_11 : decode Y_Reader_lineSort.2.1 11 = .ok (.ldc 123, 2) := by decide +kernel
theorem d_Reader_lineSort_13 : decode Y_Reader_lineSort.2.1 13 = .ok (.invokevirtual 125, 3) := by decide +kernel
theorem d_Reader_lineSort_16 : decode Y_Reader_lineSort.2.1 16 = .ok (.ifCond .eq 5, 3) := by decide +kernel
theorem d_Reader_lineSort_19 : decode Y_Reader_lineSort.2.1 19 = .ok (.iconst 0, 1) := by decide +kernel
theorem d_Reader_lineSort_20 : decode Y_Reader_lineSort.2.1 20 = .ok (.ireturn, 1) := by decide +kernel
theorem d_Reader_lineSort_21 : decode Y_Reader_lineSort.2.1 21 = .ok (.aload_n 0, 1) := by decide +kernel
theorem d_Reader_lineSort_22 : decode Y_Reader_lineSort.2.1 22 = .ok (.ldc 129, 2) := by decide +kernel
theorem d_Reader_lineSort_24 : decode Y_Reader_lineSort.2.1 24 = .ok (.invokevirtual 125, 3) := by decide +kernel
theorem d_Reader_lineSort_27 : decode Y_Reader_lineSort.2.1 27 = .ok (.ifCond .eq 5, 3) := by decide +kernel
theorem d_Reader_lineSort_30 : decode Y_Reader_lineSort.2.1 30 = .ok (.iconst 1, 1) := by decide +kernel
theorem d_Reader_lineSort_31 : decode Y_Reader_lineSort.2.1 31 = .ok (.ireturn, 1) := by decide +kernel
theorem d_Reader_lineSort_32 : decode Y_Reader_lineSort.2.1 32 = .ok (.aload_n 0, 1) := by decide +kernel
theorem d_Reader_lineSort_33 : decode Y_Reader_lineSort.2.1 33 = .ok (.ldc 131, 2) := by decide +kernel
theorem d_Reader_lineSort_35 : decode Y_Reader_lineSort.2.1 35 = .ok (.invokevirtual 125, 3) := by decide +kernel
theorem d_Reader_lineSort_38 : decode Y_Reader_lineSort.2.1 38 = .ok (.ifCond .eq 5, 3) := by decide +kernel
theorem d_Reader_lineSort_41 : decode Y_Reader_lineSort.2.1 41 = .ok (.iconst 2, 1) := by decide +kernel
theorem d_Reader_lineSort_42 : decode Y_Reader_lineSort.2.1 42 = .ok (.ireturn, 1) := by decide +kernel
theorem d_Reader_lineSort_43 : decode Y_Reader_lineSort.2.1 43 = .ok (.aload_n 0, 1) := by decide +kernel
theorem d_Reader_lineSort_44 : decode Y_Reader_lineSort.2.1 44 = .ok (.ldc 133, 2) := by decide +kernel
theorem d_Reader_lineSort_46 : decode Y_Reader_lineSort.2.1 46 = .ok (.invokevirtual 125, 3) := by decide +kernel
theorem d_Reader_lineSort_49 : decode Y_Reader_lineSort.2.1 49 = .ok (.ifCond .eq 5, 3) := by decide +kernel
theorem d_Reader_lineSort_52 : decode Y_Reader_lineSort.2.1 52 = .ok (.iconst 3, 1) := by decide +kernel
theorem d_Reader_lineSort_53 : decode Y_Reader_lineSort.2.1 53 = .ok (.ireturn, 1) := by decide +kernel
theorem d_Reader_lineSort_54 : decode Y_Reader_lineSort.2.1 54 = .ok (.aload_n 0, 1) := by decide +kernel
theorem d_Reader_lineSort_55 : decode Y_Reader_lineSort.2.1 55 = .ok (.ldc 135, 2) := by decide +kernel
theorem d_Reader_lineSort_57 : decode Y_Reader_lineSort.2.1 57 = .ok (.invokevirtual 125, 3) := by decide +kernel
theorem d_Reader_lineSort_60 : decode Y_Reader_lineSort.2.1 60 = .ok (.ifCond .eq 5, 3) := by decide +kernel
theorem d_Reader_lineSort_63 : decode Y_Reader_lineSort.2.1 63 = .ok (.iconst 4, 1) := by decide +kernel
theorem d_Reader_lineSort_64 : decode Y_Reader_lineSort.2.1 64 = .ok (.ireturn, 1) := by decide +kernel
theorem d_Reader_lineSort_65 : decode Y_Reader_lineSort.2.1 65 = .ok (.aload_n 0, 1) := by decide +kernel
theorem d_Reader_lineSort_66 : decode Y_Reader_lineSort.2.1 66 = .ok (.ldc 137, 2) := by decide +kernel
theorem d_Reader_lineSort_68 : decode Y_Reader_lineSort.2.1 68 = .ok (.invokevirtual 125, 3) := by decide +kernel
theorem d_Reader_lineSort_71 : decode Y_Reader_lineSort.2.1 71 = .ok (.ifCond .eq 5, 3) := by decide +kernel
theorem d_Reader_lineSort_74 : decode Y_Reader_lineSort.2.1 74 = .ok (.iconst 5, 1) := by decide +kernel
theorem d_Reader_lineSort_75 : decode Y_Reader_lineSort.2.1 75 = .ok (.ireturn, 1) := by decide +kernel
theorem d_Reader_lineSort_76 : decode Y_Reader_lineSort.2.1 76 = .ok (.aload_n 0, 1) := by decide +kernel
theorem d_Reader_lineSort_77 : decode Y_Reader_lineSort.2.1 77 = .ok (.ldc 139, 2) := by decide +kernel
theorem d_Reader_lineSort_79 : decode Y_Reader_lineSort.2.1 79 = .ok (.invokevirtual 125, 3) := by decide +kernel
theorem d_Reader_lineSort_82 : decode Y_Reader_lineSort.2.1 82 = .ok (.ifCond .eq 6, 3) := by decide +kernel
theorem d_Reader_lineSort_85 : decode Y_Reader_lineSort.2.1 85 = .ok (.bipush 6, 2) := by decide +kernel
theorem d_Reader_lineSort_87 : decode Y_Reader_lineSort.2.1 87 = .ok (.ireturn, 1) := by decide +kernel
theorem d_Reader_lineSort_88 : decode Y_Reader_lineSort.2.1 88 = .ok (.aload_n 0, 1) := by decide +kernel
theorem d_Reader_lineSort_89 : decode Y_Reader_lineSort.2.1 89 = .ok (.ldc 141, 2) := by decide +kernel
theorem d_Reader_lineSort_91 : decode Y_Reader_lineSort.2.1 91 = .ok (.invokevirtual 125, 3) := by decide +kernel
theorem d_Reader_lineSort_94 : decode Y_Reader_lineSort.2.1 94 = .ok (.ifCond .eq 6, 3) := by decide +kernel
theorem d_Reader_lineSort_97 : decode Y_Reader_lineSort.2.1 97 = .ok (.bipush 7, 2) := by decide +kernel
theorem d_Reader_lineSort_99 : decode Y_Reader_lineSort.2.1 99 = .ok (.ireturn, 1) := by decide +kernel
theorem d_Reader_lineSort_100 : decode Y_Reader_lineSort.2.1 100 = .ok (.aload_n 0, 1) := by decide +kernel
theorem d_Reader_lineSort_101 : decode Y_Reader_lineSort.2.1 101 = .ok (.ldc 143, 2) := by decide +kernel
theorem d_Reader_lineSort_103 : decode Y_Reader_lineSort.2.1 103 = .ok (.invokevirtual 125, 3) := by decide +kernel
theorem d_Reader_lineSort_106 : decode Y_Reader_lineSort.2.1 106 = .ok (.ifCond .eq 8, 3) := by decide +kernel
theorem d_Reader_lineSort_109 : decode Y_Reader_lineSort.2.1 109 = .ok (.bipush 8, 2) := by decide +kernel
theorem d_Reader_lineSort_111 : decode Y_Reader_lineSort.2.1 111 = .ok (.goto 4, 3) := by decide +kernel
theorem d_Reader_lineSort_114 : decode Y_Reader_lineSort.2.1 114 = .ok (.iconst (-1), 1) := by decide +kernel
theorem d_Reader_lineSort_115 : decode Y_Reader_lineSort.2.1 115 = .ok (.ireturn, 1) := by decide +kernel
def f_Reader_lineSort (h : PH) (a0 : Option Nat) : Option Int32 := (gI h 5 a0 4).bind fun v1 => if v1 = (1 : Int32) then ((cl h 5 a0 (f_Reader_is h a0 (some 0))).bind fun v2 => if v2 = 0 then ((cl h 5 a0 (f_Reader_is h a0 (some 1))).bind fun v3 => if v3 = 0 then ((cl h 5 a0 (f_Reader_is h a0 (some 2))).bind fun v4 => if v4 = 0 then ((cl h 5 a0 (f_Reader_is h a0 (some 3))).bind fun v5 => if v5 = 0 then ((cl h 5 a0 (f_Reader_is h a0 (some 4))).bind fun v6 => if v6 = 0 then ((cl h 5 a0 (f_Reader_is h a0 (some 5))).bind fun v7 => if v7 = 0 then ((cl h 5 a0 (f_Reader_is h a0 (some 6))).bind fun v8 => if v8 = 0 then ((cl h 5 a0 (f_Reader_is h a0 (some 7))).bind fun v9 => if v9 = 0 then ((cl h 5 a0 (f_Reader_is h a0 (some 8))).bind fun v10 => if v10 = 0 then (some (-1 : Int32)) else (some (8 : Int32))) else (some (7 : Int32))) else (some (6 : Int32))) else (some (5 : Int32))) else (some (4 : Int32))) else (some (3 : Int32))) else (some (2 : Int32))) else (some (1 : Int32))) else (some (0 : Int32))) else (some (-1 : Int32))
set_option maxRecDepth 20000 in
theorem PM_Reader_lineSort {l : Launch} {G : Cx} {h : PH} {a0 : Option Nat} {z : Int32} (hz : f_Reader_lineSort h a0 = some z) : PM l G 8 0 0 Y_Reader_lineSort [.inr (.inr a0)] h (some (.inl z), h) := by
  refine PM.of (Y := Y_Reader_lineSort) (cv := (fun z : Int32 => (((some (.inl z), h) : Option PV × PH)))) (by decide) (L0 := [some (.inr (.inr a0))]) 0 rfl (Nat.le_of_ble_eq_true rfl) ?_ hz
  unfold f_Reader_lineSort
  refine PJ.aload_n (pc := 0) d_Reader_lineSort_0 rfl ?_
  refine PJ.getI (pc := 1) fs_Reader_19 d_Reader_lineSort_1 (fun v1 => ?_)
  refine PJ.iconst (pc := 4) (v := 1) d_Reader_lineSort_4 (by decide) ?_
  refine PJ.icmp_eq (pc := 5) (tgt := 10) d_Reader_lineSort_5 (by decide) (fun _ => ?_) (fun _ => ?_)
  · refine PJ.aload_n (pc := 10) d_Reader_lineSort_10 rfl ?_
    refine PJ.ldcS (pc := 11) (i := 0) d_Reader_lineSort_11 (by decide) (List.mem_of_getElem? (i := 0) rfl) ?_
    refine PJ.cVpI (pc := 13) cs_Reader_125 (fun z hz => PM_Reader_is hz) (pj_fitb rfl) rfl rfl (Nat.le_of_ble_eq_true rfl) d_Reader_lineSort_13 (fun v2 => ?_)
    refine PJ.if_eq (pc := 16) (tgt := 21) d_Reader_lineSort_16 (by decide) (fun _ => ?_) (fun _ => ?_)
    · refine PJ.aload_n (pc := 21) d_Reader_lineSort_21 rfl ?_
      refine PJ.ldcS (pc := 22) (i := 1) d_Reader_lineSort_22 (by decide) (List.mem_of_getElem? (i := 1) rfl) ?_
      refine PJ.cVpI (pc := 24) cs_Reader_125 (fun z hz => PM_Reader_is hz) (pj_fitb rfl) rfl rfl (Nat.le_of_ble_eq_true rfl) d_Reader_lineSort_24 (fun v3 => ?_)
      refine PJ.if_eq (pc := 27) (tgt := 32) d_Reader_lineSort_27 (by decide) (fun _ => ?_) (fun _ => ?_)
      · refine PJ.aload_n (pc := 32) d_Reader_lineSort_32 rfl ?_
        refine PJ.ldcS (pc := 33) (i := 2) d_Reader_lineSort_33 (by decide) (List.mem_of_getElem? (i := 2) rfl) ?_
        refine PJ.cVpI (pc := 35) cs_Reader_125 (fun z hz => PM_Reader_is hz) (pj_fitb rfl) rfl rfl (Nat.le_of_ble_eq_true rfl) d_Reader_lineSort_35 (fun v4 => ?_)
        refine PJ.if_eq (pc := 38) (tgt := 43) d_Reader_lineSort_38 (by decide) (fun _ => ?_) (fun _ => ?_)
        · refine PJ.aload_n (pc := 43) d_Reader_lineSort_43 rfl ?_
          refine PJ.ldcS (pc := 44) (i := 3) d_Reader_lineSort_44 (by decide) (List.mem_of_getElem? (i := 3) rfl) ?_
          refine PJ.cVpI (pc := 46) cs_Reader_125 (fun z hz => PM_Reader_is hz) (pj_fitb rfl) rfl rfl (Nat.le_of_ble_eq_true rfl) d_Reader_lineSort_46 (fun v5 => ?_)
          refine PJ.if_eq (pc := 49) (tgt := 54) d_Reader_lineSort_49 (by decide) (fun _ => ?_) (fun _ => ?_)
          · refine PJ.aload_n (pc := 54) d_Reader_lineSort_54 rfl ?_
            refine PJ.ldcS (pc := 55) (i := 4) d_Reader_lineSort_55 (by decide) (List.mem_of_getElem? (i := 4) rfl) ?_
            refine PJ.cVpI (pc := 57) cs_Reader_125 (fun z hz => PM_Reader_is hz) (pj_fitb rfl) rfl rfl (Nat.le_of_ble_eq_true rfl) d_Reader_lineSort_57 (fun v6 => ?_)
            refine PJ.if_eq (pc := 60) (tgt := 65) d_Reader_lineSort_60 (by decide) (fun _ => ?_) (fun _ => ?_)
            · refine PJ.aload_n (pc := 65) d_Reader_lineSort_65 rfl ?_
              refine PJ.ldcS (pc := 66) (i := 5) d_Reader_lineSort_66 (by decide) (List.mem_of_getElem? (i := 5) rfl) ?_
              refine PJ.cVpI (pc := 68) cs_Reader_125 (fun z hz => PM_Reader_is hz) (pj_fitb rfl) rfl rfl (Nat.le_of_ble_eq_true rfl) d_Reader_lineSort_68 (fun v7 => ?_)
              refine PJ.if_eq (pc := 71) (tgt := 76) d_Reader_lineSort_71 (by decide) (fun _ => ?_) (fun _ => ?_)
              · refine PJ.aload_n (pc := 76) d_Reader_lineSort_76 rfl ?_
                refine PJ.ldcS (pc := 77) (i := 6) d_Reader_lineSort_77 (by decide) (List.mem_of_getElem? (i := 6) rfl) ?_
                refine PJ.cVpI (pc := 79) cs_Reader_125 (fun z hz => PM_Reader_is hz) (pj_fitb rfl) rfl rfl (Nat.le_of_ble_eq_true rfl) d_Reader_lineSort_79 (fun v8 => ?_)
                refine PJ.if_eq (pc := 82) (tgt := 88) d_Reader_lineSort_82 (by decide) (fun _ => ?_) (fun _ => ?_)
                · refine PJ.aload_n (pc := 88) d_Reader_lineSort_88 rfl ?_
                  refine PJ.ldcS (pc := 89) (i := 7) d_Reader_lineSort_89 (by decide) (List.mem_of_getElem? (i := 7) rfl) ?_
                  refine PJ.cVpI (pc := 91) cs_Reader_125 (fun z hz => PM_Reader_is hz) (pj_fitb rfl) rfl rfl (Nat.le_of_ble_eq_true rfl) d_Reader_lineSort_91 (fun v9 => ?_)
                  refine PJ.if_eq (pc := 94) (tgt := 100) d_Reader_lineSort_94 (by decide) (fun _ => ?_) (fun _ => ?_)
                  · refine PJ.aload_n (pc := 100) d_Reader_lineSort_100 rfl ?_
                    refine PJ.ldcS (pc := 101) (i := 8) d_Reader_lineSort_101 (by decide) (List.mem_of_getElem? (i := 8) rfl) ?_
                    refine PJ.cVpI (pc := 103) cs_Reader_125 (fun z hz => PM_Reader_is hz) (pj_fitb rfl) rfl rfl (Nat.le_of_ble_eq_true rfl) d_Reader_lineSort_103 (fun v10 => ?_)
                    refine PJ.if_eq (pc := 106) (tgt := 114) d_Reader_lineSort_106 (by decide) (fun _ => ?_) (fun _ => ?_)
                    · refine PJ.iconst (pc := 114) (v := -1) d_Reader_lineSort_114 (by decide) ?_
                      exact PJ.iretp (pc := 115) d_Reader_lineSort_115 rfl (Nat.le_of_ble_eq_true rfl) (Nat.le_of_ble_eq_true rfl)
                    · refine PJ.bipush (pc := 109) (v := 8) d_Reader_lineSort_109 (by decide) ?_
                      refine PJ.goto (pc := 111) (tgt := 115) d_Reader_lineSort_111 (by decide) ?_
                      exact PJ.iretp (pc := 115) d_Reader_lineSort_115 rfl (Nat.le_of_ble_eq_true rfl) (Nat.le_of_ble_eq_true rfl)
                  · refine PJ.bipush (pc := 97) (v := 7) d_Reader_lineSort_97 (by decide) ?_
                    exact PJ.iretp (pc := 99) d_Reader_lineSort_99 rfl (Nat.le_of_ble_eq_true rfl) (Nat.le_of_ble_eq_true rfl)
                · refine PJ.bipush (pc := 85) (v := 6) d_Reader_lineSort_85 (by decide) ?_
                  exact PJ.iretp (pc := 87) d_Reader_lineSort_87 rfl (Nat.le_of_ble_eq_true rfl) (Nat.le_of_ble_eq_true rfl)
              · refine PJ.iconst (pc := 74) (v := 5) d_Reader_lineSort_74 (by decide) ?_
                exact PJ.iretp (pc := 75) d_Reader_lineSort_75 rfl (Nat.le_of_ble_eq_true rfl) (Nat.le_of_ble_eq_true rfl)
            · refine PJ.iconst (pc := 63) (v := 4) d_Reader_lineSort_63 (by decide) ?_
              exact PJ.iretp (pc := 64) d_Reader_lineSort_64 rfl (Nat.le_of_ble_eq_true rfl) (Nat.le_of_ble_eq_true rfl)
          · refine PJ.iconst (pc := 52) (v := 3) d_Reader_lineSort_52 (by decide) ?_
            exact PJ.iretp (pc := 53) d_Reader_lineSort_53 rfl (Nat.le_of_ble_eq_true rfl) (Nat.le_of_ble_eq_true rfl)
        · refine PJ.iconst (pc := 41) (v := 2) d_Reader_lineSort_41 (by decide) ?_
          exact PJ.iretp (pc := 42) d_Reader_lineSort_42 rfl (Nat.le_of_ble_eq_true rfl) (Nat.le_of_ble_eq_true rfl)
      · refine PJ.iconst (pc := 30) (v := 1) d_Reader_lineSort_30 (by decide) ?_
        exact PJ.iretp (pc := 31) d_Reader_lineSort_31 rfl (Nat.le_of_ble_eq_true rfl) (Nat.le_of_ble_eq_true rfl)
    · refine PJ.iconst (pc := 19) (v := 0) d_Reader_lineSort_19 (by decide) ?_
      exact PJ.iretp (pc := 20) d_Reader_lineSort_20 rfl (Nat.le_of_ble_eq_true rfl) (Nat.le_of_ble_eq_true rfl)
  · refine PJ.iconst (pc := 8) (v := -1) d_Reader_lineSort_8 (by decide) ?_
    exact PJ.iretp (pc := 9) d_Reader_lineSort_9 rfl (Nat.le_of_ble_eq_true rfl) (Nat.le_of_ble_eq_true rfl)
theorem d_Reader_fail_0 : decode Y_Reader_fail.2.1 0 = .ok (.aload_n 0, 1) := by decide +kernel
theorem d_Reader_fail_1 : decode Y_Reader_fail.2.1 1 = .ok (.getfield 28, 3) := by decide +kernel
theorem d_Reader_fail_4 : decode Y_Reader_fail.2.1 4 = .ok (.ifCond .ne 13, 3) := by decide +kernel
theorem d_Reader_fail_7 : decode Y_Reader_fail.2.1 7 = .ok (.aload_n 0, 1) := by decide +kernel
theorem d_Reader_fail_8 : decode Y_Reader_fail.2.1 8 = .ok (.iload_n 1, 1) := by decide +kernel
theorem d_Reader_fail_9 : decode Y_Reader_fail.2.1 9 = .ok (.putfield 28, 3) := by decide +kernel
theorem d_Reader_fail_12 : decode Y_Reader_fail.2.1 12 = .ok (.aload_n 0, 1) := by decide +kernel
theorem d_Reader_fail_13 : decode Y_Reader_fail.2.1 13 = .ok (.iload_n 2, 1) := by decide +kernel
theorem d_Reader_fail_14 : decode Y_Reader_fail.2.1 14 = .ok (.putfield 31, 3) := by decide +kernel
theorem d_Reader_fail_17 : decode Y_Reader_fail.2.1 17 = .ok (.return_, 1) := by decide +kernel
def f_Reader_fail (h : PH) (a0 : Option Nat) (a1 : Int32) (a2 : Int32) : Option PH := (gI h 5 a0 7).bind fun v1 => if ¬ v1 = 0 then (some h) else ((sF h 5 a0 7 (.inl a1)).bind fun h2 => (sF h2 5 a0 8 (.inl a2)).bind fun h3 => some h3)
set_option maxRecDepth 20000 in
theorem PM_Reader_fail {l : Launch} {G : Cx} {h : PH} {a0 : Option Nat} {a1 : Int32} {a2 : Int32} {z : PH} (hz : f_Reader_fail h a0 a1 a2 = some z) : PM l G 1 0 0 Y_Reader_fail [.inr (.inr a0), .inl a1, .inl a2] h (none, z) := by
  refine PM.of (Y := Y_Reader_fail) (cv := (fun z : PH => (((none, z) : Option PV × PH)))) (by decide) (L0 := [some (.inr (.inr a0)), some (.inl a1), some (.inl a2)]) 0 rfl (Nat.le_of_ble_eq_true rfl) ?_ hz
  unfold f_Reader_fail
  refine PJ.aload_n (pc := 0) d_Reader_fail_0 rfl ?_
  refine PJ.getI (pc := 1) fs_Reader_28 d_Reader_fail_1 (fun v1 => ?_)
  refine PJ.if_ne (pc := 4) (tgt := 17) d_Reader_fail_4 (by decide) (fun _ => ?_) (fun _ => ?_)
  · exact PJ.vret (pc := 17) d_Reader_fail_17 rfl (Nat.le_of_ble_eq_true rfl) (Nat.le_of_ble_eq_true rfl)
  · refine PJ.aload_n (pc := 7) d_Reader_fail_7 rfl ?_
    refine PJ.iload_n (pc := 8) d_Reader_fail_8 rfl ?_
    refine PJ.putI (pc := 9) ps_Reader_28 d_Reader_fail_9 (fun h2 => ?_)
    refine PJ.aload_n (pc := 12) d_Reader_fail_12 rfl ?_
    refine PJ.iload_n (pc := 13) d_Reader_fail_13 rfl ?_
    refine PJ.putI (pc := 14) ps_Reader_31 d_Reader_fail_14 (fun h3 => ?_)
    exact PJ.vret (pc := 17) d_Reader_fail_17 rfl (Nat.le_of_ble_eq_true rfl) (Nat.le_of_ble_eq_true rfl)
theorem d_Reader_isFull_0 : decode Y_Reader_isFull.2.1 0 = .ok (.iload_n 1, 1) := by decide +kernel
theorem d_Reader_isFull_1 : decode Y_Reader_isFull.2.1 1 = .ok (.tableswitch 181 1 8 #[47, 181, 64, 81, 99, 119, 139, 160], 47) := by decide +kernel
theorem d_Reader_isFull_48 : decode Y_Reader_isFull.2.1 48 = .ok (.aload_n 0, 1) := by decide +kernel
theorem d_Reader_isFull_49 : decode Y_Reader_isFull.2.1 49 = .ok (.getfield 54, 3) := by decide +kernel
theorem d_Reader_isFull_52 : decode Y_Reader_isFull.2.1 52 = .ok (.getfield 79, 3) := by decide +kernel
theorem d_Reader_isFull_55 : decode Y_Reader_isFull.2.1 55 = .ok (.iconst 5, 1) := by decide +kernel
theorem d_Reader_isFull_56 : decode Y_Reader_isFull.2.1 56 = .ok (.if_icmp .lt 7, 3) := by decide +kernel
theorem d_Reader_isFull_59 : decode Y_Reader_isFull.2.1 59 = .ok (.iconst 1, 1) := by decide +kernel
theorem d_Reader_isFull_60 : decode Y_Reader_isFull.2.1 60 = .ok (.goto 4, 3) := by decide +kernel
theorem d_Reader_isFull_63 : decode Y_Reader_isFull.2.1 63 = .ok (.iconst 0, 1) := by decide +kernel
theorem d_Reader_isFull_64 : decode Y_Reader_isFull.2.1 64 = .ok (.ireturn, 1) := by decide +kernel
theorem d_Reader_isFull_65 : decode Y_Reader_isFull.2.1 65 = .ok (.aload_n 0, 1) := by decide +kernel
theorem d_Reader_isFull_66 : decode Y_Reader_isFull.2.1 66 = .ok (.getfield 54, 3) := by decide +kernel
theorem d_Reader_isFull_69 : decode Y_Reader_isFull.2.1 69 = .ok (.getfield 154, 3) := by decide +kernel
theorem d_Reader_isFull_72 : decode Y_Reader_isFull.2.1 72 = .ok (.iconst 5, 1) := by decide +kernel
theorem d_Reader_isFull_73 : decode Y_Reader_isFull.2.1 73 = .ok (.if_icmp .lt 7, 3) := by decide +kernel
theorem d_Reader_isFull_76 : decode Y_Reader_isFull.2.1 76 = .ok (.iconst 1, 1) := by decide +kernel
theorem d_Reader_isFull_77 : decode Y_Reader_isFull.2.1 77 = .ok (.goto 4, 3) := by decide +kernel
theorem d_Reader_isFull_80 : decode Y_Reader_isFull.2.1 80 = .ok (.iconst 0, 1) := by decide +kernel
theorem d_Reader_isFull_81 : decode Y_Reader_isFull.2.1 81 = .ok (.ireturn, 1) := by decide +kernel
theorem d_Reader_isFull_82 : decode Y_Reader_isFull.2.1 82 = .ok (.aload_n 0, 1) := by decide +kernel
theorem d_Reader_isFull_83 : decode Y_Reader_isFull.2.1 83 = .ok (.getfield 54, 3) := by decide +kernel
theorem d_Reader_isFull_86 : decode Y_Reader_isFull.2.1 86 = .ok (.getfield 157, 3) := by decide +kernel
theorem d_Reader_isFull_89 : decode Y_Reader_isFull.2.1 89 = .ok (.bipush 12, 2) := by decide +kernel
theorem d_Reader_isFull_91 : decode Y_Reader_isFull.2.1 91 = .ok (.if_icmp .lt 7, 3) := by decide +kernel
theorem d_Reader_isFull_94 : decode Y_Reader_isFull.2.1 94 = .ok (.iconst 1, 1) := by decide +kernel
theorem d_Reader_isFull_95 : decode Y_Reader_isFull.2.1 95 = .ok (.goto 4, 3) := by decide +kernel
theorem d_Reader_isFull_98 : decode Y_Reader_isFull.2.1 98 = .ok (.iconst 0, 1) := by decide +kernel
theorem d_Reader_isFull_99 : decode Y_Reader_isFull.2.1 99 = .ok (.ireturn, 1) := by decide +kernel
theorem d_Reader_isFull_100 : decode Y_Reader_isFull.2.1 100 = .ok (.aload_n 0, 1) := by decide +kernel
theorem d_Reader_isFull_101 : decode Y_Reader_isFull.2.1 101 = .ok (.getfield 54, 3) := by decide +kernel
theorem d_Reader_isFull_104 : decode Y_Reader_isFull.2.1 104 = .ok (.getfield 160, 3) := by decide +kernel
theorem d_Reader_isFull_107 : decode Y_Reader_isFull.2.1 107 = .ok (.getfield 164, 3) := by decide +kernel
theorem d_Reader_isFull_110 : decode Y_Reader_isFull.2.1 110 = .ok (.iconst 4, 1) := by decide +kernel
theorem d_Reader_isFull_111 : decode Y_Reader_isFull.2.1 111 = .ok (.if_icmp .lt 7, 3) := by decide +kernel
theorem d_Reader_isFull_114 : decode Y_Reader_isFull.2.1 114 = .ok (.iconst 1, 1) := by decide +kernel
theorem d_Reader_isFull_115 : decode Y_Reader_isFull.2.1 115 = .ok (.goto 4, 3) := by decide +kernel
theorem d_Reader_isFull_118 : decode Y_Reader_isFull.2.1 118 = .ok (.iconst 0, 1) := by decide +kernel
theorem d_Reader_isFull_119 : decode Y_Reader_isFull.2.1 119 = .ok (.ireturn, 1) := by decide +kernel
theorem d_Reader_isFull_120 : decode Y_Reader_isFull.2.1 120 = .ok (.aload_n 0, 1) := by decide +kernel
theorem d_Reader_isFull_121 : decode Y_Reader_isFull.2.1 121 = .ok (.getfield 54, 3) := by decide +kernel
theorem d_Reader_isFull_124 : decode Y_Reader_isFull.2.1 124 = .ok (.getfield 169, 3) := by decide +kernel
theorem d_Reader_isFull_127 : decode Y_Reader_isFull.2.1 127 = .ok (.getfield 173, 3) := by decide +kernel
theorem d_Reader_isFull_130 : decode Y_Reader_isFull.2.1 130 = .ok (.iconst 5, 1) := by decide +kernel
theorem d_Reader_isFull_131 : decode Y_Reader_isFull.2.1 131 = .ok (.if_icmp .lt 7, 3) := by decide +kernel
theorem d_Reader_isFull_134 : decode Y_Reader_isFull.2.1 134 = .ok (.iconst 1, 1) := by decide +kernel
theorem d_Reader_isFull_135 : decode Y_Reader_isFull.2.1 135 = .ok (.goto 4, 3) := by decide +kernel
theorem d_Reader_isFull_138 : decode Y_Reader_isFull.2.1 138 = .ok (.iconst 0, 1) := by decide +kernel
theorem d_Reader_isFull_139 : decode Y_Reader_isFull.2.1 139 = .ok (.ireturn, 1) := by decide +kernel
theorem d_Reader_isFull_140 : decode Y_Reader_isFull.2.1 140 = .ok (.aload_n 0, 1) := by decide +kernel
theorem d_Reader_isFull_141 : decode Y_Reader_isFull.2.1 141 = .ok (.getfield 54, 3) := by decide +kernel
theorem d_Reader_isFull_144 : decode Y_Reader_isFull.2.1 144 = .ok (.getfield 176, 3) := by decide +kernel
theorem d_Reader_isFull_147 : decode Y_Reader_isFull.2.1 147 = .ok (.getfield 180, 3) := by decide +kernel
theorem d_Reader_isFull_150 : decode Y_Reader_isFull.2.1 150 = .ok (.bipush 6, 2) := by decide +kernel
theorem d_Reader_isFull_152 : decode Y_Reader_isFull.2.1 152 = .ok (.if_icmp .lt 7, 3) := by decide +kernel
theorem d_Reader_isFull_155 : decode Y_Reader_isFull.2.1 155 = .ok (.iconst 1, 1) := by decide +kernel
theorem d_Reader_isFull_156 : decode Y_Reader_isFull.2.1 156 = .ok (.goto 4, 3) := by decide +kernel
theorem d_Reader_isFull_159 : decode Y_Reader_isFull.2.1 159 = .ok (.iconst 0, 1) := by decide +kernel
theorem d_Reader_isFull_160 : decode Y_Reader_isFull.2.1 160 = .ok (.ireturn, 1) := by decide +kernel
theorem d_Reader_isFull_161 : decode Y_Reader_isFull.2.1 161 = .ok (.aload_n 0, 1) := by decide +kernel
theorem d_Reader_isFull_162 : decode Y_Reader_isFull.2.1 162 = .ok (.getfield 54, 3) := by decide +kernel
theorem d_Reader_isFull_165 : decode Y_Reader_isFull.2.1 165 = .ok (.getfield 176, 3) := by decide +kernel
theorem d_Reader_isFull_168 : decode Y_Reader_isFull.2.1 168 = .ok (.getfield 183, 3) := by decide +kernel
theorem d_Reader_isFull_171 : decode Y_Reader_isFull.2.1 171 = .ok (.bipush 8, 2) := by decide +kernel
theorem d_Reader_isFull_173 : decode Y_Reader_isFull.2.1 173 = .ok (.if_icmp .lt 7, 3) := by decide +kernel
theorem d_Reader_isFull_176 : decode Y_Reader_isFull.2.1 176 = .ok (.iconst 1, 1) := by decide +kernel
theorem d_Reader_isFull_177 : decode Y_Reader_isFull.2.1 177 = .ok (.goto 4, 3) := by decide +kernel
theorem d_Reader_isFull_180 : decode Y_Reader_isFull.2.1 180 = .ok (.iconst 0, 1) := by decide +kernel
theorem d_Reader_isFull_181 : decode Y_Reader_isFull.2.1 181 = .ok (.ireturn, 1) := by decide +kernel
theorem d_Reader_isFull_182 : decode Y_Reader_isFull.2.1 182 = .ok (.iconst 0, 1) := by decide +kernel
theorem d_Reader_isFull_183 : decode Y_Reader_isFull.2.1 183 = .ok (.ireturn, 1) := by decide +kernel
def f_Reader_isFull (h : PH) (a0 : Option Nat) (a1 : Int32) : Option Int32 := if a1.toInt < 1 ∨ 8 < a1.toInt then (some (0 : Int32)) else (if a1 = (1 : Int32) then ((gR h 5 a0 2).bind fun v1 => (gI h 1 v1 2).bind fun v2 => if v2 < (5 : Int32) then (some (0 : Int32)) else (some (1 : Int32))) else (if a1 = (2 : Int32) then (some (0 : Int32)) else (if a1 = (3 : Int32) then ((gR h 5 a0 2).bind fun v3 => (gI h 1 v3 3).bind fun v4 => if v4 < (5 : Int32) then (some (0 : Int32)) else (some (1 : Int32))) else (if a1 = (4 : Int32) then ((gR h 5 a0 2).bind fun v5 => (gI h 1 v5 4).bind fun v6 => if v6 < (12 : Int32) then (some (0 : Int32)) else (some (1 : Int32))) else (if a1 = (5 : Int32) then ((gR h 5 a0 2).bind fun v7 => (gR h 1 v7 10).bind fun v8 => (gI h 6 v8 0).bind fun v9 => if v9 < (4 : Int32) then (some (0 : Int32)) else (some (1 : Int32))) else (if a1 = (6 : Int32) then ((gR h 5 a0 2).bind fun v10 => (gR h 1 v10 11).bind fun v11 => (gI h 7 v11 0).bind fun v12 => if v12 < (5 : Int32) then (some (0 : Int32)) else (some (1 : Int32))) else (if a1 = (7 : Int32) then ((gR h 5 a0 2).bind fun v13 => (gR h 1 v13 12).bind fun v14 => (gI h 9 v14 0).bind fun v15 => if v15 < (6 : Int32) then (some (0 : Int32)) else (some (1 : Int32))) else (if a1 = (8 : Int32) then ((gR h 5 a0 2).bind fun v16 => (gR h 1 v16 12).bind fun v17 => (gI h 9 v17 1).bind fun v18 => if v18 < (8 : Int32) then (some (0 : Int32)) else (some (1 : Int32))) else (none)))))))))
set_option maxRecDepth 20000 in
theorem PM_Reader_isFull {l : Launch} {G : Cx} {h : PH} {a0 : Option Nat} {a1 : Int32} {z : Int32} (hz : f_Reader_isFull h a0 a1 = some z) : PM l G 1 0 0 Y_Reader_isFull [.inr (.inr a0), .inl a1] h (some (.inl z), h) := by
  refine PM.of (Y := Y_Reader_isFull) (cv := (fun z : Int32 => (((some (.inl z), h) : Option PV × PH)))) (by decide) (L0 := [some (.inr (.inr a0)), some (.inl a1)]) 0 rfl (Nat.le_of_ble_eq_true rfl) ?_ hz
  unfold f_Reader_isFull
  refine PJ.iload_n (pc := 0) d_Reader_isFull_0 rfl ?_
  refine PJ.swo (pc := 1) (tgt := 182) d_Reader_isFull_1 (by decide) (fun _ => ?_) (fun _ => ?_)
  · refine PJ.iconst (pc := 182) (v := 0) d_Reader_isFull_182 (by decide) ?_
    exact PJ.zretp (pc := 183) d_Reader_isFull_183 rfl rfl (Nat.le_of_ble_eq_true rfl) (Nat.le_of_ble_eq_true rfl)
  · refine PJ.swc (pc := 1) (tgt := 48) (off := 47) (1 : Int32) d_Reader_isFull_1 (by decide +kernel) (by decide +kernel) (by decide +kernel) (by decide) (fun _ => ?_) (fun _ => ?_)
    · refine PJ.aload_n (pc := 48) d_Reader_isFull_48 rfl ?_
      refine PJ.getR (pc := 49) fs_Reader_54 d_Reader_isFull_49 (fun v1 => ?_)
      refine PJ.getI (pc := 52) fs_Reader_79 d_Reader_isFull_52 (fun v2 => ?_)
      refine PJ.iconst (pc := 55) (v := 5) d_Reader_isFull_55 (by decide) ?_
      refine PJ.icmp_lt (pc := 56) (tgt := 63) d_Reader_isFull_56 (by decide) (fun _ => ?_) (fun _ => ?_)
      · refine PJ.iconst (pc := 63) (v := 0) d_Reader_isFull_63 (by decide) ?_
        exact PJ.zretp (pc := 64) d_Reader_isFull_64 rfl rfl (Nat.le_of_ble_eq_true rfl) (Nat.le_of_ble_eq_true rfl)
      · refine PJ.iconst (pc := 59) (v := 1) d_Reader_isFull_59 (by decide) ?_
        refine PJ.goto (pc := 60) (tgt := 64) d_Reader_isFull_60 (by decide) ?_
        exact PJ.zretp (pc := 64) d_Reader_isFull_64 rfl rfl (Nat.le_of_ble_eq_true rfl) (Nat.le_of_ble_eq_true rfl)
    · refine PJ.swc (pc := 1) (tgt := 182) (off := 181) (2 : Int32) d_Reader_isFull_1 (by decide +kernel) (by decide +kernel) (by decide +kernel) (by decide) (fun _ => ?_) (fun _ => ?_)
      · refine PJ.iconst (pc := 182) (v := 0) d_Reader_isFull_182 (by decide) ?_
        exact PJ.zretp (pc := 183) d_Reader_isFull_183 rfl rfl (Nat.le_of_ble_eq_true rfl) (Nat.le_of_ble_eq_true rfl)
      · refine PJ.swc (pc := 1) (tgt := 65) (off := 64) (3 : Int32) d_Reader_isFull_1 (by decide +kernel) (by decide +kernel) (by decide +kernel) (by decide) (fun _ => ?_) (fun _ => ?_)
        · refine PJ.aload_n (pc := 65) d_Reader_isFull_65 rfl ?_
          refine PJ.getR (pc := 66) fs_Reader_54 d_Reader_isFull_66 (fun v3 => ?_)
          refine PJ.getI (pc := 69) fs_Reader_154 d_Reader_isFull_69 (fun v4 => ?_)
          refine PJ.iconst (pc := 72) (v := 5) d_Reader_isFull_72 (by decide) ?_
          refine PJ.icmp_lt (pc := 73) (tgt := 80) d_Reader_isFull_73 (by decide) (fun _ => ?_) (fun _ => ?_)
          · refine PJ.iconst (pc := 80) (v := 0) d_Reader_isFull_80 (by decide) ?_
            exact PJ.zretp (pc := 81) d_Reader_isFull_81 rfl rfl (Nat.le_of_ble_eq_true rfl) (Nat.le_of_ble_eq_true rfl)
          · refine PJ.iconst (pc := 76) (v := 1) d_Reader_isFull_76 (by decide) ?_
            refine PJ.goto (pc := 77) (tgt := 81) d_Reader_isFull_77 (by decide) ?_
            exact PJ.zretp (pc := 81) d_Reader_isFull_81 rfl rfl (Nat.le_of_ble_eq_true rfl) (Nat.le_of_ble_eq_true rfl)
        · refine PJ.swc (pc := 1) (tgt := 82) (off := 81) (4 : Int32) d_Reader_isFull_1 (by decide +kernel) (by decide +kernel) (by decide +kernel) (by decide) (fun _ => ?_) (fun _ => ?_)
          · refine PJ.aload_n (pc := 82) d_Reader_isFull_82 rfl ?_
            refine PJ.getR (pc := 83) fs_Reader_54 d_Reader_isFull_83 (fun v5 => ?_)
            refine PJ.getI (pc := 86) fs_Reader_157 d_Reader_isFull_86 (fun v6 => ?_)
            refine PJ.bipush (pc := 89) (v := 12) d_Reader_isFull_89 (by decide) ?_
            refine PJ.icmp_lt (pc := 91) (tgt := 98) d_Reader_isFull_91 (by decide) (fun _ => ?_) (fun _ => ?_)
            · refine PJ.iconst (pc := 98) (v := 0) d_Reader_isFull_98 (by decide) ?_
              exact PJ.zretp (pc := 99) d_Reader_isFull_99 rfl rfl (Nat.le_of_ble_eq_true rfl) (Nat.le_of_ble_eq_true rfl)
            · refine PJ.iconst (pc := 94) (v := 1) d_Reader_isFull_94 (by decide) ?_
              refine PJ.goto (pc := 95) (tgt := 99) d_Reader_isFull_95 (by decide) ?_
              exact PJ.zretp (pc := 99) d_Reader_isFull_99 rfl rfl (Nat.le_of_ble_eq_true rfl) (Nat.le_of_ble_eq_true rfl)
          · refine PJ.swc (pc := 1) (tgt := 100) (off := 99) (5 : Int32) d_Reader_isFull_1 (by decide +kernel) (by decide +kernel) (by decide +kernel) (by decide) (fun _ => ?_) (fun _ => ?_)
            · refine PJ.aload_n (pc := 100) d_Reader_isFull_100 rfl ?_
              refine PJ.getR (pc := 101) fs_Reader_54 d_Reader_isFull_101 (fun v7 => ?_)
              refine PJ.getR (pc := 104) fs_Reader_160 d_Reader_isFull_104 (fun v8 => ?_)
              refine PJ.getI (pc := 107) fs_Reader_164 d_Reader_isFull_107 (fun v9 => ?_)
              refine PJ.iconst (pc := 110) (v := 4) d_Reader_isFull_110 (by decide) ?_
              refine PJ.icmp_lt (pc := 111) (tgt := 118) d_Reader_isFull_111 (by decide) (fun _ => ?_) (fun _ => ?_)
              · refine PJ.iconst (pc := 118) (v := 0) d_Reader_isFull_118 (by decide) ?_
                exact PJ.zretp (pc := 119) d_Reader_isFull_119 rfl rfl (Nat.le_of_ble_eq_true rfl) (Nat.le_of_ble_eq_true rfl)
              · refine PJ.iconst (pc := 114) (v := 1) d_Reader_isFull_114 (by decide) ?_
                refine PJ.goto (pc := 115) (tgt := 119) d_Reader_isFull_115 (by decide) ?_
                exact PJ.zretp (pc := 119) d_Reader_isFull_119 rfl rfl (Nat.le_of_ble_eq_true rfl) (Nat.le_of_ble_eq_true rfl)
            · refine PJ.swc (pc := 1) (tgt := 120) (off := 119) (6 : Int32) d_Reader_isFull_1 (by decide +kernel) (by decide +kernel) (by decide +kernel) (by decide) (fun _ => ?_) (fun _ => ?_)
              · refine PJ.aload_n (pc := 120) d_Reader_isFull_120 rfl ?_
                refine PJ.getR (pc := 121) fs_Reader_54 d_Reader_isFull_121 (fun v10 => ?_)
                refine PJ.getR (pc := 124) fs_Reader_169 d_Reader_isFull_124 (fun v11 => ?_)
                refine PJ.getI (pc := 127) fs_Reader_173 d_Reader_isFull_127 (fun v12 => ?_)
                refine PJ.iconst (pc := 130) (v := 5) d_Reader_isFull_130 (by decide) ?_
                refine PJ.icmp_lt (pc := 131) (tgt := 138) d_Reader_isFull_131 (by decide) (fun _ => ?_) (fun _ => ?_)
                · refine PJ.iconst (pc := 138) (v := 0) d_Reader_isFull_138 (by decide) ?_
                  exact PJ.zretp (pc := 139) d_Reader_isFull_139 rfl rfl (Nat.le_of_ble_eq_true rfl) (Nat.le_of_ble_eq_true rfl)
                · refine PJ.iconst (pc := 134) (v := 1) d_Reader_isFull_134 (by decide) ?_
                  refine PJ.goto (pc := 135) (tgt := 139) d_Reader_isFull_135 (by decide) ?_
                  exact PJ.zretp (pc := 139) d_Reader_isFull_139 rfl rfl (Nat.le_of_ble_eq_true rfl) (Nat.le_of_ble_eq_true rfl)
              · refine PJ.swc (pc := 1) (tgt := 140) (off := 139) (7 : Int32) d_Reader_isFull_1 (by decide +kernel) (by decide +kernel) (by decide +kernel) (by decide) (fun _ => ?_) (fun _ => ?_)
                · refine PJ.aload_n (pc := 140) d_Reader_isFull_140 rfl ?_
                  refine PJ.getR (pc := 141) fs_Reader_54 d_Reader_isFull_141 (fun v13 => ?_)
                  refine PJ.getR (pc := 144) fs_Reader_176 d_Reader_isFull_144 (fun v14 => ?_)
                  refine PJ.getI (pc := 147) fs_Reader_180 d_Reader_isFull_147 (fun v15 => ?_)
                  refine PJ.bipush (pc := 150) (v := 6) d_Reader_isFull_150 (by decide) ?_
                  refine PJ.icmp_lt (pc := 152) (tgt := 159) d_Reader_isFull_152 (by decide) (fun _ => ?_) (fun _ => ?_)
                  · refine PJ.iconst (pc := 159) (v := 0) d_Reader_isFull_159 (by decide) ?_
                    exact PJ.zretp (pc := 160) d_Reader_isFull_160 rfl rfl (Nat.le_of_ble_eq_true rfl) (Nat.le_of_ble_eq_true rfl)
                  · refine PJ.iconst (pc := 155) (v := 1) d_Reader_isFull_155 (by decide) ?_
                    refine PJ.goto (pc := 156) (tgt := 160) d_Reader_isFull_156 (by decide) ?_
                    exact PJ.zretp (pc := 160) d_Reader_isFull_160 rfl rfl (Nat.le_of_ble_eq_true rfl) (Nat.le_of_ble_eq_true rfl)
                · refine PJ.swc (pc := 1) (tgt := 161) (off := 160) (8 : Int32) d_Reader_isFull_1 (by decide +kernel) (by decide +kernel) (by decide +kernel) (by decide) (fun _ => ?_) (fun _ => ?_)
                  · refine PJ.aload_n (pc := 161) d_Reader_isFull_161 rfl ?_
                    refine PJ.getR (pc := 162) fs_Reader_54 d_Reader_isFull_162 (fun v16 => ?_)
                    refine PJ.getR (pc := 165) fs_Reader_176 d_Reader_isFull_165 (fun v17 => ?_)
                    refine PJ.getI (pc := 168) fs_Reader_183 d_Reader_isFull_168 (fun v18 => ?_)
                    refine PJ.bipush (pc := 171) (v := 8) d_Reader_isFull_171 (by decide) ?_
                    refine PJ.icmp_lt (pc := 173) (tgt := 180) d_Reader_isFull_173 (by decide) (fun _ => ?_) (fun _ => ?_)
                    · refine PJ.iconst (pc := 180) (v := 0) d_Reader_isFull_180 (by decide) ?_
                      exact PJ.zretp (pc := 181) d_Reader_isFull_181 rfl rfl (Nat.le_of_ble_eq_true rfl) (Nat.le_of_ble_eq_true rfl)
                    · refine PJ.iconst (pc := 176) (v := 1) d_Reader_isFull_176 (by decide) ?_
                      refine PJ.goto (pc := 177) (tgt := 181) d_Reader_isFull_177 (by decide) ?_
                      exact PJ.zretp (pc := 181) d_Reader_isFull_181 rfl rfl (Nat.le_of_ble_eq_true rfl) (Nat.le_of_ble_eq_true rfl)
                  · exact PJ.nn
theorem d_Reader_keyword_0 : decode Y_Reader_keyword.2.1 0 = .ok (.aload_n 0, 1) := by decide +kernel
theorem d_Reader_keyword_1 : decode Y_Reader_keyword.2.1 1 = .ok (.getfield 28, 3) := by decide +kernel
theorem d_Reader_keyword_4 : decode Y_Reader_keyword.2.1 4 = .ok (.ifCond .eq 4, 3) := by decide +kernel
theorem d_Reader_keyword_7 : decode Y_Reader_keyword.2.1 7 = .ok (.return_, 1) := by decide +kernel
theorem d_Reader_keyword_8 : decode Y_Reader_keyword.2.1 8 = .ok (.aload_n 0, 1) := by decide +kernel
theorem d_Reader_keyword_9 : decode Y_Reader_keyword.2.1 9 = .ok (.aload_n 1, 1) := by decide +kernel
theorem d_Reader_keyword_10 : decode Y_Reader_keyword.2.1 10 = .ok (.invokevirtual 125, 3) := by decide +kernel
theorem d_Reader_keyword_13 : decode Y_Reader_keyword.2.1 13 = .ok (.ifCond .eq 10, 3) := by decide +kernel
theorem d_Reader_keyword_16 : decode Y_Reader_keyword.2.1 16 = .ok (.aload_n 0, 1) := by decide +kernel
theorem d_Reader_keyword_17 : decode Y_Reader_keyword.2.1 17 = .ok (.invokevirtual 69, 3) := by decide +kernel
theorem d_Reader_keyword_20 : decode Y_Reader_keyword.2.1 20 = .ok (.goto 12, 3) := by decide +kernel
theorem d_Reader_keyword_23 : decode Y_Reader_keyword.2.1 23 = .ok (.aload_n 0, 1) := by decide +kernel
theorem d_Reader_keyword_24 : decode Y_Reader_keyword.2.1 24 = .ok (.iconst 1, 1) := by decide +kernel
theorem d_Reader_keyword_25 : decode Y_Reader_keyword.2.1 25 = .ok (.aload_n 0, 1) := by decide +kernel
theorem d_Reader_keyword_26 : decode Y_Reader_keyword.2.1 26 = .ok (.getfield 22, 3) := by decide +kernel
theorem d_Reader_keyword_29 : decode Y_Reader_keyword.2.1 29 = .ok (.invokevirtual 75, 3) := by decide +kernel
theorem d_Reader_keyword_32 : decode Y_Reader_keyword.2.1 32 = .ok (.return_, 1) := by decide +kernel
def f_Reader_keyword (h : PH) (a0 : Option Nat) (a1 : Option Nat) : Option PH := (gI h 5 a0 7).bind fun v1 => if v1 = 0 then ((cl h 5 a0 (f_Reader_is h a0 a1)).bind fun v2 => if v2 = 0 then ((gI h 5 a0 5).bind fun v3 => (cl h 5 a0 (f_Reader_fail h a0 (1 : Int32) v3)).bind fun h4 => some h4) else ((cl h 5 a0 (f_Reader_next h a0)).bind fun h5 => some h5)) else (some h)
set_option maxRecDepth 20000 in
theorem PM_Reader_keyword {l : Launch} {G : Cx} {h : PH} {a0 : Option Nat} {a1 : Option Nat} {z : PH} (hz : f_Reader_keyword h a0 a1 = some z) : PM l G 8 0 0 Y_Reader_keyword [.inr (.inr a0), .inr (.inr a1)] h (none, z) := by
  refine PM.of (Y := Y_Reader_keyword) (cv := (fun z : PH => (((none, z) : Option PV × PH)))) (by decide) (L0 := [some (.inr (.inr a0)), some (.inr (.inr a1))]) 0 rfl (Nat.le_of_ble_eq_true rfl) ?_ hz
  unfold f_Reader_keyword
  refine PJ.aload_n (pc := 0) d_Reader_keyword_0 rfl ?_
  refine PJ.getI (pc := 1) fs_Reader_28 d_Reader_keyword_1 (fun v1 => ?_)
  refine PJ.if_eq (pc := 4) (tgt := 8) d_Reader_keyword_4 (by decide) (fun _ => ?_) (fun _ => ?_)
  · refine PJ.aload_n (pc := 8) d_Reader_keyword_8 rfl ?_
    refine PJ.aload_n (pc := 9) d_Reader_keyword_9 rfl ?_
    refine PJ.cVpI (pc := 10) cs_Reader_125 (fun z hz => PM_Reader_is hz) (pj_fitb rfl) rfl rfl (Nat.le_of_ble_eq_true rfl) d_Reader_keyword_10 (fun v2 => ?_)
    refine PJ.if_eq (pc := 13) (tgt := 23) d_Reader_keyword_13 (by decide) (fun _ => ?_) (fun _ => ?_)
    · refine PJ.aload_n (pc := 23) d_Reader_keyword_23 rfl ?_
      refine PJ.iconst (pc := 24) (v := 1) d_Reader_keyword_24 (by decide) ?_
      refine PJ.aload_n (pc := 25) d_Reader_keyword_25 rfl ?_
      refine PJ.getI (pc := 26) fs_Reader_22 d_Reader_keyword_26 (fun v3 => ?_)
      refine PJ.cVV (pc := 29) cs_Reader_75 (fun z hz => PM_Reader_fail hz) (pj_fitb rfl) rfl rfl (Nat.le_of_ble_eq_true rfl) d_Reader_keyword_29 (fun h4 => ?_)
      exact PJ.vret (pc := 32) d_Reader_keyword_32 rfl (Nat.le_of_ble_eq_true rfl) (Nat.le_of_ble_eq_true rfl)
    · refine PJ.aload_n (pc := 16) d_Reader_keyword_16 rfl ?_
      refine PJ.cVV (pc := 17) cs_Reader_69 (fun z hz => PM_Reader_next hz) (pj_fitb rfl) rfl rfl (Nat.le_of_ble_eq_true rfl) d_Reader_keyword_17 (fun h5 => ?_)
      refine PJ.goto (pc := 20) (tgt := 32) d_Reader_keyword_20 (by decide) ?_
      exact PJ.vret (pc := 32) d_Reader_keyword_32 rfl (Nat.le_of_ble_eq_true rfl) (Nat.le_of_ble_eq_true rfl)
  · exact PJ.vret (pc := 7) d_Reader_keyword_7 rfl (Nat.le_of_ble_eq_true rfl) (Nat.le_of_ble_eq_true rfl)
theorem d_Reader_whole_0 : decode Y_Reader_whole.2.1 0 = .ok (.aload_n 0, 1) := by decide +kernel
theorem d_Reader_whole_1 : decode Y_Reader_whole.2.1 1 = .ok (.getfield 28, 3) := by decide +kernel
theorem d_Reader_whole_4 : decode Y_Reader_whole.2.1 4 = .ok (.ifCond .eq 5, 3) := by decide +kernel
theorem d_Reader_whole_7 : decode Y_Reader_whole.2.1 7 = .ok (.iload_n 1, 1) := by decide +kernel
theorem d_Reader_whole_8 : decode Y_Reader_whole.2.1 8 = .ok (.ireturn, 1) := by decide +kernel
theorem d_Reader_whole_9 : decode Y_Reader_whole.2.1 9 = .ok (.aload_n 0, 1) := by decide +kernel
theorem d_Reader_whole_10 : decode Y_Reader_whole.2.1 10 = .ok (.getfield 19, 3) := by decide +kernel
theorem d_Reader_whole_13 : decode Y_Reader_whole.2.1 13 = .ok (.iconst 2, 1) := by decide +kernel
theorem d_Reader_whole_14 : decode Y_Reader_whole.2.1 14 = .ok (.if_icmp .eq 14, 3) := by decide +kernel
theorem d_Reader_whole_17 : decode Y_Reader_whole.2.1 17 = .ok (.aload_n 0, 1) := by decide +kernel
theorem d_Reader_whole_18 : decode Y_Reader_whole.2.1 18 = .ok (.iconst 1, 1) := by decide +kernel
theorem d_Reader_whole_19 : decode Y_Reader_whole.2.1 19 = .ok (.aload_n 0, 1) := by decide +kernel
theorem d_Reader_whole_20 : decode Y_Reader_whole.2.1 20 = .ok (.getfield 22, 3) := by decide +kernel
theorem d_Reader_whole_23 : decode Y_Reader_whole.2.1 23 = .ok (.invokevirtual 75, 3) := by decide +kernel
theorem d_Reader_whole_26 : decode Y_Reader_whole.2.1 26 = .ok (.iload_n 1, 1) := by decide +kernel
theorem d_Reader_whole_27 : decode Y_Reader_whole.2.1 27 = .ok (.ireturn, 1) := by decide +kernel
theorem d_Reader_whole_28 : decode Y_Reader_whole.2.1 28 = .ok (.iconst 0, 1) := by decide +kernel
theorem d_Reader_whole_29 : decode Y_Reader_whole.2.1 29 = .ok (.istore_n 3, 1) := by decide +kernel
theorem d_Reader_whole_30 : decode Y_Reader_whole.2.1 30 = .ok (.aload_n 0, 1) := by decide +kernel
theorem d_Reader_whole_31 : decode Y_Reader_whole.2.1 31 = .ok (.getfield 22, 3) := by decide +kernel
theorem d_Reader_whole_34 : decode Y_Reader_whole.2.1 34 = .ok (.istore 4, 2) := by decide +kernel
theorem d_Reader_whole_36 : decode Y_Reader_whole.2.1 36 = .ok (.iload 4, 2) := by decide +kernel
theorem d_Reader_whole_38 : decode Y_Reader_whole.2.1 38 = .ok (.aload_n 0, 1) := by decide +kernel
theorem d_Reader_whole_39 : decode Y_Reader_whole.2.1 39 = .ok (.getfield 25, 3) := by decide +kernel
theorem d_Reader_whole_42 : decode Y_Reader_whole.2.1 42 = .ok (.if_icmp .ge 25, 3) := by decide +kernel
theorem d_Reader_whole_45 : decode Y_Reader_whole.2.1 45 = .ok (.bipush 10, 2) := by decide +kernel
theorem d_Reader_whole_47 : decode Y_Reader_whole.2.1 47 = .ok (.iload_n 3, 1) := by decide +kernel
theorem d_Reader_whole_48 : decode Y_Reader_whole.2.1 48 = .ok (.imul, 1) := by decide +kernel
theorem d_Reader_whole_49 : decode Y_Reader_whole.2.1 49 = .ok (.aload_n 0, 1) := by decide +kernel
theorem d_Reader_whole_50 : decode Y_Reader_whole.2.1 50 = .ok (.getfield 50, 3) := by decide +kernel
theorem d_Reader_whole_53 : decode Y_Reader_whole.2.1 53 = .ok (.iload 4, 2) := by decide +kernel
theorem d_Reader_whole_55 : decode Y_Reader_whole.2.1 55 = .ok (.baload, 1) := by decide +kernel
theorem d_Reader_whole_56 : decode Y_Reader_whole.2.1 56 = .ok (.bipush 48, 2) := by decide +kernel
theorem d_Reader_whole_58 : decode Y_Reader_whole.2.1 58 = .ok (.isub, 1) := by decide +kernel
theorem d_Reader_whole_59 : decode Y_Reader_whole.2.1 59 = .ok (.iadd, 1) := by decide +kernel
theorem d_Reader_whole_60 : decode Y_Reader_whole.2.1 60 = .ok (.istore_n 3, 1) := by decide +kernel
theorem d_Reader_whole_61 : decode Y_Reader_whole.2.1 61 = .ok (.iinc 4 1, 3) := by decide +kernel
theorem d_Reader_whole_64 : decode Y_Reader_whole.2.1 64 = .ok (.goto (-28), 3) := by decide +kernel
theorem d_Reader_whole_67 : decode Y_Reader_whole.2.1 67 = .ok (.iload_n 3, 1) := by decide +kernel
theorem d_Reader_whole_68 : decode Y_Reader_whole.2.1 68 = .ok (.iload_n 1, 1) := by decide +kernel
theorem d_Reader_whole_69 : decode Y_Reader_whole.2.1 69 = .ok (.if_icmp .lt 8, 3) := by decide +kernel
theorem d_Reader_whole_72 : decode Y_Reader_whole.2.1 72 = .ok (.iload_n 3, 1) := by decide +kernel
theorem d_Reader_whole_73 : decode Y_Reader_whole.2.1 73 = .ok (.iload_n 2, 1) := by decide +kernel
theorem d_Reader_whole_74 : decode Y_Reader_whole.2.1 74 = .ok (.if_icmp .le 14, 3) := by decide +kernel
theorem d_Reader_whole_77 : decode Y_Reader_whole.2.1 77 = .ok (.aload_n 0, 1) := by decide +kernel
theorem d_Reader_whole_78 : decode Y_Reader_whole.2.1 78 = .ok (.iconst 4, 1) := by decide +kernel
theorem d_Reader_whole_79 : decode Y_Reader_whole.2.1 79 = .ok (.aload_n 0, 1) := by decide +kernel
theorem d_Reader_whole_80 : decode Y_Reader_whole.2.1 80 = .ok (.getfield 22, 3) := by decide +kernel
theorem d_Reader_whole_83 : decode Y_Reader_whole.2.1 83 = .ok (.invokevirtual 75, 3) := by decide +kernel
theorem d_Reader_whole_86 : decode Y_Reader_whole.2.1 86 = .ok (.iload_n 1, 1) := by decide +kernel
theorem d_Reader_whole_87 : decode Y_Reader_whole.2.1 87 = .ok (.ireturn, 1) := by decide +kernel
theorem d_Reader_whole_88 : decode Y_Reader_whole.2.1 88 = .ok (.aload_n 0, 1) := by decide +kernel
theorem d_Reader_whole_89 : decode Y_Reader_whole.2.1 89 = .ok (.invokevirtual 69, 3) := by decide +kernel
theorem d_Reader_whole_92 : decode Y_Reader_whole.2.1 92 = .ok (.iload_n 3, 1) := by decide +kernel
theorem d_Reader_whole_93 : decode Y_Reader_whole.2.1 93 = .ok (.ireturn, 1) := by decide +kernel
def f_Reader_whole (h : PH) (a0 : Option Nat) (a1 : Int32) (a2 : Int32) : Option (Int32 × PH) := (gI h 5 a0 7).bind fun v1 => if v1 = 0 then ((gI h 5 a0 4).bind fun v2 => if v2 = (2 : Int32) then ((gI h 5 a0 5).bind fun v3 => (pj_it (X := Int32) (fun s4 : Int32 × Int32 => (gI h 5 a0 6).bind fun v6 => if v6 ≤ s4.2 then (some (.inr s4.1)) else ((gR h 5 a0 0).bind fun v7 => (aB h v7 s4.2).bind fun v8 => some (.inl ((((10 : Int32) * s4.1) + (v8 - (48 : Int32))), (s4.2 + (1 : Int32)))))) FU ((0 : Int32), v3)).bind fun x5 => if x5 < a1 then ((gI h 5 a0 5).bind fun v9 => (cl h 5 a0 (f_Reader_fail h a0 (4 : Int32) v9)).bind fun h10 => some (a1, h10)) else (if x5 ≤ a2 then ((cl h 5 a0 (f_Reader_next h a0)).bind fun h11 => some (x5, h11)) else ((gI h 5 a0 5).bind fun v12 => (cl h 5 a0 (f_Reader_fail h a0 (4 : Int32) v12)).bind fun h13 => some (a1, h13)))) else ((gI h 5 a0 5).bind fun v14 => (cl h 5 a0 (f_Reader_fail h a0 (1 : Int32) v14)).bind fun h15 => some (a1, h15))) else (some (a1, h))
set_option maxRecDepth 20000 in
theorem PM_Reader_whole {l : Launch} {G : Cx} {h : PH} {a0 : Option Nat} {a1 : Int32} {a2 : Int32} {z : (Int32 × PH)} (hz : f_Reader_whole h a0 a1 a2 = some z) : PM l G 3 0 0 Y_Reader_whole [.inr (.inr a0), .inl a1, .inl a2] h (some (.inl z.1), z.2) := by
  refine PM.of (Y := Y_Reader_whole) (cv := (fun z : (Int32 × PH) => (((some (.inl z.1), z.2) : Option PV × PH)))) (by decide) (L0 := [some (.inr (.inr a0)), some (.inl a1), some (.inl a2), none, none]) 2 rfl (Nat.le_of_ble_eq_true rfl) ?_ hz
  unfold f_Reader_whole
  refine PJ.aload_n (pc := 0) d_Reader_whole_0 rfl ?_
  refine PJ.getI (pc := 1) fs_Reader_28 d_Reader_whole_1 (fun v1 => ?_)
  refine PJ.if_eq (pc := 4) (tgt := 9) d_Reader_whole_4 (by decide) (fun _ => ?_) (fun _ => ?_)
  · refine PJ.aload_n (pc := 9) d_Reader_whole_9 rfl ?_
    refine PJ.getI (pc := 10) fs_Reader_19 d_Reader_whole_10 (fun v2 => ?_)
    refine PJ.iconst (pc := 13) (v := 2) d_Reader_whole_13 (by decide) ?_
    refine PJ.icmp_eq (pc := 14) (tgt := 28) d_Reader_whole_14 (by decide) (fun _ => ?_) (fun _ => ?_)
    · refine PJ.iconst (pc := 28) (v := 0) d_Reader_whole_28 (by decide) ?_
      refine PJ.istore_n (pc := 29) (L1 := [some (.inr (.inr a0)), some (.inl a1), some (.inl a2), some (.inl (0 : Int32)), none]) d_Reader_whole_29 (Nat.le_of_ble_eq_true rfl) rfl rfl ?_
      refine PJ.aload_n (pc := 30) d_Reader_whole_30 rfl ?_
      refine PJ.getI (pc := 31) fs_Reader_22 d_Reader_whole_31 (fun v3 => ?_)
      refine PJ.istore (pc := 34) (L1 := [some (.inr (.inr a0)), some (.inl a1), some (.inl a2), some (.inl (0 : Int32)), some (.inl v3)]) d_Reader_whole_34 (Nat.le_of_ble_eq_true rfl) rfl rfl ?_
      refine PJ.bind (fun x5 : Int32 => ((67 : Nat), ([some (.inr (.inr a0)), some (.inl a1), some (.inl a2), some (.inl x5), none] : List (Option PV)), ([] : List PV), (h : PH), (0 : Nat), (0 : Nat))) (PJ.it (E := (fun s4 : Int32 × Int32 => ((36 : Nat), ([some (.inr (.inr a0)), some (.inl a1), some (.inl a2), some (.inl s4.1), some (.inl s4.2)] : List (Option PV)), ([] : List PV), (h : PH), (0 : Nat), (0 : Nat)))) (F := (fun x5 : Int32 => ((67 : Nat), ([some (.inr (.inr a0)), some (.inl a1), some (.inl a2), some (.inl x5), none] : List (Option PV)), ([] : List PV), (h : PH), (0 : Nat), (0 : Nat)))) (fun s4 => ?_) FU ((0 : Int32), v3)) (fun x5 => ?_)
      · show PJ l G (pj_rm 3 0 0) Y_Reader_whole 36 [some (.inr (.inr a0)), some (.inl a1), some (.inl a2), some (.inl s4.1), some (.inl s4.2)] [] h 0 0 _ _
        refine PJ.iload (pc := 36) d_Reader_whole_36 rfl ?_
        refine PJ.aload_n (pc := 38) d_Reader_whole_38 rfl ?_
        refine PJ.getI (pc := 39) fs_Reader_25 d_Reader_whole_39 (fun v6 => ?_)
        refine PJ.icmp_ge (pc := 42) (tgt := 67) d_Reader_whole_42 (by decide) (fun _ => ?_) (fun _ => ?_)
        · refine PJ.mk (L1 := [some (.inr (.inr a0)), some (.inl a1), some (.inl a2), some (.inl s4.1), none]) [true, true, true, true, false] rfl ?_
          exact PJ.done rfl
        · refine PJ.bipush (pc := 45) (v := 10) d_Reader_whole_45 (by decide) ?_
          refine PJ.iload_n (pc := 47) d_Reader_whole_47 rfl ?_
          refine PJ.imul (pc := 48) d_Reader_whole_48 ?_
          refine PJ.aload_n (pc := 49) d_Reader_whole_49 rfl ?_
          refine PJ.getR (pc := 50) fs_Reader_50 d_Reader_whole_50 (fun v7 => ?_)
          refine PJ.iload (pc := 53) d_Reader_whole_53 rfl ?_
          refine PJ.bald (pc := 55) d_Reader_whole_55 (fun v8 => ?_)
          refine PJ.bipush (pc := 56) (v := 48) d_Reader_whole_56 (by decide) ?_
          refine PJ.isub (pc := 58) d_Reader_whole_58 ?_
          refine PJ.iadd (pc := 59) d_Reader_whole_59 ?_
          refine PJ.istore_n (pc := 60) (L1 := [some (.inr (.inr a0)), some (.inl a1), some (.inl a2), some (.inl (((10 : Int32) * s4.1) + (v8 - (48 : Int32)))), some (.inl s4.2)]) d_Reader_whole_60 (Nat.le_of_ble_eq_true rfl) rfl rfl ?_
          refine PJ.iinc (pc := 61) (v := 1) (L1 := [some (.inr (.inr a0)), some (.inl a1), some (.inl a2), some (.inl (((10 : Int32) * s4.1) + (v8 - (48 : Int32)))), some (.inl (s4.2 + (1 : Int32)))]) d_Reader_whole_61 rfl (by decide) (Nat.le_of_ble_eq_true rfl) rfl rfl ?_
          refine PJ.goto (pc := 64) (tgt := 36) d_Reader_whole_64 (by decide) ?_
          exact PJ.done rfl
      · show PJ l G (pj_rm 3 0 0) Y_Reader_whole 67 [some (.inr (.inr a0)), some (.inl a1), some (.inl a2), some (.inl x5), none] [] h 0 0 _ _
        refine PJ.iload_n (pc := 67) d_Reader_whole_67 rfl ?_
        refine PJ.iload_n (pc := 68) d_Reader_whole_68 rfl ?_
        refine PJ.icmp_lt (pc := 69) (tgt := 77) d_Reader_whole_69 (by decide) (fun _ => ?_) (fun _ => ?_)
        · refine PJ.aload_n (pc := 77) d_Reader_whole_77 rfl ?_
          refine PJ.iconst (pc := 78) (v := 4) d_Reader_whole_78 (by decide) ?_
          refine PJ.aload_n (pc := 79) d_Reader_whole_79 rfl ?_
          refine PJ.getI (pc := 80) fs_Reader_22 d_Reader_whole_80 (fun v9 => ?_)
          refine PJ.cVV (pc := 83) cs_Reader_75 (fun z hz => PM_Reader_fail hz) (pj_fitb rfl) rfl rfl (Nat.le_of_ble_eq_true rfl) d_Reader_whole_83 (fun h10 => ?_)
          refine PJ.iload_n (pc := 86) d_Reader_whole_86 rfl ?_
          exact PJ.iret (pc := 87) d_Reader_whole_87 rfl (Nat.le_of_ble_eq_true rfl) (Nat.le_of_ble_eq_true rfl)
        · refine PJ.iload_n (pc := 72) d_Reader_whole_72 rfl ?_
          refine PJ.iload_n (pc := 73) d_Reader_whole_73 rfl ?_
          refine PJ.icmp_le (pc := 74) (tgt := 88) d_Reader_whole_74 (by decide) (fun _ => ?_) (fun _ => ?_)
          · refine PJ.aload_n (pc := 88) d_Reader_whole_88 rfl ?_
            refine PJ.cVV (pc := 89) cs_Reader_69 (fun z hz => PM_Reader_next hz) (pj_fitb rfl) rfl rfl (Nat.le_of_ble_eq_true rfl) d_Reader_whole_89 (fun h11 => ?_)
            refine PJ.iload_n (pc := 92) d_Reader_whole_92 rfl ?_
            exact PJ.iret (pc := 93) d_Reader_whole_93 rfl (Nat.le_of_ble_eq_true rfl) (Nat.le_of_ble_eq_true rfl)
          · refine PJ.aload_n (pc := 77) d_Reader_whole_77 rfl ?_
            refine PJ.iconst (pc := 78) (v := 4) d_Reader_whole_78 (by decide) ?_
            refine PJ.aload_n (pc := 79) d_Reader_whole_79 rfl ?_
            refine PJ.getI (pc := 80) fs_Reader_22 d_Reader_whole_80 (fun v12 => ?_)
            refine PJ.cVV (pc := 83) cs_Reader_75 (fun z hz => PM_Reader_fail hz) (pj_fitb rfl) rfl rfl (Nat.le_of_ble_eq_true rfl) d_Reader_whole_83 (fun h13 => ?_)
            refine PJ.iload_n (pc := 86) d_Reader_whole_86 rfl ?_
            exact PJ.iret (pc := 87) d_Reader_whole_87 rfl (Nat.le_of_ble_eq_true rfl) (Nat.le_of_ble_eq_true rfl)
    · refine PJ.aload_n (pc := 17) d_Reader_whole_17 rfl ?_
      refine PJ.iconst (pc := 18) (v := 1) d_Reader_whole_18 (by decide) ?_
      refine PJ.aload_n (pc := 19) d_Reader_whole_19 rfl ?_
      refine PJ.getI (pc := 20) fs_Reader_22 d_Reader_whole_20 (fun v14 => ?_)
      refine PJ.cVV (pc := 23) cs_Reader_75 (fun z hz => PM_Reader_fail hz) (pj_fitb rfl) rfl rfl (Nat.le_of_ble_eq_true rfl) d_Reader_whole_23 (fun h15 => ?_)
      refine PJ.iload_n (pc := 26) d_Reader_whole_26 rfl ?_
      exact PJ.iret (pc := 27) d_Reader_whole_27 rfl (Nat.le_of_ble_eq_true rfl) (Nat.le_of_ble_eq_true rfl)
  · refine PJ.iload_n (pc := 7) d_Reader_whole_7 rfl ?_
    exact PJ.iret (pc := 8) d_Reader_whole_8 rfl (Nat.le_of_ble_eq_true rfl) (Nat.le_of_ble_eq_true rfl)
