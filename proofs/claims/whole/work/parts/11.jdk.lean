-- the JDK: Strings
abbrev Y_Str_coder : MI := (⟨"java/lang/String", "coder", "()B"⟩, prog_22_method_152_code, 1, (some .byte))
theorem cm_Str_coder : (Cond.code Y_Str_coder.1 Y_Str_coder.2.1 Y_Str_coder.2.2.1 Y_Str_coder.2.2.2 ∈ pj_ws) ∧ (Cond.initialized Y_Str_coder.1.cls ∈ pj_ws) ∧ (Y_Str_coder.1.cls ≠ "java/lang/invoke/MethodHandle" ∧ Y_Str_coder.1.cls ≠ "java/lang/invoke/VarHandle" ∧ (parseMethodDescriptor Y_Str_coder.1.desc).map (fun d => d.parameters.length) = some 0) ∧ (Cond.instanceMethod Y_Str_coder.1 ∈ pj_ws) ∧ (Cond.selects Y_Str_coder.1.cls Y_Str_coder.1 Y_Str_coder.1 ∈ pj_ws) := ⟨pj_mem 663 (by decide +kernel) rfl, pj_mem 144 (by decide +kernel) rfl, ⟨by decide +kernel, by decide +kernel, by decide +kernel⟩, pj_mem 661 (by decide +kernel) rfl, pj_mem 662 (by decide +kernel) rfl⟩
theorem d_Str_coder_0 : decode Y_Str_coder.2.1 0 = .ok (.getstatic 38, 3) := by decide +kernel
theorem d_Str_coder_3 : decode Y_Str_coder.2.1 3 = .ok (.ifCond .eq 10, 3) := by decide +kernel
theorem d_Str_coder_6 : decode Y_Str_coder.2.1 6 = .ok (.aload_n 0, 1) := by decide +kernel
theorem d_Str_coder_7 : decode Y_Str_coder.2.1 7 = .ok (.getfield 15, 3) := by decide +kernel
theorem d_Str_coder_10 : decode Y_Str_coder.2.1 10 = .ok (.goto 4, 3) := by decide +kernel
theorem d_Str_coder_13 : decode Y_Str_coder.2.1 13 = .ok (.iconst 1, 1) := by decide +kernel
theorem d_Str_coder_14 : decode Y_Str_coder.2.1 14 = .ok (.ireturn, 1) := by decide +kernel
abbrev Y_Str_isLatin1 : MI := (⟨"java/lang/String", "isLatin1", "()Z"⟩, prog_22_method_154_code, 1, (some .boolean))
theorem cm_Str_isLatin1 : (Cond.code Y_Str_isLatin1.1 Y_Str_isLatin1.2.1 Y_Str_isLatin1.2.2.1 Y_Str_isLatin1.2.2.2 ∈ pj_ws) ∧ (Cond.initialized Y_Str_isLatin1.1.cls ∈ pj_ws) ∧ (Y_Str_isLatin1.1.cls ≠ "java/lang/invoke/MethodHandle" ∧ Y_Str_isLatin1.1.cls ≠ "java/lang/invoke/VarHandle" ∧ (parseMethodDescriptor Y_Str_isLatin1.1.desc).map (fun d => d.parameters.length) = some 0) ∧ (Cond.instanceMethod Y_Str_isLatin1.1 ∈ pj_ws) ∧ (Cond.selects Y_Str_isLatin1.1.cls Y_Str_isLatin1.1 Y_Str_isLatin1.1 ∈ pj_ws) := ⟨pj_mem 673 (by decide +kernel) rfl, pj_mem 144 (by decide +kernel) rfl, ⟨by decide +kernel, by decide +kernel, by decide +kernel⟩, pj_mem 671 (by decide +kernel) rfl, pj_mem 672 (by decide +kernel) rfl⟩
theorem d_Str_isLatin1_0 : decode Y_Str_isLatin1.2.1 0 = .ok (.getstatic 38, 3) := by decide +kernel
theorem d_Str_isLatin1_3 : decode Y_Str_isLatin1.2.1 3 = .ok (.ifCond .eq 14, 3) := by decide +kernel
theorem d_Str_isLatin1_6 : decode Y_Str_isLatin1.2.1 6 = .ok (.aload_n 0, 1) := by decide +kernel
theorem d_Str_isLatin1_7 : decode Y_Str_isLatin1.2.1 7 = .ok (.getfield 15, 3) := by decide +kernel
theorem d_Str_isLatin1_10 : decode Y_Str_isLatin1.2.1 10 = .ok (.ifCond .ne 7, 3) := by decide +kernel
theorem d_Str_isLatin1_13 : decode Y_Str_isLatin1.2.1 13 = .ok (.iconst 1, 1) := by decide +kernel
theorem d_Str_isLatin1_14 : decode Y_Str_isLatin1.2.1 14 = .ok (.goto 4, 3) := by decide +kernel
theorem d_Str_isLatin1_17 : decode Y_Str_isLatin1.2.1 17 = .ok (.iconst 0, 1) := by decide +kernel
theorem d_Str_isLatin1_18 : decode Y_Str_isLatin1.2.1 18 = .ok (.ireturn, 1) := by decide +kernel
abbrev Y_Pre_checkIndex : MI := (⟨"jdk/internal/util/Preconditions", "checkIndex", "(IILjava/util/function/BiFunction;)I"⟩, prog_31_method_11_code, 3, (some .int))
theorem cm_Pre_checkIndex : (Cond.code Y_Pre_checkIndex.1 Y_Pre_checkIndex.2.1 Y_Pre_checkIndex.2.2.1 Y_Pre_checkIndex.2.2.2 ∈ pj_ws) ∧ (Cond.initialized Y_Pre_checkIndex.1.cls ∈ pj_ws) ∧ (Y_Pre_checkIndex.1.cls ≠ "java/lang/invoke/MethodHandle" ∧ Y_Pre_checkIndex.1.cls ≠ "java/lang/invoke/VarHandle" ∧ (parseMethodDescriptor Y_Pre_checkIndex.1.desc).map (fun d => d.parameters.length) = some 3) ∧ (Cond.static Y_Pre_checkIndex.1 ∈ pj_ws) := ⟨pj_mem 684 (by decide +kernel) rfl, pj_mem 146 (by decide +kernel) rfl, ⟨by decide +kernel, by decide +kernel, by decide +kernel⟩, pj_mem 683 (by decide +kernel) rfl⟩
theorem d_Pre_checkIndex_0 : decode Y_Pre_checkIndex.2.1 0 = .ok (.iload_n 0, 1) := by decide +kernel
theorem d_Pre_checkIndex_1 : decode Y_Pre_checkIndex.2.1 1 = .ok (.ifCond .lt 8, 3) := by decide +kernel
theorem d_Pre_checkIndex_4 : decode Y_Pre_checkIndex.2.1 4 = .ok (.iload_n 0, 1) := by decide +kernel
theorem d_Pre_checkIndex_5 : decode Y_Pre_checkIndex.2.1 5 = .ok (.iload_n 1, 1) := by decide +kernel
theorem d_Pre_checkIndex_6 : decode Y_Pre_checkIndex.2.1 6 = .ok (.if_icmp .lt 10, 3) := by decide +kernel
theorem d_Pre_checkIndex_9 : decode Y_Pre_checkIndex.2.1 9 = .ok (.aload_n 2, 1) := by decide +kernel
theorem d_Pre_checkIndex_10 : decode Y_Pre_checkIndex.2.1 10 = .ok (.iload_n 0, 1) := by decide +kernel
theorem d_Pre_checkIndex_11 : decode Y_Pre_checkIndex.2.1 11 = .ok (.iload_n 1, 1) := by decide +kernel
theorem d_Pre_checkIndex_12 : decode Y_Pre_checkIndex.2.1 12 = .ok (.invokestatic 95, 3) := by decide +kernel
theorem d_Pre_checkIndex_15 : decode Y_Pre_checkIndex.2.1 15 = .ok (.athrow, 1) := by decide +kernel
theorem d_Pre_checkIndex_16 : decode Y_Pre_checkIndex.2.1 16 = .ok (.iload_n 0, 1) := by decide +kernel
theorem d_Pre_checkIndex_17 : decode Y_Pre_checkIndex.2.1 17 = .ok (.ireturn, 1) := by decide +kernel
abbrev Y_Str_checkIndex : MI := (⟨"java/lang/String", "checkIndex", "(II)V"⟩, prog_22_method_155_code, 2, (none : Option FieldType))
theorem cm_Str_checkIndex : (Cond.code Y_Str_checkIndex.1 Y_Str_checkIndex.2.1 Y_Str_checkIndex.2.2.1 Y_Str_checkIndex.2.2.2 ∈ pj_ws) ∧ (Cond.initialized Y_Str_checkIndex.1.cls ∈ pj_ws) ∧ (Y_Str_checkIndex.1.cls ≠ "java/lang/invoke/MethodHandle" ∧ Y_Str_checkIndex.1.cls ≠ "java/lang/invoke/VarHandle" ∧ (parseMethodDescriptor Y_Str_checkIndex.1.desc).map (fun d => d.parameters.length) = some 2) ∧ (Cond.static Y_Str_checkIndex.1 ∈ pj_ws) := ⟨pj_mem 679 (by decide +kernel) rfl, pj_mem 144 (by decide +kernel) rfl, ⟨by decide +kernel, by decide +kernel, by decide +kernel⟩, pj_mem 678 (by decide +kernel) rfl⟩
theorem d_Str_checkIndex_0 : decode Y_Str_checkIndex.2.1 0 = .ok (.iload_n 0, 1) := by decide +kernel
theorem d_Str_checkIndex_1 : decode Y_Str_checkIndex.2.1 1 = .ok (.iload_n 1, 1) := by decide +kernel
theorem d_Str_checkIndex_2 : decode Y_Str_checkIndex.2.1 2 = .ok (.getstatic 1053, 3) := by decide +kernel
theorem d_Str_checkIndex_5 : decode Y_Str_checkIndex.2.1 5 = .ok (.invokestatic 1059, 3) := by decide +kernel
theorem d_Str_checkIndex_8 : decode Y_Str_checkIndex.2.1 8 = .ok (.pop, 1) := by decide +kernel
theorem d_Str_checkIndex_9 : decode Y_Str_checkIndex.2.1 9 = .ok (.return_, 1) := by decide +kernel
abbrev Y_Lat_charAt : MI := (⟨"java/lang/StringLatin1", "charAt", "([BI)C"⟩, prog_23_method_2_code, 2, (some .char))
theorem cm_Lat_charAt : (Cond.code Y_Lat_charAt.1 Y_Lat_charAt.2.1 Y_Lat_charAt.2.2.1 Y_Lat_charAt.2.2.2 ∈ pj_ws) ∧ (Cond.initialized Y_Lat_charAt.1.cls ∈ pj_ws) ∧ (Y_Lat_charAt.1.cls ≠ "java/lang/invoke/MethodHandle" ∧ Y_Lat_charAt.1.cls ≠ "java/lang/invoke/VarHandle" ∧ (parseMethodDescriptor Y_Lat_charAt.1.desc).map (fun d => d.parameters.length) = some 2) ∧ (Cond.static Y_Lat_charAt.1 ∈ pj_ws) := ⟨pj_mem 676 (by decide +kernel) rfl, pj_mem 145 (by decide +kernel) rfl, ⟨by decide +kernel, by decide +kernel, by decide +kernel⟩, pj_mem 675 (by decide +kernel) rfl⟩
theorem d_Lat_charAt_0 : decode Y_Lat_charAt.2.1 0 = .ok (.iload_n 1, 1) := by decide +kernel
theorem d_Lat_charAt_1 : decode Y_Lat_charAt.2.1 1 = .ok (.aload_n 0, 1) := by decide +kernel
theorem d_Lat_charAt_2 : decode Y_Lat_charAt.2.1 2 = .ok (.arraylength, 1) := by decide +kernel
theorem d_Lat_charAt_3 : decode Y_Lat_charAt.2.1 3 = .ok (.invokestatic 9, 3) := by decide +kernel
theorem d_Lat_charAt_6 : decode Y_Lat_charAt.2.1 6 = .ok (.aload_n 0, 1) := by decide +kernel
theorem d_Lat_charAt_7 : decode Y_Lat_charAt.2.1 7 = .ok (.iload_n 1, 1) := by decide +kernel
theorem d_Lat_charAt_8 : decode Y_Lat_charAt.2.1 8 = .ok (.baload, 1) := by decide +kernel
theorem d_Lat_charAt_9 : decode Y_Lat_charAt.2.1 9 = .ok (.sipush 255, 3) := by decide +kernel
theorem d_Lat_charAt_12 : decode Y_Lat_charAt.2.1 12 = .ok (.iand, 1) := by decide +kernel
theorem d_Lat_charAt_13 : decode Y_Lat_charAt.2.1 13 = .ok (.i2c, 1) := by decide +kernel
theorem d_Lat_charAt_14 : decode Y_Lat_charAt.2.1 14 = .ok (.ireturn, 1) := by decide +kernel
abbrev Y_Str_length : MI := (⟨"java/lang/String", "length", "()I"⟩, prog_22_method_54_code, 1, (some .int))
theorem cm_Str_length : (Cond.code Y_Str_length.1 Y_Str_length.2.1 Y_Str_length.2.2.1 Y_Str_length.2.2.2 ∈ pj_ws) ∧ (Cond.initialized Y_Str_length.1.cls ∈ pj_ws) ∧ (Y_Str_length.1.cls ≠ "java/lang/invoke/MethodHandle" ∧ Y_Str_length.1.cls ≠ "java/lang/invoke/VarHandle" ∧ (parseMethodDescriptor Y_Str_length.1.desc).map (fun d => d.parameters.length) = some 0) ∧ (Cond.instanceMethod Y_Str_length.1 ∈ pj_ws) ∧ (Cond.selects Y_Str_length.1.cls Y_Str_length.1 Y_Str_length.1 ∈ pj_ws) := ⟨pj_mem 659 (by decide +kernel) rfl, pj_mem 144 (by decide +kernel) rfl, ⟨by decide +kernel, by decide +kernel, by decide +kernel⟩, pj_mem 657 (by decide +kernel) rfl, pj_mem 658 (by decide +kernel) rfl⟩
theorem d_Str_length_0 : decode Y_Str_length.2.1 0 = .ok (.aload_n 0, 1) := by decide +kernel
theorem d_Str_length_1 : decode Y_Str_length.2.1 1 = .ok (.getfield 9, 3) := by decide +kernel
theorem d_Str_length_4 : decode Y_Str_length.2.1 4 = .ok (.arraylength, 1) := by decide +kernel
theorem d_Str_length_5 : decode Y_Str_length.2.1 5 = .ok (.aload_n 0, 1) := by decide +kernel
theorem d_Str_length_6 : decode Y_Str_length.2.1 6 = .ok (.invokevirtual 335, 3) := by decide +kernel
theorem d_Str_length_9 : decode Y_Str_length.2.1 9 = .ok (.ishr, 1) := by decide +kernel
theorem d_Str_length_10 : decode Y_Str_length.2.1 10 = .ok (.ireturn, 1) := by decide +kernel
abbrev Y_Str_charAt : MI := (⟨"java/lang/String", "charAt", "(I)C"⟩, prog_22_method_56_code, 2, (some .char))
theorem cm_Str_charAt : (Cond.code Y_Str_charAt.1 Y_Str_charAt.2.1 Y_Str_charAt.2.2.1 Y_Str_charAt.2.2.2 ∈ pj_ws) ∧ (Cond.initialized Y_Str_charAt.1.cls ∈ pj_ws) ∧ (Y_Str_charAt.1.cls ≠ "java/lang/invoke/MethodHandle" ∧ Y_Str_charAt.1.cls ≠ "java/lang/invoke/VarHandle" ∧ (parseMethodDescriptor Y_Str_charAt.1.desc).map (fun d => d.parameters.length) = some 1) ∧ (Cond.instanceMethod Y_Str_charAt.1 ∈ pj_ws) ∧ (Cond.selects Y_Str_charAt.1.cls Y_Str_charAt.1 Y_Str_charAt.1 ∈ pj_ws) := ⟨pj_mem 669 (by decide +kernel) rfl, pj_mem 144 (by decide +kernel) rfl, ⟨by decide +kernel, by decide +kernel, by decide +kernel⟩, pj_mem 667 (by decide +kernel) rfl, pj_mem 668 (by decide +kernel) rfl⟩
theorem d_Str_charAt_0 : decode Y_Str_charAt.2.1 0 = .ok (.aload_n 0, 1) := by decide +kernel
theorem d_Str_charAt_1 : decode Y_Str_charAt.2.1 1 = .ok (.invokevirtual 492, 3) := by decide +kernel
theorem d_Str_charAt_4 : decode Y_Str_charAt.2.1 4 = .ok (.ifCond .eq 12, 3) := by decide +kernel
theorem d_Str_charAt_7 : decode Y_Str_charAt.2.1 7 = .ok (.aload_n 0, 1) := by decide +kernel
theorem d_Str_charAt_8 : decode Y_Str_charAt.2.1 8 = .ok (.getfield 9, 3) := by decide +kernel
theorem d_Str_charAt_11 : decode Y_Str_charAt.2.1 11 = .ok (.iload_n 1, 1) := by decide +kernel
theorem d_Str_charAt_12 : decode Y_Str_charAt.2.1 12 = .ok (.invokestatic 495, 3) := by decide +kernel
theorem d_Str_charAt_15 : decode Y_Str_charAt.2.1 15 = .ok (.ireturn, 1) := by decide +kernel
theorem d_Str_charAt_16 : decode Y_Str_charAt.2.1 16 = .ok (.aload_n 0, 1) := by decide +kernel
theorem d_Str_charAt_17 : decode Y_Str_charAt.2.1 17 = .ok (.getfield 9, 3) := by decide +kernel
theorem d_Str_charAt_20 : decode Y_Str_charAt.2.1 20 = .ok (.iload_n 1, 1) := by decide +kernel
theorem d_Str_charAt_21 : decode Y_Str_charAt.2.1 21 = .ok (.invokestatic 498, 3) := by decide +kernel
theorem d_Str_charAt_24 : decode Y_Str_charAt.2.1 24 = .ok (.ireturn, 1) := by decide +kernel
theorem ss_Str_335 : pj_cT "java/lang/String" 335 Y_Str_coder 0 := ⟨⟨cm_Str_coder.1, cm_Str_coder.2.1, cm_Str_coder.2.2.1, Or.inl (pj_mem 660 (by decide +kernel) rfl)⟩, rfl, cm_Str_coder.2.2.2.1, cm_Str_coder.2.2.2.2⟩
theorem ss_Str_492 : pj_cT "java/lang/String" 492 Y_Str_isLatin1 0 := ⟨⟨cm_Str_isLatin1.1, cm_Str_isLatin1.2.1, cm_Str_isLatin1.2.2.1, Or.inl (pj_mem 670 (by decide +kernel) rfl)⟩, rfl, cm_Str_isLatin1.2.2.2.1, cm_Str_isLatin1.2.2.2.2⟩
theorem cs_Str_495 : pj_cS "java/lang/String" 495 Y_Lat_charAt 2 := ⟨⟨cm_Lat_charAt.1, cm_Lat_charAt.2.1, cm_Lat_charAt.2.2.1, Or.inl (pj_mem 674 (by decide +kernel) rfl)⟩, cm_Lat_charAt.2.2.2⟩
theorem cs_Lat_9 : pj_cS "java/lang/StringLatin1" 9 Y_Str_checkIndex 2 := ⟨⟨cm_Str_checkIndex.1, cm_Str_checkIndex.2.1, cm_Str_checkIndex.2.2.1, Or.inl (pj_mem 677 (by decide +kernel) rfl)⟩, cm_Str_checkIndex.2.2.2⟩
theorem cs_Str_1059 : pj_cS "java/lang/String" 1059 Y_Pre_checkIndex 3 := ⟨⟨cm_Pre_checkIndex.1, cm_Pre_checkIndex.2.1, cm_Pre_checkIndex.2.2.1, Or.inl (pj_mem 682 (by decide +kernel) rfl)⟩, cm_Pre_checkIndex.2.2.2⟩
theorem fw_9 : Cond.fieldLink "java/lang/String" 9 "java/lang/String" "value" "[B" ∈ pj_ws := pj_mem 2209 (by decide +kernel) rfl
theorem fw_15 : Cond.fieldLink "java/lang/String" 15 "java/lang/String" "coder" "B" ∈ pj_ws := pj_mem 2210 (by decide +kernel) rfl
theorem fw_38 : Cond.fieldLink "java/lang/String" 38 "java/lang/String" "COMPACT_STRINGS" "Z" ∈ pj_ws := pj_mem 664 (by decide +kernel) rfl
theorem fw_1053 : Cond.fieldLink "java/lang/String" 1053 "jdk/internal/util/Preconditions" "SIOOBE_FORMATTER" "Ljava/util/function/BiFunction;" ∈ pj_ws := pj_mem 680 (by decide +kernel) rfl
section J8
variable {l : Launch} {G : Cx} {R : Room} {Y : MI} {pc : Nat} {L : List (Option PV)} {st : List PV} {h : PH} {k n : Nat} {X Z : Type} {Ψ : X → MT → (State → Prop) → Prop} {o o1 o2 : Option X}
theorem PJ.if_eq_k {x : Int32} {off : Int} {tgt : Nat} (hd : decode Y.2.1 pc = .ok (.ifCond .eq off, 3)) (ht : (pc : Int) + off = (tgt : Int)) (kt : x = 0 → PJ l G R Y tgt L st h k n o Ψ) (kf : ¬ x = 0 → PJ l G R Y (pc + 3) L st h k n o Ψ) : PJ l G R Y pc L (.inl x :: st) h k n o Ψ := by
  have := PJ.if_eq hd ht kt kf
  rwa [ite_self] at this
theorem PJ.if_ne_k {x : Int32} {off : Int} {tgt : Nat} (hd : decode Y.2.1 pc = .ok (.ifCond .ne off, 3)) (ht : (pc : Int) + off = (tgt : Int)) (kt : ¬ x = 0 → PJ l G R Y tgt L st h k n o Ψ) (kf : ¬ ¬ x = 0 → PJ l G R Y (pc + 3) L st h k n o Ψ) : PJ l G R Y pc L (.inl x :: st) h k n o Ψ := by
  have := PJ.if_ne hd ht kt kf
  rwa [ite_self] at this
theorem PJ.if_lt_k {x : Int32} {off : Int} {tgt : Nat} (hd : decode Y.2.1 pc = .ok (.ifCond .lt off, 3)) (ht : (pc : Int) + off = (tgt : Int)) (kt : x < 0 → PJ l G R Y tgt L st h k n o Ψ) (kf : ¬ x < 0 → PJ l G R Y (pc + 3) L st h k n o Ψ) : PJ l G R Y pc L (.inl x :: st) h k n o Ψ := by
  have := PJ.if_lt hd ht kt kf
  rwa [ite_self] at this
theorem PJ.icmp_lt_k {x y : Int32} {off : Int} {tgt : Nat} (hd : decode Y.2.1 pc = .ok (.if_icmp .lt off, 3)) (ht : (pc : Int) + off = (tgt : Int)) (kt : x < y → PJ l G R Y tgt L st h k n o Ψ) (kf : ¬ x < y → PJ l G R Y (pc + 3) L st h k n o Ψ) : PJ l G R Y pc L (.inl y :: .inl x :: st) h k n o Ψ := by
  have := PJ.icmp_lt hd ht kt kf
  rwa [ite_self] at this
end J8
theorem PM_Str_coder {l : Launch} {G : Cx} {h : PH} {i : Nat} (hi : i < 24) : PM l G 1 0 0 Y_Str_coder [.inr (.inr (some i))] h (some (.inl 0), h) := by
  refine PM.of (Y := Y_Str_coder) (cv := (fun z : Int32 => (((some (.inl z), h) : Option PV × PH)))) (o := some 0) (by decide) (L0 := [some (.inr (.inr (some i)))]) 0 rfl (Nat.le_of_ble_eq_true rfl) ?_ rfl
  refine PJ.scmp (pc := 0) fw_38 d_Str_coder_0 ?_
  refine PJ.if_eq_k (pc := 3) (tgt := 13) d_Str_coder_3 (by decide) (fun c => absurd c (by decide)) (fun _ => ?_)
  refine PJ.aload_n (pc := 6) d_Str_coder_6 rfl ?_
  refine PJ.scod (pc := 7) hi fw_15 d_Str_coder_7 ?_
  refine PJ.goto (pc := 10) (tgt := 14) d_Str_coder_10 (by decide) ?_
  exact PJ.nret (pc := 14) d_Str_coder_14 rfl rfl (Nat.le_of_ble_eq_true rfl) (Nat.le_of_ble_eq_true rfl)
theorem PM_Str_isLatin1 {l : Launch} {G : Cx} {h : PH} {i : Nat} (hi : i < 24) : PM l G 1 0 0 Y_Str_isLatin1 [.inr (.inr (some i))] h (some (.inl 1), h) := by
  refine PM.of (Y := Y_Str_isLatin1) (cv := (fun z : Int32 => (((some (.inl z), h) : Option PV × PH)))) (o := some 1) (by decide) (L0 := [some (.inr (.inr (some i)))]) 0 rfl (Nat.le_of_ble_eq_true rfl) ?_ rfl
  refine PJ.scmp (pc := 0) fw_38 d_Str_isLatin1_0 ?_
  refine PJ.if_eq_k (pc := 3) (tgt := 17) d_Str_isLatin1_3 (by decide) (fun c => absurd c (by decide)) (fun _ => ?_)
  refine PJ.aload_n (pc := 6) d_Str_isLatin1_6 rfl ?_
  refine PJ.scod (pc := 7) hi fw_15 d_Str_isLatin1_7 ?_
  refine PJ.if_ne_k (pc := 10) (tgt := 17) d_Str_isLatin1_10 (by decide) (fun c => absurd rfl c) (fun _ => ?_)
  refine PJ.iconst (pc := 13) (v := 1) d_Str_isLatin1_13 (by decide) ?_
  refine PJ.goto (pc := 14) (tgt := 18) d_Str_isLatin1_14 (by decide) ?_
  exact PJ.nret (pc := 18) d_Str_isLatin1_18 rfl rfl (Nat.le_of_ble_eq_true rfl) (Nat.le_of_ble_eq_true rfl)
theorem PM_Pre_checkIndex {l : Launch} {G : Cx} {h : PH} {j b : Int32} {w : Option Nat} (h1 : ¬ j < 0) (h2 : j < b) : PM l G 1 0 0 Y_Pre_checkIndex [.inl j, .inl b, .inr (.inr w)] h (some (.inl j), h) := by
  refine PM.of (Y := Y_Pre_checkIndex) (cv := (fun z : Int32 => (((some (.inl z), h) : Option PV × PH)))) (o := some j) (by decide) (L0 := [some (.inl j), some (.inl b), some (.inr (.inr w))]) 0 rfl (Nat.le_of_ble_eq_true rfl) ?_ rfl
  refine PJ.iload_n (pc := 0) d_Pre_checkIndex_0 rfl ?_
  refine PJ.if_lt_k (pc := 1) (tgt := 9) d_Pre_checkIndex_1 (by decide) (fun c => absurd c h1) (fun _ => ?_)
  refine PJ.iload_n (pc := 4) d_Pre_checkIndex_4 rfl ?_
  refine PJ.iload_n (pc := 5) d_Pre_checkIndex_5 rfl ?_
  refine PJ.icmp_lt_k (pc := 6) (tgt := 16) d_Pre_checkIndex_6 (by decide) (fun _ => ?_) (fun c => absurd h2 c)
  refine PJ.iload_n (pc := 16) d_Pre_checkIndex_16 rfl ?_
  exact PJ.iretp (pc := 17) d_Pre_checkIndex_17 rfl (Nat.le_of_ble_eq_true rfl) (Nat.le_of_ble_eq_true rfl)
theorem PM_Str_checkIndex {l : Launch} {G : Cx} {h : PH} {j b : Int32} (h1 : ¬ j < 0) (h2 : j < b) : PM l G 2 0 0 Y_Str_checkIndex [.inl j, .inl b] h (none, h) := by
  refine PM.of (Y := Y_Str_checkIndex) (cv := cvV) (o := some h) (by decide) (L0 := [some (.inl j), some (.inl b)]) 0 rfl (Nat.le_of_ble_eq_true rfl) ?_ rfl
  refine PJ.iload_n (pc := 0) d_Str_checkIndex_0 rfl ?_
  refine PJ.iload_n (pc := 1) d_Str_checkIndex_1 rfl ?_
  refine PJ.sfmt (pc := 2) fw_1053 d_Str_checkIndex_2 (fun w => ?_)
  refine PJ.cSpI (pc := 5) (as := [.inl j, .inl b, .inr (.inr w)]) (rest := []) (o1 := some j) (K := fun _ => some h) cs_Str_1059 (fun z hz => by cases hz; exact PM_Pre_checkIndex (w := w) h1 h2) (pj_fitb rfl) rfl rfl (Nat.le_of_ble_eq_true rfl) d_Str_checkIndex_5 (fun z => ?_)
  refine PJ.pop (pc := 8) d_Str_checkIndex_8 rfl ?_
  exact PJ.vret (pc := 9) d_Str_checkIndex_9 rfl (Nat.le_of_ble_eq_true rfl) (Nat.le_of_ble_eq_true rfl)
theorem st_lt : ∀ i, i < 24 → sLn i < 2 ^ 31 := by decide +kernel
theorem st_sh : ∀ i, i < 24 → Int32.ofNat (sLn i) >>> ((0 : Int32) &&& 31) = Int32.ofNat (sLn i) := by decide +kernel
theorem st_ch : ∀ i, i < 24 → ∀ j, j < sLn i → ((sBy i j &&& 255).toUInt32 % 65536).toInt32 = sBy i j ∧ narrow .char (.int (sBy i j)) = .int (sBy i j) := by decide +kernel
theorem PM_Lat_charAt {l : Launch} {G : Cx} {h : PH} {i : Nat} {j : Int32} (hi : i < 24) (h1 : ¬ j < 0) (h2 : j.toNatClampNeg < sLn i) : PM l G 3 0 0 Y_Lat_charAt [.inr (.inr (some (50 + i))), .inl j] h (some (.inl (sBy i j.toNatClampNeg)), h) := by
  have h3 : j < Int32.ofNat (sLn i) := by
    obtain ⟨m, hm, rfl⟩ := nI_of h1
    rw [nI_clamp hm] at h2
    exact nI_lt h2 (st_lt i hi)
  refine PM.of (Y := Y_Lat_charAt) (cv := (fun z : Int32 => (((some (.inl z), h) : Option PV × PH)))) (o := some (sBy i j.toNatClampNeg)) (by decide) (L0 := [some (.inr (.inr (some (50 + i)))), some (.inl j)]) 0 rfl (Nat.le_of_ble_eq_true rfl) ?_ rfl
  refine PJ.iload_n (pc := 0) d_Lat_charAt_0 rfl ?_
  refine PJ.aload_n (pc := 1) d_Lat_charAt_1 rfl ?_
  refine PJ.slen (pc := 2) hi d_Lat_charAt_2 ?_
  refine PJ.callS (pc := 3) (d := 2) (mc := 0) (ms := 0) (Z := Unit) (o1 := some ()) (K := fun _ => some (sBy i j.toNatClampNeg)) (as := [.inl j, .inl (Int32.ofNat (sLn i))]) (rest := []) (fun _ => (none, h)) cs_Lat_9 (fun z _ => PM_Str_checkIndex h1 h3) (pj_fitb rfl) rfl rfl (Nat.le_of_ble_eq_true rfl) d_Lat_charAt_3 (fun z => ?_)
  show PJ l G (pj_rm 3 0 0) Y_Lat_charAt 6 [some (.inr (.inr (some (50 + i)))), some (.inl j)] [] h 0 0 (some (sBy i j.toNatClampNeg)) _
  refine PJ.aload_n (pc := 6) d_Lat_charAt_6 rfl ?_
  refine PJ.iload_n (pc := 7) d_Lat_charAt_7 rfl ?_
  refine PJ.sbyt (pc := 8) hi h1 h2 d_Lat_charAt_8 ?_
  refine PJ.sipush (pc := 9) (v := 255) d_Lat_charAt_9 (by decide) ?_
  refine PJ.iand (pc := 12) d_Lat_charAt_12 ?_
  refine PJ.i2c (pc := 13) d_Lat_charAt_13 (st_ch i hi _ h2).1 ?_
  exact PJ.nret (pc := 14) d_Lat_charAt_14 rfl (st_ch i hi _ h2).2 (Nat.le_of_ble_eq_true rfl) (Nat.le_of_ble_eq_true rfl)
def sLen (a : Option Nat) : Option Int32 := match a with
  | some i => if i < 24 then some (Int32.ofNat (sLn i)) else none
  | none => none
def sAt (a : Option Nat) (j : Int32) : Option Int32 := match a with
  | some i => if i < 24 ∧ ¬ j < 0 ∧ j.toNatClampNeg < sLn i then some (sBy i j.toNatClampNeg) else none
  | none => none
theorem PM_Str_length {l : Launch} {G : Cx} {h : PH} {i : Nat} (hi : i < 24) : PM l G 2 0 0 Y_Str_length [.inr (.inr (some i))] h (some (.inl (Int32.ofNat (sLn i))), h) := by
  refine PM.of (Y := Y_Str_length) (cv := (fun z : Int32 => (((some (.inl z), h) : Option PV × PH)))) (o := some (Int32.ofNat (sLn i))) (by decide) (L0 := [some (.inr (.inr (some i)))]) 0 rfl (Nat.le_of_ble_eq_true rfl) ?_ rfl
  refine PJ.aload_n (pc := 0) d_Str_length_0 rfl ?_
  refine PJ.sval (pc := 1) hi fw_9 d_Str_length_1 ?_
  refine PJ.slen (pc := 4) hi d_Str_length_4 ?_
  refine PJ.aload_n (pc := 5) d_Str_length_5 rfl ?_
  refine PJ.callT (pc := 6) (o1 := some 0) (K := fun z => if z = 0 then some (Int32.ofNat (sLn i)) else none) hi ss_Str_335 (fun z hz => by cases hz; exact PM_Str_coder hi) (pj_fitb rfl) rfl rfl (Nat.le_of_ble_eq_true rfl) d_Str_length_6 (fun z => ?_)
  by_cases hz : z = 0
  · subst hz
    refine PJ.ishr (pc := 9) d_Str_length_9 ?_
    rw [st_sh i hi]
    exact PJ.iretp (pc := 10) d_Str_length_10 rfl (Nat.le_of_ble_eq_true rfl) (Nat.le_of_ble_eq_true rfl)
  · rw [if_neg hz]
    exact PJ.nn
theorem PM_Str_charAt {l : Launch} {G : Cx} {h : PH} {i : Nat} {j : Int32} (hi : i < 24) (h1 : ¬ j < 0) (h2 : j.toNatClampNeg < sLn i) : PM l G 4 0 0 Y_Str_charAt [.inr (.inr (some i)), .inl j] h (some (.inl (sBy i j.toNatClampNeg)), h) := by
  refine PM.of (Y := Y_Str_charAt) (cv := (fun z : Int32 => (((some (.inl z), h) : Option PV × PH)))) (o := some (sBy i j.toNatClampNeg)) (by decide) (L0 := [some (.inr (.inr (some i))), some (.inl j)]) 0 rfl (Nat.le_of_ble_eq_true rfl) ?_ rfl
  refine PJ.aload_n (pc := 0) d_Str_charAt_0 rfl ?_
  refine PJ.callT (pc := 1) (o1 := some 1) (K := fun z => if z = 1 then some (sBy i j.toNatClampNeg) else none) hi ss_Str_492 (fun z hz => by cases hz; exact PM_Str_isLatin1 hi) (pj_fitb rfl) rfl rfl (Nat.le_of_ble_eq_true rfl) d_Str_charAt_1 (fun z => ?_)
  by_cases hz : z = 1
  · subst hz
    rw [if_pos rfl]
    refine PJ.if_eq_k (pc := 4) (tgt := 16) d_Str_charAt_4 (by decide) (fun c => absurd c (by decide)) (fun _ => ?_)
    refine PJ.aload_n (pc := 7) d_Str_charAt_7 rfl ?_
    refine PJ.sval (pc := 8) hi fw_9 d_Str_charAt_8 ?_
    refine PJ.iload_n (pc := 11) d_Str_charAt_11 rfl ?_
    have e9 : (some (sBy i j.toNatClampNeg) : Option Int32) = (some (sBy i j.toNatClampNeg)).bind (fun z => if z = sBy i j.toNatClampNeg then some (sBy i j.toNatClampNeg) else none) := by simp
    rw [e9]
    refine PJ.cSpI (pc := 12) cs_Str_495 (fun z hz => by cases hz; exact PM_Lat_charAt hi h1 h2) (pj_fitb rfl) rfl rfl (Nat.le_of_ble_eq_true rfl) d_Str_charAt_12 (fun z => ?_)
    by_cases hz : z = sBy i j.toNatClampNeg
    · subst hz
      rw [if_pos rfl]
      exact PJ.nret (pc := 15) d_Str_charAt_15 rfl (st_ch i hi _ h2).2 (Nat.le_of_ble_eq_true rfl) (Nat.le_of_ble_eq_true rfl)
    · rw [if_neg hz]
      exact PJ.nn
  · rw [if_neg hz]
    exact PJ.nn
section J9
variable {l : Launch} {G : Cx} {R : Room} {Y : MI} {pc : Nat} {L : List (Option PV)} {st : List PV} {h : PH} {k n : Nat} {X Z : Type} {Ψ : X → MT → (State → Prop) → Prop} {o o1 o2 : Option X}
theorem PJ.strlen {idx : Nat} {a : Option Nat} {K : Int32 → Option X} (hs : pj_cT Y.1.cls idx Y_Str_length 0) (hf : pj_fit R Y_Str_length 2 0 0 k n) (hsm : pj_sum st ≤ 8) (hd : decode Y.2.1 pc = .ok (.invokevirtual idx, 3)) (kk : ∀ z, PJ l G R Y (pc + 3) L (.inl z :: st) h k n (K z) Ψ) : PJ l G R Y pc L (.inr (.inr a) :: st) h k n ((sLen a).bind K) Ψ := by
  cases a with
  | none => exact PJ.nn
  | some i =>
    by_cases hi : i < 24
    · exact PJ.callT (as := []) (rest := st) hi hs (fun z hz => by unfold sLen at hz; dsimp only at hz; rw [if_pos hi] at hz; cases hz; exact PM_Str_length hi) hf rfl rfl hsm hd kk
    · have : sLen (some i) = none := by unfold sLen; dsimp only; rw [if_neg hi]
      rw [this]
      exact PJ.nn
theorem PJ.strat {idx : Nat} {a : Option Nat} {j : Int32} {K : Int32 → Option X} (hs : pj_cT Y.1.cls idx Y_Str_charAt 1) (hf : pj_fit R Y_Str_charAt 4 0 0 k n) (hsm : pj_sum st ≤ 8) (hd : decode Y.2.1 pc = .ok (.invokevirtual idx, 3)) (kk : ∀ z, PJ l G R Y (pc + 3) L (.inl z :: st) h k n (K z) Ψ) : PJ l G R Y pc L (.inl j :: .inr (.inr a) :: st) h k n ((sAt a j).bind K) Ψ := by
  cases a with
  | none => exact PJ.nn
  | some i =>
    by_cases hi : i < 24 ∧ ¬ j < 0 ∧ j.toNatClampNeg < sLn i
    · exact PJ.callT (as := [.inl j]) (rest := st) hi.1 hs (fun z hz => by unfold sAt at hz; dsimp only at hz; rw [if_pos hi] at hz; cases hz; exact PM_Str_charAt hi.1 hi.2.1 hi.2.2) hf rfl rfl hsm hd kk
    · have : sAt (some i) j = none := by unfold sAt; dsimp only; rw [if_neg hi]
      rw [this]
      exact PJ.nn
end J9
