-- sites and methods: meth
abbrev Y_Receipts_latestHour : MI := (⟨"WaverTax$Receipts", "latestHour", "(I)I"⟩, prog_9_method_4_code, 4, (some .int))
abbrev Y_Reader_readPaid : MI := (⟨"WaverTax$Reader", "readPaid", "()V"⟩, prog_7_method_18_code, 7, (none : Option FieldType))
abbrev Y_Reader_readShop : MI := (⟨"WaverTax$Reader", "readShop", "()V"⟩, prog_7_method_19_code, 2, (none : Option FieldType))
abbrev Y_Reader_readLane : MI := (⟨"WaverTax$Reader", "readLane", "()V"⟩, prog_7_method_20_code, 5, (none : Option FieldType))
abbrev Y_Reader_readLine : MI := (⟨"WaverTax$Reader", "readLine", "()V"⟩, prog_7_method_7_code, 2, (none : Option FieldType))
abbrev Y_Reader_read : MI := (⟨"WaverTax$Reader", "read", "(LWaverTax$Law;I)I"⟩, prog_7_method_2_code, 4, (some .int))
abbrev Y_Now_begin : MI := (⟨"WaverTax$Now", "begin", "(LWaverTax$Law;)V"⟩, prog_4_method_2_code, 2, (none : Option FieldType))
abbrev Y_Past_forget : MI := (⟨"WaverTax$Past", "forget", "()V"⟩, prog_5_method_2_code, 1, (none : Option FieldType))
abbrev Y_T_fine : MI := (⟨"WaverTax", "fine", "(I)I"⟩, prog_1_method_72_code, 2, (some .int))
abbrev Y_T_laws : MI := (⟨"WaverTax", "laws", "(I)I"⟩, prog_1_method_4_code, 3, (some .int))
abbrev Y_T_fault : MI := (⟨"WaverTax", "fault", "()I"⟩, prog_1_method_5_code, 1, (some .int))
abbrev Y_T_where : MI := (⟨"WaverTax", "where", "()I"⟩, prog_1_method_6_code, 1, (some .int))
abbrev Y_T_isPerson : MI := (⟨"WaverTax", "isPerson", "(I)Z"⟩, prog_1_method_68_code, 2, (some .boolean))
theorem cm_Reader_readFar : (Cond.code Y_Reader_readFar.1 Y_Reader_readFar.2.1 Y_Reader_readFar.2.2.1 Y_Reader_readFar.2.2.2 ∈ pj_ws) ∧ (Cond.initialized Y_Reader_readFar.1.cls ∈ pj_ws) ∧ (Y_Reader_readFar.1.cls ≠ "java/lang/invoke/MethodHandle" ∧ Y_Reader_readFar.1.cls ≠ "java/lang/invoke/VarHandle" ∧ (parseMethodDescriptor Y_Reader_readFar.1.desc).map (fun d => d.parameters.length) = some 0) ∧ (Cond.instanceMethod Y_Reader_readFar.1 ∈ pj_ws) ∧ (Cond.selects Y_Reader_readFar.1.cls Y_Reader_readFar.1 Y_Reader_readFar.1 ∈ pj_ws) := ⟨pj_mem 753 (by decide +kernel) rfl, pj_mem 135 (by decide +kernel) rfl, ⟨by decide +kernel, by decide +kernel, by decide +kernel⟩, pj_mem 752 (by decide +kernel) rfl, pj_mem 17 (by decide +kernel) rfl⟩
theorem cm_Reader_readPerson : (Cond.code Y_Reader_readPerson.1 Y_Reader_readPerson.2.1 Y_Reader_readPerson.2.2.1 Y_Reader_readPerson.2.2.2 ∈ pj_ws) ∧ (Cond.initialized Y_Reader_readPerson.1.cls ∈ pj_ws) ∧ (Y_Reader_readPerson.1.cls ≠ "java/lang/invoke/MethodHandle" ∧ Y_Reader_readPerson.1.cls ≠ "java/lang/invoke/VarHandle" ∧ (parseMethodDescriptor Y_Reader_readPerson.1.desc).map (fun d => d.parameters.length) = some 0) ∧ (Cond.instanceMethod Y_Reader_readPerson.1 ∈ pj_ws) ∧ (Cond.selects Y_Reader_readPerson.1.cls Y_Reader_readPerson.1 Y_Reader_readPerson.1 ∈ pj_ws) := ⟨pj_mem 762 (by decide +kernel) rfl, pj_mem 135 (by decide +kernel) rfl, ⟨by decide +kernel, by decide +kernel, by decide +kernel⟩, pj_mem 761 (by decide +kernel) rfl, pj_mem 19 (by decide +kernel) rfl⟩
theorem cm_Reader_readLikes : (Cond.code Y_Reader_readLikes.1 Y_Reader_readLikes.2.1 Y_Reader_readLikes.2.2.1 Y_Reader_readLikes.2.2.2 ∈ pj_ws) ∧ (Cond.initialized Y_Reader_readLikes.1.cls ∈ pj_ws) ∧ (Y_Reader_readLikes.1.cls ≠ "java/lang/invoke/MethodHandle" ∧ Y_Reader_readLikes.1.cls ≠ "java/lang/invoke/VarHandle" ∧ (parseMethodDescriptor Y_Reader_readLikes.1.desc).map (fun d => d.parameters.length) = some 0) ∧ (Cond.instanceMethod Y_Reader_readLikes.1 ∈ pj_ws) ∧ (Cond.selects Y_Reader_readLikes.1.cls Y_Reader_readLikes.1 Y_Reader_readLikes.1 ∈ pj_ws) := ⟨pj_mem 775 (by decide +kernel) rfl, pj_mem 135 (by decide +kernel) rfl, ⟨by decide +kernel, by decide +kernel, by decide +kernel⟩, pj_mem 774 (by decide +kernel) rfl, pj_mem 21 (by decide +kernel) rfl⟩
theorem cm_Reader_readReason : (Cond.code Y_Reader_readReason.1 Y_Reader_readReason.2.1 Y_Reader_readReason.2.2.1 Y_Reader_readReason.2.2.2 ∈ pj_ws) ∧ (Cond.initialized Y_Reader_readReason.1.cls ∈ pj_ws) ∧ (Y_Reader_readReason.1.cls ≠ "java/lang/invoke/MethodHandle" ∧ Y_Reader_readReason.1.cls ≠ "java/lang/invoke/VarHandle" ∧ (parseMethodDescriptor Y_Reader_readReason.1.desc).map (fun d => d.parameters.length) = some 0) ∧ (Cond.instanceMethod Y_Reader_readReason.1 ∈ pj_ws) ∧ (Cond.selects Y_Reader_readReason.1.cls Y_Reader_readReason.1 Y_Reader_readReason.1 ∈ pj_ws) := ⟨pj_mem 780 (by decide +kernel) rfl, pj_mem 135 (by decide +kernel) rfl, ⟨by decide +kernel, by decide +kernel, by decide +kernel⟩, pj_mem 779 (by decide +kernel) rfl, pj_mem 22 (by decide +kernel) rfl⟩
theorem cm_Reader_readPaid : (Cond.code Y_Reader_readPaid.1 Y_Reader_readPaid.2.1 Y_Reader_readPaid.2.2.1 Y_Reader_readPaid.2.2.2 ∈ pj_ws) ∧ (Cond.initialized Y_Reader_readPaid.1.cls ∈ pj_ws) ∧ (Y_Reader_readPaid.1.cls ≠ "java/lang/invoke/MethodHandle" ∧ Y_Reader_readPaid.1.cls ≠ "java/lang/invoke/VarHandle" ∧ (parseMethodDescriptor Y_Reader_readPaid.1.desc).map (fun d => d.parameters.length) = some 0) ∧ (Cond.instanceMethod Y_Reader_readPaid.1 ∈ pj_ws) ∧ (Cond.selects Y_Reader_readPaid.1.cls Y_Reader_readPaid.1 Y_Reader_readPaid.1 ∈ pj_ws) := ⟨pj_mem 787 (by decide +kernel) rfl, pj_mem 135 (by decide +kernel) rfl, ⟨by decide +kernel, by decide +kernel, by decide +kernel⟩, pj_mem 786 (by decide +kernel) rfl, pj_mem 23 (by decide +kernel) rfl⟩
theorem cm_Reader_readShop : (Cond.code Y_Reader_readShop.1 Y_Reader_readShop.2.1 Y_Reader_readShop.2.2.1 Y_Reader_readShop.2.2.2 ∈ pj_ws) ∧ (Cond.initialized Y_Reader_readShop.1.cls ∈ pj_ws) ∧ (Y_Reader_readShop.1.cls ≠ "java/lang/invoke/MethodHandle" ∧ Y_Reader_readShop.1.cls ≠ "java/lang/invoke/VarHandle" ∧ (parseMethodDescriptor Y_Reader_readShop.1.desc).map (fun d => d.parameters.length) = some 0) ∧ (Cond.instanceMethod Y_Reader_readShop.1 ∈ pj_ws) ∧ (Cond.selects Y_Reader_readShop.1.cls Y_Reader_readShop.1 Y_Reader_readShop.1 ∈ pj_ws) := ⟨pj_mem 796 (by decide +kernel) rfl, pj_mem 135 (by decide +kernel) rfl, ⟨by decide +kernel, by decide +kernel, by decide +kernel⟩, pj_mem 795 (by decide +kernel) rfl, pj_mem 24 (by decide +kernel) rfl⟩
theorem cm_Reader_readLane : (Cond.code Y_Reader_readLane.1 Y_Reader_readLane.2.1 Y_Reader_readLane.2.2.1 Y_Reader_readLane.2.2.2 ∈ pj_ws) ∧ (Cond.initialized Y_Reader_readLane.1.cls ∈ pj_ws) ∧ (Y_Reader_readLane.1.cls ≠ "java/lang/invoke/MethodHandle" ∧ Y_Reader_readLane.1.cls ≠ "java/lang/invoke/VarHandle" ∧ (parseMethodDescriptor Y_Reader_readLane.1.desc).map (fun d => d.parameters.length) = some 0) ∧ (Cond.instanceMethod Y_Reader_readLane.1 ∈ pj_ws) ∧ (Cond.selects Y_Reader_readLane.1.cls Y_Reader_readLane.1 Y_Reader_readLane.1 ∈ pj_ws) := ⟨pj_mem 801 (by decide +kernel) rfl, pj_mem 135 (by decide +kernel) rfl, ⟨by decide +kernel, by decide +kernel, by decide +kernel⟩, pj_mem 800 (by decide +kernel) rfl, pj_mem 25 (by decide +kernel) rfl⟩
theorem cm_Receipts_latestHour : (Cond.code Y_Receipts_latestHour.1 Y_Receipts_latestHour.2.1 Y_Receipts_latestHour.2.2.1 Y_Receipts_latestHour.2.2.2 ∈ pj_ws) ∧ (Cond.initialized Y_Receipts_latestHour.1.cls ∈ pj_ws) ∧ (Y_Receipts_latestHour.1.cls ≠ "java/lang/invoke/MethodHandle" ∧ Y_Receipts_latestHour.1.cls ≠ "java/lang/invoke/VarHandle" ∧ (parseMethodDescriptor Y_Receipts_latestHour.1.desc).map (fun d => d.parameters.length) = some 1) ∧ (Cond.instanceMethod Y_Receipts_latestHour.1 ∈ pj_ws) ∧ (Cond.selects Y_Receipts_latestHour.1.cls Y_Receipts_latestHour.1 Y_Receipts_latestHour.1 ∈ pj_ws) := ⟨pj_mem 792 (by decide +kernel) rfl, pj_mem 133 (by decide +kernel) rfl, ⟨by decide +kernel, by decide +kernel, by decide +kernel⟩, pj_mem 790 (by decide +kernel) rfl, pj_mem 791 (by decide +kernel) rfl⟩
theorem cm_Law_wipe : (Cond.code Y_Law_wipe.1 Y_Law_wipe.2.1 Y_Law_wipe.2.2.1 Y_Law_wipe.2.2.2 ∈ pj_ws) ∧ (Cond.initialized Y_Law_wipe.1.cls ∈ pj_ws) ∧ (Y_Law_wipe.1.cls ≠ "java/lang/invoke/MethodHandle" ∧ Y_Law_wipe.1.cls ≠ "java/lang/invoke/VarHandle" ∧ (parseMethodDescriptor Y_Law_wipe.1.desc).map (fun d => d.parameters.length) = some 0) ∧ (Cond.instanceMethod Y_Law_wipe.1 ∈ pj_ws) ∧ (Cond.selects Y_Law_wipe.1.cls Y_Law_wipe.1 Y_Law_wipe.1 ∈ pj_ws) := ⟨pj_mem 619 (by decide +kernel) rfl, pj_mem 131 (by decide +kernel) rfl, ⟨by decide +kernel, by decide +kernel, by decide +kernel⟩, pj_mem 617 (by decide +kernel) rfl, pj_mem 618 (by decide +kernel) rfl⟩
theorem cm_Reader_readLine : (Cond.code Y_Reader_readLine.1 Y_Reader_readLine.2.1 Y_Reader_readLine.2.2.1 Y_Reader_readLine.2.2.2 ∈ pj_ws) ∧ (Cond.initialized Y_Reader_readLine.1.cls ∈ pj_ws) ∧ (Y_Reader_readLine.1.cls ≠ "java/lang/invoke/MethodHandle" ∧ Y_Reader_readLine.1.cls ≠ "java/lang/invoke/VarHandle" ∧ (parseMethodDescriptor Y_Reader_readLine.1.desc).map (fun d => d.parameters.length) = some 0) ∧ (Cond.instanceMethod Y_Reader_readLine.1 ∈ pj_ws) ∧ (Cond.selects Y_Reader_readLine.1.cls Y_Reader_readLine.1 Y_Reader_readLine.1 ∈ pj_ws) := ⟨pj_mem 646 (by decide +kernel) rfl, pj_mem 135 (by decide +kernel) rfl, ⟨by decide +kernel, by decide +kernel, by decide +kernel⟩, pj_mem 645 (by decide +kernel) rfl, pj_mem 5 (by decide +kernel) rfl⟩
theorem cm_Reader_isFull : (Cond.code Y_Reader_isFull.1 Y_Reader_isFull.2.1 Y_Reader_isFull.2.2.1 Y_Reader_isFull.2.2.2 ∈ pj_ws) ∧ (Cond.initialized Y_Reader_isFull.1.cls ∈ pj_ws) ∧ (Y_Reader_isFull.1.cls ≠ "java/lang/invoke/MethodHandle" ∧ Y_Reader_isFull.1.cls ≠ "java/lang/invoke/VarHandle" ∧ (parseMethodDescriptor Y_Reader_isFull.1.desc).map (fun d => d.parameters.length) = some 1) ∧ (Cond.instanceMethod Y_Reader_isFull.1 ∈ pj_ws) ∧ (Cond.selects Y_Reader_isFull.1.cls Y_Reader_isFull.1 Y_Reader_isFull.1 ∈ pj_ws) := ⟨pj_mem 719 (by decide +kernel) rfl, pj_mem 135 (by decide +kernel) rfl, ⟨by decide +kernel, by decide +kernel, by decide +kernel⟩, pj_mem 718 (by decide +kernel) rfl, pj_mem 9 (by decide +kernel) rfl⟩
theorem cm_Reader_readTax : (Cond.code Y_Reader_readTax.1 Y_Reader_readTax.2.1 Y_Reader_readTax.2.2.1 Y_Reader_readTax.2.2.2 ∈ pj_ws) ∧ (Cond.initialized Y_Reader_readTax.1.cls ∈ pj_ws) ∧ (Y_Reader_readTax.1.cls ≠ "java/lang/invoke/MethodHandle" ∧ Y_Reader_readTax.1.cls ≠ "java/lang/invoke/VarHandle" ∧ (parseMethodDescriptor Y_Reader_readTax.1.desc).map (fun d => d.parameters.length) = some 0) ∧ (Cond.instanceMethod Y_Reader_readTax.1 ∈ pj_ws) ∧ (Cond.selects Y_Reader_readTax.1.cls Y_Reader_readTax.1 Y_Reader_readTax.1 ∈ pj_ws) := ⟨pj_mem 723 (by decide +kernel) rfl, pj_mem 135 (by decide +kernel) rfl, ⟨by decide +kernel, by decide +kernel, by decide +kernel⟩, pj_mem 722 (by decide +kernel) rfl, pj_mem 10 (by decide +kernel) rfl⟩
theorem cm_Reader_readChoice : (Cond.code Y_Reader_readChoice.1 Y_Reader_readChoice.2.1 Y_Reader_readChoice.2.2.1 Y_Reader_readChoice.2.2.2 ∈ pj_ws) ∧ (Cond.initialized Y_Reader_readChoice.1.cls ∈ pj_ws) ∧ (Y_Reader_readChoice.1.cls ≠ "java/lang/invoke/MethodHandle" ∧ Y_Reader_readChoice.1.cls ≠ "java/lang/invoke/VarHandle" ∧ (parseMethodDescriptor Y_Reader_readChoice.1.desc).map (fun d => d.parameters.length) = some 0) ∧ (Cond.instanceMethod Y_Reader_readChoice.1 ∈ pj_ws) ∧ (Cond.selects Y_Reader_readChoice.1.cls Y_Reader_readChoice.1 Y_Reader_readChoice.1 ∈ pj_ws) := ⟨pj_mem 737 (by decide +kernel) rfl, pj_mem 135 (by decide +kernel) rfl, ⟨by decide +kernel, by decide +kernel, by decide +kernel⟩, pj_mem 736 (by decide +kernel) rfl, pj_mem 13 (by decide +kernel) rfl⟩
theorem cm_Now_begin : (Cond.code Y_Now_begin.1 Y_Now_begin.2.1 Y_Now_begin.2.2.1 Y_Now_begin.2.2.2 ∈ pj_ws) ∧ (Cond.initialized Y_Now_begin.1.cls ∈ pj_ws) ∧ (Y_Now_begin.1.cls ≠ "java/lang/invoke/MethodHandle" ∧ Y_Now_begin.1.cls ≠ "java/lang/invoke/VarHandle" ∧ (parseMethodDescriptor Y_Now_begin.1.desc).map (fun d => d.parameters.length) = some 1) ∧ (Cond.instanceMethod Y_Now_begin.1 ∈ pj_ws) ∧ (Cond.selects Y_Now_begin.1.cls Y_Now_begin.1 Y_Now_begin.1 ∈ pj_ws) := ⟨pj_mem 805 (by decide +kernel) rfl, pj_mem 136 (by decide +kernel) rfl, ⟨by decide +kernel, by decide +kernel, by decide +kernel⟩, pj_mem 803 (by decide +kernel) rfl, pj_mem 804 (by decide +kernel) rfl⟩
theorem cm_Past_forget : (Cond.code Y_Past_forget.1 Y_Past_forget.2.1 Y_Past_forget.2.2.1 Y_Past_forget.2.2.2 ∈ pj_ws) ∧ (Cond.initialized Y_Past_forget.1.cls ∈ pj_ws) ∧ (Y_Past_forget.1.cls ≠ "java/lang/invoke/MethodHandle" ∧ Y_Past_forget.1.cls ≠ "java/lang/invoke/VarHandle" ∧ (parseMethodDescriptor Y_Past_forget.1.desc).map (fun d => d.parameters.length) = some 0) ∧ (Cond.instanceMethod Y_Past_forget.1 ∈ pj_ws) ∧ (Cond.selects Y_Past_forget.1.cls Y_Past_forget.1 Y_Past_forget.1 ∈ pj_ws) := ⟨pj_mem 813 (by decide +kernel) rfl, pj_mem 140 (by decide +kernel) rfl, ⟨by decide +kernel, by decide +kernel, by decide +kernel⟩, pj_mem 811 (by decide +kernel) rfl, pj_mem 812 (by decide +kernel) rfl⟩
theorem cm_T_fine : (Cond.code Y_T_fine.1 Y_T_fine.2.1 Y_T_fine.2.2.1 Y_T_fine.2.2.2 ∈ pj_ws) ∧ (Cond.initialized Y_T_fine.1.cls ∈ pj_ws) ∧ (Y_T_fine.1.cls ≠ "java/lang/invoke/MethodHandle" ∧ Y_T_fine.1.cls ≠ "java/lang/invoke/VarHandle" ∧ (parseMethodDescriptor Y_T_fine.1.desc).map (fun d => d.parameters.length) = some 1) ∧ (Cond.instanceMethod Y_T_fine.1 ∈ pj_ws) ∧ (Cond.selects Y_T_fine.1.cls Y_T_fine.1 Y_T_fine.1 ∈ pj_ws) := ⟨pj_mem 817 (by decide +kernel) rfl, pj_mem 130 (by decide +kernel) rfl, ⟨by decide +kernel, by decide +kernel, by decide +kernel⟩, pj_mem 816 (by decide +kernel) rfl, pj_mem 26 (by decide +kernel) rfl⟩
theorem cm_T_refuse : (Cond.code Y_T_refuse.1 Y_T_refuse.2.1 Y_T_refuse.2.2.1 Y_T_refuse.2.2.2 ∈ pj_ws) ∧ (Cond.initialized Y_T_refuse.1.cls ∈ pj_ws) ∧ (Y_T_refuse.1.cls ≠ "java/lang/invoke/MethodHandle" ∧ Y_T_refuse.1.cls ≠ "java/lang/invoke/VarHandle" ∧ (parseMethodDescriptor Y_T_refuse.1.desc).map (fun d => d.parameters.length) = some 1) ∧ (Cond.instanceMethod Y_T_refuse.1 ∈ pj_ws) ∧ (Cond.selects Y_T_refuse.1.cls Y_T_refuse.1 Y_T_refuse.1 ∈ pj_ws) := ⟨pj_mem 611 (by decide +kernel) rfl, pj_mem 130 (by decide +kernel) rfl, ⟨by decide +kernel, by decide +kernel, by decide +kernel⟩, pj_mem 610 (by decide +kernel) rfl, pj_mem 1 (by decide +kernel) rfl⟩
theorem cm_Reader_read : (Cond.code Y_Reader_read.1 Y_Reader_read.2.1 Y_Reader_read.2.2.1 Y_Reader_read.2.2.2 ∈ pj_ws) ∧ (Cond.initialized Y_Reader_read.1.cls ∈ pj_ws) ∧ (Y_Reader_read.1.cls ≠ "java/lang/invoke/MethodHandle" ∧ Y_Reader_read.1.cls ≠ "java/lang/invoke/VarHandle" ∧ (parseMethodDescriptor Y_Reader_read.1.desc).map (fun d => d.parameters.length) = some 2) ∧ (Cond.instanceMethod Y_Reader_read.1 ∈ pj_ws) ∧ (Cond.selects Y_Reader_read.1.cls Y_Reader_read.1 Y_Reader_read.1 ∈ pj_ws) := ⟨pj_mem 615 (by decide +kernel) rfl, pj_mem 135 (by decide +kernel) rfl, ⟨by decide +kernel, by decide +kernel, by decide +kernel⟩, pj_mem 613 (by decide +kernel) rfl, pj_mem 614 (by decide +kernel) rfl⟩
theorem cs_Now_45 : pj_cS "WaverTax$Now" 45 Y_Arrays_fill 2 := ⟨⟨cm_Arrays_fill.1, cm_Arrays_fill.2.1, cm_Arrays_fill.2.2.1, Or.inl (pj_mem 809 (by decide +kernel) rfl)⟩, cm_Arrays_fill.2.2.2⟩
theorem cs_Reader_102 : pj_cV "WaverTax$Reader" 102 Y_Reader_readFar 0 5 := ⟨⟨cm_Reader_readFar.1, cm_Reader_readFar.2.1, cm_Reader_readFar.2.2.1, Or.inl (pj_mem 750 (by decide +kernel) rfl)⟩, by decide, cm_Reader_readFar.2.2.2.1, cm_Reader_readFar.2.2.2.2, ⟨_, rfl, rfl⟩⟩
theorem cs_Reader_105 : pj_cV "WaverTax$Reader" 105 Y_Reader_readPerson 0 5 := ⟨⟨cm_Reader_readPerson.1, cm_Reader_readPerson.2.1, cm_Reader_readPerson.2.2.1, Or.inl (pj_mem 759 (by decide +kernel) rfl)⟩, by decide, cm_Reader_readPerson.2.2.2.1, cm_Reader_readPerson.2.2.2.2, ⟨_, rfl, rfl⟩⟩
theorem cs_Reader_108 : pj_cV "WaverTax$Reader" 108 Y_Reader_readLikes 0 5 := ⟨⟨cm_Reader_readLikes.1, cm_Reader_readLikes.2.1, cm_Reader_readLikes.2.2.1, Or.inl (pj_mem 772 (by decide +kernel) rfl)⟩, by decide, cm_Reader_readLikes.2.2.2.1, cm_Reader_readLikes.2.2.2.2, ⟨_, rfl, rfl⟩⟩
theorem cs_Reader_111 : pj_cV "WaverTax$Reader" 111 Y_Reader_readReason 0 5 := ⟨⟨cm_Reader_readReason.1, cm_Reader_readReason.2.1, cm_Reader_readReason.2.2.1, Or.inl (pj_mem 777 (by decide +kernel) rfl)⟩, by decide, cm_Reader_readReason.2.2.2.1, cm_Reader_readReason.2.2.2.2, ⟨_, rfl, rfl⟩⟩
theorem cs_Reader_114 : pj_cV "WaverTax$Reader" 114 Y_Reader_readPaid 0 5 := ⟨⟨cm_Reader_readPaid.1, cm_Reader_readPaid.2.1, cm_Reader_readPaid.2.2.1, Or.inl (pj_mem 784 (by decide +kernel) rfl)⟩, by decide, cm_Reader_readPaid.2.2.2.1, cm_Reader_readPaid.2.2.2.2, ⟨_, rfl, rfl⟩⟩
theorem cs_Reader_117 : pj_cV "WaverTax$Reader" 117 Y_Reader_readShop 0 5 := ⟨⟨cm_Reader_readShop.1, cm_Reader_readShop.2.1, cm_Reader_readShop.2.2.1, Or.inl (pj_mem 793 (by decide +kernel) rfl)⟩, by decide, cm_Reader_readShop.2.2.2.1, cm_Reader_readShop.2.2.2.2, ⟨_, rfl, rfl⟩⟩
theorem cs_Reader_120 : pj_cV "WaverTax$Reader" 120 Y_Reader_readLane 0 5 := ⟨⟨cm_Reader_readLane.1, cm_Reader_readLane.2.1, cm_Reader_readLane.2.2.1, Or.inl (pj_mem 798 (by decide +kernel) rfl)⟩, by decide, cm_Reader_readLane.2.2.2.1, cm_Reader_readLane.2.2.2.2, ⟨_, rfl, rfl⟩⟩
theorem cs_Reader_258 : pj_cV "WaverTax$Reader" 258 Y_Receipts_latestHour 1 7 := ⟨⟨cm_Receipts_latestHour.1, cm_Receipts_latestHour.2.1, cm_Receipts_latestHour.2.2.1, Or.inl (pj_mem 789 (by decide +kernel) rfl)⟩, by decide, cm_Receipts_latestHour.2.2.2.1, cm_Receipts_latestHour.2.2.2.2, ⟨_, rfl, rfl⟩⟩
theorem cs_Reader_58 : pj_cV "WaverTax$Reader" 58 Y_Law_wipe 0 1 := ⟨⟨cm_Law_wipe.1, cm_Law_wipe.2.1, cm_Law_wipe.2.2.1, Or.inl (pj_mem 616 (by decide +kernel) rfl)⟩, by decide, cm_Law_wipe.2.2.2.1, cm_Law_wipe.2.2.2.2, ⟨_, rfl, rfl⟩⟩
theorem cs_Reader_72 : pj_cV "WaverTax$Reader" 72 Y_Reader_readLine 0 5 := ⟨⟨cm_Reader_readLine.1, cm_Reader_readLine.2.1, cm_Reader_readLine.2.2.1, Or.inl (pj_mem 643 (by decide +kernel) rfl)⟩, by decide, cm_Reader_readLine.2.2.2.1, cm_Reader_readLine.2.2.2.2, ⟨_, rfl, rfl⟩⟩
theorem cs_Reader_93 : pj_cV "WaverTax$Reader" 93 Y_Reader_isFull 1 5 := ⟨⟨cm_Reader_isFull.1, cm_Reader_isFull.2.1, cm_Reader_isFull.2.2.1, Or.inl (pj_mem 716 (by decide +kernel) rfl)⟩, by decide, cm_Reader_isFull.2.2.2.1, cm_Reader_isFull.2.2.2.2, ⟨_, rfl, rfl⟩⟩
theorem cs_Reader_96 : pj_cV "WaverTax$Reader" 96 Y_Reader_readTax 0 5 := ⟨⟨cm_Reader_readTax.1, cm_Reader_readTax.2.1, cm_Reader_readTax.2.2.1, Or.inl (pj_mem 720 (by decide +kernel) rfl)⟩, by decide, cm_Reader_readTax.2.2.2.1, cm_Reader_readTax.2.2.2.2, ⟨_, rfl, rfl⟩⟩
theorem cs_Reader_99 : pj_cV "WaverTax$Reader" 99 Y_Reader_readChoice 0 5 := ⟨⟨cm_Reader_readChoice.1, cm_Reader_readChoice.2.1, cm_Reader_readChoice.2.2.1, Or.inl (pj_mem 734 (by decide +kernel) rfl)⟩, by decide, cm_Reader_readChoice.2.2.2.1, cm_Reader_readChoice.2.2.2.2, ⟨_, rfl, rfl⟩⟩
theorem cs_T_104 : pj_cV "WaverTax" 104 Y_Now_begin 1 2 := ⟨⟨cm_Now_begin.1, cm_Now_begin.2.1, cm_Now_begin.2.2.1, Or.inl (pj_mem 802 (by decide +kernel) rfl)⟩, by decide, cm_Now_begin.2.2.2.1, cm_Now_begin.2.2.2.2, ⟨_, rfl, rfl⟩⟩
theorem cs_T_108 : pj_cV "WaverTax" 108 Y_Past_forget 0 3 := ⟨⟨cm_Past_forget.1, cm_Past_forget.2.1, cm_Past_forget.2.2.1, Or.inl (pj_mem 810 (by decide +kernel) rfl)⟩, by decide, cm_Past_forget.2.2.2.1, cm_Past_forget.2.2.2.2, ⟨_, rfl, rfl⟩⟩
theorem cs_T_114 : pj_cV "WaverTax" 114 Y_T_fine 1 10 := ⟨⟨cm_T_fine.1, cm_T_fine.2.1, cm_T_fine.2.2.1, Or.inl (pj_mem 814 (by decide +kernel) rfl)⟩, by decide, cm_T_fine.2.2.2.1, cm_T_fine.2.2.2.2, ⟨_, rfl, rfl⟩⟩
theorem cs_T_95 : pj_cV "WaverTax" 95 Y_T_refuse 1 10 := ⟨⟨cm_T_refuse.1, cm_T_refuse.2.1, cm_T_refuse.2.2.1, Or.inl (pj_mem 608 (by decide +kernel) rfl)⟩, by decide, cm_T_refuse.2.2.2.1, cm_T_refuse.2.2.2.2, ⟨_, rfl, rfl⟩⟩
theorem cs_T_99 : pj_cV "WaverTax" 99 Y_Reader_read 2 5 := ⟨⟨cm_Reader_read.1, cm_Reader_read.2.1, cm_Reader_read.2.2.1, Or.inl (pj_mem 612 (by decide +kernel) rfl)⟩, by decide, cm_Reader_read.2.2.2.1, cm_Reader_read.2.2.2.2, ⟨_, rfl, rfl⟩⟩
theorem fs_Now_21 : pj_fs "WaverTax$Now" 2 3 21 (.array (.int)) := ⟨_, _, _, _, cd_2, by decide, rfl, Or.inl (pj_mem 416 (by decide +kernel) rfl)⟩
theorem fs_Now_25 : pj_fs "WaverTax$Now" 2 4 25 (.array (.int)) := ⟨_, _, _, _, cd_2, by decide, rfl, Or.inl (pj_mem 421 (by decide +kernel) rfl)⟩
theorem fs_Now_28 : pj_fs "WaverTax$Now" 2 5 28 (.array (.int)) := ⟨_, _, _, _, cd_2, by decide, rfl, Or.inl (pj_mem 426 (by decide +kernel) rfl)⟩
theorem fs_Now_31 : pj_fs "WaverTax$Now" 2 6 31 (.array (.int)) := ⟨_, _, _, _, cd_2, by decide, rfl, Or.inl (pj_mem 428 (by decide +kernel) rfl)⟩
theorem fs_Now_34 : pj_fs "WaverTax$Now" 1 7 34 (.array (.int)) := ⟨_, _, _, _, cd_1, by decide, rfl, Or.inl (pj_mem 303 (by decide +kernel) rfl)⟩
theorem fs_Reader_15 : pj_fs "WaverTax$Reader" 5 3 15 (.boolean) := ⟨_, _, _, _, cd_5, by decide, rfl, Or.inl (pj_mem 360 (by decide +kernel) rfl)⟩
theorem fs_Reader_261 : pj_fs "WaverTax$Reader" 7 1 261 (.array (.int)) := ⟨_, _, _, _, cd_7, by decide, rfl, Or.inl (pj_mem 232 (by decide +kernel) rfl)⟩
theorem fs_Reader_262 : pj_fs "WaverTax$Reader" 7 2 262 (.array (.int)) := ⟨_, _, _, _, cd_7, by decide, rfl, Or.inl (pj_mem 236 (by decide +kernel) rfl)⟩
theorem fs_Reader_265 : pj_fs "WaverTax$Reader" 7 3 265 (.array (.int)) := ⟨_, _, _, _, cd_7, by decide, rfl, Or.inl (pj_mem 239 (by decide +kernel) rfl)⟩
theorem fs_Reader_268 : pj_fs "WaverTax$Reader" 9 2 268 (.array (.int)) := ⟨_, _, _, _, cd_9, by decide, rfl, Or.inl (pj_mem 262 (by decide +kernel) rfl)⟩
theorem fs_Reader_270 : pj_fs "WaverTax$Reader" 9 3 270 (.array (.int)) := ⟨_, _, _, _, cd_9, by decide, rfl, Or.inl (pj_mem 264 (by decide +kernel) rfl)⟩
theorem fs_Receipts_15 : pj_fs "WaverTax$Receipts" 7 1 15 (.array (.int)) := ⟨_, _, _, _, cd_7, by decide, rfl, Or.inl (pj_mem 230 (by decide +kernel) rfl)⟩
theorem fs_Receipts_22 : pj_fs "WaverTax$Receipts" 7 3 22 (.array (.int)) := ⟨_, _, _, _, cd_7, by decide, rfl, Or.inl (pj_mem 237 (by decide +kernel) rfl)⟩
theorem fs_Receipts_9 : pj_fs "WaverTax$Receipts" 7 0 9 (.int) := ⟨_, _, _, _, cd_7, by decide, rfl, Or.inl (pj_mem 225 (by decide +kernel) rfl)⟩
theorem fs_T_103 : pj_fs "WaverTax" 5 8 103 (.int) := ⟨_, _, _, _, cd_5, by decide, rfl, Or.inl (pj_mem 366 (by decide +kernel) rfl)⟩
theorem fs_T_111 : pj_fs "WaverTax" 1 3 111 (.int) := ⟨_, _, _, _, cd_1, by decide, rfl, Or.inl (pj_mem 289 (by decide +kernel) rfl)⟩
theorem fs_T_32 : pj_fs "WaverTax" 10 4 32 (.object "WaverTax$Reader") := ⟨_, _, _, _, cd_10, by decide, rfl, Or.inl (pj_mem 554 (by decide +kernel) rfl)⟩
theorem fs_T_78 : pj_fs "WaverTax" 10 11 78 (.object "WaverTax$Past") := ⟨_, _, _, _, cd_10, by decide, rfl, Or.inl (pj_mem 561 (by decide +kernel) rfl)⟩
theorem fs_T_82 : pj_fs "WaverTax" 10 12 82 (.int) := ⟨_, _, _, _, cd_10, by decide, rfl, Or.inl (pj_mem 562 (by decide +kernel) rfl)⟩
theorem fs_T_85 : pj_fs "WaverTax" 10 13 85 (.int) := ⟨_, _, _, _, cd_10, by decide, rfl, Or.inl (pj_mem 563 (by decide +kernel) rfl)⟩
theorem fs_T_88 : pj_fs "WaverTax" 10 14 88 (.int) := ⟨_, _, _, _, cd_10, by decide, rfl, Or.inl (pj_mem 564 (by decide +kernel) rfl)⟩
theorem ps_Reader_173 {mn : String} : pj_ps "WaverTax$Reader" mn 7 0 173 (.int) := ⟨_, _, _, _, cd_7, by decide, rfl, Or.inl ⟨rfl, Or.inl (pj_mem 228 (by decide +kernel) rfl)⟩⟩
theorem ps_Reader_180 {mn : String} : pj_ps "WaverTax$Reader" mn 9 0 180 (.int) := ⟨_, _, _, _, cd_9, by decide, rfl, Or.inl ⟨rfl, Or.inl (pj_mem 256 (by decide +kernel) rfl)⟩⟩
theorem ps_Reader_183 {mn : String} : pj_ps "WaverTax$Reader" mn 9 1 183 (.int) := ⟨_, _, _, _, cd_9, by decide, rfl, Or.inl ⟨rfl, Or.inl (pj_mem 259 (by decide +kernel) rfl)⟩⟩
theorem wd_148 : (Jvm.Cond.initialized "java/lang/System") ∈ pj_ws := pj_mem 148 (by decide +kernel) rfl
theorem wd_806 : (Jvm.Cond.methodLink "WaverTax$Now" (39 : Nat) ({ cls := "java/lang/System", name := "arraycopy", desc := "(Ljava/lang/Object;ILjava/lang/Object;II)V" } : Jvm.MethodName)) ∈ pj_ws := pj_mem 806 (by decide +kernel) rfl
theorem wd_628 : (Jvm.Cond.methodLink "WaverTax$Reader" (63 : Nat) ({ cls := "java/lang/Math", name := "min", desc := "(II)I" } : Jvm.MethodName)) ∈ pj_ws := pj_mem 628 (by decide +kernel) rfl
theorem wd_808 : (Jvm.Cond.native ({ cls := "java/lang/System", name := "arraycopy", desc := "(Ljava/lang/Object;ILjava/lang/Object;II)V" } : Jvm.MethodName)) ∈ pj_ws := pj_mem 808 (by decide +kernel) rfl
theorem wd_807 : (Jvm.Cond.static ({ cls := "java/lang/System", name := "arraycopy", desc := "(Ljava/lang/Object;ILjava/lang/Object;II)V" } : Jvm.MethodName)) ∈ pj_ws := pj_mem 807 (by decide +kernel) rfl
theorem d_Receipts_latestHour_0 : decode Y_Receipts_latestHour.2.1 0 = .ok (.iconst (-1), 1) := by decide +kernel
theorem d_Receipts_latestHour_1 : decode Y_Receipts_latestHour.2.1 1 = .ok (.istore_n 2, 1) := by decide +kernel
theorem d_Receipts_latestHour_2 : decode Y_Receipts_latestHour.2.1 2 = .ok (.iconst 0, 1) := by decide +kernel
theorem d_Receipts_latestHour_3 : decode Y_Receipts_latestHour.2.1 3 = .ok (.istore_n 3, 1) := by decide +kernel
theorem d_Receipts_latestHour_4 : decode Y_Receipts_latestHour.2.1 4 = .ok (.iload_n 3, 1) := by decide +kernel
theorem d_Receipts_latestHour_5 : decode Y_Receipts_latestHour.2.1 5 = .ok (.aload_n 0, 1) := by decide +kernel
theorem d_Receipts_latestHour_6 : decode Y_Receipts_latestHour.2.1 6 = .ok (.getfield 9, 3) := by decide +kernel
theorem d_Receipts_latestHour_9 : decode Y_Receipts_latestHour.2.1 9 = .ok (.if_icmp .ge 26, 3) := by decide +kernel
theorem d_Receipts_latestHour_12 : decode Y_Receipts_latestHour.2.1 12 = .ok (.aload_n 0, 1) := by decide +kernel
theorem d_Receipts_latestHour_13 : decode Y_Receipts_latestHour.2.1 13 = .ok (.getfield 15, 3) := by decide +kernel
theorem d_Receipts_latestHour_16 : decode Y_Receipts_latestHour.2.1 16 = .ok (.iload_n 3, 1) := by decide +kernel
theorem d_Receipts_latestHour_17 : decode Y_Receipts_latestHour.2.1 17 = .ok (.iaload, 1) := by decide +kernel
theorem d_Receipts_latestHour_18 : decode Y_Receipts_latestHour.2.1 18 = .ok (.iload_n 1, 1) := by decide +kernel
theorem d_Receipts_latestHour_19 : decode Y_Receipts_latestHour.2.1 19 = .ok (.if_icmp .ne 10, 3) := by decide +kernel
theorem d_Receipts_latestHour_22 : decode Y_Receipts_latestHour.2.1 22 = .ok (.aload_n 0, 1) := by decide +kernel
theorem d_Receipts_latestHour_23 : decode Y_Receipts_latestHour.2.1 23 = .ok (.getfield 22, 3) := by decide +kernel
theorem d_Receipts_latestHour_26 : decode Y_Receipts_latestHour.2.1 26 = .ok (.iload_n 3, 1) := by decide +kernel
theorem d_Receipts_latestHour_27 : decode Y_Receipts_latestHour.2.1 27 = .ok (.iaload, 1) := by decide +kernel
theorem d_Receipts_latestHour_28 : decode Y_Receipts_latestHour.2.1 28 = .ok (.istore_n 2, 1) := by decide +kernel
theorem d_Receipts_latestHour_29 : decode Y_Receipts_latestHour.2.1 29 = .ok (.iinc 3 1, 3) := by decide +kernel
theorem d_Receipts_latestHour_32 : decode Y_Receipts_latestHour.2.1 32 = .ok (.goto (-28), 3) := by decide +kernel
theorem d_Receipts_latestHour_35 : decode Y_Receipts_latestHour.2.1 35 = .ok (.iload_n 2, 1) := by decide +kernel
theorem d_Receipts_latestHour_36 : decode Y_Receipts_latestHour.2.1 36 = .ok (.ireturn, 1) := by decide +kernel
def f_Receipts_latestHour (h : PH) (a0 : Option Nat) (a1 : Int32) : Option Int32 := (pj_it (X := Int32) (fun s1 : Int32 × Int32 => (gI h 7 a0 0).bind fun v3 => if v3 ≤ s1.2 then (some (.inr s1.1)) else ((gR h 7 a0 1).bind fun v4 => (aI h v4 s1.2).bind fun v5 => if ¬ v5 = a1 then (some (.inl (s1.1, (s1.2 + (1 : Int32))))) else ((gR h 7 a0 3).bind fun v6 => (aI h v6 s1.2).bind fun v7 => some (.inl (v7, (s1.2 + (1 : Int32))))))) FU ((-1 : Int32), (0 : Int32))).bind fun x2 => some x2
set_option maxRecDepth 20000 in
theorem PM_Receipts_latestHour {l : Launch} {G : Cx} {h : PH} {a0 : Option Nat} {a1 : Int32} {z : Int32} (hz : f_Receipts_latestHour h a0 a1 = some z) : PM l G 1 0 0 Y_Receipts_latestHour [.inr (.inr a0), .inl a1] h (some (.inl z), h) := by
  refine PM.of (Y := Y_Receipts_latestHour) (cv := (fun z : Int32 => (((some (.inl z), h) : Option PV × PH)))) (by decide) (L0 := [some (.inr (.inr a0)), some (.inl a1), none, none]) 2 rfl (Nat.le_of_ble_eq_true rfl) ?_ hz
  unfold f_Receipts_latestHour
  refine PJ.iconst (pc := 0) (v := -1) d_Receipts_latestHour_0 (by decide) ?_
  refine PJ.istore_n (pc := 1) (L1 := [some (.inr (.inr a0)), some (.inl a1), some (.inl (-1 : Int32)), none]) d_Receipts_latestHour_1 (Nat.le_of_ble_eq_true rfl) rfl rfl ?_
  refine PJ.iconst (pc := 2) (v := 0) d_Receipts_latestHour_2 (by decide) ?_
  refine PJ.istore_n (pc := 3) (L1 := [some (.inr (.inr a0)), some (.inl a1), some (.inl (-1 : Int32)), some (.inl (0 : Int32))]) d_Receipts_latestHour_3 (Nat.le_of_ble_eq_true rfl) rfl rfl ?_
  refine PJ.bind (fun x2 : Int32 => ((35 : Nat), ([none, none, some (.inl x2), none] : List (Option PV)), ([] : List PV), (h : PH), (0 : Nat), (0 : Nat))) (PJ.it (E := (fun s1 : Int32 × Int32 => ((4 : Nat), ([some (.inr (.inr a0)), some (.inl a1), some (.inl s1.1), some (.inl s1.2)] : List (Option PV)), ([] : List PV), (h : PH), (0 : Nat), (0 : Nat)))) (F := (fun x2 : Int32 => ((35 : Nat), ([none, none, some (.inl x2), none] : List (Option PV)), ([] : List PV), (h : PH), (0 : Nat), (0 : Nat)))) (fun s1 => ?_) FU ((-1 : Int32), (0 : Int32))) (fun x2 => ?_)
  · show PJ l G (pj_rm 1 0 0) Y_Receipts_latestHour 4 [some (.inr (.inr a0)), some (.inl a1), some (.inl s1.1), some (.inl s1.2)] [] h 0 0 _ _
    refine PJ.iload_n (pc := 4) d_Receipts_latestHour_4 rfl ?_
    refine PJ.aload_n (pc := 5) d_Receipts_latestHour_5 rfl ?_
    refine PJ.getI (pc := 6) fs_Receipts_9 d_Receipts_latestHour_6 (fun v3 => ?_)
    refine PJ.icmp_ge (pc := 9) (tgt := 35) d_Receipts_latestHour_9 (by decide) (fun _ => ?_) (fun _ => ?_)
    · refine PJ.mk (L1 := [none, none, some (.inl s1.1), none]) [false, false, true, false] rfl ?_
      exact PJ.done rfl
    · refine PJ.aload_n (pc := 12) d_Receipts_latestHour_12 rfl ?_
      refine PJ.getR (pc := 13) fs_Receipts_15 d_Receipts_latestHour_13 (fun v4 => ?_)
      refine PJ.iload_n (pc := 16) d_Receipts_latestHour_16 rfl ?_
      refine PJ.iald (pc := 17) d_Receipts_latestHour_17 (fun v5 => ?_)
      refine PJ.iload_n (pc := 18) d_Receipts_latestHour_18 rfl ?_
      refine PJ.icmp_ne (pc := 19) (tgt := 29) d_Receipts_latestHour_19 (by decide) (fun _ => ?_) (fun _ => ?_)
      · refine PJ.iinc (pc := 29) (v := 1) (L1 := [some (.inr (.inr a0)), some (.inl a1), some (.inl s1.1), some (.inl (s1.2 + (1 : Int32)))]) d_Receipts_latestHour_29 rfl (by decide) (Nat.le_of_ble_eq_true rfl) rfl rfl ?_
        refine PJ.goto (pc := 32) (tgt := 4) d_Receipts_latestHour_32 (by decide) ?_
        exact PJ.done rfl
      · refine PJ.aload_n (pc := 22) d_Receipts_latestHour_22 rfl ?_
        refine PJ.getR (pc := 23) fs_Receipts_22 d_Receipts_latestHour_23 (fun v6 => ?_)
        refine PJ.iload_n (pc := 26) d_Receipts_latestHour_26 rfl ?_
        refine PJ.iald (pc := 27) d_Receipts_latestHour_27 (fun v7 => ?_)
        refine PJ.istore_n (pc := 28) (L1 := [some (.inr (.inr a0)), some (.inl a1), some (.inl v7), some (.inl s1.2)]) d_Receipts_latestHour_28 (Nat.le_of_ble_eq_true rfl) rfl rfl ?_
        refine PJ.iinc (pc := 29) (v := 1) (L1 := [some (.inr (.inr a0)), some (.inl a1), some (.inl v7), some (.inl (s1.2 + (1 : Int32)))]) d_Receipts_latestHour_29 rfl (by decide) (Nat.le_of_ble_eq_true rfl) rfl rfl ?_
        refine PJ.goto (pc := 32) (tgt := 4) d_Receipts_latestHour_32 (by decide) ?_
        exact PJ.done rfl
  · show PJ l G (pj_rm 1 0 0) Y_Receipts_latestHour 35 [none, none, some (.inl x2), none] [] h 0 0 _ _
    refine PJ.iload_n (pc := 35) d_Receipts_latestHour_35 rfl ?_
    exact PJ.iretp (pc := 36) d_Receipts_latestHour_36 rfl (Nat.le_of_ble_eq_true rfl) (Nat.le_of_ble_eq_true rfl)
theorem d_Reader_readPaid_0 : decode Y_Reader_readPaid.2.1 0 = .ok (.aload_n 0, 1) := by decide +kernel
theorem d_Reader_readPaid_1 : decode Y_Reader_readPaid.2.1 1 = .ok (.getfield 54, 3) := by decide +kernel
theorem d_Reader_readPaid_4 : decode Y_Reader_readPaid.2.1 4 = .ok (.getfield 169, 3) := by decide +kernel
theorem d_Reader_readPaid_7 : decode Y_Reader_readPaid.2.1 7 = .ok (.astore_n 1, 1) := by decide +kernel
theorem d_Reader_readPaid_8 : decode Y_Reader_readPaid.2.1 8 = .ok (.aload_n 1, 1) := by decide +kernel
theorem d_Reader_readPaid_9 : decode Y_Reader_readPaid.2.1 9 = .ok (.getfield 173, 3) := by decide +kernel
theorem d_Reader_readPaid_12 : decode Y_Reader_readPaid.2.1 12 = .ok (.istore_n 2, 1) := by decide +kernel
theorem d_Reader_readPaid_13 : decode Y_Reader_readPaid.2.1 13 = .ok (.aload_n 0, 1) := by decide +kernel
theorem d_Reader_readPaid_14 : decode Y_Reader_readPaid.2.1 14 = .ok (.iconst 3, 1) := by decide +kernel
theorem d_Reader_readPaid_15 : decode Y_Reader_readPaid.2.1 15 = .ok (.invokevirtual 204, 3) := by decide +kernel
theorem d_Reader_readPaid_18 : decode Y_Reader_readPaid.2.1 18 = .ok (.istore_n 3, 1) := by decide +kernel
theorem d_Reader_readPaid_19 : decode Y_Reader_readPaid.2.1 19 = .ok (.aload_n 0, 1) := by decide +kernel
theorem d_Reader_readPaid_20 : decode Y_Reader_readPaid.2.1 20 = .ok (.iconst 0, 1) := by decide +kernel
theorem d_Reader_readPaid_21 : decode Y_Reader_readPaid.2.1 21 = .ok (.sipush 999, 3) := by decide +kernel
theorem d_Reader_readPaid_24 : decode Y_Reader_readPaid.2.1 24 = .ok (.invokevirtual 192, 3) := by decide +kernel
theorem d_Reader_readPaid_27 : decode Y_Reader_readPaid.2.1 27 = .ok (.istore 4, 2) := by decide +kernel
theorem d_Reader_readPaid_29 : decode Y_Reader_readPaid.2.1 29 = .ok (.aload_n 0, 1) := by decide +kernel
theorem d_Reader_readPaid_30 : decode Y_Reader_readPaid.2.1 30 = .ok (.ldc_w 257, 3) := by decide +kernel
theorem d_Reader_readPaid_33 : decode Y_Reader_readPaid.2.1 33 = .ok (.invokevirtual 188, 3) := by decide +kernel
theorem d_Reader_readPaid_36 : decode Y_Reader_readPaid.2.1 36 = .ok (.aload_n 0, 1) := by decide +kernel
theorem d_Reader_readPaid_37 : decode Y_Reader_readPaid.2.1 37 = .ok (.getfield 22, 3) := by decide +kernel
theorem d_Reader_readPaid_40 : decode Y_Reader_readPaid.2.1 40 = .ok (.istore 5, 2) := by decide +kernel
theorem d_Reader_readPaid_42 : decode Y_Reader_readPaid.2.1 42 = .ok (.aload_n 0, 1) := by decide +kernel
theorem d_Reader_readPaid_43 : decode Y_Reader_readPaid.2.1 43 = .ok (.iconst 0, 1) := by decide +kernel
theorem d_Reader_readPaid_44 : decode Y_Reader_readPaid.2.1 44 = .ok (.bipush 99, 2) := by decide +kernel
theorem d_Reader_readPaid_46 : decode Y_Reader_readPaid.2.1 46 = .ok (.invokevirtual 192, 3) := by decide +kernel
theorem d_Reader_readPaid_49 : decode Y_Reader_readPaid.2.1 49 = .ok (.istore 6, 2) := by decide +kernel
theorem d_Reader_readPaid_51 : decode Y_Reader_readPaid.2.1 51 = .ok (.iload 6, 2) := by decide +kernel
theorem d_Reader_readPaid_53 : decode Y_Reader_readPaid.2.1 53 = .ok (.aload_n 1, 1) := by decide +kernel
theorem d_Reader_readPaid_54 : decode Y_Reader_readPaid.2.1 54 = .ok (.iload_n 3, 1) := by decide +kernel
theorem d_Reader_readPaid_55 : decode Y_Reader_readPaid.2.1 55 = .ok (.invokevirtual 258, 3) := by decide +kernel
theorem d_Reader_readPaid_58 : decode Y_Reader_readPaid.2.1 58 = .ok (.if_icmp .gt 10, 3) := by decide +kernel
theorem d_Reader_readPaid_61 : decode Y_Reader_readPaid.2.1 61 = .ok (.aload_n 0, 1) := by decide +kernel
theorem d_Reader_readPaid_62 : decode Y_Reader_readPaid.2.1 62 = .ok (.iconst 4, 1) := by decide +kernel
theorem d_Reader_readPaid_63 : decode Y_Reader_readPaid.2.1 63 = .ok (.iload 5, 2) := by decide +kernel
theorem d_Reader_readPaid_65 : decode Y_Reader_readPaid.2.1 65 = .ok (.invokevirtual 75, 3) := by decide +kernel
theorem d_Reader_readPaid_68 : decode Y_Reader_readPaid.2.1 68 = .ok (.aload_n 0, 1) := by decide +kernel
theorem d_Reader_readPaid_69 : decode Y_Reader_readPaid.2.1 69 = .ok (.getfield 28, 3) := by decide +kernel
theorem d_Reader_readPaid_72 : decode Y_Reader_readPaid.2.1 72 = .ok (.ifCond .ne 36, 3) := by decide +kernel
theorem d_Reader_readPaid_75 : decode Y_Reader_readPaid.2.1 75 = .ok (.aload_n 1, 1) := by decide +kernel
theorem d_Reader_readPaid_76 : decode Y_Reader_readPaid.2.1 76 = .ok (.getfield 261, 3) := by decide +kernel
theorem d_Reader_readPaid_79 : decode Y_Reader_readPaid.2.1 79 = .ok (.iload_n 2, 1) := by decide +kernel
theorem d_Reader_readPaid_80 : decode Y_Reader_readPaid.2.1 80 = .ok (.iload_n 3, 1) := by decide +kernel
theorem d_Reader_readPaid_81 : decode Y_Reader_readPaid.2.1 81 = .ok (.iastore, 1) := by decide +kernel
theorem d_Reader_readPaid_82 : decode Y_Reader_readPaid.2.1 82 = .ok (.aload_n 1, 1) := by decide +kernel
theorem d_Reader_readPaid_83 : decode Y_Reader_readPaid.2.1 83 = .ok (.getfield 262, 3) := by decide +kernel
theorem d_Reader_readPaid_86 : decode Y_Reader_readPaid.2.1 86 = .ok (.iload_n 2, 1) := by decide +kernel
theorem d_Reader_readPaid_87 : decode Y_Reader_readPaid.2.1 87 = .ok (.iload 4, 2) := by decide +kernel
theorem d_Reader_readPaid_89 : decode Y_Reader_readPaid.2.1 89 = .ok (.iastore, 1) := by decide +kernel
theorem d_Reader_readPaid_90 : decode Y_Reader_readPaid.2.1 90 = .ok (.aload_n 1, 1) := by decide +kernel
theorem d_Reader_readPaid_91 : decode Y_Reader_readPaid.2.1 91 = .ok (.getfield 265, 3) := by decide +kernel
theorem d_Reader_readPaid_94 : decode Y_Reader_readPaid.2.1 94 = .ok (.iload_n 2, 1) := by decide +kernel
theorem d_Reader_readPaid_95 : decode Y_Reader_readPaid.2.1 95 = .ok (.iload 6, 2) := by decide +kernel
theorem d_Reader_readPaid_97 : decode Y_Reader_readPaid.2.1 97 = .ok (.iastore, 1) := by decide +kernel
theorem d_Reader_readPaid_98 : decode Y_Reader_readPaid.2.1 98 = .ok (.aload_n 1, 1) := by decide +kernel
theorem d_Reader_readPaid_99 : decode Y_Reader_readPaid.2.1 99 = .ok (.dup, 1) := by decide +kernel
theorem d_Reader_readPaid_100 : decode Y_Reader_readPaid.2.1 100 = .ok (.getfield 173, 3) := by decide +kernel
theorem d_Reader_readPaid_103 : decode Y_Reader_readPaid.2.1 103 = .ok (.iconst 1, 1) := by decide +kernel
theorem d_Reader_readPaid_104 : decode Y_Reader_readPaid.2.1 104 = .ok (.iadd, 1) := by decide +kernel
theorem d_Reader_readPaid_105 : decode Y_Reader_readPaid.2.1 105 = .ok (.putfield 173, 3) := by decide +kernel
theorem d_Reader_readPaid_108 : decode Y_Reader_readPaid.2.1 108 = .ok (.return_, 1) := by decide +kernel
def f_Reader_readPaid (h : PH) (a0 : Option Nat) : Option PH := (gR h 5 a0 2).bind fun v1 => (gR h 1 v1 11).bind fun v2 => (gI h 7 v2 0).bind fun v3 => (cl h 5 a0 (f_Reader_known h a0 (3 : Int32))).bind fun v4 => (cl v4.2 5 a0 (f_Reader_whole v4.2 a0 (0 : Int32) (999 : Int32))).bind fun v5 => (cl v5.2 5 a0 (f_Reader_keyword v5.2 a0 (some 21))).bind fun h6 => (gI h6 5 a0 5).bind fun v7 => (cl h6 5 a0 (f_Reader_whole h6 a0 (0 : Int32) (99 : Int32))).bind fun v8 => (cl v8.2 7 v2 (f_Receipts_latestHour v8.2 v2 v4.1)).bind fun v9 => (if v9 < v8.1 then (some v8.2) else ((cl v8.2 5 a0 (f_Reader_fail v8.2 a0 (4 : Int32) v7)).bind fun h11 => some h11) : Option (PH)).bind fun j10 => (gI j10 5 a0 7).bind fun v12 => if ¬ v12 = 0 then (some j10) else ((gR j10 7 v2 1).bind fun v13 => (sA j10 50 v13 v3 (.inl v4.1)).bind fun h14 => (gR h14 7 v2 2).bind fun v15 => (sA h14 50 v15 v3 (.inl v5.1)).bind fun h16 => (gR h16 7 v2 3).bind fun v17 => (sA h16 50 v17 v3 (.inl v8.1)).bind fun h18 => (gI h18 7 v2 0).bind fun v19 => (sF h18 7 v2 0 (.inl (v19 + (1 : Int32)))).bind fun h20 => some h20)
set_option maxRecDepth 20000 in
theorem PM_Reader_readPaid {l : Launch} {G : Cx} {h : PH} {a0 : Option Nat} {z : PH} (hz : f_Reader_readPaid h a0 = some z) : PM l G 10 0 0 Y_Reader_readPaid [.inr (.inr a0)] h (none, z) := by
  refine PM.of (Y := Y_Reader_readPaid) (cv := (fun z : PH => (((none, z) : Option PV × PH)))) (by decide) (L0 := [some (.inr (.inr a0)), none, none, none, none, none, none]) 6 rfl (Nat.le_of_ble_eq_true rfl) ?_ hz
  unfold f_Reader_readPaid
  refine PJ.aload_n (pc := 0) d_Reader_readPaid_0 rfl ?_
  refine PJ.getR (pc := 1) fs_Reader_54 d_Reader_readPaid_1 (fun v1 => ?_)
  refine PJ.getR (pc := 4) fs_Reader_169 d_Reader_readPaid_4 (fun v2 => ?_)
  refine PJ.astore_n (pc := 7) (L1 := [some (.inr (.inr a0)), some (.inr (.inr v2)), none, none, none, none, none]) d_Reader_readPaid_7 (Nat.le_of_ble_eq_true rfl) rfl rfl ?_
  refine PJ.aload_n (pc := 8) d_Reader_readPaid_8 rfl ?_
  refine PJ.getI (pc := 9) fs_Reader_173 d_Reader_readPaid_9 (fun v3 => ?_)
  refine PJ.istore_n (pc := 12) (L1 := [some (.inr (.inr a0)), some (.inr (.inr v2)), some (.inl v3), none, none, none, none]) d_Reader_readPaid_12 (Nat.le_of_ble_eq_true rfl) rfl rfl ?_
  refine PJ.aload_n (pc := 13) d_Reader_readPaid_13 rfl ?_
  refine PJ.iconst (pc := 14) (v := 3) d_Reader_readPaid_14 (by decide) ?_
  refine PJ.cVI (pc := 15) cs_Reader_204 (fun z hz => PM_Reader_known hz) (pj_fitb rfl) rfl rfl (Nat.le_of_ble_eq_true rfl) d_Reader_readPaid_15 (fun v4 => ?_)
  refine PJ.istore_n (pc := 18) (L1 := [some (.inr (.inr a0)), some (.inr (.inr v2)), some (.inl v3), some (.inl v4.1), none, none, none]) d_Reader_readPaid_18 (Nat.le_of_ble_eq_true rfl) rfl rfl ?_
  refine PJ.aload_n (pc := 19) d_Reader_readPaid_19 rfl ?_
  refine PJ.iconst (pc := 20) (v := 0) d_Reader_readPaid_20 (by decide) ?_
  refine PJ.sipush (pc := 21) (v := 999) d_Reader_readPaid_21 (by decide) ?_
  refine PJ.cVI (pc := 24) cs_Reader_192 (fun z hz => PM_Reader_whole hz) (pj_fitb rfl) rfl rfl (Nat.le_of_ble_eq_true rfl) d_Reader_readPaid_24 (fun v5 => ?_)
  refine PJ.istore (pc := 27) (L1 := [some (.inr (.inr a0)), some (.inr (.inr v2)), some (.inl v3), some (.inl v4.1), some (.inl v5.1), none, none]) d_Reader_readPaid_27 (Nat.le_of_ble_eq_true rfl) rfl rfl ?_
  refine PJ.aload_n (pc := 29) d_Reader_readPaid_29 rfl ?_
  refine PJ.ldcwS (pc := 30) (i := 21) d_Reader_readPaid_30 (by decide) (List.mem_of_getElem? (i := 21) rfl) ?_
  refine PJ.cVV (pc := 33) cs_Reader_188 (fun z hz => PM_Reader_keyword hz) (pj_fitb rfl) rfl rfl (Nat.le_of_ble_eq_true rfl) d_Reader_readPaid_33 (fun h6 => ?_)
  refine PJ.aload_n (pc := 36) d_Reader_readPaid_36 rfl ?_
  refine PJ.getI (pc := 37) fs_Reader_22 d_Reader_readPaid_37 (fun v7 => ?_)
  refine PJ.istore (pc := 40) (L1 := [some (.inr (.inr a0)), some (.inr (.inr v2)), some (.inl v3), some (.inl v4.1), some (.inl v5.1), some (.inl v7), none]) d_Reader_readPaid_40 (Nat.le_of_ble_eq_true rfl) rfl rfl ?_
  refine PJ.aload_n (pc := 42) d_Reader_readPaid_42 rfl ?_
  refine PJ.iconst (pc := 43) (v := 0) d_Reader_readPaid_43 (by decide) ?_
  refine PJ.bipush (pc := 44) (v := 99) d_Reader_readPaid_44 (by decide) ?_
  refine PJ.cVI (pc := 46) cs_Reader_192 (fun z hz => PM_Reader_whole hz) (pj_fitb rfl) rfl rfl (Nat.le_of_ble_eq_true rfl) d_Reader_readPaid_46 (fun v8 => ?_)
  refine PJ.istore (pc := 49) (L1 := [some (.inr (.inr a0)), some (.inr (.inr v2)), some (.inl v3), some (.inl v4.1), some (.inl v5.1), some (.inl v7), some (.inl v8.1)]) d_Reader_readPaid_49 (Nat.le_of_ble_eq_true rfl) rfl rfl ?_
  refine PJ.iload (pc := 51) d_Reader_readPaid_51 rfl ?_
  refine PJ.aload_n (pc := 53) d_Reader_readPaid_53 rfl ?_
  refine PJ.iload_n (pc := 54) d_Reader_readPaid_54 rfl ?_
  refine PJ.cVpI (pc := 55) cs_Reader_258 (fun z hz => PM_Receipts_latestHour hz) (pj_fitb rfl) rfl rfl (Nat.le_of_ble_eq_true rfl) d_Reader_readPaid_55 (fun v9 => ?_)
  refine PJ.bind (fun j10 : PH => ((68 : Nat), ([some (.inr (.inr a0)), some (.inr (.inr v2)), some (.inl v3), some (.inl v4.1), some (.inl v5.1), none, some (.inl v8.1)] : List (Option PV)), ([] : List PV), (j10 : PH), (0 : Nat), (0 : Nat))) ?_ (fun j10 => ?_)
  · refine PJ.icmp_gt (pc := 58) (tgt := 68) d_Reader_readPaid_58 (by decide) (fun _ => ?_) (fun _ => ?_)
    · refine PJ.mk (L1 := [some (.inr (.inr a0)), some (.inr (.inr v2)), some (.inl v3), some (.inl v4.1), some (.inl v5.1), none, some (.inl v8.1)]) [true, true, true, true, true, false, true] rfl ?_
      exact PJ.done rfl
    · refine PJ.aload_n (pc := 61) d_Reader_readPaid_61 rfl ?_
      refine PJ.iconst (pc := 62) (v := 4) d_Reader_readPaid_62 (by decide) ?_
      refine PJ.iload (pc := 63) d_Reader_readPaid_63 rfl ?_
      refine PJ.cVV (pc := 65) cs_Reader_75 (fun z hz => PM_Reader_fail hz) (pj_fitb rfl) rfl rfl (Nat.le_of_ble_eq_true rfl) d_Reader_readPaid_65 (fun h11 => ?_)
      refine PJ.mk (L1 := [some (.inr (.inr a0)), some (.inr (.inr v2)), some (.inl v3), some (.inl v4.1), some (.inl v5.1), none, some (.inl v8.1)]) [true, true, true, true, true, false, true] rfl ?_
      exact PJ.done rfl
  · show PJ l G (pj_rm 10 0 0) Y_Reader_readPaid 68 [some (.inr (.inr a0)), some (.inr (.inr v2)), some (.inl v3), some (.inl v4.1), some (.inl v5.1), none, some (.inl v8.1)] [] j10 0 0 _ _
    refine PJ.aload_n (pc := 68) d_Reader_readPaid_68 rfl ?_
    refine PJ.getI (pc := 69) fs_Reader_28 d_Reader_readPaid_69 (fun v12 => ?_)
    refine PJ.if_ne (pc := 72) (tgt := 108) d_Reader_readPaid_72 (by decide) (fun _ => ?_) (fun _ => ?_)
    · exact PJ.vret (pc := 108) d_Reader_readPaid_108 rfl (Nat.le_of_ble_eq_true rfl) (Nat.le_of_ble_eq_true rfl)
    · refine PJ.aload_n (pc := 75) d_Reader_readPaid_75 rfl ?_
      refine PJ.getR (pc := 76) fs_Reader_261 d_Reader_readPaid_76 (fun v13 => ?_)
      refine PJ.iload_n (pc := 79) d_Reader_readPaid_79 rfl ?_
      refine PJ.iload_n (pc := 80) d_Reader_readPaid_80 rfl ?_
      refine PJ.iast (pc := 81) d_Reader_readPaid_81 (fun h14 => ?_)
      refine PJ.aload_n (pc := 82) d_Reader_readPaid_82 rfl ?_
      refine PJ.getR (pc := 83) fs_Reader_262 d_Reader_readPaid_83 (fun v15 => ?_)
      refine PJ.iload_n (pc := 86) d_Reader_readPaid_86 rfl ?_
      refine PJ.iload (pc := 87) d_Reader_readPaid_87 rfl ?_
      refine PJ.iast (pc := 89) d_Reader_readPaid_89 (fun h16 => ?_)
      refine PJ.aload_n (pc := 90) d_Reader_readPaid_90 rfl ?_
      refine PJ.getR (pc := 91) fs_Reader_265 d_Reader_readPaid_91 (fun v17 => ?_)
      refine PJ.iload_n (pc := 94) d_Reader_readPaid_94 rfl ?_
      refine PJ.iload (pc := 95) d_Reader_readPaid_95 rfl ?_
      refine PJ.iast (pc := 97) d_Reader_readPaid_97 (fun h18 => ?_)
      refine PJ.aload_n (pc := 98) d_Reader_readPaid_98 rfl ?_
      refine PJ.dup (pc := 99) d_Reader_readPaid_99 rfl ?_
      refine PJ.getI (pc := 100) fs_Reader_173 d_Reader_readPaid_100 (fun v19 => ?_)
      refine PJ.iconst (pc := 103) (v := 1) d_Reader_readPaid_103 (by decide) ?_
      refine PJ.iadd (pc := 104) d_Reader_readPaid_104 ?_
      refine PJ.putI (pc := 105) ps_Reader_173 d_Reader_readPaid_105 (fun h20 => ?_)
      exact PJ.vret (pc := 108) d_Reader_readPaid_108 rfl (Nat.le_of_ble_eq_true rfl) (Nat.le_of_ble_eq_true rfl)
theorem d_Reader_readShop_0 : decode Y_Reader_readShop.2.1 0 = .ok (.aload_n 0, 1) := by decide +kernel
theorem d_Reader_readShop_1 : decode Y_Reader_readShop.2.1 1 = .ok (.bipush 7, 2) := by decide +kernel
theorem d_Reader_readShop_3 : decode Y_Reader_readShop.2.1 3 = .ok (.aload_n 0, 1) := by decide +kernel
theorem d_Reader_readShop_4 : decode Y_Reader_readShop.2.1 4 = .ok (.getfield 54, 3) := by decide +kernel
theorem d_Reader_readShop_7 : decode Y_Reader_readShop.2.1 7 = .ok (.getfield 176, 3) := by decide +kernel
theorem d_Reader_readShop_10 : decode Y_Reader_readShop.2.1 10 = .ok (.getfield 180, 3) := by decide +kernel
theorem d_Reader_readShop_13 : decode Y_Reader_readShop.2.1 13 = .ok (.invokevirtual 201, 3) := by decide +kernel
theorem d_Reader_readShop_16 : decode Y_Reader_readShop.2.1 16 = .ok (.aload_n 0, 1) := by decide +kernel
theorem d_Reader_readShop_17 : decode Y_Reader_readShop.2.1 17 = .ok (.ldc_w 266, 3) := by decide +kernel
theorem d_Reader_readShop_20 : decode Y_Reader_readShop.2.1 20 = .ok (.invokevirtual 188, 3) := by decide +kernel
theorem d_Reader_readShop_23 : decode Y_Reader_readShop.2.1 23 = .ok (.aload_n 0, 1) := by decide +kernel
theorem d_Reader_readShop_24 : decode Y_Reader_readShop.2.1 24 = .ok (.iconst 0, 1) := by decide +kernel
theorem d_Reader_readShop_25 : decode Y_Reader_readShop.2.1 25 = .ok (.bipush 99, 2) := by decide +kernel
theorem d_Reader_readShop_27 : decode Y_Reader_readShop.2.1 27 = .ok (.invokevirtual 192, 3) := by decide +kernel
theorem d_Reader_readShop_30 : decode Y_Reader_readShop.2.1 30 = .ok (.istore_n 1, 1) := by decide +kernel
theorem d_Reader_readShop_31 : decode Y_Reader_readShop.2.1 31 = .ok (.aload_n 0, 1) := by decide +kernel
theorem d_Reader_readShop_32 : decode Y_Reader_readShop.2.1 32 = .ok (.getfield 28, 3) := by decide +kernel
theorem d_Reader_readShop_35 : decode Y_Reader_readShop.2.1 35 = .ok (.ifCond .ne 41, 3) := by decide +kernel
theorem d_Reader_readShop_38 : decode Y_Reader_readShop.2.1 38 = .ok (.aload_n 0, 1) := by decide +kernel
theorem d_Reader_readShop_39 : decode Y_Reader_readShop.2.1 39 = .ok (.getfield 54, 3) := by decide +kernel
theorem d_Reader_readShop_42 : decode Y_Reader_readShop.2.1 42 = .ok (.getfield 176, 3) := by decide +kernel
theorem d_Reader_readShop_45 : decode Y_Reader_readShop.2.1 45 = .ok (.getfield 268, 3) := by decide +kernel
theorem d_Reader_readShop_48 : decode Y_Reader_readShop.2.1 48 = .ok (.aload_n 0, 1) := by decide +kernel
theorem d_Reader_readShop_49 : decode Y_Reader_readShop.2.1 49 = .ok (.getfield 54, 3) := by decide +kernel
theorem d_Reader_readShop_52 : decode Y_Reader_readShop.2.1 52 = .ok (.getfield 176, 3) := by decide +kernel
theorem d_Reader_readShop_55 : decode Y_Reader_readShop.2.1 55 = .ok (.getfield 180, 3) := by decide +kernel
theorem d_Reader_readShop_58 : decode Y_Reader_readShop.2.1 58 = .ok (.iload_n 1, 1) := by decide +kernel
theorem d_Reader_readShop_59 : decode Y_Reader_readShop.2.1 59 = .ok (.iastore, 1) := by decide +kernel
theorem d_Reader_readShop_60 : decode Y_Reader_readShop.2.1 60 = .ok (.aload_n 0, 1) := by decide +kernel
theorem d_Reader_readShop_61 : decode Y_Reader_readShop.2.1 61 = .ok (.getfield 54, 3) := by decide +kernel
theorem d_Reader_readShop_64 : decode Y_Reader_readShop.2.1 64 = .ok (.getfield 176, 3) := by decide +kernel
theorem d_Reader_readShop_67 : decode Y_Reader_readShop.2.1 67 = .ok (.dup, 1) := by decide +kernel
theorem d_Reader_readShop_68 : decode Y_Reader_readShop.2.1 68 = .ok (.getfield 180, 3) := by decide +kernel
theorem d_Reader_readShop_71 : decode Y_Reader_readShop.2.1 71 = .ok (.iconst 1, 1) := by decide +kernel
theorem d_Reader_readShop_72 : decode Y_Reader_readShop.2.1 72 = .ok (.iadd, 1) := by decide +kernel
theorem d_Reader_readShop_73 : decode Y_Reader_readShop.2.1 73 = .ok (.putfield 180, 3) := by decide +kernel
theorem d_Reader_readShop_76 : decode Y_Reader_readShop.2.1 76 = .ok (.return_, 1) := by decide +kernel
def f_Reader_readShop (h : PH) (a0 : Option Nat) : Option PH := (gR h 5 a0 2).bind fun v1 => (gR h 1 v1 12).bind fun v2 => (gI h 9 v2 0).bind fun v3 => (cl h 5 a0 (f_Reader_newName h a0 (7 : Int32) v3)).bind fun h4 => (cl h4 5 a0 (f_Reader_keyword h4 a0 (some 22))).bind fun h5 => (cl h5 5 a0 (f_Reader_whole h5 a0 (0 : Int32) (99 : Int32))).bind fun v6 => (gI v6.2 5 a0 7).bind fun v7 => if ¬ v7 = 0 then (some v6.2) else ((gR v6.2 5 a0 2).bind fun v8 => (gR v6.2 1 v8 12).bind fun v9 => (gR v6.2 9 v9 2).bind fun v10 => (gR v6.2 5 a0 2).bind fun v11 => (gR v6.2 1 v11 12).bind fun v12 => (gI v6.2 9 v12 0).bind fun v13 => (sA v6.2 50 v10 v13 (.inl v6.1)).bind fun h14 => (gR h14 5 a0 2).bind fun v15 => (gR h14 1 v15 12).bind fun v16 => (gI h14 9 v16 0).bind fun v17 => (sF h14 9 v16 0 (.inl (v17 + (1 : Int32)))).bind fun h18 => some h18)
set_option maxRecDepth 20000 in
theorem PM_Reader_readShop {l : Launch} {G : Cx} {h : PH} {a0 : Option Nat} {z : PH} (hz : f_Reader_readShop h a0 = some z) : PM l G 10 0 0 Y_Reader_readShop [.inr (.inr a0)] h (none, z) := by
  refine PM.of (Y := Y_Reader_readShop) (cv := (fun z : PH => (((none, z) : Option PV × PH)))) (by decide) (L0 := [some (.inr (.inr a0)), none]) 1 rfl (Nat.le_of_ble_eq_true rfl) ?_ hz
  unfold f_Reader_readShop
  refine PJ.aload_n (pc := 0) d_Reader_readShop_0 rfl ?_
  refine PJ.bipush (pc := 1) (v := 7) d_Reader_readShop_1 (by decide) ?_
  refine PJ.aload_n (pc := 3) d_Reader_readShop_3 rfl ?_
  refine PJ.getR (pc := 4) fs_Reader_54 d_Reader_readShop_4 (fun v1 => ?_)
  refine PJ.getR (pc := 7) fs_Reader_176 d_Reader_readShop_7 (fun v2 => ?_)
  refine PJ.getI (pc := 10) fs_Reader_180 d_Reader_readShop_10 (fun v3 => ?_)
  refine PJ.cVV (pc := 13) cs_Reader_201 (fun z hz => PM_Reader_newName hz) (pj_fitb rfl) rfl rfl (Nat.le_of_ble_eq_true rfl) d_Reader_readShop_13 (fun h4 => ?_)
  refine PJ.aload_n (pc := 16) d_Reader_readShop_16 rfl ?_
  refine PJ.ldcwS (pc := 17) (i := 22) d_Reader_readShop_17 (by decide) (List.mem_of_getElem? (i := 22) rfl) ?_
  refine PJ.cVV (pc := 20) cs_Reader_188 (fun z hz => PM_Reader_keyword hz) (pj_fitb rfl) rfl rfl (Nat.le_of_ble_eq_true rfl) d_Reader_readShop_20 (fun h5 => ?_)
  refine PJ.aload_n (pc := 23) d_Reader_readShop_23 rfl ?_
  refine PJ.iconst (pc := 24) (v := 0) d_Reader_readShop_24 (by decide) ?_
  refine PJ.bipush (pc := 25) (v := 99) d_Reader_readShop_25 (by decide) ?_
  refine PJ.cVI (pc := 27) cs_Reader_192 (fun z hz => PM_Reader_whole hz) (pj_fitb rfl) rfl rfl (Nat.le_of_ble_eq_true rfl) d_Reader_readShop_27 (fun v6 => ?_)
  refine PJ.istore_n (pc := 30) (L1 := [some (.inr (.inr a0)), some (.inl v6.1)]) d_Reader_readShop_30 (Nat.le_of_ble_eq_true rfl) rfl rfl ?_
  refine PJ.aload_n (pc := 31) d_Reader_readShop_31 rfl ?_
  refine PJ.getI (pc := 32) fs_Reader_28 d_Reader_readShop_32 (fun v7 => ?_)
  refine PJ.if_ne (pc := 35) (tgt := 76) d_Reader_readShop_35 (by decide) (fun _ => ?_) (fun _ => ?_)
  · exact PJ.vret (pc := 76) d_Reader_readShop_76 rfl (Nat.le_of_ble_eq_true rfl) (Nat.le_of_ble_eq_true rfl)
  · refine PJ.aload_n (pc := 38) d_Reader_readShop_38 rfl ?_
    refine PJ.getR (pc := 39) fs_Reader_54 d_Reader_readShop_39 (fun v8 => ?_)
    refine PJ.getR (pc := 42) fs_Reader_176 d_Reader_readShop_42 (fun v9 => ?_)
    refine PJ.getR (pc := 45) fs_Reader_268 d_Reader_readShop_45 (fun v10 => ?_)
    refine PJ.aload_n (pc := 48) d_Reader_readShop_48 rfl ?_
    refine PJ.getR (pc := 49) fs_Reader_54 d_Reader_readShop_49 (fun v11 => ?_)
    refine PJ.getR (pc := 52) fs_Reader_176 d_Reader_readShop_52 (fun v12 => ?_)
    refine PJ.getI (pc := 55) fs_Reader_180 d_Reader_readShop_55 (fun v13 => ?_)
    refine PJ.iload_n (pc := 58) d_Reader_readShop_58 rfl ?_
    refine PJ.iast (pc := 59) d_Reader_readShop_59 (fun h14 => ?_)
    refine PJ.aload_n (pc := 60) d_Reader_readShop_60 rfl ?_
    refine PJ.getR (pc := 61) fs_Reader_54 d_Reader_readShop_61 (fun v15 => ?_)
    refine PJ.getR (pc := 64) fs_Reader_176 d_Reader_readShop_64 (fun v16 => ?_)
    refine PJ.dup (pc := 67) d_Reader_readShop_67 rfl ?_
    refine PJ.getI (pc := 68) fs_Reader_180 d_Reader_readShop_68 (fun v17 => ?_)
    refine PJ.iconst (pc := 71) (v := 1) d_Reader_readShop_71 (by decide) ?_
    refine PJ.iadd (pc := 72) d_Reader_readShop_72 ?_
    refine PJ.putI (pc := 73) ps_Reader_180 d_Reader_readShop_73 (fun h18 => ?_)
    exact PJ.vret (pc := 76) d_Reader_readShop_76 rfl (Nat.le_of_ble_eq_true rfl) (Nat.le_of_ble_eq_true rfl)
theorem d_Reader_readLane_0 : decode Y_Reader_readLane.2.1 0 = .ok (.aload_n 0, 1) := by decide +kernel
theorem d_Reader_readLane_1 : decode Y_Reader_readLane.2.1 1 = .ok (.getfield 54, 3) := by decide +kernel
theorem d_Reader_readLane_4 : decode Y_Reader_readLane.2.1 4 = .ok (.getfield 176, 3) := by decide +kernel
theorem d_Reader_readLane_7 : decode Y_Reader_readLane.2.1 7 = .ok (.astore_n 1, 1) := by decide +kernel
theorem d_Reader_readLane_8 : decode Y_Reader_readLane.2.1 8 = .ok (.aload_n 0, 1) := by decide +kernel
theorem d_Reader_readLane_9 : decode Y_Reader_readLane.2.1 9 = .ok (.bipush 7, 2) := by decide +kernel
theorem d_Reader_readLane_11 : decode Y_Reader_readLane.2.1 11 = .ok (.invokevirtual 204, 3) := by decide +kernel
theorem d_Reader_readLane_14 : decode Y_Reader_readLane.2.1 14 = .ok (.istore_n 2, 1) := by decide +kernel
theorem d_Reader_readLane_15 : decode Y_Reader_readLane.2.1 15 = .ok (.aload_n 0, 1) := by decide +kernel
theorem d_Reader_readLane_16 : decode Y_Reader_readLane.2.1 16 = .ok (.getfield 22, 3) := by decide +kernel
theorem d_Reader_readLane_19 : decode Y_Reader_readLane.2.1 19 = .ok (.istore_n 3, 1) := by decide +kernel
theorem d_Reader_readLane_20 : decode Y_Reader_readLane.2.1 20 = .ok (.aload_n 0, 1) := by decide +kernel
theorem d_Reader_readLane_21 : decode Y_Reader_readLane.2.1 21 = .ok (.bipush 7, 2) := by decide +kernel
theorem d_Reader_readLane_23 : decode Y_Reader_readLane.2.1 23 = .ok (.invokevirtual 204, 3) := by decide +kernel
theorem d_Reader_readLane_26 : decode Y_Reader_readLane.2.1 26 = .ok (.istore 4, 2) := by decide +kernel
theorem d_Reader_readLane_28 : decode Y_Reader_readLane.2.1 28 = .ok (.iload_n 2, 1) := by decide +kernel
theorem d_Reader_readLane_29 : decode Y_Reader_readLane.2.1 29 = .ok (.iload 4, 2) := by decide +kernel
theorem d_Reader_readLane_31 : decode Y_Reader_readLane.2.1 31 = .ok (.if_icmp .eq 18, 3) := by decide +kernel
theorem d_Reader_readLane_34 : decode Y_Reader_readLane.2.1 34 = .ok (.aload_n 1, 1) := by decide +kernel
theorem d_Reader_readLane_35 : decode Y_Reader_readLane.2.1 35 = .ok (.getfield 270, 3) := by decide +kernel
theorem d_Reader_readLane_38 : decode Y_Reader_readLane.2.1 38 = .ok (.iload_n 2, 1) := by decide +kernel
theorem d_Reader_readLane_39 : decode Y_Reader_readLane.2.1 39 = .ok (.iaload, 1) := by decide +kernel
theorem d_Reader_readLane_40 : decode Y_Reader_readLane.2.1 40 = .ok (.iload 4, 2) := by decide +kernel
theorem d_Reader_readLane_42 : decode Y_Reader_readLane.2.1 42 = .ok (.ishr, 1) := by decide +kernel
theorem d_Reader_readLane_43 : decode Y_Reader_readLane.2.1 43 = .ok (.iconst 1, 1) := by decide +kernel
theorem d_Reader_readLane_44 : decode Y_Reader_readLane.2.1 44 = .ok (.iand, 1) := by decide +kernel
theorem d_Reader_readLane_45 : decode Y_Reader_readLane.2.1 45 = .ok (.iconst 1, 1) := by decide +kernel
theorem d_Reader_readLane_46 : decode Y_Reader_readLane.2.1 46 = .ok (.if_icmp .ne 9, 3) := by decide +kernel
theorem d_Reader_readLane_49 : decode Y_Reader_readLane.2.1 49 = .ok (.aload_n 0, 1) := by decide +kernel
theorem d_Reader_readLane_50 : decode Y_Reader_readLane.2.1 50 = .ok (.iconst 3, 1) := by decide +kernel
theorem d_Reader_readLane_51 : decode Y_Reader_readLane.2.1 51 = .ok (.iload_n 3, 1) := by decide +kernel
theorem d_Reader_readLane_52 : decode Y_Reader_readLane.2.1 52 = .ok (.invokevirtual 75, 3) := by decide +kernel
theorem d_Reader_readLane_55 : decode Y_Reader_readLane.2.1 55 = .ok (.aload_n 1, 1) := by decide +kernel
theorem d_Reader_readLane_56 : decode Y_Reader_readLane.2.1 56 = .ok (.getfield 270, 3) := by decide +kernel
theorem d_Reader_readLane_59 : decode Y_Reader_readLane.2.1 59 = .ok (.iload_n 2, 1) := by decide +kernel
theorem d_Reader_readLane_60 : decode Y_Reader_readLane.2.1 60 = .ok (.dup2, 1) := by decide +kernel
theorem d_Reader_readLane_61 : decode Y_Reader_readLane.2.1 61 = .ok (.iaload, 1) := by decide +kernel
theorem d_Reader_readLane_62 : decode Y_Reader_readLane.2.1 62 = .ok (.iconst 1, 1) := by decide +kernel
theorem d_Reader_readLane_63 : decode Y_Reader_readLane.2.1 63 = .ok (.iload 4, 2) := by decide +kernel
theorem d_Reader_readLane_65 : decode Y_Reader_readLane.2.1 65 = .ok (.ishl, 1) := by decide +kernel
theorem d_Reader_readLane_66 : decode Y_Reader_readLane.2.1 66 = .ok (.ior, 1) := by decide +kernel
theorem d_Reader_readLane_67 : decode Y_Reader_readLane.2.1 67 = .ok (.iastore, 1) := by decide +kernel
theorem d_Reader_readLane_68 : decode Y_Reader_readLane.2.1 68 = .ok (.aload_n 1, 1) := by decide +kernel
theorem d_Reader_readLane_69 : decode Y_Reader_readLane.2.1 69 = .ok (.getfield 270, 3) := by decide +kernel
theorem d_Reader_readLane_72 : decode Y_Reader_readLane.2.1 72 = .ok (.iload 4, 2) := by decide +kernel
theorem d_Reader_readLane_74 : decode Y_Reader_readLane.2.1 74 = .ok (.dup2, 1) := by decide +kernel
theorem d_Reader_readLane_75 : decode Y_Reader_readLane.2.1 75 = .ok (.iaload, 1) := by decide +kernel
theorem d_Reader_readLane_76 : decode Y_Reader_readLane.2.1 76 = .ok (.iconst 1, 1) := by decide +kernel
theorem d_Reader_readLane_77 : decode Y_Reader_readLane.2.1 77 = .ok (.iload_n 2, 1) := by decide +kernel
theorem d_Reader_readLane_78 : decode Y_Reader_readLane.2.1 78 = .ok (.ishl, 1) := by decide +kernel
theorem d_Reader_readLane_79 : decode Y_Reader_readLane.2.1 79 = .ok (.ior, 1) := by decide +kernel
theorem d_Reader_readLane_80 : decode Y_Reader_readLane.2.1 80 = .ok (.iastore, 1) := by decide +kernel
theorem d_Reader_readLane_81 : decode Y_Reader_readLane.2.1 81 = .ok (.aload_n 1, 1) := by decide +kernel
theorem d_Reader_readLane_82 : decode Y_Reader_readLane.2.1 82 = .ok (.dup, 1) := by decide +kernel
theorem d_Reader_readLane_83 : decode Y_Reader_readLane.2.1 83 = .ok (.getfield 183, 3) := by decide +kernel
theorem d_Reader_readLane_86 : decode Y_Reader_readLane.2.1 86 = .ok (.iconst 1, 1) := by decide +kernel
theorem d_Reader_readLane_87 : decode Y_Reader_readLane.2.1 87 = .ok (.iadd, 1) := by decide +kernel
theorem d_Reader_readLane_88 : decode Y_Reader_readLane.2.1 88 = .ok (.putfield 183, 3) := by decide +kernel
theorem d_Reader_readLane_91 : decode Y_Reader_readLane.2.1 91 = .ok (.return_, 1) := by decide +kernel
def f_Reader_readLane (h : PH) (a0 : Option Nat) : Option PH := (gR h 5 a0 2).bind fun v1 => (gR h 1 v1 12).bind fun v2 => (cl h 5 a0 (f_Reader_known h a0 (7 : Int32))).bind fun v3 => (gI v3.2 5 a0 5).bind fun v4 => (cl v3.2 5 a0 (f_Reader_known v3.2 a0 (7 : Int32))).bind fun v5 => (if v3.1 = v5.1 then ((cl v5.2 5 a0 (f_Reader_fail v5.2 a0 (3 : Int32) v4)).bind fun h7 => some h7) else ((gR v5.2 9 v2 3).bind fun v8 => (aI v5.2 v8 v3.1).bind fun v9 => if ¬ ((v9 >>> (v5.1 &&& 31)) &&& (1 : Int32)) = (1 : Int32) then (some v5.2) else ((cl v5.2 5 a0 (f_Reader_fail v5.2 a0 (3 : Int32) v4)).bind fun h10 => some h10)) : Option (PH)).bind fun j6 => (gR j6 9 v2 3).bind fun v11 => (aI j6 v11 v3.1).bind fun v12 => (sA j6 50 v11 v3.1 (.inl (v12 ||| ((1 : Int32) <<< (v5.1 &&& 31))))).bind fun h13 => (gR h13 9 v2 3).bind fun v14 => (aI h13 v14 v5.1).bind fun v15 => (sA h13 50 v14 v5.1 (.inl (v15 ||| ((1 : Int32) <<< (v3.1 &&& 31))))).bind fun h16 => (gI h16 9 v2 1).bind fun v17 => (sF h16 9 v2 1 (.inl (v17 + (1 : Int32)))).bind fun h18 => some h18
set_option maxRecDepth 20000 in
theorem PM_Reader_readLane {l : Launch} {G : Cx} {h : PH} {a0 : Option Nat} {z : PH} (hz : f_Reader_readLane h a0 = some z) : PM l G 10 0 0 Y_Reader_readLane [.inr (.inr a0)] h (none, z) := by
  refine PM.of (Y := Y_Reader_readLane) (cv := (fun z : PH => (((none, z) : Option PV × PH)))) (by decide) (L0 := [some (.inr (.inr a0)), none, none, none, none]) 4 rfl (Nat.le_of_ble_eq_true rfl) ?_ hz
  unfold f_Reader_readLane
  refine PJ.aload_n (pc := 0) d_Reader_readLane_0 rfl ?_
  refine PJ.getR (pc := 1) fs_Reader_54 d_Reader_readLane_1 (fun v1 => ?_)
  refine PJ.getR (pc := 4) fs_Reader_176 d_Reader_readLane_4 (fun v2 => ?_)
  refine PJ.astore_n (pc := 7) (L1 := [some (.inr (.inr a0)), some (.inr (.inr v2)), none, none, none]) d_Reader_readLane_7 (Nat.le_of_ble_eq_true rfl) rfl rfl ?_
  refine PJ.aload_n (pc := 8) d_Reader_readLane_8 rfl ?_
  refine PJ.bipush (pc := 9) (v := 7) d_Reader_readLane_9 (by decide) ?_
  refine PJ.cVI (pc := 11) cs_Reader_204 (fun z hz => PM_Reader_known hz) (pj_fitb rfl) rfl rfl (Nat.le_of_ble_eq_true rfl) d_Reader_readLane_11 (fun v3 => ?_)
  refine PJ.istore_n (pc := 14) (L1 := [some (.inr (.inr a0)), some (.inr (.inr v2)), some (.inl v3.1), none, none]) d_Reader_readLane_14 (Nat.le_of_ble_eq_true rfl) rfl rfl ?_
  refine PJ.aload_n (pc := 15) d_Reader_readLane_15 rfl ?_
  refine PJ.getI (pc := 16) fs_Reader_22 d_Reader_readLane_16 (fun v4 => ?_)
  refine PJ.istore_n (pc := 19) (L1 := [some (.inr (.inr a0)), some (.inr (.inr v2)), some (.inl v3.1), some (.inl v4), none]) d_Reader_readLane_19 (Nat.le_of_ble_eq_true rfl) rfl rfl ?_
  refine PJ.aload_n (pc := 20) d_Reader_readLane_20 rfl ?_
  refine PJ.bipush (pc := 21) (v := 7) d_Reader_readLane_21 (by decide) ?_
  refine PJ.cVI (pc := 23) cs_Reader_204 (fun z hz => PM_Reader_known hz) (pj_fitb rfl) rfl rfl (Nat.le_of_ble_eq_true rfl) d_Reader_readLane_23 (fun v5 => ?_)
  refine PJ.istore (pc := 26) (L1 := [some (.inr (.inr a0)), some (.inr (.inr v2)), some (.inl v3.1), some (.inl v4), some (.inl v5.1)]) d_Reader_readLane_26 (Nat.le_of_ble_eq_true rfl) rfl rfl ?_
  refine PJ.iload_n (pc := 28) d_Reader_readLane_28 rfl ?_
  refine PJ.iload (pc := 29) d_Reader_readLane_29 rfl ?_
  refine PJ.bind (fun j6 : PH => ((55 : Nat), ([none, some (.inr (.inr v2)), some (.inl v3.1), none, some (.inl v5.1)] : List (Option PV)), ([] : List PV), (j6 : PH), (0 : Nat), (0 : Nat))) ?_ (fun j6 => ?_)
  · refine PJ.icmp_eq (pc := 31) (tgt := 49) d_Reader_readLane_31 (by decide) (fun _ => ?_) (fun _ => ?_)
    · refine PJ.aload_n (pc := 49) d_Reader_readLane_49 rfl ?_
      refine PJ.iconst (pc := 50) (v := 3) d_Reader_readLane_50 (by decide) ?_
      refine PJ.iload_n (pc := 51) d_Reader_readLane_51 rfl ?_
      refine PJ.cVV (pc := 52) cs_Reader_75 (fun z hz => PM_Reader_fail hz) (pj_fitb rfl) rfl rfl (Nat.le_of_ble_eq_true rfl) d_Reader_readLane_52 (fun h7 => ?_)
      refine PJ.mk (L1 := [none, some (.inr (.inr v2)), some (.inl v3.1), none, some (.inl v5.1)]) [false, true, true, false, true] rfl ?_
      exact PJ.done rfl
    · refine PJ.aload_n (pc := 34) d_Reader_readLane_34 rfl ?_
      refine PJ.getR (pc := 35) fs_Reader_270 d_Reader_readLane_35 (fun v8 => ?_)
      refine PJ.iload_n (pc := 38) d_Reader_readLane_38 rfl ?_
      refine PJ.iald (pc := 39) d_Reader_readLane_39 (fun v9 => ?_)
      refine PJ.iload (pc := 40) d_Reader_readLane_40 rfl ?_
      refine PJ.ishr (pc := 42) d_Reader_readLane_42 ?_
      refine PJ.iconst (pc := 43) (v := 1) d_Reader_readLane_43 (by decide) ?_
      refine PJ.iand (pc := 44) d_Reader_readLane_44 ?_
      refine PJ.iconst (pc := 45) (v := 1) d_Reader_readLane_45 (by decide) ?_
      refine PJ.icmp_ne (pc := 46) (tgt := 55) d_Reader_readLane_46 (by decide) (fun _ => ?_) (fun _ => ?_)
      · refine PJ.mk (L1 := [none, some (.inr (.inr v2)), some (.inl v3.1), none, some (.inl v5.1)]) [false, true, true, false, true] rfl ?_
        exact PJ.done rfl
      · refine PJ.aload_n (pc := 49) d_Reader_readLane_49 rfl ?_
        refine PJ.iconst (pc := 50) (v := 3) d_Reader_readLane_50 (by decide) ?_
        refine PJ.iload_n (pc := 51) d_Reader_readLane_51 rfl ?_
        refine PJ.cVV (pc := 52) cs_Reader_75 (fun z hz => PM_Reader_fail hz) (pj_fitb rfl) rfl rfl (Nat.le_of_ble_eq_true rfl) d_Reader_readLane_52 (fun h10 => ?_)
        refine PJ.mk (L1 := [none, some (.inr (.inr v2)), some (.inl v3.1), none, some (.inl v5.1)]) [false, true, true, false, true] rfl ?_
        exact PJ.done rfl
  · show PJ l G (pj_rm 10 0 0) Y_Reader_readLane 55 [none, some (.inr (.inr v2)), some (.inl v3.1), none, some (.inl v5.1)] [] j6 0 0 _ _
    refine PJ.aload_n (pc := 55) d_Reader_readLane_55 rfl ?_
    refine PJ.getR (pc := 56) fs_Reader_270 d_Reader_readLane_56 (fun v11 => ?_)
    refine PJ.iload_n (pc := 59) d_Reader_readLane_59 rfl ?_
    refine PJ.dup2 (pc := 60) d_Reader_readLane_60 rfl rfl ?_
    refine PJ.iald (pc := 61) d_Reader_readLane_61 (fun v12 => ?_)
    refine PJ.iconst (pc := 62) (v := 1) d_Reader_readLane_62 (by decide) ?_
    refine PJ.iload (pc := 63) d_Reader_readLane_63 rfl ?_
    refine PJ.ishl (pc := 65) d_Reader_readLane_65 ?_
    refine PJ.ior (pc := 66) d_Reader_readLane_66 ?_
    refine PJ.iast (pc := 67) d_Reader_readLane_67 (fun h13 => ?_)
    refine PJ.aload_n (pc := 68) d_Reader_readLane_68 rfl ?_
    refine PJ.getR (pc := 69) fs_Reader_270 d_Reader_readLane_69 (fun v14 => ?_)
    refine PJ.iload (pc := 72) d_Reader_readLane_72 rfl ?_
    refine PJ.dup2 (pc := 74) d_Reader_readLane_74 rfl rfl ?_
    refine PJ.iald (pc := 75) d_Reader_readLane_75 (fun v15 => ?_)
    refine PJ.iconst (pc := 76) (v := 1) d_Reader_readLane_76 (by decide) ?_
    refine PJ.iload_n (pc := 77) d_Reader_readLane_77 rfl ?_
    refine PJ.ishl (pc := 78) d_Reader_readLane_78 ?_
    refine PJ.ior (pc := 79) d_Reader_readLane_79 ?_
    refine PJ.iast (pc := 80) d_Reader_readLane_80 (fun h16 => ?_)
    refine PJ.aload_n (pc := 81) d_Reader_readLane_81 rfl ?_
    refine PJ.dup (pc := 82) d_Reader_readLane_82 rfl ?_
    refine PJ.getI (pc := 83) fs_Reader_183 d_Reader_readLane_83 (fun v17 => ?_)
    refine PJ.iconst (pc := 86) (v := 1) d_Reader_readLane_86 (by decide) ?_
    refine PJ.iadd (pc := 87) d_Reader_readLane_87 ?_
    refine PJ.putI (pc := 88) ps_Reader_183 d_Reader_readLane_88 (fun h18 => ?_)
    exact PJ.vret (pc := 91) d_Reader_readLane_91 rfl (Nat.le_of_ble_eq_true rfl) (Nat.le_of_ble_eq_true rfl)
theorem d_Reader_readLine_0 : decode Y_Reader_readLine.2.1 0 = .ok (.aload_n 0, 1) := by decide +kernel
theorem d_Reader_readLine_1 : decode Y_Reader_readLine.2.1 1 = .ok (.invokevirtual 89, 3) := by decide +kernel
theorem d_Reader_readLine_4 : decode Y_Reader_readLine.2.1 4 = .ok (.istore_n 1, 1) := by decide +kernel
theorem d_Reader_readLine_5 : decode Y_Reader_readLine.2.1 5 = .ok (.iload_n 1, 1) := by decide +kernel
theorem d_Reader_readLine_6 : decode Y_Reader_readLine.2.1 6 = .ok (.iconst (-1), 1) := by decide +kernel
theorem d_Reader_readLine_7 : decode Y_Reader_readLine.2.1 7 = .ok (.if_icmp .ne 15, 3) := by decide +kernel
theorem d_Reader_readLine_10 : decode Y_Reader_readLine.2.1 10 = .ok (.aload_n 0, 1) := by decide +kernel
theorem d_Reader_readLine_11 : decode Y_Reader_readLine.2.1 11 = .ok (.iconst 1, 1) := by decide +kernel
theorem d_Reader_readLine_12 : decode Y_Reader_readLine.2.1 12 = .ok (.aload_n 0, 1) := by decide +kernel
theorem d_Reader_readLine_13 : decode Y_Reader_readLine.2.1 13 = .ok (.getfield 22, 3) := by decide +kernel
theorem d_Reader_readLine_16 : decode Y_Reader_readLine.2.1 16 = .ok (.invokevirtual 75, 3) := by decide +kernel
theorem d_Reader_readLine_19 : decode Y_Reader_readLine.2.1 19 = .ok (.goto 67, 3) := by decide +kernel
theorem d_Reader_readLine_22 : decode Y_Reader_readLine.2.1 22 = .ok (.iload_n 1, 1) := by decide +kernel
theorem d_Reader_readLine_23 : decode Y_Reader_readLine.2.1 23 = .ok (.ifCond .ne 22, 3) := by decide +kernel
theorem d_Reader_readLine_26 : decode Y_Reader_readLine.2.1 26 = .ok (.aload_n 0, 1) := by decide +kernel
theorem d_Reader_readLine_27 : decode Y_Reader_readLine.2.1 27 = .ok (.getfield 15, 3) := by decide +kernel
theorem d_Reader_readLine_30 : decode Y_Reader_readLine.2.1 30 = .ok (.ifCond .eq 15, 3) := by decide +kernel
theorem d_Reader_readLine_33 : decode Y_Reader_readLine.2.1 33 = .ok (.aload_n 0, 1) := by decide +kernel
theorem d_Reader_readLine_34 : decode Y_Reader_readLine.2.1 34 = .ok (.iconst 3, 1) := by decide +kernel
theorem d_Reader_readLine_35 : decode Y_Reader_readLine.2.1 35 = .ok (.aload_n 0, 1) := by decide +kernel
theorem d_Reader_readLine_36 : decode Y_Reader_readLine.2.1 36 = .ok (.getfield 22, 3) := by decide +kernel
theorem d_Reader_readLine_39 : decode Y_Reader_readLine.2.1 39 = .ok (.invokevirtual 75, 3) := by decide +kernel
theorem d_Reader_readLine_42 : decode Y_Reader_readLine.2.1 42 = .ok (.goto 44, 3) := by decide +kernel
theorem d_Reader_readLine_45 : decode Y_Reader_readLine.2.1 45 = .ok (.aload_n 0, 1) := by decide +kernel
theorem d_Reader_readLine_46 : decode Y_Reader_readLine.2.1 46 = .ok (.iload_n 1, 1) := by decide +kernel
theorem d_Reader_readLine_47 : decode Y_Reader_readLine.2.1 47 = .ok (.invokevirtual 93, 3) := by decide +kernel
theorem d_Reader_readLine_50 : decode Y_Reader_readLine.2.1 50 = .ok (.ifCond .eq 15, 3) := by decide +kernel
theorem d_Reader_readLine_53 : decode Y_Reader_readLine.2.1 53 = .ok (.aload_n 0, 1) := by decide +kernel
theorem d_Reader_readLine_54 : decode Y_Reader_readLine.2.1 54 = .ok (.iconst 5, 1) := by decide +kernel
theorem d_Reader_readLine_55 : decode Y_Reader_readLine.2.1 55 = .ok (.aload_n 0, 1) := by decide +kernel
theorem d_Reader_readLine_56 : decode Y_Reader_readLine.2.1 56 = .ok (.getfield 22, 3) := by decide +kernel
theorem d_Reader_readLine_59 : decode Y_Reader_readLine.2.1 59 = .ok (.invokevirtual 75, 3) := by decide +kernel
theorem d_Reader_readLine_62 : decode Y_Reader_readLine.2.1 62 = .ok (.goto 24, 3) := by decide +kernel
theorem d_Reader_readLine_65 : decode Y_Reader_readLine.2.1 65 = .ok (.iload_n 1, 1) := by decide +kernel
theorem d_Reader_readLine_66 : decode Y_Reader_readLine.2.1 66 = .ok (.ifCond .eq 20, 3) := by decide +kernel
theorem d_Reader_readLine_69 : decode Y_Reader_readLine.2.1 69 = .ok (.aload_n 0, 1) := by decide +kernel
theorem d_Reader_readLine_70 : decode Y_Reader_readLine.2.1 70 = .ok (.getfield 15, 3) := by decide +kernel
theorem d_Reader_readLine_73 : decode Y_Reader_readLine.2.1 73 = .ok (.ifCond .ne 13, 3) := by decide +kernel
theorem d_Reader_readLine_76 : decode Y_Reader_readLine.2.1 76 = .ok (.aload_n 0, 1) := by decide +kernel
theorem d_Reader_readLine_77 : decode Y_Reader_readLine.2.1 77 = .ok (.bipush 6, 2) := by decide +kernel
theorem d_Reader_readLine_79 : decode Y_Reader_readLine.2.1 79 = .ok (.aload_n 0, 1) := by decide +kernel
theorem d_Reader_readLine_80 : decode Y_Reader_readLine.2.1 80 = .ok (.getfield 22, 3) := by decide +kernel
theorem d_Reader_readLine_83 : decode Y_Reader_readLine.2.1 83 = .ok (.invokevirtual 75, 3) := by decide +kernel
theorem d_Reader_readLine_86 : decode Y_Reader_readLine.2.1 86 = .ok (.aload_n 0, 1) := by decide +kernel
theorem d_Reader_readLine_87 : decode Y_Reader_readLine.2.1 87 = .ok (.getfield 28, 3) := by decide +kernel
theorem d_Reader_readLine_90 : decode Y_Reader_readLine.2.1 90 = .ok (.ifCond .eq 4, 3) := by decide +kernel
theorem d_Reader_readLine_93 : decode Y_Reader_readLine.2.1 93 = .ok (.return_, 1) := by decide +kernel
theorem d_Reader_readLine_94 : decode Y_Reader_readLine.2.1 94 = .ok (.aload_n 0, 1) := by decide +kernel
theorem d_Reader_readLine_95 : decode Y_Reader_readLine.2.1 95 = .ok (.invokevirtual 69, 3) := by decide +kernel
theorem d_Reader_readLine_98 : decode Y_Reader_readLine.2.1 98 = .ok (.iload_n 1, 1) := by decide +kernel
theorem d_Reader_readLine_99 : decode Y_Reader_readLine.2.1 99 = .ok (.tableswitch 101 0 7 #[45, 52, 59, 66, 73, 80, 87, 94], 45) := by decide +kernel
theorem d_Reader_readLine_144 : decode Y_Reader_readLine.2.1 144 = .ok (.aload_n 0, 1) := by decide +kernel
theorem d_Reader_readLine_145 : decode Y_Reader_readLine.2.1 145 = .ok (.invokevirtual 96, 3) := by decide +kernel
theorem d_Reader_readLine_148 : decode Y_Reader_readLine.2.1 148 = .ok (.goto 56, 3) := by decide +kernel
theorem d_Reader_readLine_151 : decode Y_Reader_readLine.2.1 151 = .ok (.aload_n 0, 1) := by decide +kernel
theorem d_Reader_readLine_152 : decode Y_Reader_readLine.2.1 152 = .ok (.invokevirtual 99, 3) := by decide +kernel
theorem d_Reader_readLine_155 : decode Y_Reader_readLine.2.1 155 = .ok (.goto 49, 3) := by decide +kernel
theorem d_Reader_readLine_158 : decode Y_Reader_readLine.2.1 158 = .ok (.aload_n 0, 1) := by decide +kernel
theorem d_Reader_readLine_159 : decode Y_Reader_readLine.2.1 159 = .ok (.invokevirtual 102, 3) := by decide +kernel
theorem d_Reader_readLine_162 : decode Y_Reader_readLine.2.1 162 = .ok (.goto 42, 3) := by decide +kernel
theorem d_Reader_readLine_165 : decode Y_Reader_readLine.2.1 165 = .ok (.aload_n 0, 1) := by decide +kernel
theorem d_Reader_readLine_166 : decode Y_Reader_readLine.2.1 166 = .ok (.invokevirtual 105, 3) := by decide +kernel
theorem d_Reader_readLine_169 : decode Y_Reader_readLine.2.1 169 = .ok (.goto 35, 3) := by decide +kernel
theorem d_Reader_readLine_172 : decode Y_Reader_readLine.2.1 172 = .ok (.aload_n 0, 1) := by decide +kernel
theorem d_Reader_readLine_173 : decode Y_Reader_readLine.2.1 173 = .ok (.invokevirtual 108, 3) := by decide +kernel
theorem d_Reader_readLine_176 : decode Y_Reader_readLine.2.1 176 = .ok (.goto 28, 3) := by decide +kernel
theorem d_Reader_readLine_179 : decode Y_Reader_readLine.2.1 179 = .ok (.aload_n 0, 1) := by decide +kernel
theorem d_Reader_readLine_180 : decode Y_Reader_readLine.2.1 180 = .ok (.invokevirtual 111, 3) := by decide +kernel
theorem d_Reader_readLine_183 : decode Y_Reader_readLine.2.1 183 = .ok (.goto 21, 3) := by decide +kernel
theorem d_Reader_readLine_186 : decode Y_Reader_readLine.2.1 186 = .ok (.aload_n 0, 1) := by decide +kernel
theorem d_Reader_readLine_187 : decode Y_Reader_readLine.2.1 187 = .ok (.invokevirtual 114, 3) := by decide +kernel
theorem d_Reader_readLine_190 : decode Y_Reader_readLine.2.1 190 = .ok (.goto 14, 3) := by decide +kernel
theorem d_Reader_readLine_193 : decode Y_Reader_readLine.2.1 193 = .ok (.aload_n 0, 1) := by decide +kernel
theorem d_Reader_readLine_194 : decode Y_Reader_readLine.2.1 194 = .ok (.invokevirtual 117, 3) := by decide +kernel
theorem d_Reader_readLine_197 : decode Y_Reader_readLine.2.1 197 = .ok (.goto 7, 3) := by decide +kernel
theorem d_Reader_readLine_200 : decode Y_Reader_readLine.2.1 200 = .ok (.aload_n 0, 1) := by decide +kernel
theorem d_Reader_readLine_201 : decode Y_Reader_readLine.2.1 201 = .ok (.invokevirtual 120, 3) := by decide +kernel
theorem d_Reader_readLine_204 : decode Y_Reader_readLine.2.1 204 = .ok (.return_, 1) := by decide +kernel
def f_Reader_readLine (h : PH) (a0 : Option Nat) : Option PH := (cl h 5 a0 (f_Reader_lineSort h a0)).bind fun v1 => (if ¬ v1 = (-1 : Int32) then (if ¬ v1 = 0 then ((cl h 5 a0 (f_Reader_isFull h a0 v1)).bind fun v3 => if v3 = 0 then (if v1 = 0 then (some h) else ((gI h 5 a0 3).bind fun v4 => if ¬ v4 = 0 then (some h) else ((gI h 5 a0 5).bind fun v5 => (cl h 5 a0 (f_Reader_fail h a0 (6 : Int32) v5)).bind fun h6 => some h6))) else ((gI h 5 a0 5).bind fun v7 => (cl h 5 a0 (f_Reader_fail h a0 (5 : Int32) v7)).bind fun h8 => some h8)) else ((gI h 5 a0 3).bind fun v9 => if v9 = 0 then ((cl h 5 a0 (f_Reader_isFull h a0 v1)).bind fun v10 => if v10 = 0 then (if v1 = 0 then (some h) else ((gI h 5 a0 3).bind fun v11 => if ¬ v11 = 0 then (some h) else ((gI h 5 a0 5).bind fun v12 => (cl h 5 a0 (f_Reader_fail h a0 (6 : Int32) v12)).bind fun h13 => some h13))) else ((gI h 5 a0 5).bind fun v14 => (cl h 5 a0 (f_Reader_fail h a0 (5 : Int32) v14)).bind fun h15 => some h15)) else ((gI h 5 a0 5).bind fun v16 => (cl h 5 a0 (f_Reader_fail h a0 (3 : Int32) v16)).bind fun h17 => some h17))) else ((gI h 5 a0 5).bind fun v18 => (cl h 5 a0 (f_Reader_fail h a0 (1 : Int32) v18)).bind fun h19 => some h19) : Option (PH)).bind fun j2 => (gI j2 5 a0 7).bind fun v20 => if v20 = 0 then ((cl j2 5 a0 (f_Reader_next j2 a0)).bind fun h21 => if v1.toInt < 0 ∨ 7 < v1.toInt then ((cl h21 5 a0 (f_Reader_readLane h21 a0)).bind fun h22 => some h22) else (if v1 = (0 : Int32) then ((cl h21 5 a0 (f_Reader_readTax h21 a0)).bind fun h23 => some h23) else (if v1 = (1 : Int32) then ((cl h21 5 a0 (f_Reader_readChoice h21 a0)).bind fun h24 => some h24) else (if v1 = (2 : Int32) then ((cl h21 5 a0 (f_Reader_readFar h21 a0)).bind fun h25 => some h25) else (if v1 = (3 : Int32) then ((cl h21 5 a0 (f_Reader_readPerson h21 a0)).bind fun h26 => some h26) else (if v1 = (4 : Int32) then ((cl h21 5 a0 (f_Reader_readLikes h21 a0)).bind fun h27 => some h27) else (if v1 = (5 : Int32) then ((cl h21 5 a0 (f_Reader_readReason h21 a0)).bind fun h28 => some h28) else (if v1 = (6 : Int32) then ((cl h21 5 a0 (f_Reader_readPaid h21 a0)).bind fun h29 => some h29) else (if v1 = (7 : Int32) then ((cl h21 5 a0 (f_Reader_readShop h21 a0)).bind fun h30 => some h30) else (none)))))))))) else (some j2)
set_option maxRecDepth 20000 in
theorem PM_Reader_readLine {l : Launch} {G : Cx} {h : PH} {a0 : Option Nat} {z : PH} (hz : f_Reader_readLine h a0 = some z) : PM l G 11 0 0 Y_Reader_readLine [.inr (.inr a0)] h (none, z) := by
  refine PM.of (Y := Y_Reader_readLine) (cv := (fun z : PH => (((none, z) : Option PV × PH)))) (by decide) (L0 := [some (.inr (.inr a0)), none]) 1 rfl (Nat.le_of_ble_eq_true rfl) ?_ hz
  unfold f_Reader_readLine
  refine PJ.aload_n (pc := 0) d_Reader_readLine_0 rfl ?_
  refine PJ.cVpI (pc := 1) cs_Reader_89 (fun z hz => PM_Reader_lineSort hz) (pj_fitb rfl) rfl rfl (Nat.le_of_ble_eq_true rfl) d_Reader_readLine_1 (fun v1 => ?_)
  refine PJ.istore_n (pc := 4) (L1 := [some (.inr (.inr a0)), some (.inl v1)]) d_Reader_readLine_4 (Nat.le_of_ble_eq_true rfl) rfl rfl ?_
  refine PJ.iload_n (pc := 5) d_Reader_readLine_5 rfl ?_
  refine PJ.iconst (pc := 6) (v := -1) d_Reader_readLine_6 (by decide) ?_
  refine PJ.bind (fun j2 : PH => ((86 : Nat), ([some (.inr (.inr a0)), some (.inl v1)] : List (Option PV)), ([] : List PV), (j2 : PH), (0 : Nat), (0 : Nat))) ?_ (fun j2 => ?_)
  · refine PJ.icmp_ne (pc := 7) (tgt := 22) d_Reader_readLine_7 (by decide) (fun _ => ?_) (fun _ => ?_)
    · refine PJ.iload_n (pc := 22) d_Reader_readLine_22 rfl ?_
      refine PJ.if_ne (pc := 23) (tgt := 45) d_Reader_readLine_23 (by decide) (fun _ => ?_) (fun _ => ?_)
      · refine PJ.aload_n (pc := 45) d_Reader_readLine_45 rfl ?_
        refine PJ.iload_n (pc := 46) d_Reader_readLine_46 rfl ?_
        refine PJ.cVpI (pc := 47) cs_Reader_93 (fun z hz => PM_Reader_isFull hz) (pj_fitb rfl) rfl rfl (Nat.le_of_ble_eq_true rfl) d_Reader_readLine_47 (fun v3 => ?_)
        refine PJ.if_eq (pc := 50) (tgt := 65) d_Reader_readLine_50 (by decide) (fun _ => ?_) (fun _ => ?_)
        · refine PJ.iload_n (pc := 65) d_Reader_readLine_65 rfl ?_
          refine PJ.if_eq (pc := 66) (tgt := 86) d_Reader_readLine_66 (by decide) (fun _ => ?_) (fun _ => ?_)
          · exact PJ.done rfl
          · refine PJ.aload_n (pc := 69) d_Reader_readLine_69 rfl ?_
            refine PJ.getI (pc := 70) fs_Reader_15 d_Reader_readLine_70 (fun v4 => ?_)
            refine PJ.if_ne (pc := 73) (tgt := 86) d_Reader_readLine_73 (by decide) (fun _ => ?_) (fun _ => ?_)
            · exact PJ.done rfl
            · refine PJ.aload_n (pc := 76) d_Reader_readLine_76 rfl ?_
              refine PJ.bipush (pc := 77) (v := 6) d_Reader_readLine_77 (by decide) ?_
              refine PJ.aload_n (pc := 79) d_Reader_readLine_79 rfl ?_
              refine PJ.getI (pc := 80) fs_Reader_22 d_Reader_readLine_80 (fun v5 => ?_)
              refine PJ.cVV (pc := 83) cs_Reader_75 (fun z hz => PM_Reader_fail hz) (pj_fitb rfl) rfl rfl (Nat.le_of_ble_eq_true rfl) d_Reader_readLine_83 (fun h6 => ?_)
              exact PJ.done rfl
        · refine PJ.aload_n (pc := 53) d_Reader_readLine_53 rfl ?_
          refine PJ.iconst (pc := 54) (v := 5) d_Reader_readLine_54 (by decide) ?_
          refine PJ.aload_n (pc := 55) d_Reader_readLine_55 rfl ?_
          refine PJ.getI (pc := 56) fs_Reader_22 d_Reader_readLine_56 (fun v7 => ?_)
          refine PJ.cVV (pc := 59) cs_Reader_75 (fun z hz => PM_Reader_fail hz) (pj_fitb rfl) rfl rfl (Nat.le_of_ble_eq_true rfl) d_Reader_readLine_59 (fun h8 => ?_)
          refine PJ.goto (pc := 62) (tgt := 86) d_Reader_readLine_62 (by decide) ?_
          exact PJ.done rfl
      · refine PJ.aload_n (pc := 26) d_Reader_readLine_26 rfl ?_
        refine PJ.getI (pc := 27) fs_Reader_15 d_Reader_readLine_27 (fun v9 => ?_)
        refine PJ.if_eq (pc := 30) (tgt := 45) d_Reader_readLine_30 (by decide) (fun _ => ?_) (fun _ => ?_)
        · refine PJ.aload_n (pc := 45) d_Reader_readLine_45 rfl ?_
          refine PJ.iload_n (pc := 46) d_Reader_readLine_46 rfl ?_
          refine PJ.cVpI (pc := 47) cs_Reader_93 (fun z hz => PM_Reader_isFull hz) (pj_fitb rfl) rfl rfl (Nat.le_of_ble_eq_true rfl) d_Reader_readLine_47 (fun v10 => ?_)
          refine PJ.if_eq (pc := 50) (tgt := 65) d_Reader_readLine_50 (by decide) (fun _ => ?_) (fun _ => ?_)
          · refine PJ.iload_n (pc := 65) d_Reader_readLine_65 rfl ?_
            refine PJ.if_eq (pc := 66) (tgt := 86) d_Reader_readLine_66 (by decide) (fun _ => ?_) (fun _ => ?_)
            · exact PJ.done rfl
            · refine PJ.aload_n (pc := 69) d_Reader_readLine_69 rfl ?_
              refine PJ.getI (pc := 70) fs_Reader_15 d_Reader_readLine_70 (fun v11 => ?_)
              refine PJ.if_ne (pc := 73) (tgt := 86) d_Reader_readLine_73 (by decide) (fun _ => ?_) (fun _ => ?_)
              · exact PJ.done rfl
              · refine PJ.aload_n (pc := 76) d_Reader_readLine_76 rfl ?_
                refine PJ.bipush (pc := 77) (v := 6) d_Reader_readLine_77 (by decide) ?_
                refine PJ.aload_n (pc := 79) d_Reader_readLine_79 rfl ?_
                refine PJ.getI (pc := 80) fs_Reader_22 d_Reader_readLine_80 (fun v12 => ?_)
                refine PJ.cVV (pc := 83) cs_Reader_75 (fun z hz => PM_Reader_fail hz) (pj_fitb rfl) rfl rfl (Nat.le_of_ble_eq_true rfl) d_Reader_readLine_83 (fun h13 => ?_)
                exact PJ.done rfl
          · refine PJ.aload_n (pc := 53) d_Reader_readLine_53 rfl ?_
            refine PJ.iconst (pc := 54) (v := 5) d_Reader_readLine_54 (by decide) ?_
            refine PJ.aload_n (pc := 55) d_Reader_readLine_55 rfl ?_
            refine PJ.getI (pc := 56) fs_Reader_22 d_Reader_readLine_56 (fun v14 => ?_)
            refine PJ.cVV (pc := 59) cs_Reader_75 (fun z hz => PM_Reader_fail hz) (pj_fitb rfl) rfl rfl (Nat.le_of_ble_eq_true rfl) d_Reader_readLine_59 (fun h15 => ?_)
            refine PJ.goto (pc := 62) (tgt := 86) d_Reader_readLine_62 (by decide) ?_
            exact PJ.done rfl
        · refine PJ.aload_n (pc := 33) d_Reader_readLine_33 rfl ?_
          refine PJ.iconst (pc := 34) (v := 3) d_Reader_readLine_34 (by decide) ?_
          refine PJ.aload_n (pc := 35) d_Reader_readLine_35 rfl ?_
          refine PJ.getI (pc := 36) fs_Reader_22 d_Reader_readLine_36 (fun v16 => ?_)
          refine PJ.cVV (pc := 39) cs_Reader_75 (fun z hz => PM_Reader_fail hz) (pj_fitb rfl) rfl rfl (Nat.le_of_ble_eq_true rfl) d_Reader_readLine_39 (fun h17 => ?_)
          refine PJ.goto (pc := 42) (tgt := 86) d_Reader_readLine_42 (by decide) ?_
          exact PJ.done rfl
    · refine PJ.aload_n (pc := 10) d_Reader_readLine_10 rfl ?_
      refine PJ.iconst (pc := 11) (v := 1) d_Reader_readLine_11 (by decide) ?_
      refine PJ.aload_n (pc := 12) d_Reader_readLine_12 rfl ?_
      refine PJ.getI (pc := 13) fs_Reader_22 d_Reader_readLine_13 (fun v18 => ?_)
      refine PJ.cVV (pc := 16) cs_Reader_75 (fun z hz => PM_Reader_fail hz) (pj_fitb rfl) rfl rfl (Nat.le_of_ble_eq_true rfl) d_Reader_readLine_16 (fun h19 => ?_)
      refine PJ.goto (pc := 19) (tgt := 86) d_Reader_readLine_19 (by decide) ?_
      exact PJ.done rfl
  · show PJ l G (pj_rm 11 0 0) Y_Reader_readLine 86 [some (.inr (.inr a0)), some (.inl v1)] [] j2 0 0 _ _
    refine PJ.aload_n (pc := 86) d_Reader_readLine_86 rfl ?_
    refine PJ.getI (pc := 87) fs_Reader_28 d_Reader_readLine_87 (fun v20 => ?_)
    refine PJ.if_eq (pc := 90) (tgt := 94) d_Reader_readLine_90 (by decide) (fun _ => ?_) (fun _ => ?_)
    · refine PJ.aload_n (pc := 94) d_Reader_readLine_94 rfl ?_
      refine PJ.cVV (pc := 95) cs_Reader_69 (fun z hz => PM_Reader_next hz) (pj_fitb rfl) rfl rfl (Nat.le_of_ble_eq_true rfl) d_Reader_readLine_95 (fun h21 => ?_)
      refine PJ.iload_n (pc := 98) d_Reader_readLine_98 rfl ?_
      refine PJ.swo (pc := 99) (tgt := 200) d_Reader_readLine_99 (by decide) (fun _ => ?_) (fun _ => ?_)
      · refine PJ.aload_n (pc := 200) d_Reader_readLine_200 rfl ?_
        refine PJ.cVV (pc := 201) cs_Reader_120 (fun z hz => PM_Reader_readLane hz) (pj_fitb rfl) rfl rfl (Nat.le_of_ble_eq_true rfl) d_Reader_readLine_201 (fun h22 => ?_)
        exact PJ.vret (pc := 204) d_Reader_readLine_204 rfl (Nat.le_of_ble_eq_true rfl) (Nat.le_of_ble_eq_true rfl)
      · refine PJ.swc (pc := 99) (tgt := 144) (off := 45) (0 : Int32) d_Reader_readLine_99 (by decide +kernel) (by decide +kernel) (by decide +kernel) (by decide) (fun _ => ?_) (fun _ => ?_)
        · refine PJ.aload_n (pc := 144) d_Reader_readLine_144 rfl ?_
          refine PJ.cVV (pc := 145) cs_Reader_96 (fun z hz => PM_Reader_readTax hz) (pj_fitb rfl) rfl rfl (Nat.le_of_ble_eq_true rfl) d_Reader_readLine_145 (fun h23 => ?_)
          refine PJ.goto (pc := 148) (tgt := 204) d_Reader_readLine_148 (by decide) ?_
          exact PJ.vret (pc := 204) d_Reader_readLine_204 rfl (Nat.le_of_ble_eq_true rfl) (Nat.le_of_ble_eq_true rfl)
        · refine PJ.swc (pc := 99) (tgt := 151) (off := 52) (1 : Int32) d_Reader_readLine_99 (by decide +kernel) (by decide +kernel) (by decide +kernel) (by decide) (fun _ => ?_) (fun _ => ?_)
          · refine PJ.aload_n (pc := 151) d_Reader_readLine_151 rfl ?_
            refine PJ.cVV (pc := 152) cs_Reader_99 (fun z hz => PM_Reader_readChoice hz) (pj_fitb rfl) rfl rfl (Nat.le_of_ble_eq_true rfl) d_Reader_readLine_152 (fun h24 => ?_)
            refine PJ.goto (pc := 155) (tgt := 204) d_Reader_readLine_155 (by decide) ?_
            exact PJ.vret (pc := 204) d_Reader_readLine_204 rfl (Nat.le_of_ble_eq_true rfl) (Nat.le_of_ble_eq_true rfl)
          · refine PJ.swc (pc := 99) (tgt := 158) (off := 59) (2 : Int32) d_Reader_readLine_99 (by decide +kernel) (by decide +kernel) (by decide +kernel) (by decide) (fun _ => ?_) (fun _ => ?_)
            · refine PJ.aload_n (pc := 158) d_Reader_readLine_158 rfl ?_
              refine PJ.cVV (pc := 159) cs_Reader_102 (fun z hz => PM_Reader_readFar hz) (pj_fitb rfl) rfl rfl (Nat.le_of_ble_eq_true rfl) d_Reader_readLine_159 (fun h25 => ?_)
              refine PJ.goto (pc := 162) (tgt := 204) d_Reader_readLine_162 (by decide) ?_
              exact PJ.vret (pc := 204) d_Reader_readLine_204 rfl (Nat.le_of_ble_eq_true rfl) (Nat.le_of_ble_eq_true rfl)
            · refine PJ.swc (pc := 99) (tgt := 165) (off := 66) (3 : Int32) d_Reader_readLine_99 (by decide +kernel) (by decide +kernel) (by decide +kernel) (by decide) (fun _ => ?_) (fun _ => ?_)
              · refine PJ.aload_n (pc := 165) d_Reader_readLine_165 rfl ?_
                refine PJ.cVV (pc := 166) cs_Reader_105 (fun z hz => PM_Reader_readPerson hz) (pj_fitb rfl) rfl rfl (Nat.le_of_ble_eq_true rfl) d_Reader_readLine_166 (fun h26 => ?_)
                refine PJ.goto (pc := 169) (tgt := 204) d_Reader_readLine_169 (by decide) ?_
                exact PJ.vret (pc := 204) d_Reader_readLine_204 rfl (Nat.le_of_ble_eq_true rfl) (Nat.le_of_ble_eq_true rfl)
              · refine PJ.swc (pc := 99) (tgt := 172) (off := 73) (4 : Int32) d_Reader_readLine_99 (by decide +kernel) (by decide +kernel) (by decide +kernel) (by decide) (fun _ => ?_) (fun _ => ?_)
                · refine PJ.aload_n (pc := 172) d_Reader_readLine_172 rfl ?_
                  refine PJ.cVV (pc := 173) cs_Reader_108 (fun z hz => PM_Reader_readLikes hz) (pj_fitb rfl) rfl rfl (Nat.le_of_ble_eq_true rfl) d_Reader_readLine_173 (fun h27 => ?_)
                  refine PJ.goto (pc := 176) (tgt := 204) d_Reader_readLine_176 (by decide) ?_
                  exact PJ.vret (pc := 204) d_Reader_readLine_204 rfl (Nat.le_of_ble_eq_true rfl) (Nat.le_of_ble_eq_true rfl)
                · refine PJ.swc (pc := 99) (tgt := 179) (off := 80) (5 : Int32) d_Reader_readLine_99 (by decide +kernel) (by decide +kernel) (by decide +kernel) (by decide) (fun _ => ?_) (fun _ => ?_)
                  · refine PJ.aload_n (pc := 179) d_Reader_readLine_179 rfl ?_
                    refine PJ.cVV (pc := 180) cs_Reader_111 (fun z hz => PM_Reader_readReason hz) (pj_fitb rfl) rfl rfl (Nat.le_of_ble_eq_true rfl) d_Reader_readLine_180 (fun h28 => ?_)
                    refine PJ.goto (pc := 183) (tgt := 204) d_Reader_readLine_183 (by decide) ?_
                    exact PJ.vret (pc := 204) d_Reader_readLine_204 rfl (Nat.le_of_ble_eq_true rfl) (Nat.le_of_ble_eq_true rfl)
                  · refine PJ.swc (pc := 99) (tgt := 186) (off := 87) (6 : Int32) d_Reader_readLine_99 (by decide +kernel) (by decide +kernel) (by decide +kernel) (by decide) (fun _ => ?_) (fun _ => ?_)
                    · refine PJ.aload_n (pc := 186) d_Reader_readLine_186 rfl ?_
                      refine PJ.cVV (pc := 187) cs_Reader_114 (fun z hz => PM_Reader_readPaid hz) (pj_fitb rfl) rfl rfl (Nat.le_of_ble_eq_true rfl) d_Reader_readLine_187 (fun h29 => ?_)
                      refine PJ.goto (pc := 190) (tgt := 204) d_Reader_readLine_190 (by decide) ?_
                      exact PJ.vret (pc := 204) d_Reader_readLine_204 rfl (Nat.le_of_ble_eq_true rfl) (Nat.le_of_ble_eq_true rfl)
                    · refine PJ.swc (pc := 99) (tgt := 193) (off := 94) (7 : Int32) d_Reader_readLine_99 (by decide +kernel) (by decide +kernel) (by decide +kernel) (by decide) (fun _ => ?_) (fun _ => ?_)
                      · refine PJ.aload_n (pc := 193) d_Reader_readLine_193 rfl ?_
                        refine PJ.cVV (pc := 194) cs_Reader_117 (fun z hz => PM_Reader_readShop hz) (pj_fitb rfl) rfl rfl (Nat.le_of_ble_eq_true rfl) d_Reader_readLine_194 (fun h30 => ?_)
                        refine PJ.goto (pc := 197) (tgt := 204) d_Reader_readLine_197 (by decide) ?_
                        exact PJ.vret (pc := 204) d_Reader_readLine_204 rfl (Nat.le_of_ble_eq_true rfl) (Nat.le_of_ble_eq_true rfl)
                      · exact PJ.nn
    · exact PJ.vret (pc := 93) d_Reader_readLine_93 rfl (Nat.le_of_ble_eq_true rfl) (Nat.le_of_ble_eq_true rfl)
theorem d_Reader_read_0 : decode Y_Reader_read.2.1 0 = .ok (.aload_n 0, 1) := by decide +kernel
theorem d_Reader_read_1 : decode Y_Reader_read.2.1 1 = .ok (.aload_n 1, 1) := by decide +kernel
theorem d_Reader_read_2 : decode Y_Reader_read.2.1 2 = .ok (.putfield 54, 3) := by decide +kernel
theorem d_Reader_read_5 : decode Y_Reader_read.2.1 5 = .ok (.aload_n 0, 1) := by decide +kernel
theorem d_Reader_read_6 : decode Y_Reader_read.2.1 6 = .ok (.getfield 54, 3) := by decide +kernel
theorem d_Reader_read_9 : decode Y_Reader_read.2.1 9 = .ok (.invokevirtual 58, 3) := by decide +kernel
theorem d_Reader_read_12 : decode Y_Reader_read.2.1 12 = .ok (.aload_n 0, 1) := by decide +kernel
theorem d_Reader_read_13 : decode Y_Reader_read.2.1 13 = .ok (.iload_n 2, 1) := by decide +kernel
theorem d_Reader_read_14 : decode Y_Reader_read.2.1 14 = .ok (.aload_n 0, 1) := by decide +kernel
theorem d_Reader_read_15 : decode Y_Reader_read.2.1 15 = .ok (.getfield 50, 3) := by decide +kernel
theorem d_Reader_read_18 : decode Y_Reader_read.2.1 18 = .ok (.arraylength, 1) := by decide +kernel
theorem d_Reader_read_19 : decode Y_Reader_read.2.1 19 = .ok (.invokestatic 63, 3) := by decide +kernel
theorem d_Reader_read_22 : decode Y_Reader_read.2.1 22 = .ok (.putfield 9, 3) := by decide +kernel
theorem d_Reader_read_25 : decode Y_Reader_read.2.1 25 = .ok (.aload_n 0, 1) := by decide +kernel
theorem d_Reader_read_26 : decode Y_Reader_read.2.1 26 = .ok (.iconst 0, 1) := by decide +kernel
theorem d_Reader_read_27 : decode Y_Reader_read.2.1 27 = .ok (.putfield 15, 3) := by decide +kernel
theorem d_Reader_read_30 : decode Y_Reader_read.2.1 30 = .ok (.aload_n 0, 1) := by decide +kernel
theorem d_Reader_read_31 : decode Y_Reader_read.2.1 31 = .ok (.iconst 0, 1) := by decide +kernel
theorem d_Reader_read_32 : decode Y_Reader_read.2.1 32 = .ok (.putfield 28, 3) := by decide +kernel
theorem d_Reader_read_35 : decode Y_Reader_read.2.1 35 = .ok (.aload_n 0, 1) := by decide +kernel
theorem d_Reader_read_36 : decode Y_Reader_read.2.1 36 = .ok (.iconst 0, 1) := by decide +kernel
theorem d_Reader_read_37 : decode Y_Reader_read.2.1 37 = .ok (.putfield 34, 3) := by decide +kernel
theorem d_Reader_read_40 : decode Y_Reader_read.2.1 40 = .ok (.aload_n 0, 1) := by decide +kernel
theorem d_Reader_read_41 : decode Y_Reader_read.2.1 41 = .ok (.iconst 0, 1) := by decide +kernel
theorem d_Reader_read_42 : decode Y_Reader_read.2.1 42 = .ok (.putfield 25, 3) := by decide +kernel
theorem d_Reader_read_45 : decode Y_Reader_read.2.1 45 = .ok (.aload_n 0, 1) := by decide +kernel
theorem d_Reader_read_46 : decode Y_Reader_read.2.1 46 = .ok (.invokevirtual 69, 3) := by decide +kernel
theorem d_Reader_read_49 : decode Y_Reader_read.2.1 49 = .ok (.aload_n 0, 1) := by decide +kernel
theorem d_Reader_read_50 : decode Y_Reader_read.2.1 50 = .ok (.invokevirtual 72, 3) := by decide +kernel
theorem d_Reader_read_53 : decode Y_Reader_read.2.1 53 = .ok (.iconst 0, 1) := by decide +kernel
theorem d_Reader_read_54 : decode Y_Reader_read.2.1 54 = .ok (.istore_n 3, 1) := by decide +kernel
theorem d_Reader_read_55 : decode Y_Reader_read.2.1 55 = .ok (.iload_n 3, 1) := by decide +kernel
theorem d_Reader_read_56 : decode Y_Reader_read.2.1 56 = .ok (.aload_n 0, 1) := by decide +kernel
theorem d_Reader_read_57 : decode Y_Reader_read.2.1 57 = .ok (.getfield 9, 3) := by decide +kernel
theorem d_Reader_read_60 : decode Y_Reader_read.2.1 60 = .ok (.if_icmp .ge 51, 3) := by decide +kernel
theorem d_Reader_read_63 : decode Y_Reader_read.2.1 63 = .ok (.aload_n 0, 1) := by decide +kernel
theorem d_Reader_read_64 : decode Y_Reader_read.2.1 64 = .ok (.getfield 28, 3) := by decide +kernel
theorem d_Reader_read_67 : decode Y_Reader_read.2.1 67 = .ok (.ifCond .ne 44, 3) := by decide +kernel
theorem d_Reader_read_70 : decode Y_Reader_read.2.1 70 = .ok (.aload_n 0, 1) := by decide +kernel
theorem d_Reader_read_71 : decode Y_Reader_read.2.1 71 = .ok (.getfield 19, 3) := by decide +kernel
theorem d_Reader_read_74 : decode Y_Reader_read.2.1 74 = .ok (.ifCond .eq 37, 3) := by decide +kernel
theorem d_Reader_read_77 : decode Y_Reader_read.2.1 77 = .ok (.aload_n 0, 1) := by decide +kernel
theorem d_Reader_read_78 : decode Y_Reader_read.2.1 78 = .ok (.getfield 19, 3) := by decide +kernel
theorem d_Reader_read_81 : decode Y_Reader_read.2.1 81 = .ok (.iconst 3, 1) := by decide +kernel
theorem d_Reader_read_82 : decode Y_Reader_read.2.1 82 = .ok (.if_icmp .ne 14, 3) := by decide +kernel
theorem d_Reader_read_85 : decode Y_Reader_read.2.1 85 = .ok (.aload_n 0, 1) := by decide +kernel
theorem d_Reader_read_86 : decode Y_Reader_read.2.1 86 = .ok (.invokevirtual 69, 3) := by decide +kernel
theorem d_Reader_read_89 : decode Y_Reader_read.2.1 89 = .ok (.aload_n 0, 1) := by decide +kernel
theorem d_Reader_read_90 : decode Y_Reader_read.2.1 90 = .ok (.invokevirtual 72, 3) := by decide +kernel
theorem d_Reader_read_93 : decode Y_Reader_read.2.1 93 = .ok (.goto 12, 3) := by decide +kernel
theorem d_Reader_read_96 : decode Y_Reader_read.2.1 96 = .ok (.aload_n 0, 1) := by decide +kernel
theorem d_Reader_read_97 : decode Y_Reader_read.2.1 97 = .ok (.iconst 1, 1) := by decide +kernel
theorem d_Reader_read_98 : decode Y_Reader_read.2.1 98 = .ok (.aload_n 0, 1) := by decide +kernel
theorem d_Reader_read_99 : decode Y_Reader_read.2.1 99 = .ok (.getfield 22, 3) := by decide +kernel
theorem d_Reader_read_102 : decode Y_Reader_read.2.1 102 = .ok (.invokevirtual 75, 3) := by decide +kernel
theorem d_Reader_read_105 : decode Y_Reader_read.2.1 105 = .ok (.iinc 3 1, 3) := by decide +kernel
theorem d_Reader_read_108 : decode Y_Reader_read.2.1 108 = .ok (.goto (-53), 3) := by decide +kernel
theorem d_Reader_read_111 : decode Y_Reader_read.2.1 111 = .ok (.aload_n 0, 1) := by decide +kernel
theorem d_Reader_read_112 : decode Y_Reader_read.2.1 112 = .ok (.getfield 54, 3) := by decide +kernel
theorem d_Reader_read_115 : decode Y_Reader_read.2.1 115 = .ok (.getfield 79, 3) := by decide +kernel
theorem d_Reader_read_118 : decode Y_Reader_read.2.1 118 = .ok (.ifCond .ne 13, 3) := by decide +kernel
theorem d_Reader_read_121 : decode Y_Reader_read.2.1 121 = .ok (.aload_n 0, 1) := by decide +kernel
theorem d_Reader_read_122 : decode Y_Reader_read.2.1 122 = .ok (.bipush 6, 2) := by decide +kernel
theorem d_Reader_read_124 : decode Y_Reader_read.2.1 124 = .ok (.aload_n 0, 1) := by decide +kernel
theorem d_Reader_read_125 : decode Y_Reader_read.2.1 125 = .ok (.getfield 9, 3) := by decide +kernel
theorem d_Reader_read_128 : decode Y_Reader_read.2.1 128 = .ok (.invokevirtual 75, 3) := by decide +kernel
theorem d_Reader_read_131 : decode Y_Reader_read.2.1 131 = .ok (.aload_n 0, 1) := by decide +kernel
theorem d_Reader_read_132 : decode Y_Reader_read.2.1 132 = .ok (.getfield 28, 3) := by decide +kernel
theorem d_Reader_read_135 : decode Y_Reader_read.2.1 135 = .ok (.ireturn, 1) := by decide +kernel
def f_Reader_read (h : PH) (a0 : Option Nat) (a1 : Option Nat) (a2 : Int32) : Option (Int32 × PH) := (sF h 5 a0 2 (.inr (.inr a1))).bind fun h1 => (gR h1 5 a0 2).bind fun v2 => (cl h1 1 v2 (f_Law_wipe h1 v2)).bind fun h3 => (gR h3 5 a0 0).bind fun v4 => (aN h3 52 v4).bind fun v5 => (sF h3 5 a0 1 (.inl (if v5 < a2 then v5 else a2))).bind fun h6 => (sZ h6 5 a0 3 (0 : Int32)).bind fun h7 => (sF h7 5 a0 7 (.inl (0 : Int32))).bind fun h8 => (sF h8 5 a0 9 (.inl (0 : Int32))).bind fun h9 => (sF h9 5 a0 6 (.inl (0 : Int32))).bind fun h10 => (cl h10 5 a0 (f_Reader_next h10 a0)).bind fun h11 => (cl h11 5 a0 (f_Reader_readLine h11 a0)).bind fun h12 => (pj_it (X := PH) (fun s13 : Int32 × PH => (gI s13.2 5 a0 1).bind fun v15 => if v15 ≤ s13.1 then (some (.inr s13.2)) else ((gI s13.2 5 a0 7).bind fun v16 => if ¬ v16 = 0 then (some (.inr s13.2)) else ((gI s13.2 5 a0 4).bind fun v17 => if v17 = 0 then (some (.inr s13.2)) else ((gI s13.2 5 a0 4).bind fun v18 => if ¬ v18 = (3 : Int32) then ((gI s13.2 5 a0 5).bind fun v19 => (cl s13.2 5 a0 (f_Reader_fail s13.2 a0 (1 : Int32) v19)).bind fun h20 => some (.inl ((s13.1 + (1 : Int32)), h20))) else ((cl s13.2 5 a0 (f_Reader_next s13.2 a0)).bind fun h21 => (cl h21 5 a0 (f_Reader_readLine h21 a0)).bind fun h22 => some (.inl ((s13.1 + (1 : Int32)), h22))))))) FU ((0 : Int32), h12)).bind fun x14 => (gR x14 5 a0 2).bind fun v23 => (gI x14 1 v23 2).bind fun v24 => if ¬ v24 = 0 then ((gI x14 5 a0 7).bind fun v25 => some (v25, x14)) else ((gI x14 5 a0 1).bind fun v26 => (cl x14 5 a0 (f_Reader_fail x14 a0 (6 : Int32) v26)).bind fun h27 => (gI h27 5 a0 7).bind fun v28 => some (v28, h27))
set_option maxRecDepth 20000 in
theorem PM_Reader_read {l : Launch} {G : Cx} {h : PH} {a0 : Option Nat} {a1 : Option Nat} {a2 : Int32} {z : (Int32 × PH)} (hz : f_Reader_read h a0 a1 a2 = some z) : PM l G 12 0 0 Y_Reader_read [.inr (.inr a0), .inr (.inr a1), .inl a2] h (some (.inl z.1), z.2) := by
  refine PM.of (Y := Y_Reader_read) (cv := (fun z : (Int32 × PH) => (((some (.inl z.1), z.2) : Option PV × PH)))) (by decide) (L0 := [some (.inr (.inr a0)), some (.inr (.inr a1)), some (.inl a2), none]) 1 rfl (Nat.le_of_ble_eq_true rfl) ?_ hz
  unfold f_Reader_read
  refine PJ.aload_n (pc := 0) d_Reader_read_0 rfl ?_
  refine PJ.aload_n (pc := 1) d_Reader_read_1 rfl ?_
  refine PJ.putR (pc := 2) ps_Reader_54 rfl d_Reader_read_2 (fun h1 => ?_)
  refine PJ.aload_n (pc := 5) d_Reader_read_5 rfl ?_
  refine PJ.getR (pc := 6) fs_Reader_54 d_Reader_read_6 (fun v2 => ?_)
  refine PJ.cVV (pc := 9) cs_Reader_58 (fun z hz => PM_Law_wipe hz) (pj_fitb rfl) rfl rfl (Nat.le_of_ble_eq_true rfl) d_Reader_read_9 (fun h3 => ?_)
  refine PJ.aload_n (pc := 12) d_Reader_read_12 rfl ?_
  refine PJ.iload_n (pc := 13) d_Reader_read_13 rfl ?_
  refine PJ.aload_n (pc := 14) d_Reader_read_14 rfl ?_
  refine PJ.getR (pc := 15) fs_Reader_50 d_Reader_read_15 (fun v4 => ?_)
  refine PJ.alen (pc := 18) 52 (by decide) d_Reader_read_18 (fun v5 => ?_)
  refine PJ.mminI (pc := 19) (idx := 63) wd_628 (Nat.le_of_ble_eq_true rfl) (Nat.le_of_ble_eq_true rfl) (Nat.le_of_ble_eq_true rfl) (Nat.le_of_ble_eq_true rfl) (Nat.le_of_ble_eq_true rfl) d_Reader_read_19 ?_
  refine PJ.putI (pc := 22) ps_Reader_9 d_Reader_read_22 (fun h6 => ?_)
  refine PJ.aload_n (pc := 25) d_Reader_read_25 rfl ?_
  refine PJ.iconst (pc := 26) (v := 0) d_Reader_read_26 (by decide) ?_
  refine PJ.putZ (pc := 27) ps_Reader_15 d_Reader_read_27 (fun h7 => ?_)
  refine PJ.aload_n (pc := 30) d_Reader_read_30 rfl ?_
  refine PJ.iconst (pc := 31) (v := 0) d_Reader_read_31 (by decide) ?_
  refine PJ.putI (pc := 32) ps_Reader_28 d_Reader_read_32 (fun h8 => ?_)
  refine PJ.aload_n (pc := 35) d_Reader_read_35 rfl ?_
  refine PJ.iconst (pc := 36) (v := 0) d_Reader_read_36 (by decide) ?_
  refine PJ.putI (pc := 37) ps_Reader_34 d_Reader_read_37 (fun h9 => ?_)
  refine PJ.aload_n (pc := 40) d_Reader_read_40 rfl ?_
  refine PJ.iconst (pc := 41) (v := 0) d_Reader_read_41 (by decide) ?_
  refine PJ.putI (pc := 42) ps_Reader_25 d_Reader_read_42 (fun h10 => ?_)
  refine PJ.aload_n (pc := 45) d_Reader_read_45 rfl ?_
  refine PJ.cVV (pc := 46) cs_Reader_69 (fun z hz => PM_Reader_next hz) (pj_fitb rfl) rfl rfl (Nat.le_of_ble_eq_true rfl) d_Reader_read_46 (fun h11 => ?_)
  refine PJ.aload_n (pc := 49) d_Reader_read_49 rfl ?_
  refine PJ.cVV (pc := 50) cs_Reader_72 (fun z hz => PM_Reader_readLine hz) (pj_fitb rfl) rfl rfl (Nat.le_of_ble_eq_true rfl) d_Reader_read_50 (fun h12 => ?_)
  refine PJ.iconst (pc := 53) (v := 0) d_Reader_read_53 (by decide) ?_
  refine PJ.istore_n (pc := 54) (L1 := [some (.inr (.inr a0)), some (.inr (.inr a1)), some (.inl a2), some (.inl (0 : Int32))]) d_Reader_read_54 (Nat.le_of_ble_eq_true rfl) rfl rfl ?_
  refine PJ.mk (L1 := [some (.inr (.inr a0)), none, none, some (.inl (0 : Int32))]) [true, false, false, true] rfl ?_
  refine PJ.bind (fun x14 : PH => ((111 : Nat), ([some (.inr (.inr a0)), none, none, none] : List (Option PV)), ([] : List PV), (x14 : PH), (0 : Nat), (0 : Nat))) (PJ.it (E := (fun s13 : Int32 × PH => ((55 : Nat), ([some (.inr (.inr a0)), none, none, some (.inl s13.1)] : List (Option PV)), ([] : List PV), (s13.2 : PH), (0 : Nat), (0 : Nat)))) (F := (fun x14 : PH => ((111 : Nat), ([some (.inr (.inr a0)), none, none, none] : List (Option PV)), ([] : List PV), (x14 : PH), (0 : Nat), (0 : Nat)))) (fun s13 => ?_) FU ((0 : Int32), h12)) (fun x14 => ?_)
  · show PJ l G (pj_rm 12 0 0) Y_Reader_read 55 [some (.inr (.inr a0)), none, none, some (.inl s13.1)] [] s13.2 0 0 _ _
    refine PJ.iload_n (pc := 55) d_Reader_read_55 rfl ?_
    refine PJ.aload_n (pc := 56) d_Reader_read_56 rfl ?_
    refine PJ.getI (pc := 57) fs_Reader_9 d_Reader_read_57 (fun v15 => ?_)
    refine PJ.icmp_ge (pc := 60) (tgt := 111) d_Reader_read_60 (by decide) (fun _ => ?_) (fun _ => ?_)
    · refine PJ.mk (L1 := [some (.inr (.inr a0)), none, none, none]) [true, false, false, false] rfl ?_
      exact PJ.done rfl
    · refine PJ.aload_n (pc := 63) d_Reader_read_63 rfl ?_
      refine PJ.getI (pc := 64) fs_Reader_28 d_Reader_read_64 (fun v16 => ?_)
      refine PJ.if_ne (pc := 67) (tgt := 111) d_Reader_read_67 (by decide) (fun _ => ?_) (fun _ => ?_)
      · refine PJ.mk (L1 := [some (.inr (.inr a0)), none, none, none]) [true, false, false, false] rfl ?_
        exact PJ.done rfl
      · refine PJ.aload_n (pc := 70) d_Reader_read_70 rfl ?_
        refine PJ.getI (pc := 71) fs_Reader_19 d_Reader_read_71 (fun v17 => ?_)
        refine PJ.if_eq (pc := 74) (tgt := 111) d_Reader_read_74 (by decide) (fun _ => ?_) (fun _ => ?_)
        · refine PJ.mk (L1 := [some (.inr (.inr a0)), none, none, none]) [true, false, false, false] rfl ?_
          exact PJ.done rfl
        · refine PJ.aload_n (pc := 77) d_Reader_read_77 rfl ?_
          refine PJ.getI (pc := 78) fs_Reader_19 d_Reader_read_78 (fun v18 => ?_)
          refine PJ.iconst (pc := 81) (v := 3) d_Reader_read_81 (by decide) ?_
          refine PJ.icmp_ne (pc := 82) (tgt := 96) d_Reader_read_82 (by decide) (fun _ => ?_) (fun _ => ?_)
          · refine PJ.aload_n (pc := 96) d_Reader_read_96 rfl ?_
            refine PJ.iconst (pc := 97) (v := 1) d_Reader_read_97 (by decide) ?_
            refine PJ.aload_n (pc := 98) d_Reader_read_98 rfl ?_
            refine PJ.getI (pc := 99) fs_Reader_22 d_Reader_read_99 (fun v19 => ?_)
            refine PJ.cVV (pc := 102) cs_Reader_75 (fun z hz => PM_Reader_fail hz) (pj_fitb rfl) rfl rfl (Nat.le_of_ble_eq_true rfl) d_Reader_read_102 (fun h20 => ?_)
            refine PJ.iinc (pc := 105) (v := 1) (L1 := [some (.inr (.inr a0)), none, none, some (.inl (s13.1 + (1 : Int32)))]) d_Reader_read_105 rfl (by decide) (Nat.le_of_ble_eq_true rfl) rfl rfl ?_
            refine PJ.goto (pc := 108) (tgt := 55) d_Reader_read_108 (by decide) ?_
            exact PJ.done rfl
          · refine PJ.aload_n (pc := 85) d_Reader_read_85 rfl ?_
            refine PJ.cVV (pc := 86) cs_Reader_69 (fun z hz => PM_Reader_next hz) (pj_fitb rfl) rfl rfl (Nat.le_of_ble_eq_true rfl) d_Reader_read_86 (fun h21 => ?_)
            refine PJ.aload_n (pc := 89) d_Reader_read_89 rfl ?_
            refine PJ.cVV (pc := 90) cs_Reader_72 (fun z hz => PM_Reader_readLine hz) (pj_fitb rfl) rfl rfl (Nat.le_of_ble_eq_true rfl) d_Reader_read_90 (fun h22 => ?_)
            refine PJ.goto (pc := 93) (tgt := 105) d_Reader_read_93 (by decide) ?_
            refine PJ.iinc (pc := 105) (v := 1) (L1 := [some (.inr (.inr a0)), none, none, some (.inl (s13.1 + (1 : Int32)))]) d_Reader_read_105 rfl (by decide) (Nat.le_of_ble_eq_true rfl) rfl rfl ?_
            refine PJ.goto (pc := 108) (tgt := 55) d_Reader_read_108 (by decide) ?_
            exact PJ.done rfl
  · show PJ l G (pj_rm 12 0 0) Y_Reader_read 111 [some (.inr (.inr a0)), none, none, none] [] x14 0 0 _ _
    refine PJ.aload_n (pc := 111) d_Reader_read_111 rfl ?_
    refine PJ.getR (pc := 112) fs_Reader_54 d_Reader_read_112 (fun v23 => ?_)
    refine PJ.getI (pc := 115) fs_Reader_79 d_Reader_read_115 (fun v24 => ?_)
    refine PJ.if_ne (pc := 118) (tgt := 131) d_Reader_read_118 (by decide) (fun _ => ?_) (fun _ => ?_)
    · refine PJ.aload_n (pc := 131) d_Reader_read_131 rfl ?_
      refine PJ.getI (pc := 132) fs_Reader_28 d_Reader_read_132 (fun v25 => ?_)
      exact PJ.iret (pc := 135) d_Reader_read_135 rfl (Nat.le_of_ble_eq_true rfl) (Nat.le_of_ble_eq_true rfl)
    · refine PJ.aload_n (pc := 121) d_Reader_read_121 rfl ?_
      refine PJ.bipush (pc := 122) (v := 6) d_Reader_read_122 (by decide) ?_
      refine PJ.aload_n (pc := 124) d_Reader_read_124 rfl ?_
      refine PJ.getI (pc := 125) fs_Reader_9 d_Reader_read_125 (fun v26 => ?_)
      refine PJ.cVV (pc := 128) cs_Reader_75 (fun z hz => PM_Reader_fail hz) (pj_fitb rfl) rfl rfl (Nat.le_of_ble_eq_true rfl) d_Reader_read_128 (fun h27 => ?_)
      refine PJ.aload_n (pc := 131) d_Reader_read_131 rfl ?_
      refine PJ.getI (pc := 132) fs_Reader_28 d_Reader_read_132 (fun v28 => ?_)
      exact PJ.iret (pc := 135) d_Reader_read_135 rfl (Nat.le_of_ble_eq_true rfl) (Nat.le_of_ble_eq_true rfl)
theorem d_Now_begin_0 : decode Y_Now_begin.2.1 0 = .ok (.aload_n 0, 1) := by decide +kernel
theorem d_Now_begin_1 : decode Y_Now_begin.2.1 1 = .ok (.iconst 0, 1) := by decide +kernel
theorem d_Now_begin_2 : decode Y_Now_begin.2.1 2 = .ok (.putfield 9, 3) := by decide +kernel
theorem d_Now_begin_5 : decode Y_Now_begin.2.1 5 = .ok (.aload_n 0, 1) := by decide +kernel
theorem d_Now_begin_6 : decode Y_Now_begin.2.1 6 = .ok (.iconst 0, 1) := by decide +kernel
theorem d_Now_begin_7 : decode Y_Now_begin.2.1 7 = .ok (.putfield 15, 3) := by decide +kernel
theorem d_Now_begin_10 : decode Y_Now_begin.2.1 10 = .ok (.aload_n 0, 1) := by decide +kernel
theorem d_Now_begin_11 : decode Y_Now_begin.2.1 11 = .ok (.iconst 0, 1) := by decide +kernel
theorem d_Now_begin_12 : decode Y_Now_begin.2.1 12 = .ok (.putfield 18, 3) := by decide +kernel
theorem d_Now_begin_15 : decode Y_Now_begin.2.1 15 = .ok (.aload_n 1, 1) := by decide +kernel
theorem d_Now_begin_16 : decode Y_Now_begin.2.1 16 = .ok (.getfield 34, 3) := by decide +kernel
theorem d_Now_begin_19 : decode Y_Now_begin.2.1 19 = .ok (.iconst 0, 1) := by decide +kernel
theorem d_Now_begin_20 : decode Y_Now_begin.2.1 20 = .ok (.aload_n 0, 1) := by decide +kernel
theorem d_Now_begin_21 : decode Y_Now_begin.2.1 21 = .ok (.getfield 21, 3) := by decide +kernel
theorem d_Now_begin_24 : decode Y_Now_begin.2.1 24 = .ok (.iconst 0, 1) := by decide +kernel
theorem d_Now_begin_25 : decode Y_Now_begin.2.1 25 = .ok (.iconst 5, 1) := by decide +kernel
theorem d_Now_begin_26 : decode Y_Now_begin.2.1 26 = .ok (.invokestatic 39, 3) := by decide +kernel
theorem d_Now_begin_29 : decode Y_Now_begin.2.1 29 = .ok (.aload_n 0, 1) := by decide +kernel
theorem d_Now_begin_30 : decode Y_Now_begin.2.1 30 = .ok (.getfield 25, 3) := by decide +kernel
theorem d_Now_begin_33 : decode Y_Now_begin.2.1 33 = .ok (.iconst 0, 1) := by decide +kernel
theorem d_Now_begin_34 : decode Y_Now_begin.2.1 34 = .ok (.invokestatic 45, 3) := by decide +kernel
theorem d_Now_begin_37 : decode Y_Now_begin.2.1 37 = .ok (.aload_n 0, 1) := by decide +kernel
theorem d_Now_begin_38 : decode Y_Now_begin.2.1 38 = .ok (.getfield 28, 3) := by decide +kernel
theorem d_Now_begin_41 : decode Y_Now_begin.2.1 41 = .ok (.iconst 0, 1) := by decide +kernel
theorem d_Now_begin_42 : decode Y_Now_begin.2.1 42 = .ok (.invokestatic 45, 3) := by decide +kernel
theorem d_Now_begin_45 : decode Y_Now_begin.2.1 45 = .ok (.aload_n 0, 1) := by decide +kernel
theorem d_Now_begin_46 : decode Y_Now_begin.2.1 46 = .ok (.getfield 31, 3) := by decide +kernel
theorem d_Now_begin_49 : decode Y_Now_begin.2.1 49 = .ok (.bipush (-2), 2) := by decide +kernel
theorem d_Now_begin_51 : decode Y_Now_begin.2.1 51 = .ok (.invokestatic 45, 3) := by decide +kernel
theorem d_Now_begin_54 : decode Y_Now_begin.2.1 54 = .ok (.return_, 1) := by decide +kernel
def f_Now_begin (h : PH) (a0 : Option Nat) (a1 : Option Nat) : Option PH := (sF h 2 a0 0 (.inl (0 : Int32))).bind fun h1 => (sF h1 2 a0 1 (.inl (0 : Int32))).bind fun h2 => (sF h2 2 a0 2 (.inl (0 : Int32))).bind fun h3 => (gR h3 1 a1 7).bind fun v4 => (gR h3 2 a0 3).bind fun v5 => (aC h3 v4 (0 : Int32) v5 (0 : Int32) (5 : Int32)).bind fun h6 => (gR h6 2 a0 4).bind fun v7 => (f_Arrays_fill h6 v7 (0 : Int32)).bind fun h8 => (gR h8 2 a0 5).bind fun v9 => (f_Arrays_fill h8 v9 (0 : Int32)).bind fun h10 => (gR h10 2 a0 6).bind fun v11 => (f_Arrays_fill h10 v11 (-2 : Int32)).bind fun h12 => some h12
set_option maxRecDepth 20000 in
theorem PM_Now_begin {l : Launch} {G : Cx} {h : PH} {a0 : Option Nat} {a1 : Option Nat} {z : PH} (hz : f_Now_begin h a0 a1 = some z) : PM l G 2 0 0 Y_Now_begin [.inr (.inr a0), .inr (.inr a1)] h (none, z) := by
  refine PM.of (Y := Y_Now_begin) (cv := (fun z : PH => (((none, z) : Option PV × PH)))) (by decide) (L0 := [some (.inr (.inr a0)), some (.inr (.inr a1))]) 0 rfl (Nat.le_of_ble_eq_true rfl) ?_ hz
  unfold f_Now_begin
  refine PJ.aload_n (pc := 0) d_Now_begin_0 rfl ?_
  refine PJ.iconst (pc := 1) (v := 0) d_Now_begin_1 (by decide) ?_
  refine PJ.putI (pc := 2) ps_Now_9 d_Now_begin_2 (fun h1 => ?_)
  refine PJ.aload_n (pc := 5) d_Now_begin_5 rfl ?_
  refine PJ.iconst (pc := 6) (v := 0) d_Now_begin_6 (by decide) ?_
  refine PJ.putI (pc := 7) ps_Now_15 d_Now_begin_7 (fun h2 => ?_)
  refine PJ.aload_n (pc := 10) d_Now_begin_10 rfl ?_
  refine PJ.iconst (pc := 11) (v := 0) d_Now_begin_11 (by decide) ?_
  refine PJ.putI (pc := 12) ps_Now_18 d_Now_begin_12 (fun h3 => ?_)
  refine PJ.aload_n (pc := 15) d_Now_begin_15 rfl ?_
  refine PJ.getR (pc := 16) fs_Now_34 d_Now_begin_16 (fun v4 => ?_)
  refine PJ.iconst (pc := 19) (v := 0) d_Now_begin_19 (by decide) ?_
  refine PJ.aload_n (pc := 20) d_Now_begin_20 rfl ?_
  refine PJ.getR (pc := 21) fs_Now_21 d_Now_begin_21 (fun v5 => ?_)
  refine PJ.iconst (pc := 24) (v := 0) d_Now_begin_24 (by decide) ?_
  refine PJ.iconst (pc := 25) (v := 5) d_Now_begin_25 (by decide) ?_
  refine PJ.acopy (pc := 26) (idx := 39) wd_806 wd_808 wd_807 wd_148 (Nat.le_of_ble_eq_true rfl) (by decide +kernel) d_Now_begin_26 (fun h6 => ?_)
  refine PJ.aload_n (pc := 29) d_Now_begin_29 rfl ?_
  refine PJ.getR (pc := 30) fs_Now_25 d_Now_begin_30 (fun v7 => ?_)
  refine PJ.iconst (pc := 33) (v := 0) d_Now_begin_33 (by decide) ?_
  refine PJ.cSV (pc := 34) cs_Now_45 (fun z hz => PM_Arrays_fill hz) (pj_fitb rfl) rfl rfl (Nat.le_of_ble_eq_true rfl) d_Now_begin_34 (fun h8 => ?_)
  refine PJ.aload_n (pc := 37) d_Now_begin_37 rfl ?_
  refine PJ.getR (pc := 38) fs_Now_28 d_Now_begin_38 (fun v9 => ?_)
  refine PJ.iconst (pc := 41) (v := 0) d_Now_begin_41 (by decide) ?_
  refine PJ.cSV (pc := 42) cs_Now_45 (fun z hz => PM_Arrays_fill hz) (pj_fitb rfl) rfl rfl (Nat.le_of_ble_eq_true rfl) d_Now_begin_42 (fun h10 => ?_)
  refine PJ.aload_n (pc := 45) d_Now_begin_45 rfl ?_
  refine PJ.getR (pc := 46) fs_Now_31 d_Now_begin_46 (fun v11 => ?_)
  refine PJ.bipush (pc := 49) (v := -2) d_Now_begin_49 (by decide) ?_
  refine PJ.cSV (pc := 51) cs_Now_45 (fun z hz => PM_Arrays_fill hz) (pj_fitb rfl) rfl rfl (Nat.le_of_ble_eq_true rfl) d_Now_begin_51 (fun h12 => ?_)
  exact PJ.vret (pc := 54) d_Now_begin_54 rfl (Nat.le_of_ble_eq_true rfl) (Nat.le_of_ble_eq_true rfl)
theorem d_Past_forget_0 : decode Y_Past_forget.2.1 0 = .ok (.aload_n 0, 1) := by decide +kernel
theorem d_Past_forget_1 : decode Y_Past_forget.2.1 1 = .ok (.iconst 0, 1) := by decide +kernel
theorem d_Past_forget_2 : decode Y_Past_forget.2.1 2 = .ok (.putfield 20, 3) := by decide +kernel
theorem d_Past_forget_5 : decode Y_Past_forget.2.1 5 = .ok (.aload_n 0, 1) := by decide +kernel
theorem d_Past_forget_6 : decode Y_Past_forget.2.1 6 = .ok (.iconst 0, 1) := by decide +kernel
theorem d_Past_forget_7 : decode Y_Past_forget.2.1 7 = .ok (.putfield 24, 3) := by decide +kernel
theorem d_Past_forget_10 : decode Y_Past_forget.2.1 10 = .ok (.return_, 1) := by decide +kernel
def f_Past_forget (h : PH) (a0 : Option Nat) : Option PH := (sF h 3 a0 2 (.inl (0 : Int32))).bind fun h1 => (sF h1 3 a0 3 (.inl (0 : Int32))).bind fun h2 => some h2
set_option maxRecDepth 20000 in
theorem PM_Past_forget {l : Launch} {G : Cx} {h : PH} {a0 : Option Nat} {z : PH} (hz : f_Past_forget h a0 = some z) : PM l G 1 0 0 Y_Past_forget [.inr (.inr a0)] h (none, z) := by
  refine PM.of (Y := Y_Past_forget) (cv := (fun z : PH => (((none, z) : Option PV × PH)))) (by decide) (L0 := [some (.inr (.inr a0))]) 0 rfl (Nat.le_of_ble_eq_true rfl) ?_ hz
  unfold f_Past_forget
  refine PJ.aload_n (pc := 0) d_Past_forget_0 rfl ?_
  refine PJ.iconst (pc := 1) (v := 0) d_Past_forget_1 (by decide) ?_
  refine PJ.putI (pc := 2) ps_Past_20 d_Past_forget_2 (fun h1 => ?_)
  refine PJ.aload_n (pc := 5) d_Past_forget_5 rfl ?_
  refine PJ.iconst (pc := 6) (v := 0) d_Past_forget_6 (by decide) ?_
  refine PJ.putI (pc := 7) ps_Past_24 d_Past_forget_7 (fun h2 => ?_)
  exact PJ.vret (pc := 10) d_Past_forget_10 rfl (Nat.le_of_ble_eq_true rfl) (Nat.le_of_ble_eq_true rfl)
theorem d_T_fine_0 : decode Y_T_fine.2.1 0 = .ok (.aload_n 0, 1) := by decide +kernel
theorem d_T_fine_1 : decode Y_T_fine.2.1 1 = .ok (.iconst 0, 1) := by decide +kernel
theorem d_T_fine_2 : decode Y_T_fine.2.1 2 = .ok (.putfield 82, 3) := by decide +kernel
theorem d_T_fine_5 : decode Y_T_fine.2.1 5 = .ok (.iload_n 1, 1) := by decide +kernel
theorem d_T_fine_6 : decode Y_T_fine.2.1 6 = .ok (.ireturn, 1) := by decide +kernel
def f_T_fine (h : PH) (a0 : Option Nat) (a1 : Int32) : Option (Int32 × PH) := (sF h 10 a0 12 (.inl (0 : Int32))).bind fun h1 => some (a1, h1)
set_option maxRecDepth 20000 in
theorem PM_T_fine {l : Launch} {G : Cx} {h : PH} {a0 : Option Nat} {a1 : Int32} {z : (Int32 × PH)} (hz : f_T_fine h a0 a1 = some z) : PM l G 1 0 0 Y_T_fine [.inr (.inr a0), .inl a1] h (some (.inl z.1), z.2) := by
  refine PM.of (Y := Y_T_fine) (cv := (fun z : (Int32 × PH) => (((some (.inl z.1), z.2) : Option PV × PH)))) (by decide) (L0 := [some (.inr (.inr a0)), some (.inl a1)]) 0 rfl (Nat.le_of_ble_eq_true rfl) ?_ hz
  unfold f_T_fine
  refine PJ.aload_n (pc := 0) d_T_fine_0 rfl ?_
  refine PJ.iconst (pc := 1) (v := 0) d_T_fine_1 (by decide) ?_
  refine PJ.putI (pc := 2) ps_T_82 d_T_fine_2 (fun h1 => ?_)
  refine PJ.iload_n (pc := 5) d_T_fine_5 rfl ?_
  exact PJ.iret (pc := 6) d_T_fine_6 rfl (Nat.le_of_ble_eq_true rfl) (Nat.le_of_ble_eq_true rfl)
theorem d_T_laws_0 : decode Y_T_laws.2.1 0 = .ok (.iload_n 1, 1) := by decide +kernel
theorem d_T_laws_1 : decode Y_T_laws.2.1 1 = .ok (.ifCond .lt 11, 3) := by decide +kernel
theorem d_T_laws_4 : decode Y_T_laws.2.1 4 = .ok (.iload_n 1, 1) := by decide +kernel
theorem d_T_laws_5 : decode Y_T_laws.2.1 5 = .ok (.aload_n 0, 1) := by decide +kernel
theorem d_T_laws_6 : decode Y_T_laws.2.1 6 = .ok (.getfield 13, 3) := by decide +kernel
theorem d_T_laws_9 : decode Y_T_laws.2.1 9 = .ok (.if_icmp .le 9, 3) := by decide +kernel
theorem d_T_laws_12 : decode Y_T_laws.2.1 12 = .ok (.aload_n 0, 1) := by decide +kernel
theorem d_T_laws_13 : decode Y_T_laws.2.1 13 = .ok (.iconst 2, 1) := by decide +kernel
theorem d_T_laws_14 : decode Y_T_laws.2.1 14 = .ok (.invokevirtual 95, 3) := by decide +kernel
theorem d_T_laws_17 : decode Y_T_laws.2.1 17 = .ok (.ireturn, 1) := by decide +kernel
theorem d_T_laws_18 : decode Y_T_laws.2.1 18 = .ok (.aload_n 0, 1) := by decide +kernel
theorem d_T_laws_19 : decode Y_T_laws.2.1 19 = .ok (.iconst 0, 1) := by decide +kernel
theorem d_T_laws_20 : decode Y_T_laws.2.1 20 = .ok (.putfield 13, 3) := by decide +kernel
theorem d_T_laws_23 : decode Y_T_laws.2.1 23 = .ok (.aload_n 0, 1) := by decide +kernel
theorem d_T_laws_24 : decode Y_T_laws.2.1 24 = .ok (.aload_n 0, 1) := by decide +kernel
theorem d_T_laws_25 : decode Y_T_laws.2.1 25 = .ok (.getfield 32, 3) := by decide +kernel
theorem d_T_laws_28 : decode Y_T_laws.2.1 28 = .ok (.aload_n 0, 1) := by decide +kernel
theorem d_T_laws_29 : decode Y_T_laws.2.1 29 = .ok (.getfield 24, 3) := by decide +kernel
theorem d_T_laws_32 : decode Y_T_laws.2.1 32 = .ok (.iload_n 1, 1) := by decide +kernel
theorem d_T_laws_33 : decode Y_T_laws.2.1 33 = .ok (.invokevirtual 99, 3) := by decide +kernel
theorem d_T_laws_36 : decode Y_T_laws.2.1 36 = .ok (.putfield 85, 3) := by decide +kernel
theorem d_T_laws_39 : decode Y_T_laws.2.1 39 = .ok (.aload_n 0, 1) := by decide +kernel
theorem d_T_laws_40 : decode Y_T_laws.2.1 40 = .ok (.getfield 85, 3) := by decide +kernel
theorem d_T_laws_43 : decode Y_T_laws.2.1 43 = .ok (.ifCond .eq 20, 3) := by decide +kernel
theorem d_T_laws_46 : decode Y_T_laws.2.1 46 = .ok (.aload_n 0, 1) := by decide +kernel
theorem d_T_laws_47 : decode Y_T_laws.2.1 47 = .ok (.aload_n 0, 1) := by decide +kernel
theorem d_T_laws_48 : decode Y_T_laws.2.1 48 = .ok (.getfield 32, 3) := by decide +kernel
theorem d_T_laws_51 : decode Y_T_laws.2.1 51 = .ok (.getfield 103, 3) := by decide +kernel
theorem d_T_laws_54 : decode Y_T_laws.2.1 54 = .ok (.putfield 88, 3) := by decide +kernel
theorem d_T_laws_57 : decode Y_T_laws.2.1 57 = .ok (.aload_n 0, 1) := by decide +kernel
theorem d_T_laws_58 : decode Y_T_laws.2.1 58 = .ok (.iconst 4, 1) := by decide +kernel
theorem d_T_laws_59 : decode Y_T_laws.2.1 59 = .ok (.invokevirtual 95, 3) := by decide +kernel
theorem d_T_laws_62 : decode Y_T_laws.2.1 62 = .ok (.ireturn, 1) := by decide +kernel
theorem d_T_laws_63 : decode Y_T_laws.2.1 63 = .ok (.aload_n 0, 1) := by decide +kernel
theorem d_T_laws_64 : decode Y_T_laws.2.1 64 = .ok (.getfield 24, 3) := by decide +kernel
theorem d_T_laws_67 : decode Y_T_laws.2.1 67 = .ok (.astore_n 2, 1) := by decide +kernel
theorem d_T_laws_68 : decode Y_T_laws.2.1 68 = .ok (.aload_n 0, 1) := by decide +kernel
theorem d_T_laws_69 : decode Y_T_laws.2.1 69 = .ok (.aload_n 0, 1) := by decide +kernel
theorem d_T_laws_70 : decode Y_T_laws.2.1 70 = .ok (.getfield 20, 3) := by decide +kernel
theorem d_T_laws_73 : decode Y_T_laws.2.1 73 = .ok (.putfield 24, 3) := by decide +kernel
theorem d_T_laws_76 : decode Y_T_laws.2.1 76 = .ok (.aload_n 0, 1) := by decide +kernel
theorem d_T_laws_77 : decode Y_T_laws.2.1 77 = .ok (.aload_n 2, 1) := by decide +kernel
theorem d_T_laws_78 : decode Y_T_laws.2.1 78 = .ok (.putfield 20, 3) := by decide +kernel
theorem d_T_laws_81 : decode Y_T_laws.2.1 81 = .ok (.aload_n 0, 1) := by decide +kernel
theorem d_T_laws_82 : decode Y_T_laws.2.1 82 = .ok (.iconst 1, 1) := by decide +kernel
theorem d_T_laws_83 : decode Y_T_laws.2.1 83 = .ok (.putfield 36, 3) := by decide +kernel
theorem d_T_laws_86 : decode Y_T_laws.2.1 86 = .ok (.aload_n 0, 1) := by decide +kernel
theorem d_T_laws_87 : decode Y_T_laws.2.1 87 = .ok (.getfield 43, 3) := by decide +kernel
theorem d_T_laws_90 : decode Y_T_laws.2.1 90 = .ok (.aload_n 0, 1) := by decide +kernel
theorem d_T_laws_91 : decode Y_T_laws.2.1 91 = .ok (.getfield 20, 3) := by decide +kernel
theorem d_T_laws_94 : decode Y_T_laws.2.1 94 = .ok (.invokevirtual 104, 3) := by decide +kernel
theorem d_T_laws_97 : decode Y_T_laws.2.1 97 = .ok (.aload_n 0, 1) := by decide +kernel
theorem d_T_laws_98 : decode Y_T_laws.2.1 98 = .ok (.getfield 78, 3) := by decide +kernel
theorem d_T_laws_101 : decode Y_T_laws.2.1 101 = .ok (.invokevirtual 108, 3) := by decide +kernel
theorem d_T_laws_104 : decode Y_T_laws.2.1 104 = .ok (.aload_n 0, 1) := by decide +kernel
theorem d_T_laws_105 : decode Y_T_laws.2.1 105 = .ok (.aload_n 0, 1) := by decide +kernel
theorem d_T_laws_106 : decode Y_T_laws.2.1 106 = .ok (.getfield 20, 3) := by decide +kernel
theorem d_T_laws_109 : decode Y_T_laws.2.1 109 = .ok (.getfield 111, 3) := by decide +kernel
theorem d_T_laws_112 : decode Y_T_laws.2.1 112 = .ok (.invokevirtual 114, 3) := by decide +kernel
theorem d_T_laws_115 : decode Y_T_laws.2.1 115 = .ok (.ireturn, 1) := by decide +kernel
def f_T_laws (h : PH) (a0 : Option Nat) (a1 : Int32) : Option (Int32 × PH) := if a1 < 0 then ((cl h 10 a0 (f_T_refuse h a0 (2 : Int32))).bind fun v1 => some (v1.1, v1.2)) else ((gI h 10 a0 1).bind fun v2 => if a1 ≤ v2 then ((sF h 10 a0 1 (.inl (0 : Int32))).bind fun h3 => (gR h3 10 a0 4).bind fun v4 => (gR h3 10 a0 3).bind fun v5 => (cl h3 5 v4 (f_Reader_read h3 v4 v5 a1)).bind fun v6 => (sF v6.2 10 a0 13 (.inl v6.1)).bind fun h7 => (gI h7 10 a0 13).bind fun v8 => if v8 = 0 then ((gR h7 10 a0 3).bind fun v9 => (gR h7 10 a0 2).bind fun v10 => (sF h7 10 a0 3 (.inr (.inr v10))).bind fun h11 => (sF h11 10 a0 2 (.inr (.inr v9))).bind fun h12 => (sZ h12 10 a0 5 (1 : Int32)).bind fun h13 => (gR h13 10 a0 6).bind fun v14 => (gR h13 10 a0 2).bind fun v15 => (cl h13 2 v14 (f_Now_begin h13 v14 v15)).bind fun h16 => (gR h16 10 a0 11).bind fun v17 => (cl h16 3 v17 (f_Past_forget h16 v17)).bind fun h18 => (gR h18 10 a0 2).bind fun v19 => (gI h18 1 v19 3).bind fun v20 => (cl h18 10 a0 (f_T_fine h18 a0 v20)).bind fun v21 => some (v21.1, v21.2)) else ((gR h7 10 a0 4).bind fun v22 => (gI h7 5 v22 8).bind fun v23 => (sF h7 10 a0 14 (.inl v23)).bind fun h24 => (cl h24 10 a0 (f_T_refuse h24 a0 (4 : Int32))).bind fun v25 => some (v25.1, v25.2))) else ((cl h 10 a0 (f_T_refuse h a0 (2 : Int32))).bind fun v26 => some (v26.1, v26.2)))
set_option maxRecDepth 20000 in
theorem PM_T_laws {l : Launch} {G : Cx} {h : PH} {a0 : Option Nat} {a1 : Int32} {z : (Int32 × PH)} (hz : f_T_laws h a0 a1 = some z) : PM l G 13 0 0 Y_T_laws [.inr (.inr a0), .inl a1] h (some (.inl z.1), z.2) := by
  refine PM.of (Y := Y_T_laws) (cv := (fun z : (Int32 × PH) => (((some (.inl z.1), z.2) : Option PV × PH)))) (by decide) (L0 := [some (.inr (.inr a0)), some (.inl a1), none]) 1 rfl (Nat.le_of_ble_eq_true rfl) ?_ hz
  unfold f_T_laws
  refine PJ.iload_n (pc := 0) d_T_laws_0 rfl ?_
  refine PJ.if_lt (pc := 1) (tgt := 12) d_T_laws_1 (by decide) (fun _ => ?_) (fun _ => ?_)
  · refine PJ.aload_n (pc := 12) d_T_laws_12 rfl ?_
    refine PJ.iconst (pc := 13) (v := 2) d_T_laws_13 (by decide) ?_
    refine PJ.cVI (pc := 14) cs_T_95 (fun z hz => PM_T_refuse hz) (pj_fitb rfl) rfl rfl (Nat.le_of_ble_eq_true rfl) d_T_laws_14 (fun v1 => ?_)
    exact PJ.iret (pc := 17) d_T_laws_17 rfl (Nat.le_of_ble_eq_true rfl) (Nat.le_of_ble_eq_true rfl)
  · refine PJ.iload_n (pc := 4) d_T_laws_4 rfl ?_
    refine PJ.aload_n (pc := 5) d_T_laws_5 rfl ?_
    refine PJ.getI (pc := 6) fs_T_13 d_T_laws_6 (fun v2 => ?_)
    refine PJ.icmp_le (pc := 9) (tgt := 18) d_T_laws_9 (by decide) (fun _ => ?_) (fun _ => ?_)
    · refine PJ.aload_n (pc := 18) d_T_laws_18 rfl ?_
      refine PJ.iconst (pc := 19) (v := 0) d_T_laws_19 (by decide) ?_
      refine PJ.putI (pc := 20) ps_T_13 d_T_laws_20 (fun h3 => ?_)
      refine PJ.aload_n (pc := 23) d_T_laws_23 rfl ?_
      refine PJ.aload_n (pc := 24) d_T_laws_24 rfl ?_
      refine PJ.getR (pc := 25) fs_T_32 d_T_laws_25 (fun v4 => ?_)
      refine PJ.aload_n (pc := 28) d_T_laws_28 rfl ?_
      refine PJ.getR (pc := 29) fs_T_24 d_T_laws_29 (fun v5 => ?_)
      refine PJ.iload_n (pc := 32) d_T_laws_32 rfl ?_
      refine PJ.cVI (pc := 33) cs_T_99 (fun z hz => PM_Reader_read hz) (pj_fitb rfl) rfl rfl (Nat.le_of_ble_eq_true rfl) d_T_laws_33 (fun v6 => ?_)
      refine PJ.putI (pc := 36) ps_T_85 d_T_laws_36 (fun h7 => ?_)
      refine PJ.aload_n (pc := 39) d_T_laws_39 rfl ?_
      refine PJ.getI (pc := 40) fs_T_85 d_T_laws_40 (fun v8 => ?_)
      refine PJ.if_eq (pc := 43) (tgt := 63) d_T_laws_43 (by decide) (fun _ => ?_) (fun _ => ?_)
      · refine PJ.aload_n (pc := 63) d_T_laws_63 rfl ?_
        refine PJ.getR (pc := 64) fs_T_24 d_T_laws_64 (fun v9 => ?_)
        refine PJ.astore_n (pc := 67) (L1 := [some (.inr (.inr a0)), some (.inl a1), some (.inr (.inr v9))]) d_T_laws_67 (Nat.le_of_ble_eq_true rfl) rfl rfl ?_
        refine PJ.aload_n (pc := 68) d_T_laws_68 rfl ?_
        refine PJ.aload_n (pc := 69) d_T_laws_69 rfl ?_
        refine PJ.getR (pc := 70) fs_T_20 d_T_laws_70 (fun v10 => ?_)
        refine PJ.putR (pc := 73) ps_T_24 rfl d_T_laws_73 (fun h11 => ?_)
        refine PJ.aload_n (pc := 76) d_T_laws_76 rfl ?_
        refine PJ.aload_n (pc := 77) d_T_laws_77 rfl ?_
        refine PJ.putR (pc := 78) ps_T_20 rfl d_T_laws_78 (fun h12 => ?_)
        refine PJ.aload_n (pc := 81) d_T_laws_81 rfl ?_
        refine PJ.iconst (pc := 82) (v := 1) d_T_laws_82 (by decide) ?_
        refine PJ.putZ (pc := 83) ps_T_36 d_T_laws_83 (fun h13 => ?_)
        refine PJ.aload_n (pc := 86) d_T_laws_86 rfl ?_
        refine PJ.getR (pc := 87) fs_T_43 d_T_laws_87 (fun v14 => ?_)
        refine PJ.aload_n (pc := 90) d_T_laws_90 rfl ?_
        refine PJ.getR (pc := 91) fs_T_20 d_T_laws_91 (fun v15 => ?_)
        refine PJ.cVV (pc := 94) cs_T_104 (fun z hz => PM_Now_begin hz) (pj_fitb rfl) rfl rfl (Nat.le_of_ble_eq_true rfl) d_T_laws_94 (fun h16 => ?_)
        refine PJ.aload_n (pc := 97) d_T_laws_97 rfl ?_
        refine PJ.getR (pc := 98) fs_T_78 d_T_laws_98 (fun v17 => ?_)
        refine PJ.cVV (pc := 101) cs_T_108 (fun z hz => PM_Past_forget hz) (pj_fitb rfl) rfl rfl (Nat.le_of_ble_eq_true rfl) d_T_laws_101 (fun h18 => ?_)
        refine PJ.aload_n (pc := 104) d_T_laws_104 rfl ?_
        refine PJ.aload_n (pc := 105) d_T_laws_105 rfl ?_
        refine PJ.getR (pc := 106) fs_T_20 d_T_laws_106 (fun v19 => ?_)
        refine PJ.getI (pc := 109) fs_T_111 d_T_laws_109 (fun v20 => ?_)
        refine PJ.cVI (pc := 112) cs_T_114 (fun z hz => PM_T_fine hz) (pj_fitb rfl) rfl rfl (Nat.le_of_ble_eq_true rfl) d_T_laws_112 (fun v21 => ?_)
        exact PJ.iret (pc := 115) d_T_laws_115 rfl (Nat.le_of_ble_eq_true rfl) (Nat.le_of_ble_eq_true rfl)
      · refine PJ.aload_n (pc := 46) d_T_laws_46 rfl ?_
        refine PJ.aload_n (pc := 47) d_T_laws_47 rfl ?_
        refine PJ.getR (pc := 48) fs_T_32 d_T_laws_48 (fun v22 => ?_)
        refine PJ.getI (pc := 51) fs_T_103 d_T_laws_51 (fun v23 => ?_)
        refine PJ.putI (pc := 54) ps_T_88 d_T_laws_54 (fun h24 => ?_)
        refine PJ.aload_n (pc := 57) d_T_laws_57 rfl ?_
        refine PJ.iconst (pc := 58) (v := 4) d_T_laws_58 (by decide) ?_
        refine PJ.cVI (pc := 59) cs_T_95 (fun z hz => PM_T_refuse hz) (pj_fitb rfl) rfl rfl (Nat.le_of_ble_eq_true rfl) d_T_laws_59 (fun v25 => ?_)
        exact PJ.iret (pc := 62) d_T_laws_62 rfl (Nat.le_of_ble_eq_true rfl) (Nat.le_of_ble_eq_true rfl)
    · refine PJ.aload_n (pc := 12) d_T_laws_12 rfl ?_
      refine PJ.iconst (pc := 13) (v := 2) d_T_laws_13 (by decide) ?_
      refine PJ.cVI (pc := 14) cs_T_95 (fun z hz => PM_T_refuse hz) (pj_fitb rfl) rfl rfl (Nat.le_of_ble_eq_true rfl) d_T_laws_14 (fun v26 => ?_)
      exact PJ.iret (pc := 17) d_T_laws_17 rfl (Nat.le_of_ble_eq_true rfl) (Nat.le_of_ble_eq_true rfl)
theorem d_T_fault_0 : decode Y_T_fault.2.1 0 = .ok (.aload_n 0, 1) := by decide +kernel
theorem d_T_fault_1 : decode Y_T_fault.2.1 1 = .ok (.getfield 85, 3) := by decide +kernel
theorem d_T_fault_4 : decode Y_T_fault.2.1 4 = .ok (.ireturn, 1) := by decide +kernel
def f_T_fault (h : PH) (a0 : Option Nat) : Option Int32 := (gI h 10 a0 13).bind fun v1 => some v1
set_option maxRecDepth 20000 in
theorem PM_T_fault {l : Launch} {G : Cx} {h : PH} {a0 : Option Nat} {z : Int32} (hz : f_T_fault h a0 = some z) : PM l G 1 0 0 Y_T_fault [.inr (.inr a0)] h (some (.inl z), h) := by
  refine PM.of (Y := Y_T_fault) (cv := (fun z : Int32 => (((some (.inl z), h) : Option PV × PH)))) (by decide) (L0 := [some (.inr (.inr a0))]) 0 rfl (Nat.le_of_ble_eq_true rfl) ?_ hz
  unfold f_T_fault
  refine PJ.aload_n (pc := 0) d_T_fault_0 rfl ?_
  refine PJ.getI (pc := 1) fs_T_85 d_T_fault_1 (fun v1 => ?_)
  exact PJ.iretp (pc := 4) d_T_fault_4 rfl (Nat.le_of_ble_eq_true rfl) (Nat.le_of_ble_eq_true rfl)
theorem d_T_where_0 : decode Y_T_where.2.1 0 = .ok (.aload_n 0, 1) := by decide +kernel
theorem d_T_where_1 : decode Y_T_where.2.1 1 = .ok (.getfield 82, 3) := by decide +kernel
theorem d_T_where_4 : decode Y_T_where.2.1 4 = .ok (.iconst 4, 1) := by decide +kernel
theorem d_T_where_5 : decode Y_T_where.2.1 5 = .ok (.if_icmp .ne 10, 3) := by decide +kernel
theorem d_T_where_8 : decode Y_T_where.2.1 8 = .ok (.aload_n 0, 1) := by decide +kernel
theorem d_T_where_9 : decode Y_T_where.2.1 9 = .ok (.getfield 88, 3) := by decide +kernel
theorem d_T_where_12 : decode Y_T_where.2.1 12 = .ok (.goto 4, 3) := by decide +kernel
theorem d_T_where_15 : decode Y_T_where.2.1 15 = .ok (.iconst (-1), 1) := by decide +kernel
theorem d_T_where_16 : decode Y_T_where.2.1 16 = .ok (.ireturn, 1) := by decide +kernel
def f_T_where (h : PH) (a0 : Option Nat) : Option Int32 := (gI h 10 a0 12).bind fun v1 => if ¬ v1 = (4 : Int32) then (some (-1 : Int32)) else ((gI h 10 a0 14).bind fun v2 => some v2)
set_option maxRecDepth 20000 in
theorem PM_T_where {l : Launch} {G : Cx} {h : PH} {a0 : Option Nat} {z : Int32} (hz : f_T_where h a0 = some z) : PM l G 1 0 0 Y_T_where [.inr (.inr a0)] h (some (.inl z), h) := by
  refine PM.of (Y := Y_T_where) (cv := (fun z : Int32 => (((some (.inl z), h) : Option PV × PH)))) (by decide) (L0 := [some (.inr (.inr a0))]) 0 rfl (Nat.le_of_ble_eq_true rfl) ?_ hz
  unfold f_T_where
  refine PJ.aload_n (pc := 0) d_T_where_0 rfl ?_
  refine PJ.getI (pc := 1) fs_T_82 d_T_where_1 (fun v1 => ?_)
  refine PJ.iconst (pc := 4) (v := 4) d_T_where_4 (by decide) ?_
  refine PJ.icmp_ne (pc := 5) (tgt := 15) d_T_where_5 (by decide) (fun _ => ?_) (fun _ => ?_)
  · refine PJ.iconst (pc := 15) (v := -1) d_T_where_15 (by decide) ?_
    exact PJ.iretp (pc := 16) d_T_where_16 rfl (Nat.le_of_ble_eq_true rfl) (Nat.le_of_ble_eq_true rfl)
  · refine PJ.aload_n (pc := 8) d_T_where_8 rfl ?_
    refine PJ.getI (pc := 9) fs_T_88 d_T_where_9 (fun v2 => ?_)
    refine PJ.goto (pc := 12) (tgt := 16) d_T_where_12 (by decide) ?_
    exact PJ.iretp (pc := 16) d_T_where_16 rfl (Nat.le_of_ble_eq_true rfl) (Nat.le_of_ble_eq_true rfl)
theorem d_T_isPerson_0 : decode Y_T_isPerson.2.1 0 = .ok (.iload_n 1, 1) := by decide +kernel
theorem d_T_isPerson_1 : decode Y_T_isPerson.2.1 1 = .ok (.ifCond .lt 18, 3) := by decide +kernel
theorem d_T_isPerson_4 : decode Y_T_isPerson.2.1 4 = .ok (.iload_n 1, 1) := by decide +kernel
theorem d_T_isPerson_5 : decode Y_T_isPerson.2.1 5 = .ok (.aload_n 0, 1) := by decide +kernel
theorem d_T_isPerson_6 : decode Y_T_isPerson.2.1 6 = .ok (.getfield 20, 3) := by decide +kernel
theorem d_T_isPerson_9 : decode Y_T_isPerson.2.1 9 = .ok (.getfield 111, 3) := by decide +kernel
theorem d_T_isPerson_12 : decode Y_T_isPerson.2.1 12 = .ok (.if_icmp .ge 7, 3) := by decide +kernel
theorem d_T_isPerson_15 : decode Y_T_isPerson.2.1 15 = .ok (.iconst 1, 1) := by decide +kernel
theorem d_T_isPerson_16 : decode Y_T_isPerson.2.1 16 = .ok (.goto 4, 3) := by decide +kernel
theorem d_T_isPerson_19 : decode Y_T_isPerson.2.1 19 = .ok (.iconst 0, 1) := by decide +kernel
theorem d_T_isPerson_20 : decode Y_T_isPerson.2.1 20 = .ok (.ireturn, 1) := by decide +kernel
def f_T_isPerson (h : PH) (a0 : Option Nat) (a1 : Int32) : Option Int32 := if a1 < 0 then (some (0 : Int32)) else ((gR h 10 a0 2).bind fun v1 => (gI h 1 v1 3).bind fun v2 => if v2 ≤ a1 then (some (0 : Int32)) else (some (1 : Int32)))
set_option maxRecDepth 20000 in
theorem PM_T_isPerson {l : Launch} {G : Cx} {h : PH} {a0 : Option Nat} {a1 : Int32} {z : Int32} (hz : f_T_isPerson h a0 a1 = some z) : PM l G 1 0 0 Y_T_isPerson [.inr (.inr a0), .inl a1] h (some (.inl z), h) := by
  refine PM.of (Y := Y_T_isPerson) (cv := (fun z : Int32 => (((some (.inl z), h) : Option PV × PH)))) (by decide) (L0 := [some (.inr (.inr a0)), some (.inl a1)]) 0 rfl (Nat.le_of_ble_eq_true rfl) ?_ hz
  unfold f_T_isPerson
  refine PJ.iload_n (pc := 0) d_T_isPerson_0 rfl ?_
  refine PJ.if_lt (pc := 1) (tgt := 19) d_T_isPerson_1 (by decide) (fun _ => ?_) (fun _ => ?_)
  · refine PJ.iconst (pc := 19) (v := 0) d_T_isPerson_19 (by decide) ?_
    exact PJ.zretp (pc := 20) d_T_isPerson_20 rfl rfl (Nat.le_of_ble_eq_true rfl) (Nat.le_of_ble_eq_true rfl)
  · refine PJ.iload_n (pc := 4) d_T_isPerson_4 rfl ?_
    refine PJ.aload_n (pc := 5) d_T_isPerson_5 rfl ?_
    refine PJ.getR (pc := 6) fs_T_20 d_T_isPerson_6 (fun v1 => ?_)
    refine PJ.getI (pc := 9) fs_T_111 d_T_isPerson_9 (fun v2 => ?_)
    refine PJ.icmp_ge (pc := 12) (tgt := 19) d_T_isPerson_12 (by decide) (fun _ => ?_) (fun _ => ?_)
    · refine PJ.iconst (pc := 19) (v := 0) d_T_isPerson_19 (by decide) ?_
      exact PJ.zretp (pc := 20) d_T_isPerson_20 rfl rfl (Nat.le_of_ble_eq_true rfl) (Nat.le_of_ble_eq_true rfl)
    · refine PJ.iconst (pc := 15) (v := 1) d_T_isPerson_15 (by decide) ?_
      refine PJ.goto (pc := 16) (tgt := 20) d_T_isPerson_16 (by decide) ?_
      exact PJ.zretp (pc := 20) d_T_isPerson_20 rfl rfl (Nat.le_of_ble_eq_true rfl) (Nat.le_of_ble_eq_true rfl)
