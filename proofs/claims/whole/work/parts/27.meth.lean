-- sites and methods: meth
abbrev Y_Rows_possible : MI := (⟨"WaverTax$Rows", "possible", "(I)I"⟩, prog_10_method_5_code, 4, (some .int))
abbrev Y_Rows_certain : MI := (⟨"WaverTax$Rows", "certain", "(I)I"⟩, prog_10_method_6_code, 3, (some .int))
abbrev Y_Rows_weigh : MI := (⟨"WaverTax$Rows", "weigh", "()V"⟩, prog_10_method_8_code, 3, (none : Option FieldType))
abbrev Y_Shops_caughtFrom : MI := (⟨"WaverTax$Shops", "caughtFrom", "(I)I"⟩, prog_11_method_3_code, 5, (some .int))
abbrev Y_Shops_bestPlaces : MI := (⟨"WaverTax$Shops", "bestPlaces", "(I)I"⟩, prog_11_method_4_code, 6, (some .int))
abbrev Y_T_caught : MI := (⟨"WaverTax", "caught", "(I)I"⟩, prog_1_method_45_code, 3, (some .int))
abbrev Y_T_places : MI := (⟨"WaverTax", "places", "(I)I"⟩, prog_1_method_46_code, 3, (some .int))
abbrev Y_Shops_fewest : MI := (⟨"WaverTax$Shops", "fewest", "()I"⟩, prog_11_method_5_code, 1, (some .int))
abbrev Y_T_enough : MI := (⟨"WaverTax", "enough", "()I"⟩, prog_1_method_47_code, 1, (some .int))
abbrev Y_T_catches : MI := (⟨"WaverTax", "catches", "(I)I"⟩, prog_1_method_48_code, 2, (some .int))
abbrev Y_T_areTwo : MI := (⟨"WaverTax", "areTwo", "(II)Z"⟩, prog_1_method_52_code, 3, (some .boolean))
abbrev Y_Desk_besides : MI := (⟨"WaverTax$Desk", "besides", "(IZIZ)I"⟩, prog_2_method_11_code, 7, (some .int))
abbrev Y_T_two : MI := (⟨"WaverTax", "two", "(IZIZZ)I"⟩, prog_1_method_49_code, 6, (some .int))
abbrev Y_T_isRest : MI := (⟨"WaverTax", "isRest", "(III)Z"⟩, prog_1_method_53_code, 6, (some .boolean))
abbrev Y_T_rests : MI := (⟨"WaverTax", "rests", "(II)I"⟩, prog_1_method_50_code, 5, (some .int))
theorem cm_Shops_caughtFrom : (Cond.code Y_Shops_caughtFrom.1 Y_Shops_caughtFrom.2.1 Y_Shops_caughtFrom.2.2.1 Y_Shops_caughtFrom.2.2.2 ∈ pj_ws) ∧ (Cond.initialized Y_Shops_caughtFrom.1.cls ∈ pj_ws) ∧ (Y_Shops_caughtFrom.1.cls ≠ "java/lang/invoke/MethodHandle" ∧ Y_Shops_caughtFrom.1.cls ≠ "java/lang/invoke/VarHandle" ∧ (parseMethodDescriptor Y_Shops_caughtFrom.1.desc).map (fun d => d.parameters.length) = some 1) ∧ (Cond.instanceMethod Y_Shops_caughtFrom.1 ∈ pj_ws) ∧ (Cond.selects Y_Shops_caughtFrom.1.cls Y_Shops_caughtFrom.1 Y_Shops_caughtFrom.1 ∈ pj_ws) := ⟨pj_mem 1180 (by decide +kernel) rfl, pj_mem 134 (by decide +kernel) rfl, ⟨by decide +kernel, by decide +kernel, by decide +kernel⟩, pj_mem 1178 (by decide +kernel) rfl, pj_mem 1179 (by decide +kernel) rfl⟩
theorem cm_Shops_bestPlaces : (Cond.code Y_Shops_bestPlaces.1 Y_Shops_bestPlaces.2.1 Y_Shops_bestPlaces.2.2.1 Y_Shops_bestPlaces.2.2.2 ∈ pj_ws) ∧ (Cond.initialized Y_Shops_bestPlaces.1.cls ∈ pj_ws) ∧ (Y_Shops_bestPlaces.1.cls ≠ "java/lang/invoke/MethodHandle" ∧ Y_Shops_bestPlaces.1.cls ≠ "java/lang/invoke/VarHandle" ∧ (parseMethodDescriptor Y_Shops_bestPlaces.1.desc).map (fun d => d.parameters.length) = some 1) ∧ (Cond.instanceMethod Y_Shops_bestPlaces.1 ∈ pj_ws) ∧ (Cond.selects Y_Shops_bestPlaces.1.cls Y_Shops_bestPlaces.1 Y_Shops_bestPlaces.1 ∈ pj_ws) := ⟨pj_mem 1175 (by decide +kernel) rfl, pj_mem 134 (by decide +kernel) rfl, ⟨by decide +kernel, by decide +kernel, by decide +kernel⟩, pj_mem 1173 (by decide +kernel) rfl, pj_mem 1174 (by decide +kernel) rfl⟩
theorem cm_Shops_fewest : (Cond.code Y_Shops_fewest.1 Y_Shops_fewest.2.1 Y_Shops_fewest.2.2.1 Y_Shops_fewest.2.2.2 ∈ pj_ws) ∧ (Cond.initialized Y_Shops_fewest.1.cls ∈ pj_ws) ∧ (Y_Shops_fewest.1.cls ≠ "java/lang/invoke/MethodHandle" ∧ Y_Shops_fewest.1.cls ≠ "java/lang/invoke/VarHandle" ∧ (parseMethodDescriptor Y_Shops_fewest.1.desc).map (fun d => d.parameters.length) = some 0) ∧ (Cond.instanceMethod Y_Shops_fewest.1 ∈ pj_ws) ∧ (Cond.selects Y_Shops_fewest.1.cls Y_Shops_fewest.1 Y_Shops_fewest.1 ∈ pj_ws) := ⟨pj_mem 1193 (by decide +kernel) rfl, pj_mem 134 (by decide +kernel) rfl, ⟨by decide +kernel, by decide +kernel, by decide +kernel⟩, pj_mem 1191 (by decide +kernel) rfl, pj_mem 1192 (by decide +kernel) rfl⟩
theorem cm_T_areTwo : (Cond.code Y_T_areTwo.1 Y_T_areTwo.2.1 Y_T_areTwo.2.2.1 Y_T_areTwo.2.2.2 ∈ pj_ws) ∧ (Cond.initialized Y_T_areTwo.1.cls ∈ pj_ws) ∧ (Y_T_areTwo.1.cls ≠ "java/lang/invoke/MethodHandle" ∧ Y_T_areTwo.1.cls ≠ "java/lang/invoke/VarHandle" ∧ (parseMethodDescriptor Y_T_areTwo.1.desc).map (fun d => d.parameters.length) = some 2) ∧ (Cond.instanceMethod Y_T_areTwo.1 ∈ pj_ws) ∧ (Cond.selects Y_T_areTwo.1.cls Y_T_areTwo.1 Y_T_areTwo.1 ∈ pj_ws) := ⟨pj_mem 1206 (by decide +kernel) rfl, pj_mem 130 (by decide +kernel) rfl, ⟨by decide +kernel, by decide +kernel, by decide +kernel⟩, pj_mem 1205 (by decide +kernel) rfl, pj_mem 46 (by decide +kernel) rfl⟩
theorem cm_Desk_besides : (Cond.code Y_Desk_besides.1 Y_Desk_besides.2.1 Y_Desk_besides.2.2.1 Y_Desk_besides.2.2.2 ∈ pj_ws) ∧ (Cond.initialized Y_Desk_besides.1.cls ∈ pj_ws) ∧ (Y_Desk_besides.1.cls ≠ "java/lang/invoke/MethodHandle" ∧ Y_Desk_besides.1.cls ≠ "java/lang/invoke/VarHandle" ∧ (parseMethodDescriptor Y_Desk_besides.1.desc).map (fun d => d.parameters.length) = some 4) ∧ (Cond.instanceMethod Y_Desk_besides.1 ∈ pj_ws) ∧ (Cond.selects Y_Desk_besides.1.cls Y_Desk_besides.1 Y_Desk_besides.1 ∈ pj_ws) := ⟨pj_mem 1210 (by decide +kernel) rfl, pj_mem 137 (by decide +kernel) rfl, ⟨by decide +kernel, by decide +kernel, by decide +kernel⟩, pj_mem 1208 (by decide +kernel) rfl, pj_mem 1209 (by decide +kernel) rfl⟩
theorem cm_T_isRest : (Cond.code Y_T_isRest.1 Y_T_isRest.2.1 Y_T_isRest.2.2.1 Y_T_isRest.2.2.2 ∈ pj_ws) ∧ (Cond.initialized Y_T_isRest.1.cls ∈ pj_ws) ∧ (Y_T_isRest.1.cls ≠ "java/lang/invoke/MethodHandle" ∧ Y_T_isRest.1.cls ≠ "java/lang/invoke/VarHandle" ∧ (parseMethodDescriptor Y_T_isRest.1.desc).map (fun d => d.parameters.length) = some 3) ∧ (Cond.instanceMethod Y_T_isRest.1 ∈ pj_ws) ∧ (Cond.selects Y_T_isRest.1.cls Y_T_isRest.1 Y_T_isRest.1 ∈ pj_ws) := ⟨pj_mem 1218 (by decide +kernel) rfl, pj_mem 130 (by decide +kernel) rfl, ⟨by decide +kernel, by decide +kernel, by decide +kernel⟩, pj_mem 1217 (by decide +kernel) rfl, pj_mem 47 (by decide +kernel) rfl⟩
theorem cs_Shops_31 : pj_cS "WaverTax$Shops" 31 Y_Integer_bitCount 1 := ⟨⟨cm_Integer_bitCount.1, cm_Integer_bitCount.2.1, cm_Integer_bitCount.2.2.1, Or.inl (pj_mem 1176 (by decide +kernel) rfl)⟩, cm_Integer_bitCount.2.2.2⟩
theorem cs_Shops_37 : pj_cV "WaverTax$Shops" 37 Y_Shops_caughtFrom 1 9 := ⟨⟨cm_Shops_caughtFrom.1, cm_Shops_caughtFrom.2.1, cm_Shops_caughtFrom.2.2.1, Or.inl (pj_mem 1177 (by decide +kernel) rfl)⟩, by decide, cm_Shops_caughtFrom.2.2.2.1, cm_Shops_caughtFrom.2.2.2.2, ⟨_, rfl, rfl⟩⟩
theorem cs_Shops_40 : pj_cV "WaverTax$Shops" 40 Y_Shops_bestPlaces 1 9 := ⟨⟨cm_Shops_bestPlaces.1, cm_Shops_bestPlaces.2.1, cm_Shops_bestPlaces.2.2.1, Or.inl (pj_mem 1194 (by decide +kernel) rfl)⟩, by decide, cm_Shops_bestPlaces.2.2.2.1, cm_Shops_bestPlaces.2.2.2.2, ⟨_, rfl, rfl⟩⟩
theorem cs_T_304 : pj_cV "WaverTax" 304 Y_Shops_bestPlaces 1 9 := ⟨⟨cm_Shops_bestPlaces.1, cm_Shops_bestPlaces.2.1, cm_Shops_bestPlaces.2.2.1, Or.inl (pj_mem 1172 (by decide +kernel) rfl)⟩, by decide, cm_Shops_bestPlaces.2.2.2.1, cm_Shops_bestPlaces.2.2.2.2, ⟨_, rfl, rfl⟩⟩
theorem cs_T_309 : pj_cV "WaverTax" 309 Y_Shops_caughtFrom 1 9 := ⟨⟨cm_Shops_caughtFrom.1, cm_Shops_caughtFrom.2.1, cm_Shops_caughtFrom.2.2.1, Or.inl (pj_mem 1181 (by decide +kernel) rfl)⟩, by decide, cm_Shops_caughtFrom.2.2.2.1, cm_Shops_caughtFrom.2.2.2.2, ⟨_, rfl, rfl⟩⟩
theorem cs_T_312 : pj_cV "WaverTax" 312 Y_Shops_fewest 0 9 := ⟨⟨cm_Shops_fewest.1, cm_Shops_fewest.2.1, cm_Shops_fewest.2.2.1, Or.inl (pj_mem 1190 (by decide +kernel) rfl)⟩, by decide, cm_Shops_fewest.2.2.2.1, cm_Shops_fewest.2.2.2.2, ⟨_, rfl, rfl⟩⟩
theorem cs_T_316 : pj_cV "WaverTax" 316 Y_T_areTwo 2 10 := ⟨⟨cm_T_areTwo.1, cm_T_areTwo.2.1, cm_T_areTwo.2.2.1, Or.inl (pj_mem 1203 (by decide +kernel) rfl)⟩, by decide, cm_T_areTwo.2.2.2.1, cm_T_areTwo.2.2.2.2, ⟨_, rfl, rfl⟩⟩
theorem cs_T_320 : pj_cV "WaverTax" 320 Y_Desk_besides 4 0 := ⟨⟨cm_Desk_besides.1, cm_Desk_besides.2.1, cm_Desk_besides.2.2.1, Or.inl (pj_mem 1207 (by decide +kernel) rfl)⟩, by decide, cm_Desk_besides.2.2.2.1, cm_Desk_besides.2.2.2.2, ⟨_, rfl, rfl⟩⟩
theorem cs_T_324 : pj_cV "WaverTax" 324 Y_T_isRest 3 10 := ⟨⟨cm_T_isRest.1, cm_T_isRest.2.1, cm_T_isRest.2.2.1, Or.inl (pj_mem 1215 (by decide +kernel) rfl)⟩, by decide, cm_T_isRest.2.2.2.1, cm_T_isRest.2.2.2.2, ⟨_, rfl, rfl⟩⟩
theorem fs_Rows_22 : pj_fs "WaverTax$Rows" 8 6 22 (.array (.int)) := ⟨_, _, _, _, cd_8, by decide, rfl, Or.inl (pj_mem 503 (by decide +kernel) rfl)⟩
theorem fs_Rows_92 : pj_fs "WaverTax$Rows" 1 2 92 (.int) := ⟨_, _, _, _, cd_1, by decide, rfl, Or.inl (pj_mem 284 (by decide +kernel) rfl)⟩
theorem fs_Shops_18 : pj_fs "WaverTax$Shops" 9 2 18 (.array (.int)) := ⟨_, _, _, _, cd_9, by decide, rfl, Or.inl (pj_mem 261 (by decide +kernel) rfl)⟩
theorem fs_Shops_9 : pj_fs "WaverTax$Shops" 9 0 9 (.int) := ⟨_, _, _, _, cd_9, by decide, rfl, Or.inl (pj_mem 255 (by decide +kernel) rfl)⟩
theorem fs_T_300 : pj_fs "WaverTax" 1 12 300 (.object "WaverTax$Shops") := ⟨_, _, _, _, cd_1, by decide, rfl, Or.inl (pj_mem 323 (by decide +kernel) rfl)⟩
theorem fs_T_315 : pj_fs "WaverTax" 9 0 315 (.int) := ⟨_, _, _, _, cd_9, by decide, rfl, Or.inl (pj_mem 257 (by decide +kernel) rfl)⟩
theorem wd_1159 : (Jvm.Cond.methodLink "WaverTax$Rows" (127 : Nat) ({ cls := "java/lang/Math", name := "max", desc := "(II)I" } : Jvm.MethodName)) ∈ pj_ws := pj_mem 1159 (by decide +kernel) rfl
theorem d_Rows_possible_0 : decode Y_Rows_possible.2.1 0 = .ok (.iconst 0, 1) := by decide +kernel
theorem d_Rows_possible_1 : decode Y_Rows_possible.2.1 1 = .ok (.istore_n 2, 1) := by decide +kernel
theorem d_Rows_possible_2 : decode Y_Rows_possible.2.1 2 = .ok (.iconst 0, 1) := by decide +kernel
theorem d_Rows_possible_3 : decode Y_Rows_possible.2.1 3 = .ok (.istore_n 3, 1) := by decide +kernel
theorem d_Rows_possible_4 : decode Y_Rows_possible.2.1 4 = .ok (.iload_n 3, 1) := by decide +kernel
theorem d_Rows_possible_5 : decode Y_Rows_possible.2.1 5 = .ok (.aload_n 0, 1) := by decide +kernel
theorem d_Rows_possible_6 : decode Y_Rows_possible.2.1 6 = .ok (.getfield 33, 3) := by decide +kernel
theorem d_Rows_possible_9 : decode Y_Rows_possible.2.1 9 = .ok (.getfield 92, 3) := by decide +kernel
theorem d_Rows_possible_12 : decode Y_Rows_possible.2.1 12 = .ok (.if_icmp .ge 26, 3) := by decide +kernel
theorem d_Rows_possible_15 : decode Y_Rows_possible.2.1 15 = .ok (.aload_n 0, 1) := by decide +kernel
theorem d_Rows_possible_16 : decode Y_Rows_possible.2.1 16 = .ok (.getfield 30, 3) := by decide +kernel
theorem d_Rows_possible_19 : decode Y_Rows_possible.2.1 19 = .ok (.iload_n 1, 1) := by decide +kernel
theorem d_Rows_possible_20 : decode Y_Rows_possible.2.1 20 = .ok (.aaload, 1) := by decide +kernel
theorem d_Rows_possible_21 : decode Y_Rows_possible.2.1 21 = .ok (.iload_n 3, 1) := by decide +kernel
theorem d_Rows_possible_22 : decode Y_Rows_possible.2.1 22 = .ok (.iaload, 1) := by decide +kernel
theorem d_Rows_possible_23 : decode Y_Rows_possible.2.1 23 = .ok (.ifCond .le 9, 3) := by decide +kernel
theorem d_Rows_possible_26 : decode Y_Rows_possible.2.1 26 = .ok (.iload_n 2, 1) := by decide +kernel
theorem d_Rows_possible_27 : decode Y_Rows_possible.2.1 27 = .ok (.iconst 1, 1) := by decide +kernel
theorem d_Rows_possible_28 : decode Y_Rows_possible.2.1 28 = .ok (.iload_n 3, 1) := by decide +kernel
theorem d_Rows_possible_29 : decode Y_Rows_possible.2.1 29 = .ok (.ishl, 1) := by decide +kernel
theorem d_Rows_possible_30 : decode Y_Rows_possible.2.1 30 = .ok (.ior, 1) := by decide +kernel
theorem d_Rows_possible_31 : decode Y_Rows_possible.2.1 31 = .ok (.istore_n 2, 1) := by decide +kernel
theorem d_Rows_possible_32 : decode Y_Rows_possible.2.1 32 = .ok (.iinc 3 1, 3) := by decide +kernel
theorem d_Rows_possible_35 : decode Y_Rows_possible.2.1 35 = .ok (.goto (-31), 3) := by decide +kernel
theorem d_Rows_possible_38 : decode Y_Rows_possible.2.1 38 = .ok (.iload_n 2, 1) := by decide +kernel
theorem d_Rows_possible_39 : decode Y_Rows_possible.2.1 39 = .ok (.ireturn, 1) := by decide +kernel
def f_Rows_possible (h : PH) (a0 : Option Nat) (a1 : Int32) : Option Int32 := (pj_it (X := Int32) (fun s1 : Int32 × Int32 => (gR h 8 a0 0).bind fun v3 => (gI h 1 v3 2).bind fun v4 => if v4 ≤ s1.2 then (some (.inr s1.1)) else ((gR h 8 a0 8).bind fun v5 => (aR h 53 v5 a1).bind fun v6 => (aI h v6 s1.2).bind fun v7 => if v7 ≤ 0 then (some (.inl (s1.1, (s1.2 + (1 : Int32))))) else (some (.inl ((s1.1 ||| ((1 : Int32) <<< (s1.2 &&& 31))), (s1.2 + (1 : Int32))))))) FU ((0 : Int32), (0 : Int32))).bind fun x2 => some x2
set_option maxRecDepth 20000 in
theorem PM_Rows_possible {l : Launch} {G : Cx} {h : PH} {a0 : Option Nat} {a1 : Int32} {z : Int32} (hz : f_Rows_possible h a0 a1 = some z) : PM l G 1 0 0 Y_Rows_possible [.inr (.inr a0), .inl a1] h (some (.inl z), h) := by
  refine PM.of (Y := Y_Rows_possible) (cv := (fun z : Int32 => (((some (.inl z), h) : Option PV × PH)))) (by decide) (L0 := [some (.inr (.inr a0)), some (.inl a1), none, none]) 2 rfl (Nat.le_of_ble_eq_true rfl) ?_ hz
  unfold f_Rows_possible
  refine PJ.iconst (pc := 0) (v := 0) d_Rows_possible_0 (by decide) ?_
  refine PJ.istore_n (pc := 1) (L1 := [some (.inr (.inr a0)), some (.inl a1), some (.inl (0 : Int32)), none]) d_Rows_possible_1 (Nat.le_of_ble_eq_true rfl) rfl rfl ?_
  refine PJ.iconst (pc := 2) (v := 0) d_Rows_possible_2 (by decide) ?_
  refine PJ.istore_n (pc := 3) (L1 := [some (.inr (.inr a0)), some (.inl a1), some (.inl (0 : Int32)), some (.inl (0 : Int32))]) d_Rows_possible_3 (Nat.le_of_ble_eq_true rfl) rfl rfl ?_
  refine PJ.bind (fun x2 : Int32 => ((38 : Nat), ([none, none, some (.inl x2), none] : List (Option PV)), ([] : List PV), (h : PH), (0 : Nat), (0 : Nat))) (PJ.it (E := (fun s1 : Int32 × Int32 => ((4 : Nat), ([some (.inr (.inr a0)), some (.inl a1), some (.inl s1.1), some (.inl s1.2)] : List (Option PV)), ([] : List PV), (h : PH), (0 : Nat), (0 : Nat)))) (F := (fun x2 : Int32 => ((38 : Nat), ([none, none, some (.inl x2), none] : List (Option PV)), ([] : List PV), (h : PH), (0 : Nat), (0 : Nat)))) (fun s1 => ?_) FU ((0 : Int32), (0 : Int32))) (fun x2 => ?_)
  · show PJ l G (pj_rm 1 0 0) Y_Rows_possible 4 [some (.inr (.inr a0)), some (.inl a1), some (.inl s1.1), some (.inl s1.2)] [] h 0 0 _ _
    refine PJ.iload_n (pc := 4) d_Rows_possible_4 rfl ?_
    refine PJ.aload_n (pc := 5) d_Rows_possible_5 rfl ?_
    refine PJ.getR (pc := 6) fs_Rows_33 d_Rows_possible_6 (fun v3 => ?_)
    refine PJ.getI (pc := 9) fs_Rows_92 d_Rows_possible_9 (fun v4 => ?_)
    refine PJ.icmp_ge (pc := 12) (tgt := 38) d_Rows_possible_12 (by decide) (fun _ => ?_) (fun _ => ?_)
    · refine PJ.mk (L1 := [none, none, some (.inl s1.1), none]) [false, false, true, false] rfl ?_
      exact PJ.done rfl
    · refine PJ.aload_n (pc := 15) d_Rows_possible_15 rfl ?_
      refine PJ.getR (pc := 16) fs_Rows_30 d_Rows_possible_16 (fun v5 => ?_)
      refine PJ.iload_n (pc := 19) d_Rows_possible_19 rfl ?_
      refine PJ.aald (pc := 20) 53 (by decide) d_Rows_possible_20 (fun v6 => ?_)
      refine PJ.iload_n (pc := 21) d_Rows_possible_21 rfl ?_
      refine PJ.iald (pc := 22) d_Rows_possible_22 (fun v7 => ?_)
      refine PJ.if_le (pc := 23) (tgt := 32) d_Rows_possible_23 (by decide) (fun _ => ?_) (fun _ => ?_)
      · refine PJ.iinc (pc := 32) (v := 1) (L1 := [some (.inr (.inr a0)), some (.inl a1), some (.inl s1.1), some (.inl (s1.2 + (1 : Int32)))]) d_Rows_possible_32 rfl (by decide) (Nat.le_of_ble_eq_true rfl) rfl rfl ?_
        refine PJ.goto (pc := 35) (tgt := 4) d_Rows_possible_35 (by decide) ?_
        exact PJ.done rfl
      · refine PJ.iload_n (pc := 26) d_Rows_possible_26 rfl ?_
        refine PJ.iconst (pc := 27) (v := 1) d_Rows_possible_27 (by decide) ?_
        refine PJ.iload_n (pc := 28) d_Rows_possible_28 rfl ?_
        refine PJ.ishl (pc := 29) d_Rows_possible_29 ?_
        refine PJ.ior (pc := 30) d_Rows_possible_30 ?_
        refine PJ.istore_n (pc := 31) (L1 := [some (.inr (.inr a0)), some (.inl a1), some (.inl (s1.1 ||| ((1 : Int32) <<< (s1.2 &&& 31)))), some (.inl s1.2)]) d_Rows_possible_31 (Nat.le_of_ble_eq_true rfl) rfl rfl ?_
        refine PJ.iinc (pc := 32) (v := 1) (L1 := [some (.inr (.inr a0)), some (.inl a1), some (.inl (s1.1 ||| ((1 : Int32) <<< (s1.2 &&& 31)))), some (.inl (s1.2 + (1 : Int32)))]) d_Rows_possible_32 rfl (by decide) (Nat.le_of_ble_eq_true rfl) rfl rfl ?_
        refine PJ.goto (pc := 35) (tgt := 4) d_Rows_possible_35 (by decide) ?_
        exact PJ.done rfl
  · show PJ l G (pj_rm 1 0 0) Y_Rows_possible 38 [none, none, some (.inl x2), none] [] h 0 0 _ _
    refine PJ.iload_n (pc := 38) d_Rows_possible_38 rfl ?_
    exact PJ.iretp (pc := 39) d_Rows_possible_39 rfl (Nat.le_of_ble_eq_true rfl) (Nat.le_of_ble_eq_true rfl)
theorem d_Rows_certain_0 : decode Y_Rows_certain.2.1 0 = .ok (.iconst 0, 1) := by decide +kernel
theorem d_Rows_certain_1 : decode Y_Rows_certain.2.1 1 = .ok (.istore_n 2, 1) := by decide +kernel
theorem d_Rows_certain_2 : decode Y_Rows_certain.2.1 2 = .ok (.iload_n 2, 1) := by decide +kernel
theorem d_Rows_certain_3 : decode Y_Rows_certain.2.1 3 = .ok (.aload_n 0, 1) := by decide +kernel
theorem d_Rows_certain_4 : decode Y_Rows_certain.2.1 4 = .ok (.getfield 33, 3) := by decide +kernel
theorem d_Rows_certain_7 : decode Y_Rows_certain.2.1 7 = .ok (.getfield 92, 3) := by decide +kernel
theorem d_Rows_certain_10 : decode Y_Rows_certain.2.1 10 = .ok (.if_icmp .ge 33, 3) := by decide +kernel
theorem d_Rows_certain_13 : decode Y_Rows_certain.2.1 13 = .ok (.aload_n 0, 1) := by decide +kernel
theorem d_Rows_certain_14 : decode Y_Rows_certain.2.1 14 = .ok (.getfield 15, 3) := by decide +kernel
theorem d_Rows_certain_17 : decode Y_Rows_certain.2.1 17 = .ok (.ifCond .le 20, 3) := by decide +kernel
theorem d_Rows_certain_20 : decode Y_Rows_certain.2.1 20 = .ok (.aload_n 0, 1) := by decide +kernel
theorem d_Rows_certain_21 : decode Y_Rows_certain.2.1 21 = .ok (.getfield 30, 3) := by decide +kernel
theorem d_Rows_certain_24 : decode Y_Rows_certain.2.1 24 = .ok (.iload_n 1, 1) := by decide +kernel
theorem d_Rows_certain_25 : decode Y_Rows_certain.2.1 25 = .ok (.aaload, 1) := by decide +kernel
theorem d_Rows_certain_26 : decode Y_Rows_certain.2.1 26 = .ok (.iload_n 2, 1) := by decide +kernel
theorem d_Rows_certain_27 : decode Y_Rows_certain.2.1 27 = .ok (.iaload, 1) := by decide +kernel
theorem d_Rows_certain_28 : decode Y_Rows_certain.2.1 28 = .ok (.aload_n 0, 1) := by decide +kernel
theorem d_Rows_certain_29 : decode Y_Rows_certain.2.1 29 = .ok (.getfield 15, 3) := by decide +kernel
theorem d_Rows_certain_32 : decode Y_Rows_certain.2.1 32 = .ok (.if_icmp .ne 5, 3) := by decide +kernel
theorem d_Rows_certain_35 : decode Y_Rows_certain.2.1 35 = .ok (.iload_n 2, 1) := by decide +kernel
theorem d_Rows_certain_36 : decode Y_Rows_certain.2.1 36 = .ok (.ireturn, 1) := by decide +kernel
theorem d_Rows_certain_37 : decode Y_Rows_certain.2.1 37 = .ok (.iinc 2 1, 3) := by decide +kernel
theorem d_Rows_certain_40 : decode Y_Rows_certain.2.1 40 = .ok (.goto (-38), 3) := by decide +kernel
theorem d_Rows_certain_43 : decode Y_Rows_certain.2.1 43 = .ok (.bipush (-2), 2) := by decide +kernel
theorem d_Rows_certain_45 : decode Y_Rows_certain.2.1 45 = .ok (.ireturn, 1) := by decide +kernel
def f_Rows_certain (h : PH) (a0 : Option Nat) (a1 : Int32) : Option Int32 := (pj_it (X := (Unit) ⊕ (Int32)) (fun s1 : Int32 => (gR h 8 a0 0).bind fun v3 => (gI h 1 v3 2).bind fun v4 => if v4 ≤ s1 then (some (.inr (.inl ()))) else ((gI h 8 a0 4).bind fun v5 => if v5 ≤ 0 then (some (.inl (s1 + (1 : Int32)))) else ((gR h 8 a0 8).bind fun v6 => (aR h 53 v6 a1).bind fun v7 => (aI h v7 s1).bind fun v8 => (gI h 8 a0 4).bind fun v9 => if ¬ v8 = v9 then (some (.inl (s1 + (1 : Int32)))) else (some (.inr (.inr s1)))))) FU (0 : Int32)).bind fun x2 => match x2 with | (.inl yx2_0) => some (-2 : Int32) | (.inr yx2_1) => some yx2_1
set_option maxRecDepth 20000 in
theorem PM_Rows_certain {l : Launch} {G : Cx} {h : PH} {a0 : Option Nat} {a1 : Int32} {z : Int32} (hz : f_Rows_certain h a0 a1 = some z) : PM l G 1 0 0 Y_Rows_certain [.inr (.inr a0), .inl a1] h (some (.inl z), h) := by
  refine PM.of (Y := Y_Rows_certain) (cv := (fun z : Int32 => (((some (.inl z), h) : Option PV × PH)))) (by decide) (L0 := [some (.inr (.inr a0)), some (.inl a1), none]) 1 rfl (Nat.le_of_ble_eq_true rfl) ?_ hz
  unfold f_Rows_certain
  refine PJ.iconst (pc := 0) (v := 0) d_Rows_certain_0 (by decide) ?_
  refine PJ.istore_n (pc := 1) (L1 := [some (.inr (.inr a0)), some (.inl a1), some (.inl (0 : Int32))]) d_Rows_certain_1 (Nat.le_of_ble_eq_true rfl) rfl rfl ?_
  refine PJ.bind (fun x2 : (Unit) ⊕ (Int32) => match x2 with | (.inl y0) => ((43 : Nat), ([none, none, none] : List (Option PV)), ([] : List PV), (h : PH), (0 : Nat), (0 : Nat)) | (.inr y1) => ((35 : Nat), ([none, none, some (.inl y1)] : List (Option PV)), ([] : List PV), (h : PH), (0 : Nat), (0 : Nat))) (PJ.it (E := (fun s1 : Int32 => ((2 : Nat), ([some (.inr (.inr a0)), some (.inl a1), some (.inl s1)] : List (Option PV)), ([] : List PV), (h : PH), (0 : Nat), (0 : Nat)))) (F := (fun x2 : (Unit) ⊕ (Int32) => match x2 with | (.inl y0) => ((43 : Nat), ([none, none, none] : List (Option PV)), ([] : List PV), (h : PH), (0 : Nat), (0 : Nat)) | (.inr y1) => ((35 : Nat), ([none, none, some (.inl y1)] : List (Option PV)), ([] : List PV), (h : PH), (0 : Nat), (0 : Nat)))) (fun s1 => ?_) FU (0 : Int32)) (fun x2 => ?_)
  · show PJ l G (pj_rm 1 0 0) Y_Rows_certain 2 [some (.inr (.inr a0)), some (.inl a1), some (.inl s1)] [] h 0 0 _ _
    refine PJ.iload_n (pc := 2) d_Rows_certain_2 rfl ?_
    refine PJ.aload_n (pc := 3) d_Rows_certain_3 rfl ?_
    refine PJ.getR (pc := 4) fs_Rows_33 d_Rows_certain_4 (fun v3 => ?_)
    refine PJ.getI (pc := 7) fs_Rows_92 d_Rows_certain_7 (fun v4 => ?_)
    refine PJ.icmp_ge (pc := 10) (tgt := 43) d_Rows_certain_10 (by decide) (fun _ => ?_) (fun _ => ?_)
    · refine PJ.mk (L1 := [none, none, none]) [false, false, false] rfl ?_
      exact PJ.done rfl
    · refine PJ.aload_n (pc := 13) d_Rows_certain_13 rfl ?_
      refine PJ.getI (pc := 14) fs_Rows_15 d_Rows_certain_14 (fun v5 => ?_)
      refine PJ.if_le (pc := 17) (tgt := 37) d_Rows_certain_17 (by decide) (fun _ => ?_) (fun _ => ?_)
      · refine PJ.iinc (pc := 37) (v := 1) (L1 := [some (.inr (.inr a0)), some (.inl a1), some (.inl (s1 + (1 : Int32)))]) d_Rows_certain_37 rfl (by decide) (Nat.le_of_ble_eq_true rfl) rfl rfl ?_
        refine PJ.goto (pc := 40) (tgt := 2) d_Rows_certain_40 (by decide) ?_
        exact PJ.done rfl
      · refine PJ.aload_n (pc := 20) d_Rows_certain_20 rfl ?_
        refine PJ.getR (pc := 21) fs_Rows_30 d_Rows_certain_21 (fun v6 => ?_)
        refine PJ.iload_n (pc := 24) d_Rows_certain_24 rfl ?_
        refine PJ.aald (pc := 25) 53 (by decide) d_Rows_certain_25 (fun v7 => ?_)
        refine PJ.iload_n (pc := 26) d_Rows_certain_26 rfl ?_
        refine PJ.iald (pc := 27) d_Rows_certain_27 (fun v8 => ?_)
        refine PJ.aload_n (pc := 28) d_Rows_certain_28 rfl ?_
        refine PJ.getI (pc := 29) fs_Rows_15 d_Rows_certain_29 (fun v9 => ?_)
        refine PJ.icmp_ne (pc := 32) (tgt := 37) d_Rows_certain_32 (by decide) (fun _ => ?_) (fun _ => ?_)
        · refine PJ.iinc (pc := 37) (v := 1) (L1 := [some (.inr (.inr a0)), some (.inl a1), some (.inl (s1 + (1 : Int32)))]) d_Rows_certain_37 rfl (by decide) (Nat.le_of_ble_eq_true rfl) rfl rfl ?_
          refine PJ.goto (pc := 40) (tgt := 2) d_Rows_certain_40 (by decide) ?_
          exact PJ.done rfl
        · refine PJ.mk (L1 := [none, none, some (.inl s1)]) [false, false, true] rfl ?_
          exact PJ.done rfl
  · rcases x2 with yx2_0 | yx2_1
    · show PJ l G (pj_rm 1 0 0) Y_Rows_certain 43 [none, none, none] [] h 0 0 _ _
      refine PJ.bipush (pc := 43) (v := -2) d_Rows_certain_43 (by decide) ?_
      exact PJ.iretp (pc := 45) d_Rows_certain_45 rfl (Nat.le_of_ble_eq_true rfl) (Nat.le_of_ble_eq_true rfl)
    · show PJ l G (pj_rm 1 0 0) Y_Rows_certain 35 [none, none, some (.inl yx2_1)] [] h 0 0 _ _
      refine PJ.iload_n (pc := 35) d_Rows_certain_35 rfl ?_
      exact PJ.iretp (pc := 36) d_Rows_certain_36 rfl (Nat.le_of_ble_eq_true rfl) (Nat.le_of_ble_eq_true rfl)
theorem d_Rows_weigh_0 : decode Y_Rows_weigh.2.1 0 = .ok (.iconst 0, 1) := by decide +kernel
theorem d_Rows_weigh_1 : decode Y_Rows_weigh.2.1 1 = .ok (.istore_n 1, 1) := by decide +kernel
theorem d_Rows_weigh_2 : decode Y_Rows_weigh.2.1 2 = .ok (.iload_n 1, 1) := by decide +kernel
theorem d_Rows_weigh_3 : decode Y_Rows_weigh.2.1 3 = .ok (.aload_n 0, 1) := by decide +kernel
theorem d_Rows_weigh_4 : decode Y_Rows_weigh.2.1 4 = .ok (.getfield 33, 3) := by decide +kernel
theorem d_Rows_weigh_7 : decode Y_Rows_weigh.2.1 7 = .ok (.getfield 67, 3) := by decide +kernel
theorem d_Rows_weigh_10 : decode Y_Rows_weigh.2.1 10 = .ok (.getfield 79, 3) := by decide +kernel
theorem d_Rows_weigh_13 : decode Y_Rows_weigh.2.1 13 = .ok (.if_icmp .ge 77, 3) := by decide +kernel
theorem d_Rows_weigh_16 : decode Y_Rows_weigh.2.1 16 = .ok (.aload_n 0, 1) := by decide +kernel
theorem d_Rows_weigh_17 : decode Y_Rows_weigh.2.1 17 = .ok (.getfield 33, 3) := by decide +kernel
theorem d_Rows_weigh_20 : decode Y_Rows_weigh.2.1 20 = .ok (.getfield 67, 3) := by decide +kernel
theorem d_Rows_weigh_23 : decode Y_Rows_weigh.2.1 23 = .ok (.getfield 110, 3) := by decide +kernel
theorem d_Rows_weigh_26 : decode Y_Rows_weigh.2.1 26 = .ok (.iload_n 1, 1) := by decide +kernel
theorem d_Rows_weigh_27 : decode Y_Rows_weigh.2.1 27 = .ok (.iaload, 1) := by decide +kernel
theorem d_Rows_weigh_28 : decode Y_Rows_weigh.2.1 28 = .ok (.aload_n 0, 1) := by decide +kernel
theorem d_Rows_weigh_29 : decode Y_Rows_weigh.2.1 29 = .ok (.getfield 9, 3) := by decide +kernel
theorem d_Rows_weigh_32 : decode Y_Rows_weigh.2.1 32 = .ok (.if_icmp .ne 52, 3) := by decide +kernel
theorem d_Rows_weigh_35 : decode Y_Rows_weigh.2.1 35 = .ok (.aload_n 0, 1) := by decide +kernel
theorem d_Rows_weigh_36 : decode Y_Rows_weigh.2.1 36 = .ok (.getfield 22, 3) := by decide +kernel
theorem d_Rows_weigh_39 : decode Y_Rows_weigh.2.1 39 = .ok (.iload_n 1, 1) := by decide +kernel
theorem d_Rows_weigh_40 : decode Y_Rows_weigh.2.1 40 = .ok (.iconst 0, 1) := by decide +kernel
theorem d_Rows_weigh_41 : decode Y_Rows_weigh.2.1 41 = .ok (.iastore, 1) := by decide +kernel
theorem d_Rows_weigh_42 : decode Y_Rows_weigh.2.1 42 = .ok (.iconst 0, 1) := by decide +kernel
theorem d_Rows_weigh_43 : decode Y_Rows_weigh.2.1 43 = .ok (.istore_n 2, 1) := by decide +kernel
theorem d_Rows_weigh_44 : decode Y_Rows_weigh.2.1 44 = .ok (.iload_n 2, 1) := by decide +kernel
theorem d_Rows_weigh_45 : decode Y_Rows_weigh.2.1 45 = .ok (.aload_n 0, 1) := by decide +kernel
theorem d_Rows_weigh_46 : decode Y_Rows_weigh.2.1 46 = .ok (.getfield 33, 3) := by decide +kernel
theorem d_Rows_weigh_49 : decode Y_Rows_weigh.2.1 49 = .ok (.getfield 92, 3) := by decide +kernel
theorem d_Rows_weigh_52 : decode Y_Rows_weigh.2.1 52 = .ok (.if_icmp .ge 32, 3) := by decide +kernel
theorem d_Rows_weigh_55 : decode Y_Rows_weigh.2.1 55 = .ok (.aload_n 0, 1) := by decide +kernel
theorem d_Rows_weigh_56 : decode Y_Rows_weigh.2.1 56 = .ok (.getfield 22, 3) := by decide +kernel
theorem d_Rows_weigh_59 : decode Y_Rows_weigh.2.1 59 = .ok (.iload_n 1, 1) := by decide +kernel
theorem d_Rows_weigh_60 : decode Y_Rows_weigh.2.1 60 = .ok (.aload_n 0, 1) := by decide +kernel
theorem d_Rows_weigh_61 : decode Y_Rows_weigh.2.1 61 = .ok (.getfield 22, 3) := by decide +kernel
theorem d_Rows_weigh_64 : decode Y_Rows_weigh.2.1 64 = .ok (.iload_n 1, 1) := by decide +kernel
theorem d_Rows_weigh_65 : decode Y_Rows_weigh.2.1 65 = .ok (.iaload, 1) := by decide +kernel
theorem d_Rows_weigh_66 : decode Y_Rows_weigh.2.1 66 = .ok (.aload_n 0, 1) := by decide +kernel
theorem d_Rows_weigh_67 : decode Y_Rows_weigh.2.1 67 = .ok (.getfield 30, 3) := by decide +kernel
theorem d_Rows_weigh_70 : decode Y_Rows_weigh.2.1 70 = .ok (.iload_n 1, 1) := by decide +kernel
theorem d_Rows_weigh_71 : decode Y_Rows_weigh.2.1 71 = .ok (.aaload, 1) := by decide +kernel
theorem d_Rows_weigh_72 : decode Y_Rows_weigh.2.1 72 = .ok (.iload_n 2, 1) := by decide +kernel
theorem d_Rows_weigh_73 : decode Y_Rows_weigh.2.1 73 = .ok (.iaload, 1) := by decide +kernel
theorem d_Rows_weigh_74 : decode Y_Rows_weigh.2.1 74 = .ok (.invokestatic 127, 3) := by decide +kernel
theorem d_Rows_weigh_77 : decode Y_Rows_weigh.2.1 77 = .ok (.iastore, 1) := by decide +kernel
theorem d_Rows_weigh_78 : decode Y_Rows_weigh.2.1 78 = .ok (.iinc 2 1, 3) := by decide +kernel
theorem d_Rows_weigh_81 : decode Y_Rows_weigh.2.1 81 = .ok (.goto (-37), 3) := by decide +kernel
theorem d_Rows_weigh_84 : decode Y_Rows_weigh.2.1 84 = .ok (.iinc 1 1, 3) := by decide +kernel
theorem d_Rows_weigh_87 : decode Y_Rows_weigh.2.1 87 = .ok (.goto (-85), 3) := by decide +kernel
theorem d_Rows_weigh_90 : decode Y_Rows_weigh.2.1 90 = .ok (.return_, 1) := by decide +kernel
def f_Rows_weigh (h : PH) (a0 : Option Nat) : Option PH := (pj_it (X := PH) (fun s1 : Int32 × PH => (gR s1.2 8 a0 0).bind fun v3 => (gR s1.2 1 v3 11).bind fun v4 => (gI s1.2 7 v4 0).bind fun v5 => if v5 ≤ s1.1 then (some (.inr s1.2)) else ((gR s1.2 8 a0 0).bind fun v6 => (gR s1.2 1 v6 11).bind fun v7 => (gR s1.2 7 v7 1).bind fun v8 => (aI s1.2 v8 s1.1).bind fun v9 => (gI s1.2 8 a0 3).bind fun v10 => if ¬ v9 = v10 then (some (.inl ((s1.1 + (1 : Int32)), s1.2))) else ((gR s1.2 8 a0 6).bind fun v11 => (sA s1.2 50 v11 s1.1 (.inl (0 : Int32))).bind fun h12 => (pj_it (X := PH) (fun s13 : Int32 × PH => (gR s13.2 8 a0 0).bind fun v15 => (gI s13.2 1 v15 2).bind fun v16 => if v16 ≤ s13.1 then (some (.inr s13.2)) else ((gR s13.2 8 a0 6).bind fun v17 => (gR s13.2 8 a0 6).bind fun v18 => (aI s13.2 v18 s1.1).bind fun v19 => (gR s13.2 8 a0 8).bind fun v20 => (aR s13.2 53 v20 s1.1).bind fun v21 => (aI s13.2 v21 s13.1).bind fun v22 => (sA s13.2 50 v17 s1.1 (.inl (if v19 < v22 then v22 else v19))).bind fun h23 => some (.inl ((s13.1 + (1 : Int32)), h23)))) FU ((0 : Int32), h12)).bind fun x14 => some (.inl ((s1.1 + (1 : Int32)), x14))))) FU ((0 : Int32), h)).bind fun x2 => some x2
set_option maxRecDepth 20000 in
theorem PM_Rows_weigh {l : Launch} {G : Cx} {h : PH} {a0 : Option Nat} {z : PH} (hz : f_Rows_weigh h a0 = some z) : PM l G 1 0 0 Y_Rows_weigh [.inr (.inr a0)] h (none, z) := by
  refine PM.of (Y := Y_Rows_weigh) (cv := (fun z : PH => (((none, z) : Option PV × PH)))) (by decide) (L0 := [some (.inr (.inr a0)), none, none]) 2 rfl (Nat.le_of_ble_eq_true rfl) ?_ hz
  unfold f_Rows_weigh
  refine PJ.iconst (pc := 0) (v := 0) d_Rows_weigh_0 (by decide) ?_
  refine PJ.istore_n (pc := 1) (L1 := [some (.inr (.inr a0)), some (.inl (0 : Int32)), none]) d_Rows_weigh_1 (Nat.le_of_ble_eq_true rfl) rfl rfl ?_
  refine PJ.bind (fun x2 : PH => ((90 : Nat), ([none, none, none] : List (Option PV)), ([] : List PV), (x2 : PH), (0 : Nat), (0 : Nat))) (PJ.it (E := (fun s1 : Int32 × PH => ((2 : Nat), ([some (.inr (.inr a0)), some (.inl s1.1), none] : List (Option PV)), ([] : List PV), (s1.2 : PH), (0 : Nat), (0 : Nat)))) (F := (fun x2 : PH => ((90 : Nat), ([none, none, none] : List (Option PV)), ([] : List PV), (x2 : PH), (0 : Nat), (0 : Nat)))) (fun s1 => ?_) FU ((0 : Int32), h)) (fun x2 => ?_)
  · show PJ l G (pj_rm 1 0 0) Y_Rows_weigh 2 [some (.inr (.inr a0)), some (.inl s1.1), none] [] s1.2 0 0 _ _
    refine PJ.iload_n (pc := 2) d_Rows_weigh_2 rfl ?_
    refine PJ.aload_n (pc := 3) d_Rows_weigh_3 rfl ?_
    refine PJ.getR (pc := 4) fs_Rows_33 d_Rows_weigh_4 (fun v3 => ?_)
    refine PJ.getR (pc := 7) fs_Rows_67 d_Rows_weigh_7 (fun v4 => ?_)
    refine PJ.getI (pc := 10) fs_Rows_79 d_Rows_weigh_10 (fun v5 => ?_)
    refine PJ.icmp_ge (pc := 13) (tgt := 90) d_Rows_weigh_13 (by decide) (fun _ => ?_) (fun _ => ?_)
    · refine PJ.mk (L1 := [none, none, none]) [false, false, false] rfl ?_
      exact PJ.done rfl
    · refine PJ.aload_n (pc := 16) d_Rows_weigh_16 rfl ?_
      refine PJ.getR (pc := 17) fs_Rows_33 d_Rows_weigh_17 (fun v6 => ?_)
      refine PJ.getR (pc := 20) fs_Rows_67 d_Rows_weigh_20 (fun v7 => ?_)
      refine PJ.getR (pc := 23) fs_Rows_110 d_Rows_weigh_23 (fun v8 => ?_)
      refine PJ.iload_n (pc := 26) d_Rows_weigh_26 rfl ?_
      refine PJ.iald (pc := 27) d_Rows_weigh_27 (fun v9 => ?_)
      refine PJ.aload_n (pc := 28) d_Rows_weigh_28 rfl ?_
      refine PJ.getI (pc := 29) fs_Rows_9 d_Rows_weigh_29 (fun v10 => ?_)
      refine PJ.icmp_ne (pc := 32) (tgt := 84) d_Rows_weigh_32 (by decide) (fun _ => ?_) (fun _ => ?_)
      · refine PJ.iinc (pc := 84) (v := 1) (L1 := [some (.inr (.inr a0)), some (.inl (s1.1 + (1 : Int32))), none]) d_Rows_weigh_84 rfl (by decide) (Nat.le_of_ble_eq_true rfl) rfl rfl ?_
        refine PJ.goto (pc := 87) (tgt := 2) d_Rows_weigh_87 (by decide) ?_
        exact PJ.done rfl
      · refine PJ.aload_n (pc := 35) d_Rows_weigh_35 rfl ?_
        refine PJ.getR (pc := 36) fs_Rows_22 d_Rows_weigh_36 (fun v11 => ?_)
        refine PJ.iload_n (pc := 39) d_Rows_weigh_39 rfl ?_
        refine PJ.iconst (pc := 40) (v := 0) d_Rows_weigh_40 (by decide) ?_
        refine PJ.iast (pc := 41) d_Rows_weigh_41 (fun h12 => ?_)
        refine PJ.iconst (pc := 42) (v := 0) d_Rows_weigh_42 (by decide) ?_
        refine PJ.istore_n (pc := 43) (L1 := [some (.inr (.inr a0)), some (.inl s1.1), some (.inl (0 : Int32))]) d_Rows_weigh_43 (Nat.le_of_ble_eq_true rfl) rfl rfl ?_
        refine PJ.bind (fun x14 : PH => ((84 : Nat), ([some (.inr (.inr a0)), some (.inl s1.1), none] : List (Option PV)), ([] : List PV), (x14 : PH), (0 : Nat), (0 : Nat))) (PJ.it (E := (fun s13 : Int32 × PH => ((44 : Nat), ([some (.inr (.inr a0)), some (.inl s1.1), some (.inl s13.1)] : List (Option PV)), ([] : List PV), (s13.2 : PH), (0 : Nat), (0 : Nat)))) (F := (fun x14 : PH => ((84 : Nat), ([some (.inr (.inr a0)), some (.inl s1.1), none] : List (Option PV)), ([] : List PV), (x14 : PH), (0 : Nat), (0 : Nat)))) (fun s13 => ?_) FU ((0 : Int32), h12)) (fun x14 => ?_)
        · show PJ l G (pj_rm 1 0 0) Y_Rows_weigh 44 [some (.inr (.inr a0)), some (.inl s1.1), some (.inl s13.1)] [] s13.2 0 0 _ _
          refine PJ.iload_n (pc := 44) d_Rows_weigh_44 rfl ?_
          refine PJ.aload_n (pc := 45) d_Rows_weigh_45 rfl ?_
          refine PJ.getR (pc := 46) fs_Rows_33 d_Rows_weigh_46 (fun v15 => ?_)
          refine PJ.getI (pc := 49) fs_Rows_92 d_Rows_weigh_49 (fun v16 => ?_)
          refine PJ.icmp_ge (pc := 52) (tgt := 84) d_Rows_weigh_52 (by decide) (fun _ => ?_) (fun _ => ?_)
          · refine PJ.mk (L1 := [some (.inr (.inr a0)), some (.inl s1.1), none]) [true, true, false] rfl ?_
            exact PJ.done rfl
          · refine PJ.aload_n (pc := 55) d_Rows_weigh_55 rfl ?_
            refine PJ.getR (pc := 56) fs_Rows_22 d_Rows_weigh_56 (fun v17 => ?_)
            refine PJ.iload_n (pc := 59) d_Rows_weigh_59 rfl ?_
            refine PJ.aload_n (pc := 60) d_Rows_weigh_60 rfl ?_
            refine PJ.getR (pc := 61) fs_Rows_22 d_Rows_weigh_61 (fun v18 => ?_)
            refine PJ.iload_n (pc := 64) d_Rows_weigh_64 rfl ?_
            refine PJ.iald (pc := 65) d_Rows_weigh_65 (fun v19 => ?_)
            refine PJ.aload_n (pc := 66) d_Rows_weigh_66 rfl ?_
            refine PJ.getR (pc := 67) fs_Rows_30 d_Rows_weigh_67 (fun v20 => ?_)
            refine PJ.iload_n (pc := 70) d_Rows_weigh_70 rfl ?_
            refine PJ.aald (pc := 71) 53 (by decide) d_Rows_weigh_71 (fun v21 => ?_)
            refine PJ.iload_n (pc := 72) d_Rows_weigh_72 rfl ?_
            refine PJ.iald (pc := 73) d_Rows_weigh_73 (fun v22 => ?_)
            refine PJ.mmaxI (pc := 74) (idx := 127) wd_1159 (Nat.le_of_ble_eq_true rfl) (Nat.le_of_ble_eq_true rfl) (Nat.le_of_ble_eq_true rfl) (Nat.le_of_ble_eq_true rfl) (Nat.le_of_ble_eq_true rfl) d_Rows_weigh_74 ?_
            refine PJ.iast (pc := 77) d_Rows_weigh_77 (fun h23 => ?_)
            refine PJ.iinc (pc := 78) (v := 1) (L1 := [some (.inr (.inr a0)), some (.inl s1.1), some (.inl (s13.1 + (1 : Int32)))]) d_Rows_weigh_78 rfl (by decide) (Nat.le_of_ble_eq_true rfl) rfl rfl ?_
            refine PJ.goto (pc := 81) (tgt := 44) d_Rows_weigh_81 (by decide) ?_
            exact PJ.done rfl
        · show PJ l G (pj_rm 1 0 0) Y_Rows_weigh 84 [some (.inr (.inr a0)), some (.inl s1.1), none] [] x14 0 0 _ _
          refine PJ.iinc (pc := 84) (v := 1) (L1 := [some (.inr (.inr a0)), some (.inl (s1.1 + (1 : Int32))), none]) d_Rows_weigh_84 rfl (by decide) (Nat.le_of_ble_eq_true rfl) rfl rfl ?_
          refine PJ.goto (pc := 87) (tgt := 2) d_Rows_weigh_87 (by decide) ?_
          exact PJ.done rfl
  · show PJ l G (pj_rm 1 0 0) Y_Rows_weigh 90 [none, none, none] [] x2 0 0 _ _
    exact PJ.vret (pc := 90) d_Rows_weigh_90 rfl (Nat.le_of_ble_eq_true rfl) (Nat.le_of_ble_eq_true rfl)
theorem d_Shops_caughtFrom_0 : decode Y_Shops_caughtFrom.2.1 0 = .ok (.iload_n 1, 1) := by decide +kernel
theorem d_Shops_caughtFrom_1 : decode Y_Shops_caughtFrom.2.1 1 = .ok (.istore_n 2, 1) := by decide +kernel
theorem d_Shops_caughtFrom_2 : decode Y_Shops_caughtFrom.2.1 2 = .ok (.iconst 0, 1) := by decide +kernel
theorem d_Shops_caughtFrom_3 : decode Y_Shops_caughtFrom.2.1 3 = .ok (.istore_n 3, 1) := by decide +kernel
theorem d_Shops_caughtFrom_4 : decode Y_Shops_caughtFrom.2.1 4 = .ok (.iload_n 3, 1) := by decide +kernel
theorem d_Shops_caughtFrom_5 : decode Y_Shops_caughtFrom.2.1 5 = .ok (.aload_n 0, 1) := by decide +kernel
theorem d_Shops_caughtFrom_6 : decode Y_Shops_caughtFrom.2.1 6 = .ok (.getfield 9, 3) := by decide +kernel
theorem d_Shops_caughtFrom_9 : decode Y_Shops_caughtFrom.2.1 9 = .ok (.if_icmp .ge 27, 3) := by decide +kernel
theorem d_Shops_caughtFrom_12 : decode Y_Shops_caughtFrom.2.1 12 = .ok (.iload_n 1, 1) := by decide +kernel
theorem d_Shops_caughtFrom_13 : decode Y_Shops_caughtFrom.2.1 13 = .ok (.iload_n 3, 1) := by decide +kernel
theorem d_Shops_caughtFrom_14 : decode Y_Shops_caughtFrom.2.1 14 = .ok (.ishr, 1) := by decide +kernel
theorem d_Shops_caughtFrom_15 : decode Y_Shops_caughtFrom.2.1 15 = .ok (.iconst 1, 1) := by decide +kernel
theorem d_Shops_caughtFrom_16 : decode Y_Shops_caughtFrom.2.1 16 = .ok (.iand, 1) := by decide +kernel
theorem d_Shops_caughtFrom_17 : decode Y_Shops_caughtFrom.2.1 17 = .ok (.iconst 1, 1) := by decide +kernel
theorem d_Shops_caughtFrom_18 : decode Y_Shops_caughtFrom.2.1 18 = .ok (.if_icmp .ne 12, 3) := by decide +kernel
theorem d_Shops_caughtFrom_21 : decode Y_Shops_caughtFrom.2.1 21 = .ok (.iload_n 2, 1) := by decide +kernel
theorem d_Shops_caughtFrom_22 : decode Y_Shops_caughtFrom.2.1 22 = .ok (.aload_n 0, 1) := by decide +kernel
theorem d_Shops_caughtFrom_23 : decode Y_Shops_caughtFrom.2.1 23 = .ok (.getfield 22, 3) := by decide +kernel
theorem d_Shops_caughtFrom_26 : decode Y_Shops_caughtFrom.2.1 26 = .ok (.iload_n 3, 1) := by decide +kernel
theorem d_Shops_caughtFrom_27 : decode Y_Shops_caughtFrom.2.1 27 = .ok (.iaload, 1) := by decide +kernel
theorem d_Shops_caughtFrom_28 : decode Y_Shops_caughtFrom.2.1 28 = .ok (.ior, 1) := by decide +kernel
theorem d_Shops_caughtFrom_29 : decode Y_Shops_caughtFrom.2.1 29 = .ok (.istore_n 2, 1) := by decide +kernel
theorem d_Shops_caughtFrom_30 : decode Y_Shops_caughtFrom.2.1 30 = .ok (.iinc 3 1, 3) := by decide +kernel
theorem d_Shops_caughtFrom_33 : decode Y_Shops_caughtFrom.2.1 33 = .ok (.goto (-29), 3) := by decide +kernel
theorem d_Shops_caughtFrom_36 : decode Y_Shops_caughtFrom.2.1 36 = .ok (.iconst 0, 1) := by decide +kernel
theorem d_Shops_caughtFrom_37 : decode Y_Shops_caughtFrom.2.1 37 = .ok (.istore_n 3, 1) := by decide +kernel
theorem d_Shops_caughtFrom_38 : decode Y_Shops_caughtFrom.2.1 38 = .ok (.iconst 0, 1) := by decide +kernel
theorem d_Shops_caughtFrom_39 : decode Y_Shops_caughtFrom.2.1 39 = .ok (.istore 4, 2) := by decide +kernel
theorem d_Shops_caughtFrom_41 : decode Y_Shops_caughtFrom.2.1 41 = .ok (.iload 4, 2) := by decide +kernel
theorem d_Shops_caughtFrom_43 : decode Y_Shops_caughtFrom.2.1 43 = .ok (.aload_n 0, 1) := by decide +kernel
theorem d_Shops_caughtFrom_44 : decode Y_Shops_caughtFrom.2.1 44 = .ok (.getfield 9, 3) := by decide +kernel
theorem d_Shops_caughtFrom_47 : decode Y_Shops_caughtFrom.2.1 47 = .ok (.if_icmp .ge 29, 3) := by decide +kernel
theorem d_Shops_caughtFrom_50 : decode Y_Shops_caughtFrom.2.1 50 = .ok (.iload_n 2, 1) := by decide +kernel
theorem d_Shops_caughtFrom_51 : decode Y_Shops_caughtFrom.2.1 51 = .ok (.iload 4, 2) := by decide +kernel
theorem d_Shops_caughtFrom_53 : decode Y_Shops_caughtFrom.2.1 53 = .ok (.ishr, 1) := by decide +kernel
theorem d_Shops_caughtFrom_54 : decode Y_Shops_caughtFrom.2.1 54 = .ok (.iconst 1, 1) := by decide +kernel
theorem d_Shops_caughtFrom_55 : decode Y_Shops_caughtFrom.2.1 55 = .ok (.iand, 1) := by decide +kernel
theorem d_Shops_caughtFrom_56 : decode Y_Shops_caughtFrom.2.1 56 = .ok (.iconst 1, 1) := by decide +kernel
theorem d_Shops_caughtFrom_57 : decode Y_Shops_caughtFrom.2.1 57 = .ok (.if_icmp .ne 13, 3) := by decide +kernel
theorem d_Shops_caughtFrom_60 : decode Y_Shops_caughtFrom.2.1 60 = .ok (.iload_n 3, 1) := by decide +kernel
theorem d_Shops_caughtFrom_61 : decode Y_Shops_caughtFrom.2.1 61 = .ok (.aload_n 0, 1) := by decide +kernel
theorem d_Shops_caughtFrom_62 : decode Y_Shops_caughtFrom.2.1 62 = .ok (.getfield 18, 3) := by decide +kernel
theorem d_Shops_caughtFrom_65 : decode Y_Shops_caughtFrom.2.1 65 = .ok (.iload 4, 2) := by decide +kernel
theorem d_Shops_caughtFrom_67 : decode Y_Shops_caughtFrom.2.1 67 = .ok (.iaload, 1) := by decide +kernel
theorem d_Shops_caughtFrom_68 : decode Y_Shops_caughtFrom.2.1 68 = .ok (.iadd, 1) := by decide +kernel
theorem d_Shops_caughtFrom_69 : decode Y_Shops_caughtFrom.2.1 69 = .ok (.istore_n 3, 1) := by decide +kernel
theorem d_Shops_caughtFrom_70 : decode Y_Shops_caughtFrom.2.1 70 = .ok (.iinc 4 1, 3) := by decide +kernel
theorem d_Shops_caughtFrom_73 : decode Y_Shops_caughtFrom.2.1 73 = .ok (.goto (-32), 3) := by decide +kernel
theorem d_Shops_caughtFrom_76 : decode Y_Shops_caughtFrom.2.1 76 = .ok (.iload_n 3, 1) := by decide +kernel
theorem d_Shops_caughtFrom_77 : decode Y_Shops_caughtFrom.2.1 77 = .ok (.ireturn, 1) := by decide +kernel
def f_Shops_caughtFrom (h : PH) (a0 : Option Nat) (a1 : Int32) : Option Int32 := (pj_it (X := Int32) (fun s1 : Int32 × Int32 => (gI h 9 a0 0).bind fun v3 => if v3 ≤ s1.2 then (some (.inr s1.1)) else (if ¬ ((a1 >>> (s1.2 &&& 31)) &&& (1 : Int32)) = (1 : Int32) then (some (.inl (s1.1, (s1.2 + (1 : Int32))))) else ((gR h 9 a0 3).bind fun v4 => (aI h v4 s1.2).bind fun v5 => some (.inl ((s1.1 ||| v5), (s1.2 + (1 : Int32))))))) FU (a1, (0 : Int32))).bind fun x2 => (pj_it (X := Int32) (fun s6 : Int32 × Int32 => (gI h 9 a0 0).bind fun v8 => if v8 ≤ s6.2 then (some (.inr s6.1)) else (if ¬ ((x2 >>> (s6.2 &&& 31)) &&& (1 : Int32)) = (1 : Int32) then (some (.inl (s6.1, (s6.2 + (1 : Int32))))) else ((gR h 9 a0 2).bind fun v9 => (aI h v9 s6.2).bind fun v10 => some (.inl ((s6.1 + v10), (s6.2 + (1 : Int32))))))) FU ((0 : Int32), (0 : Int32))).bind fun x7 => some x7
set_option maxRecDepth 20000 in
theorem PM_Shops_caughtFrom {l : Launch} {G : Cx} {h : PH} {a0 : Option Nat} {a1 : Int32} {z : Int32} (hz : f_Shops_caughtFrom h a0 a1 = some z) : PM l G 1 0 0 Y_Shops_caughtFrom [.inr (.inr a0), .inl a1] h (some (.inl z), h) := by
  refine PM.of (Y := Y_Shops_caughtFrom) (cv := (fun z : Int32 => (((some (.inl z), h) : Option PV × PH)))) (by decide) (L0 := [some (.inr (.inr a0)), some (.inl a1), none, none, none]) 3 rfl (Nat.le_of_ble_eq_true rfl) ?_ hz
  unfold f_Shops_caughtFrom
  refine PJ.iload_n (pc := 0) d_Shops_caughtFrom_0 rfl ?_
  refine PJ.istore_n (pc := 1) (L1 := [some (.inr (.inr a0)), some (.inl a1), some (.inl a1), none, none]) d_Shops_caughtFrom_1 (Nat.le_of_ble_eq_true rfl) rfl rfl ?_
  refine PJ.iconst (pc := 2) (v := 0) d_Shops_caughtFrom_2 (by decide) ?_
  refine PJ.istore_n (pc := 3) (L1 := [some (.inr (.inr a0)), some (.inl a1), some (.inl a1), some (.inl (0 : Int32)), none]) d_Shops_caughtFrom_3 (Nat.le_of_ble_eq_true rfl) rfl rfl ?_
  refine PJ.bind (fun x2 : Int32 => ((36 : Nat), ([some (.inr (.inr a0)), none, some (.inl x2), none, none] : List (Option PV)), ([] : List PV), (h : PH), (0 : Nat), (0 : Nat))) (PJ.it (E := (fun s1 : Int32 × Int32 => ((4 : Nat), ([some (.inr (.inr a0)), some (.inl a1), some (.inl s1.1), some (.inl s1.2), none] : List (Option PV)), ([] : List PV), (h : PH), (0 : Nat), (0 : Nat)))) (F := (fun x2 : Int32 => ((36 : Nat), ([some (.inr (.inr a0)), none, some (.inl x2), none, none] : List (Option PV)), ([] : List PV), (h : PH), (0 : Nat), (0 : Nat)))) (fun s1 => ?_) FU (a1, (0 : Int32))) (fun x2 => ?_)
  · show PJ l G (pj_rm 1 0 0) Y_Shops_caughtFrom 4 [some (.inr (.inr a0)), some (.inl a1), some (.inl s1.1), some (.inl s1.2), none] [] h 0 0 _ _
    refine PJ.iload_n (pc := 4) d_Shops_caughtFrom_4 rfl ?_
    refine PJ.aload_n (pc := 5) d_Shops_caughtFrom_5 rfl ?_
    refine PJ.getI (pc := 6) fs_Shops_9 d_Shops_caughtFrom_6 (fun v3 => ?_)
    refine PJ.icmp_ge (pc := 9) (tgt := 36) d_Shops_caughtFrom_9 (by decide) (fun _ => ?_) (fun _ => ?_)
    · refine PJ.mk (L1 := [some (.inr (.inr a0)), none, some (.inl s1.1), none, none]) [true, false, true, false, false] rfl ?_
      exact PJ.done rfl
    · refine PJ.iload_n (pc := 12) d_Shops_caughtFrom_12 rfl ?_
      refine PJ.iload_n (pc := 13) d_Shops_caughtFrom_13 rfl ?_
      refine PJ.ishr (pc := 14) d_Shops_caughtFrom_14 ?_
      refine PJ.iconst (pc := 15) (v := 1) d_Shops_caughtFrom_15 (by decide) ?_
      refine PJ.iand (pc := 16) d_Shops_caughtFrom_16 ?_
      refine PJ.iconst (pc := 17) (v := 1) d_Shops_caughtFrom_17 (by decide) ?_
      refine PJ.icmp_ne (pc := 18) (tgt := 30) d_Shops_caughtFrom_18 (by decide) (fun _ => ?_) (fun _ => ?_)
      · refine PJ.iinc (pc := 30) (v := 1) (L1 := [some (.inr (.inr a0)), some (.inl a1), some (.inl s1.1), some (.inl (s1.2 + (1 : Int32))), none]) d_Shops_caughtFrom_30 rfl (by decide) (Nat.le_of_ble_eq_true rfl) rfl rfl ?_
        refine PJ.goto (pc := 33) (tgt := 4) d_Shops_caughtFrom_33 (by decide) ?_
        exact PJ.done rfl
      · refine PJ.iload_n (pc := 21) d_Shops_caughtFrom_21 rfl ?_
        refine PJ.aload_n (pc := 22) d_Shops_caughtFrom_22 rfl ?_
        refine PJ.getR (pc := 23) fs_Shops_22 d_Shops_caughtFrom_23 (fun v4 => ?_)
        refine PJ.iload_n (pc := 26) d_Shops_caughtFrom_26 rfl ?_
        refine PJ.iald (pc := 27) d_Shops_caughtFrom_27 (fun v5 => ?_)
        refine PJ.ior (pc := 28) d_Shops_caughtFrom_28 ?_
        refine PJ.istore_n (pc := 29) (L1 := [some (.inr (.inr a0)), some (.inl a1), some (.inl (s1.1 ||| v5)), some (.inl s1.2), none]) d_Shops_caughtFrom_29 (Nat.le_of_ble_eq_true rfl) rfl rfl ?_
        refine PJ.iinc (pc := 30) (v := 1) (L1 := [some (.inr (.inr a0)), some (.inl a1), some (.inl (s1.1 ||| v5)), some (.inl (s1.2 + (1 : Int32))), none]) d_Shops_caughtFrom_30 rfl (by decide) (Nat.le_of_ble_eq_true rfl) rfl rfl ?_
        refine PJ.goto (pc := 33) (tgt := 4) d_Shops_caughtFrom_33 (by decide) ?_
        exact PJ.done rfl
  · show PJ l G (pj_rm 1 0 0) Y_Shops_caughtFrom 36 [some (.inr (.inr a0)), none, some (.inl x2), none, none] [] h 0 0 _ _
    refine PJ.iconst (pc := 36) (v := 0) d_Shops_caughtFrom_36 (by decide) ?_
    refine PJ.istore_n (pc := 37) (L1 := [some (.inr (.inr a0)), none, some (.inl x2), some (.inl (0 : Int32)), none]) d_Shops_caughtFrom_37 (Nat.le_of_ble_eq_true rfl) rfl rfl ?_
    refine PJ.iconst (pc := 38) (v := 0) d_Shops_caughtFrom_38 (by decide) ?_
    refine PJ.istore (pc := 39) (L1 := [some (.inr (.inr a0)), none, some (.inl x2), some (.inl (0 : Int32)), some (.inl (0 : Int32))]) d_Shops_caughtFrom_39 (Nat.le_of_ble_eq_true rfl) rfl rfl ?_
    refine PJ.bind (fun x7 : Int32 => ((76 : Nat), ([none, none, none, some (.inl x7), none] : List (Option PV)), ([] : List PV), (h : PH), (0 : Nat), (0 : Nat))) (PJ.it (E := (fun s6 : Int32 × Int32 => ((41 : Nat), ([some (.inr (.inr a0)), none, some (.inl x2), some (.inl s6.1), some (.inl s6.2)] : List (Option PV)), ([] : List PV), (h : PH), (0 : Nat), (0 : Nat)))) (F := (fun x7 : Int32 => ((76 : Nat), ([none, none, none, some (.inl x7), none] : List (Option PV)), ([] : List PV), (h : PH), (0 : Nat), (0 : Nat)))) (fun s6 => ?_) FU ((0 : Int32), (0 : Int32))) (fun x7 => ?_)
    · show PJ l G (pj_rm 1 0 0) Y_Shops_caughtFrom 41 [some (.inr (.inr a0)), none, some (.inl x2), some (.inl s6.1), some (.inl s6.2)] [] h 0 0 _ _
      refine PJ.iload (pc := 41) d_Shops_caughtFrom_41 rfl ?_
      refine PJ.aload_n (pc := 43) d_Shops_caughtFrom_43 rfl ?_
      refine PJ.getI (pc := 44) fs_Shops_9 d_Shops_caughtFrom_44 (fun v8 => ?_)
      refine PJ.icmp_ge (pc := 47) (tgt := 76) d_Shops_caughtFrom_47 (by decide) (fun _ => ?_) (fun _ => ?_)
      · refine PJ.mk (L1 := [none, none, none, some (.inl s6.1), none]) [false, false, false, true, false] rfl ?_
        exact PJ.done rfl
      · refine PJ.iload_n (pc := 50) d_Shops_caughtFrom_50 rfl ?_
        refine PJ.iload (pc := 51) d_Shops_caughtFrom_51 rfl ?_
        refine PJ.ishr (pc := 53) d_Shops_caughtFrom_53 ?_
        refine PJ.iconst (pc := 54) (v := 1) d_Shops_caughtFrom_54 (by decide) ?_
        refine PJ.iand (pc := 55) d_Shops_caughtFrom_55 ?_
        refine PJ.iconst (pc := 56) (v := 1) d_Shops_caughtFrom_56 (by decide) ?_
        refine PJ.icmp_ne (pc := 57) (tgt := 70) d_Shops_caughtFrom_57 (by decide) (fun _ => ?_) (fun _ => ?_)
        · refine PJ.iinc (pc := 70) (v := 1) (L1 := [some (.inr (.inr a0)), none, some (.inl x2), some (.inl s6.1), some (.inl (s6.2 + (1 : Int32)))]) d_Shops_caughtFrom_70 rfl (by decide) (Nat.le_of_ble_eq_true rfl) rfl rfl ?_
          refine PJ.goto (pc := 73) (tgt := 41) d_Shops_caughtFrom_73 (by decide) ?_
          exact PJ.done rfl
        · refine PJ.iload_n (pc := 60) d_Shops_caughtFrom_60 rfl ?_
          refine PJ.aload_n (pc := 61) d_Shops_caughtFrom_61 rfl ?_
          refine PJ.getR (pc := 62) fs_Shops_18 d_Shops_caughtFrom_62 (fun v9 => ?_)
          refine PJ.iload (pc := 65) d_Shops_caughtFrom_65 rfl ?_
          refine PJ.iald (pc := 67) d_Shops_caughtFrom_67 (fun v10 => ?_)
          refine PJ.iadd (pc := 68) d_Shops_caughtFrom_68 ?_
          refine PJ.istore_n (pc := 69) (L1 := [some (.inr (.inr a0)), none, some (.inl x2), some (.inl (s6.1 + v10)), some (.inl s6.2)]) d_Shops_caughtFrom_69 (Nat.le_of_ble_eq_true rfl) rfl rfl ?_
          refine PJ.iinc (pc := 70) (v := 1) (L1 := [some (.inr (.inr a0)), none, some (.inl x2), some (.inl (s6.1 + v10)), some (.inl (s6.2 + (1 : Int32)))]) d_Shops_caughtFrom_70 rfl (by decide) (Nat.le_of_ble_eq_true rfl) rfl rfl ?_
          refine PJ.goto (pc := 73) (tgt := 41) d_Shops_caughtFrom_73 (by decide) ?_
          exact PJ.done rfl
    · show PJ l G (pj_rm 1 0 0) Y_Shops_caughtFrom 76 [none, none, none, some (.inl x7), none] [] h 0 0 _ _
      refine PJ.iload_n (pc := 76) d_Shops_caughtFrom_76 rfl ?_
      exact PJ.iretp (pc := 77) d_Shops_caughtFrom_77 rfl (Nat.le_of_ble_eq_true rfl) (Nat.le_of_ble_eq_true rfl)
theorem d_Shops_bestPlaces_0 : decode Y_Shops_bestPlaces.2.1 0 = .ok (.iconst 0, 1) := by decide +kernel
theorem d_Shops_bestPlaces_1 : decode Y_Shops_bestPlaces.2.1 1 = .ok (.istore_n 2, 1) := by decide +kernel
theorem d_Shops_bestPlaces_2 : decode Y_Shops_bestPlaces.2.1 2 = .ok (.iconst 0, 1) := by decide +kernel
theorem d_Shops_bestPlaces_3 : decode Y_Shops_bestPlaces.2.1 3 = .ok (.istore_n 3, 1) := by decide +kernel
theorem d_Shops_bestPlaces_4 : decode Y_Shops_bestPlaces.2.1 4 = .ok (.iconst 1, 1) := by decide +kernel
theorem d_Shops_bestPlaces_5 : decode Y_Shops_bestPlaces.2.1 5 = .ok (.istore 4, 2) := by decide +kernel
theorem d_Shops_bestPlaces_7 : decode Y_Shops_bestPlaces.2.1 7 = .ok (.iload 4, 2) := by decide +kernel
theorem d_Shops_bestPlaces_9 : decode Y_Shops_bestPlaces.2.1 9 = .ok (.iconst 1, 1) := by decide +kernel
theorem d_Shops_bestPlaces_10 : decode Y_Shops_bestPlaces.2.1 10 = .ok (.aload_n 0, 1) := by decide +kernel
theorem d_Shops_bestPlaces_11 : decode Y_Shops_bestPlaces.2.1 11 = .ok (.getfield 9, 3) := by decide +kernel
theorem d_Shops_bestPlaces_14 : decode Y_Shops_bestPlaces.2.1 14 = .ok (.ishl, 1) := by decide +kernel
theorem d_Shops_bestPlaces_15 : decode Y_Shops_bestPlaces.2.1 15 = .ok (.if_icmp .ge 56, 3) := by decide +kernel
theorem d_Shops_bestPlaces_18 : decode Y_Shops_bestPlaces.2.1 18 = .ok (.iload 4, 2) := by decide +kernel
theorem d_Shops_bestPlaces_20 : decode Y_Shops_bestPlaces.2.1 20 = .ok (.invokestatic 31, 3) := by decide +kernel
theorem d_Shops_bestPlaces_23 : decode Y_Shops_bestPlaces.2.1 23 = .ok (.iload_n 1, 1) := by decide +kernel
theorem d_Shops_bestPlaces_24 : decode Y_Shops_bestPlaces.2.1 24 = .ok (.if_icmp .gt 41, 3) := by decide +kernel
theorem d_Shops_bestPlaces_27 : decode Y_Shops_bestPlaces.2.1 27 = .ok (.aload_n 0, 1) := by decide +kernel
theorem d_Shops_bestPlaces_28 : decode Y_Shops_bestPlaces.2.1 28 = .ok (.iload 4, 2) := by decide +kernel
theorem d_Shops_bestPlaces_30 : decode Y_Shops_bestPlaces.2.1 30 = .ok (.invokevirtual 37, 3) := by decide +kernel
theorem d_Shops_bestPlaces_33 : decode Y_Shops_bestPlaces.2.1 33 = .ok (.istore 5, 2) := by decide +kernel
theorem d_Shops_bestPlaces_35 : decode Y_Shops_bestPlaces.2.1 35 = .ok (.iload 5, 2) := by decide +kernel
theorem d_Shops_bestPlaces_37 : decode Y_Shops_bestPlaces.2.1 37 = .ok (.iload_n 3, 1) := by decide +kernel
theorem d_Shops_bestPlaces_38 : decode Y_Shops_bestPlaces.2.1 38 = .ok (.if_icmp .gt 21, 3) := by decide +kernel
theorem d_Shops_bestPlaces_41 : decode Y_Shops_bestPlaces.2.1 41 = .ok (.iload 5, 2) := by decide +kernel
theorem d_Shops_bestPlaces_43 : decode Y_Shops_bestPlaces.2.1 43 = .ok (.iload_n 3, 1) := by decide +kernel
theorem d_Shops_bestPlaces_44 : decode Y_Shops_bestPlaces.2.1 44 = .ok (.if_icmp .ne 21, 3) := by decide +kernel
theorem d_Shops_bestPlaces_47 : decode Y_Shops_bestPlaces.2.1 47 = .ok (.iload 4, 2) := by decide +kernel
theorem d_Shops_bestPlaces_49 : decode Y_Shops_bestPlaces.2.1 49 = .ok (.invokestatic 31, 3) := by decide +kernel
theorem d_Shops_bestPlaces_52 : decode Y_Shops_bestPlaces.2.1 52 = .ok (.iload_n 2, 1) := by decide +kernel
theorem d_Shops_bestPlaces_53 : decode Y_Shops_bestPlaces.2.1 53 = .ok (.invokestatic 31, 3) := by decide +kernel
theorem d_Shops_bestPlaces_56 : decode Y_Shops_bestPlaces.2.1 56 = .ok (.if_icmp .ge 9, 3) := by decide +kernel
theorem d_Shops_bestPlaces_59 : decode Y_Shops_bestPlaces.2.1 59 = .ok (.iload 4, 2) := by decide +kernel
theorem d_Shops_bestPlaces_61 : decode Y_Shops_bestPlaces.2.1 61 = .ok (.istore_n 2, 1) := by decide +kernel
theorem d_Shops_bestPlaces_62 : decode Y_Shops_bestPlaces.2.1 62 = .ok (.iload 5, 2) := by decide +kernel
theorem d_Shops_bestPlaces_64 : decode Y_Shops_bestPlaces.2.1 64 = .ok (.istore_n 3, 1) := by decide +kernel
theorem d_Shops_bestPlaces_65 : decode Y_Shops_bestPlaces.2.1 65 = .ok (.iinc 4 1, 3) := by decide +kernel
theorem d_Shops_bestPlaces_68 : decode Y_Shops_bestPlaces.2.1 68 = .ok (.goto (-61), 3) := by decide +kernel
theorem d_Shops_bestPlaces_71 : decode Y_Shops_bestPlaces.2.1 71 = .ok (.iload_n 2, 1) := by decide +kernel
theorem d_Shops_bestPlaces_72 : decode Y_Shops_bestPlaces.2.1 72 = .ok (.ireturn, 1) := by decide +kernel
def f_Shops_bestPlaces (h : PH) (a0 : Option Nat) (a1 : Int32) : Option Int32 := (pj_it (X := Int32) (fun s1 : Int32 × Int32 × Int32 => (gI h 9 a0 0).bind fun v3 => if ((1 : Int32) <<< (v3 &&& 31)) ≤ s1.2.2 then (some (.inr s1.1)) else ((f_Integer_bitCount h s1.2.2).bind fun v4 => if a1 < v4 then (some (.inl (s1.1, s1.2.1, (s1.2.2 + (1 : Int32))))) else ((cl h 9 a0 (f_Shops_caughtFrom h a0 s1.2.2)).bind fun v5 => if s1.2.1 < v5 then (some (.inl (s1.2.2, v5, (s1.2.2 + (1 : Int32))))) else (if ¬ v5 = s1.2.1 then (some (.inl (s1.1, s1.2.1, (s1.2.2 + (1 : Int32))))) else ((f_Integer_bitCount h s1.2.2).bind fun v6 => (f_Integer_bitCount h s1.1).bind fun v7 => if v7 ≤ v6 then (some (.inl (s1.1, s1.2.1, (s1.2.2 + (1 : Int32))))) else (some (.inl (s1.2.2, v5, (s1.2.2 + (1 : Int32)))))))))) FU ((0 : Int32), (0 : Int32), (1 : Int32))).bind fun x2 => some x2
set_option maxRecDepth 20000 in
theorem PM_Shops_bestPlaces {l : Launch} {G : Cx} {h : PH} {a0 : Option Nat} {a1 : Int32} {z : Int32} (hz : f_Shops_bestPlaces h a0 a1 = some z) : PM l G 2 0 0 Y_Shops_bestPlaces [.inr (.inr a0), .inl a1] h (some (.inl z), h) := by
  refine PM.of (Y := Y_Shops_bestPlaces) (cv := (fun z : Int32 => (((some (.inl z), h) : Option PV × PH)))) (by decide) (L0 := [some (.inr (.inr a0)), some (.inl a1), none, none, none, none]) 4 rfl (Nat.le_of_ble_eq_true rfl) ?_ hz
  unfold f_Shops_bestPlaces
  refine PJ.iconst (pc := 0) (v := 0) d_Shops_bestPlaces_0 (by decide) ?_
  refine PJ.istore_n (pc := 1) (L1 := [some (.inr (.inr a0)), some (.inl a1), some (.inl (0 : Int32)), none, none, none]) d_Shops_bestPlaces_1 (Nat.le_of_ble_eq_true rfl) rfl rfl ?_
  refine PJ.iconst (pc := 2) (v := 0) d_Shops_bestPlaces_2 (by decide) ?_
  refine PJ.istore_n (pc := 3) (L1 := [some (.inr (.inr a0)), some (.inl a1), some (.inl (0 : Int32)), some (.inl (0 : Int32)), none, none]) d_Shops_bestPlaces_3 (Nat.le_of_ble_eq_true rfl) rfl rfl ?_
  refine PJ.iconst (pc := 4) (v := 1) d_Shops_bestPlaces_4 (by decide) ?_
  refine PJ.istore (pc := 5) (L1 := [some (.inr (.inr a0)), some (.inl a1), some (.inl (0 : Int32)), some (.inl (0 : Int32)), some (.inl (1 : Int32)), none]) d_Shops_bestPlaces_5 (Nat.le_of_ble_eq_true rfl) rfl rfl ?_
  refine PJ.bind (fun x2 : Int32 => ((71 : Nat), ([none, none, some (.inl x2), none, none, none] : List (Option PV)), ([] : List PV), (h : PH), (0 : Nat), (0 : Nat))) (PJ.it (E := (fun s1 : Int32 × Int32 × Int32 => ((7 : Nat), ([some (.inr (.inr a0)), some (.inl a1), some (.inl s1.1), some (.inl s1.2.1), some (.inl s1.2.2), none] : List (Option PV)), ([] : List PV), (h : PH), (0 : Nat), (0 : Nat)))) (F := (fun x2 : Int32 => ((71 : Nat), ([none, none, some (.inl x2), none, none, none] : List (Option PV)), ([] : List PV), (h : PH), (0 : Nat), (0 : Nat)))) (fun s1 => ?_) FU ((0 : Int32), (0 : Int32), (1 : Int32))) (fun x2 => ?_)
  · show PJ l G (pj_rm 2 0 0) Y_Shops_bestPlaces 7 [some (.inr (.inr a0)), some (.inl a1), some (.inl s1.1), some (.inl s1.2.1), some (.inl s1.2.2), none] [] h 0 0 _ _
    refine PJ.iload (pc := 7) d_Shops_bestPlaces_7 rfl ?_
    refine PJ.iconst (pc := 9) (v := 1) d_Shops_bestPlaces_9 (by decide) ?_
    refine PJ.aload_n (pc := 10) d_Shops_bestPlaces_10 rfl ?_
    refine PJ.getI (pc := 11) fs_Shops_9 d_Shops_bestPlaces_11 (fun v3 => ?_)
    refine PJ.ishl (pc := 14) d_Shops_bestPlaces_14 ?_
    refine PJ.icmp_ge (pc := 15) (tgt := 71) d_Shops_bestPlaces_15 (by decide) (fun _ => ?_) (fun _ => ?_)
    · refine PJ.mk (L1 := [none, none, some (.inl s1.1), none, none, none]) [false, false, true, false, false, false] rfl ?_
      exact PJ.done rfl
    · refine PJ.iload (pc := 18) d_Shops_bestPlaces_18 rfl ?_
      refine PJ.cSpI (pc := 20) cs_Shops_31 (fun z hz => PM_Integer_bitCount hz) (pj_fitb rfl) rfl rfl (Nat.le_of_ble_eq_true rfl) d_Shops_bestPlaces_20 (fun v4 => ?_)
      refine PJ.iload_n (pc := 23) d_Shops_bestPlaces_23 rfl ?_
      refine PJ.icmp_gt (pc := 24) (tgt := 65) d_Shops_bestPlaces_24 (by decide) (fun _ => ?_) (fun _ => ?_)
      · refine PJ.iinc (pc := 65) (v := 1) (L1 := [some (.inr (.inr a0)), some (.inl a1), some (.inl s1.1), some (.inl s1.2.1), some (.inl (s1.2.2 + (1 : Int32))), none]) d_Shops_bestPlaces_65 rfl (by decide) (Nat.le_of_ble_eq_true rfl) rfl rfl ?_
        refine PJ.goto (pc := 68) (tgt := 7) d_Shops_bestPlaces_68 (by decide) ?_
        exact PJ.done rfl
      · refine PJ.aload_n (pc := 27) d_Shops_bestPlaces_27 rfl ?_
        refine PJ.iload (pc := 28) d_Shops_bestPlaces_28 rfl ?_
        refine PJ.cVpI (pc := 30) cs_Shops_37 (fun z hz => PM_Shops_caughtFrom hz) (pj_fitb rfl) rfl rfl (Nat.le_of_ble_eq_true rfl) d_Shops_bestPlaces_30 (fun v5 => ?_)
        refine PJ.istore (pc := 33) (L1 := [some (.inr (.inr a0)), some (.inl a1), some (.inl s1.1), some (.inl s1.2.1), some (.inl s1.2.2), some (.inl v5)]) d_Shops_bestPlaces_33 (Nat.le_of_ble_eq_true rfl) rfl rfl ?_
        refine PJ.iload (pc := 35) d_Shops_bestPlaces_35 rfl ?_
        refine PJ.iload_n (pc := 37) d_Shops_bestPlaces_37 rfl ?_
        refine PJ.icmp_gt (pc := 38) (tgt := 59) d_Shops_bestPlaces_38 (by decide) (fun _ => ?_) (fun _ => ?_)
        · refine PJ.iload (pc := 59) d_Shops_bestPlaces_59 rfl ?_
          refine PJ.istore_n (pc := 61) (L1 := [some (.inr (.inr a0)), some (.inl a1), some (.inl s1.2.2), some (.inl s1.2.1), some (.inl s1.2.2), some (.inl v5)]) d_Shops_bestPlaces_61 (Nat.le_of_ble_eq_true rfl) rfl rfl ?_
          refine PJ.iload (pc := 62) d_Shops_bestPlaces_62 rfl ?_
          refine PJ.istore_n (pc := 64) (L1 := [some (.inr (.inr a0)), some (.inl a1), some (.inl s1.2.2), some (.inl v5), some (.inl s1.2.2), some (.inl v5)]) d_Shops_bestPlaces_64 (Nat.le_of_ble_eq_true rfl) rfl rfl ?_
          refine PJ.iinc (pc := 65) (v := 1) (L1 := [some (.inr (.inr a0)), some (.inl a1), some (.inl s1.2.2), some (.inl v5), some (.inl (s1.2.2 + (1 : Int32))), some (.inl v5)]) d_Shops_bestPlaces_65 rfl (by decide) (Nat.le_of_ble_eq_true rfl) rfl rfl ?_
          refine PJ.goto (pc := 68) (tgt := 7) d_Shops_bestPlaces_68 (by decide) ?_
          refine PJ.mk (L1 := [some (.inr (.inr a0)), some (.inl a1), some (.inl s1.2.2), some (.inl v5), some (.inl (s1.2.2 + (1 : Int32))), none]) [true, true, true, true, true, false] rfl ?_
          exact PJ.done rfl
        · refine PJ.iload (pc := 41) d_Shops_bestPlaces_41 rfl ?_
          refine PJ.iload_n (pc := 43) d_Shops_bestPlaces_43 rfl ?_
          refine PJ.icmp_ne (pc := 44) (tgt := 65) d_Shops_bestPlaces_44 (by decide) (fun _ => ?_) (fun _ => ?_)
          · refine PJ.iinc (pc := 65) (v := 1) (L1 := [some (.inr (.inr a0)), some (.inl a1), some (.inl s1.1), some (.inl s1.2.1), some (.inl (s1.2.2 + (1 : Int32))), some (.inl v5)]) d_Shops_bestPlaces_65 rfl (by decide) (Nat.le_of_ble_eq_true rfl) rfl rfl ?_
            refine PJ.goto (pc := 68) (tgt := 7) d_Shops_bestPlaces_68 (by decide) ?_
            refine PJ.mk (L1 := [some (.inr (.inr a0)), some (.inl a1), some (.inl s1.1), some (.inl s1.2.1), some (.inl (s1.2.2 + (1 : Int32))), none]) [true, true, true, true, true, false] rfl ?_
            exact PJ.done rfl
          · refine PJ.iload (pc := 47) d_Shops_bestPlaces_47 rfl ?_
            refine PJ.cSpI (pc := 49) cs_Shops_31 (fun z hz => PM_Integer_bitCount hz) (pj_fitb rfl) rfl rfl (Nat.le_of_ble_eq_true rfl) d_Shops_bestPlaces_49 (fun v6 => ?_)
            refine PJ.iload_n (pc := 52) d_Shops_bestPlaces_52 rfl ?_
            refine PJ.cSpI (pc := 53) cs_Shops_31 (fun z hz => PM_Integer_bitCount hz) (pj_fitb rfl) rfl rfl (Nat.le_of_ble_eq_true rfl) d_Shops_bestPlaces_53 (fun v7 => ?_)
            refine PJ.icmp_ge (pc := 56) (tgt := 65) d_Shops_bestPlaces_56 (by decide) (fun _ => ?_) (fun _ => ?_)
            · refine PJ.iinc (pc := 65) (v := 1) (L1 := [some (.inr (.inr a0)), some (.inl a1), some (.inl s1.1), some (.inl s1.2.1), some (.inl (s1.2.2 + (1 : Int32))), some (.inl v5)]) d_Shops_bestPlaces_65 rfl (by decide) (Nat.le_of_ble_eq_true rfl) rfl rfl ?_
              refine PJ.goto (pc := 68) (tgt := 7) d_Shops_bestPlaces_68 (by decide) ?_
              refine PJ.mk (L1 := [some (.inr (.inr a0)), some (.inl a1), some (.inl s1.1), some (.inl s1.2.1), some (.inl (s1.2.2 + (1 : Int32))), none]) [true, true, true, true, true, false] rfl ?_
              exact PJ.done rfl
            · refine PJ.iload (pc := 59) d_Shops_bestPlaces_59 rfl ?_
              refine PJ.istore_n (pc := 61) (L1 := [some (.inr (.inr a0)), some (.inl a1), some (.inl s1.2.2), some (.inl s1.2.1), some (.inl s1.2.2), some (.inl v5)]) d_Shops_bestPlaces_61 (Nat.le_of_ble_eq_true rfl) rfl rfl ?_
              refine PJ.iload (pc := 62) d_Shops_bestPlaces_62 rfl ?_
              refine PJ.istore_n (pc := 64) (L1 := [some (.inr (.inr a0)), some (.inl a1), some (.inl s1.2.2), some (.inl v5), some (.inl s1.2.2), some (.inl v5)]) d_Shops_bestPlaces_64 (Nat.le_of_ble_eq_true rfl) rfl rfl ?_
              refine PJ.iinc (pc := 65) (v := 1) (L1 := [some (.inr (.inr a0)), some (.inl a1), some (.inl s1.2.2), some (.inl v5), some (.inl (s1.2.2 + (1 : Int32))), some (.inl v5)]) d_Shops_bestPlaces_65 rfl (by decide) (Nat.le_of_ble_eq_true rfl) rfl rfl ?_
              refine PJ.goto (pc := 68) (tgt := 7) d_Shops_bestPlaces_68 (by decide) ?_
              refine PJ.mk (L1 := [some (.inr (.inr a0)), some (.inl a1), some (.inl s1.2.2), some (.inl v5), some (.inl (s1.2.2 + (1 : Int32))), none]) [true, true, true, true, true, false] rfl ?_
              exact PJ.done rfl
  · show PJ l G (pj_rm 2 0 0) Y_Shops_bestPlaces 71 [none, none, some (.inl x2), none, none, none] [] h 0 0 _ _
    refine PJ.iload_n (pc := 71) d_Shops_bestPlaces_71 rfl ?_
    exact PJ.iretp (pc := 72) d_Shops_bestPlaces_72 rfl (Nat.le_of_ble_eq_true rfl) (Nat.le_of_ble_eq_true rfl)
theorem d_T_caught_0 : decode Y_T_caught.2.1 0 = .ok (.aload_n 0, 1) := by decide +kernel
theorem d_T_caught_1 : decode Y_T_caught.2.1 1 = .ok (.iload_n 1, 1) := by decide +kernel
theorem d_T_caught_2 : decode Y_T_caught.2.1 2 = .ok (.iconst 0, 1) := by decide +kernel
theorem d_T_caught_3 : decode Y_T_caught.2.1 3 = .ok (.bipush 6, 2) := by decide +kernel
theorem d_T_caught_5 : decode Y_T_caught.2.1 5 = .ok (.invokevirtual 241, 3) := by decide +kernel
theorem d_T_caught_8 : decode Y_T_caught.2.1 8 = .ok (.istore_n 2, 1) := by decide +kernel
theorem d_T_caught_9 : decode Y_T_caught.2.1 9 = .ok (.iload_n 2, 1) := by decide +kernel
theorem d_T_caught_10 : decode Y_T_caught.2.1 10 = .ok (.ifCond .eq 9, 3) := by decide +kernel
theorem d_T_caught_13 : decode Y_T_caught.2.1 13 = .ok (.aload_n 0, 1) := by decide +kernel
theorem d_T_caught_14 : decode Y_T_caught.2.1 14 = .ok (.iload_n 2, 1) := by decide +kernel
theorem d_T_caught_15 : decode Y_T_caught.2.1 15 = .ok (.invokevirtual 95, 3) := by decide +kernel
theorem d_T_caught_18 : decode Y_T_caught.2.1 18 = .ok (.ireturn, 1) := by decide +kernel
theorem d_T_caught_19 : decode Y_T_caught.2.1 19 = .ok (.aload_n 0, 1) := by decide +kernel
theorem d_T_caught_20 : decode Y_T_caught.2.1 20 = .ok (.aload_n 0, 1) := by decide +kernel
theorem d_T_caught_21 : decode Y_T_caught.2.1 21 = .ok (.getfield 20, 3) := by decide +kernel
theorem d_T_caught_24 : decode Y_T_caught.2.1 24 = .ok (.getfield 300, 3) := by decide +kernel
theorem d_T_caught_27 : decode Y_T_caught.2.1 27 = .ok (.aload_n 0, 1) := by decide +kernel
theorem d_T_caught_28 : decode Y_T_caught.2.1 28 = .ok (.getfield 20, 3) := by decide +kernel
theorem d_T_caught_31 : decode Y_T_caught.2.1 31 = .ok (.getfield 300, 3) := by decide +kernel
theorem d_T_caught_34 : decode Y_T_caught.2.1 34 = .ok (.iload_n 1, 1) := by decide +kernel
theorem d_T_caught_35 : decode Y_T_caught.2.1 35 = .ok (.invokevirtual 304, 3) := by decide +kernel
theorem d_T_caught_38 : decode Y_T_caught.2.1 38 = .ok (.invokevirtual 309, 3) := by decide +kernel
theorem d_T_caught_41 : decode Y_T_caught.2.1 41 = .ok (.invokevirtual 114, 3) := by decide +kernel
theorem d_T_caught_44 : decode Y_T_caught.2.1 44 = .ok (.ireturn, 1) := by decide +kernel
def f_T_caught (h : PH) (a0 : Option Nat) (a1 : Int32) : Option (Int32 × PH) := (cl h 10 a0 (f_T_boundsTrouble h a0 a1 (0 : Int32) (6 : Int32))).bind fun v1 => if v1 = 0 then ((gR h 10 a0 2).bind fun v2 => (gR h 1 v2 12).bind fun v3 => (gR h 10 a0 2).bind fun v4 => (gR h 1 v4 12).bind fun v5 => (cl h 9 v5 (f_Shops_bestPlaces h v5 a1)).bind fun v6 => (cl h 9 v3 (f_Shops_caughtFrom h v3 v6)).bind fun v7 => (cl h 10 a0 (f_T_fine h a0 v7)).bind fun v8 => some (v8.1, v8.2)) else ((cl h 10 a0 (f_T_refuse h a0 v1)).bind fun v9 => some (v9.1, v9.2))
set_option maxRecDepth 20000 in
theorem PM_T_caught {l : Launch} {G : Cx} {h : PH} {a0 : Option Nat} {a1 : Int32} {z : (Int32 × PH)} (hz : f_T_caught h a0 a1 = some z) : PM l G 3 0 0 Y_T_caught [.inr (.inr a0), .inl a1] h (some (.inl z.1), z.2) := by
  refine PM.of (Y := Y_T_caught) (cv := (fun z : (Int32 × PH) => (((some (.inl z.1), z.2) : Option PV × PH)))) (by decide) (L0 := [some (.inr (.inr a0)), some (.inl a1), none]) 1 rfl (Nat.le_of_ble_eq_true rfl) ?_ hz
  unfold f_T_caught
  refine PJ.aload_n (pc := 0) d_T_caught_0 rfl ?_
  refine PJ.iload_n (pc := 1) d_T_caught_1 rfl ?_
  refine PJ.iconst (pc := 2) (v := 0) d_T_caught_2 (by decide) ?_
  refine PJ.bipush (pc := 3) (v := 6) d_T_caught_3 (by decide) ?_
  refine PJ.cVpI (pc := 5) cs_T_241 (fun z hz => PM_T_boundsTrouble hz) (pj_fitb rfl) rfl rfl (Nat.le_of_ble_eq_true rfl) d_T_caught_5 (fun v1 => ?_)
  refine PJ.istore_n (pc := 8) (L1 := [some (.inr (.inr a0)), some (.inl a1), some (.inl v1)]) d_T_caught_8 (Nat.le_of_ble_eq_true rfl) rfl rfl ?_
  refine PJ.iload_n (pc := 9) d_T_caught_9 rfl ?_
  refine PJ.if_eq (pc := 10) (tgt := 19) d_T_caught_10 (by decide) (fun _ => ?_) (fun _ => ?_)
  · refine PJ.aload_n (pc := 19) d_T_caught_19 rfl ?_
    refine PJ.aload_n (pc := 20) d_T_caught_20 rfl ?_
    refine PJ.getR (pc := 21) fs_T_20 d_T_caught_21 (fun v2 => ?_)
    refine PJ.getR (pc := 24) fs_T_300 d_T_caught_24 (fun v3 => ?_)
    refine PJ.aload_n (pc := 27) d_T_caught_27 rfl ?_
    refine PJ.getR (pc := 28) fs_T_20 d_T_caught_28 (fun v4 => ?_)
    refine PJ.getR (pc := 31) fs_T_300 d_T_caught_31 (fun v5 => ?_)
    refine PJ.iload_n (pc := 34) d_T_caught_34 rfl ?_
    refine PJ.cVpI (pc := 35) cs_T_304 (fun z hz => PM_Shops_bestPlaces hz) (pj_fitb rfl) rfl rfl (Nat.le_of_ble_eq_true rfl) d_T_caught_35 (fun v6 => ?_)
    refine PJ.cVpI (pc := 38) cs_T_309 (fun z hz => PM_Shops_caughtFrom hz) (pj_fitb rfl) rfl rfl (Nat.le_of_ble_eq_true rfl) d_T_caught_38 (fun v7 => ?_)
    refine PJ.cVI (pc := 41) cs_T_114 (fun z hz => PM_T_fine hz) (pj_fitb rfl) rfl rfl (Nat.le_of_ble_eq_true rfl) d_T_caught_41 (fun v8 => ?_)
    exact PJ.iret (pc := 44) d_T_caught_44 rfl (Nat.le_of_ble_eq_true rfl) (Nat.le_of_ble_eq_true rfl)
  · refine PJ.aload_n (pc := 13) d_T_caught_13 rfl ?_
    refine PJ.iload_n (pc := 14) d_T_caught_14 rfl ?_
    refine PJ.cVI (pc := 15) cs_T_95 (fun z hz => PM_T_refuse hz) (pj_fitb rfl) rfl rfl (Nat.le_of_ble_eq_true rfl) d_T_caught_15 (fun v9 => ?_)
    exact PJ.iret (pc := 18) d_T_caught_18 rfl (Nat.le_of_ble_eq_true rfl) (Nat.le_of_ble_eq_true rfl)
theorem d_T_places_0 : decode Y_T_places.2.1 0 = .ok (.aload_n 0, 1) := by decide +kernel
theorem d_T_places_1 : decode Y_T_places.2.1 1 = .ok (.iload_n 1, 1) := by decide +kernel
theorem d_T_places_2 : decode Y_T_places.2.1 2 = .ok (.iconst 0, 1) := by decide +kernel
theorem d_T_places_3 : decode Y_T_places.2.1 3 = .ok (.bipush 6, 2) := by decide +kernel
theorem d_T_places_5 : decode Y_T_places.2.1 5 = .ok (.invokevirtual 241, 3) := by decide +kernel
theorem d_T_places_8 : decode Y_T_places.2.1 8 = .ok (.istore_n 2, 1) := by decide +kernel
theorem d_T_places_9 : decode Y_T_places.2.1 9 = .ok (.iload_n 2, 1) := by decide +kernel
theorem d_T_places_10 : decode Y_T_places.2.1 10 = .ok (.ifCond .ne 21, 3) := by decide +kernel
theorem d_T_places_13 : decode Y_T_places.2.1 13 = .ok (.aload_n 0, 1) := by decide +kernel
theorem d_T_places_14 : decode Y_T_places.2.1 14 = .ok (.aload_n 0, 1) := by decide +kernel
theorem d_T_places_15 : decode Y_T_places.2.1 15 = .ok (.getfield 20, 3) := by decide +kernel
theorem d_T_places_18 : decode Y_T_places.2.1 18 = .ok (.getfield 300, 3) := by decide +kernel
theorem d_T_places_21 : decode Y_T_places.2.1 21 = .ok (.iload_n 1, 1) := by decide +kernel
theorem d_T_places_22 : decode Y_T_places.2.1 22 = .ok (.invokevirtual 304, 3) := by decide +kernel
theorem d_T_places_25 : decode Y_T_places.2.1 25 = .ok (.invokevirtual 114, 3) := by decide +kernel
theorem d_T_places_28 : decode Y_T_places.2.1 28 = .ok (.goto 8, 3) := by decide +kernel
theorem d_T_places_31 : decode Y_T_places.2.1 31 = .ok (.aload_n 0, 1) := by decide +kernel
theorem d_T_places_32 : decode Y_T_places.2.1 32 = .ok (.iload_n 2, 1) := by decide +kernel
theorem d_T_places_33 : decode Y_T_places.2.1 33 = .ok (.invokevirtual 95, 3) := by decide +kernel
theorem d_T_places_36 : decode Y_T_places.2.1 36 = .ok (.ireturn, 1) := by decide +kernel
def f_T_places (h : PH) (a0 : Option Nat) (a1 : Int32) : Option (Int32 × PH) := (cl h 10 a0 (f_T_boundsTrouble h a0 a1 (0 : Int32) (6 : Int32))).bind fun v1 => if ¬ v1 = 0 then ((cl h 10 a0 (f_T_refuse h a0 v1)).bind fun v2 => some (v2.1, v2.2)) else ((gR h 10 a0 2).bind fun v3 => (gR h 1 v3 12).bind fun v4 => (cl h 9 v4 (f_Shops_bestPlaces h v4 a1)).bind fun v5 => (cl h 10 a0 (f_T_fine h a0 v5)).bind fun v6 => some (v6.1, v6.2))
set_option maxRecDepth 20000 in
theorem PM_T_places {l : Launch} {G : Cx} {h : PH} {a0 : Option Nat} {a1 : Int32} {z : (Int32 × PH)} (hz : f_T_places h a0 a1 = some z) : PM l G 3 0 0 Y_T_places [.inr (.inr a0), .inl a1] h (some (.inl z.1), z.2) := by
  refine PM.of (Y := Y_T_places) (cv := (fun z : (Int32 × PH) => (((some (.inl z.1), z.2) : Option PV × PH)))) (by decide) (L0 := [some (.inr (.inr a0)), some (.inl a1), none]) 1 rfl (Nat.le_of_ble_eq_true rfl) ?_ hz
  unfold f_T_places
  refine PJ.aload_n (pc := 0) d_T_places_0 rfl ?_
  refine PJ.iload_n (pc := 1) d_T_places_1 rfl ?_
  refine PJ.iconst (pc := 2) (v := 0) d_T_places_2 (by decide) ?_
  refine PJ.bipush (pc := 3) (v := 6) d_T_places_3 (by decide) ?_
  refine PJ.cVpI (pc := 5) cs_T_241 (fun z hz => PM_T_boundsTrouble hz) (pj_fitb rfl) rfl rfl (Nat.le_of_ble_eq_true rfl) d_T_places_5 (fun v1 => ?_)
  refine PJ.istore_n (pc := 8) (L1 := [some (.inr (.inr a0)), some (.inl a1), some (.inl v1)]) d_T_places_8 (Nat.le_of_ble_eq_true rfl) rfl rfl ?_
  refine PJ.iload_n (pc := 9) d_T_places_9 rfl ?_
  refine PJ.if_ne (pc := 10) (tgt := 31) d_T_places_10 (by decide) (fun _ => ?_) (fun _ => ?_)
  · refine PJ.aload_n (pc := 31) d_T_places_31 rfl ?_
    refine PJ.iload_n (pc := 32) d_T_places_32 rfl ?_
    refine PJ.cVI (pc := 33) cs_T_95 (fun z hz => PM_T_refuse hz) (pj_fitb rfl) rfl rfl (Nat.le_of_ble_eq_true rfl) d_T_places_33 (fun v2 => ?_)
    exact PJ.iret (pc := 36) d_T_places_36 rfl (Nat.le_of_ble_eq_true rfl) (Nat.le_of_ble_eq_true rfl)
  · refine PJ.aload_n (pc := 13) d_T_places_13 rfl ?_
    refine PJ.aload_n (pc := 14) d_T_places_14 rfl ?_
    refine PJ.getR (pc := 15) fs_T_20 d_T_places_15 (fun v3 => ?_)
    refine PJ.getR (pc := 18) fs_T_300 d_T_places_18 (fun v4 => ?_)
    refine PJ.iload_n (pc := 21) d_T_places_21 rfl ?_
    refine PJ.cVpI (pc := 22) cs_T_304 (fun z hz => PM_Shops_bestPlaces hz) (pj_fitb rfl) rfl rfl (Nat.le_of_ble_eq_true rfl) d_T_places_22 (fun v5 => ?_)
    refine PJ.cVI (pc := 25) cs_T_114 (fun z hz => PM_T_fine hz) (pj_fitb rfl) rfl rfl (Nat.le_of_ble_eq_true rfl) d_T_places_25 (fun v6 => ?_)
    refine PJ.goto (pc := 28) (tgt := 36) d_T_places_28 (by decide) ?_
    exact PJ.iret (pc := 36) d_T_places_36 rfl (Nat.le_of_ble_eq_true rfl) (Nat.le_of_ble_eq_true rfl)
theorem d_Shops_fewest_0 : decode Y_Shops_fewest.2.1 0 = .ok (.aload_n 0, 1) := by decide +kernel
theorem d_Shops_fewest_1 : decode Y_Shops_fewest.2.1 1 = .ok (.aload_n 0, 1) := by decide +kernel
theorem d_Shops_fewest_2 : decode Y_Shops_fewest.2.1 2 = .ok (.getfield 9, 3) := by decide +kernel
theorem d_Shops_fewest_5 : decode Y_Shops_fewest.2.1 5 = .ok (.invokevirtual 40, 3) := by decide +kernel
theorem d_Shops_fewest_8 : decode Y_Shops_fewest.2.1 8 = .ok (.invokestatic 31, 3) := by decide +kernel
theorem d_Shops_fewest_11 : decode Y_Shops_fewest.2.1 11 = .ok (.ireturn, 1) := by decide +kernel
def f_Shops_fewest (h : PH) (a0 : Option Nat) : Option Int32 := (gI h 9 a0 0).bind fun v1 => (cl h 9 a0 (f_Shops_bestPlaces h a0 v1)).bind fun v2 => (f_Integer_bitCount h v2).bind fun v3 => some v3
set_option maxRecDepth 20000 in
theorem PM_Shops_fewest {l : Launch} {G : Cx} {h : PH} {a0 : Option Nat} {z : Int32} (hz : f_Shops_fewest h a0 = some z) : PM l G 3 0 0 Y_Shops_fewest [.inr (.inr a0)] h (some (.inl z), h) := by
  refine PM.of (Y := Y_Shops_fewest) (cv := (fun z : Int32 => (((some (.inl z), h) : Option PV × PH)))) (by decide) (L0 := [some (.inr (.inr a0))]) 0 rfl (Nat.le_of_ble_eq_true rfl) ?_ hz
  unfold f_Shops_fewest
  refine PJ.aload_n (pc := 0) d_Shops_fewest_0 rfl ?_
  refine PJ.aload_n (pc := 1) d_Shops_fewest_1 rfl ?_
  refine PJ.getI (pc := 2) fs_Shops_9 d_Shops_fewest_2 (fun v1 => ?_)
  refine PJ.cVpI (pc := 5) cs_Shops_40 (fun z hz => PM_Shops_bestPlaces hz) (pj_fitb rfl) rfl rfl (Nat.le_of_ble_eq_true rfl) d_Shops_fewest_5 (fun v2 => ?_)
  refine PJ.cSpI (pc := 8) cs_Shops_31 (fun z hz => PM_Integer_bitCount hz) (pj_fitb rfl) rfl rfl (Nat.le_of_ble_eq_true rfl) d_Shops_fewest_8 (fun v3 => ?_)
  exact PJ.iretp (pc := 11) d_Shops_fewest_11 rfl (Nat.le_of_ble_eq_true rfl) (Nat.le_of_ble_eq_true rfl)
theorem d_T_enough_0 : decode Y_T_enough.2.1 0 = .ok (.aload_n 0, 1) := by decide +kernel
theorem d_T_enough_1 : decode Y_T_enough.2.1 1 = .ok (.getfield 36, 3) := by decide +kernel
theorem d_T_enough_4 : decode Y_T_enough.2.1 4 = .ok (.ifCond .eq 20, 3) := by decide +kernel
theorem d_T_enough_7 : decode Y_T_enough.2.1 7 = .ok (.aload_n 0, 1) := by decide +kernel
theorem d_T_enough_8 : decode Y_T_enough.2.1 8 = .ok (.aload_n 0, 1) := by decide +kernel
theorem d_T_enough_9 : decode Y_T_enough.2.1 9 = .ok (.getfield 20, 3) := by decide +kernel
theorem d_T_enough_12 : decode Y_T_enough.2.1 12 = .ok (.getfield 300, 3) := by decide +kernel
theorem d_T_enough_15 : decode Y_T_enough.2.1 15 = .ok (.invokevirtual 312, 3) := by decide +kernel
theorem d_T_enough_18 : decode Y_T_enough.2.1 18 = .ok (.invokevirtual 114, 3) := by decide +kernel
theorem d_T_enough_21 : decode Y_T_enough.2.1 21 = .ok (.goto 8, 3) := by decide +kernel
theorem d_T_enough_24 : decode Y_T_enough.2.1 24 = .ok (.aload_n 0, 1) := by decide +kernel
theorem d_T_enough_25 : decode Y_T_enough.2.1 25 = .ok (.iconst 1, 1) := by decide +kernel
theorem d_T_enough_26 : decode Y_T_enough.2.1 26 = .ok (.invokevirtual 95, 3) := by decide +kernel
theorem d_T_enough_29 : decode Y_T_enough.2.1 29 = .ok (.ireturn, 1) := by decide +kernel
def f_T_enough (h : PH) (a0 : Option Nat) : Option (Int32 × PH) := (gI h 10 a0 5).bind fun v1 => if v1 = 0 then ((cl h 10 a0 (f_T_refuse h a0 (1 : Int32))).bind fun v2 => some (v2.1, v2.2)) else ((gR h 10 a0 2).bind fun v3 => (gR h 1 v3 12).bind fun v4 => (cl h 9 v4 (f_Shops_fewest h v4)).bind fun v5 => (cl h 10 a0 (f_T_fine h a0 v5)).bind fun v6 => some (v6.1, v6.2))
set_option maxRecDepth 20000 in
theorem PM_T_enough {l : Launch} {G : Cx} {h : PH} {a0 : Option Nat} {z : (Int32 × PH)} (hz : f_T_enough h a0 = some z) : PM l G 4 0 0 Y_T_enough [.inr (.inr a0)] h (some (.inl z.1), z.2) := by
  refine PM.of (Y := Y_T_enough) (cv := (fun z : (Int32 × PH) => (((some (.inl z.1), z.2) : Option PV × PH)))) (by decide) (L0 := [some (.inr (.inr a0))]) 0 rfl (Nat.le_of_ble_eq_true rfl) ?_ hz
  unfold f_T_enough
  refine PJ.aload_n (pc := 0) d_T_enough_0 rfl ?_
  refine PJ.getI (pc := 1) fs_T_36 d_T_enough_1 (fun v1 => ?_)
  refine PJ.if_eq (pc := 4) (tgt := 24) d_T_enough_4 (by decide) (fun _ => ?_) (fun _ => ?_)
  · refine PJ.aload_n (pc := 24) d_T_enough_24 rfl ?_
    refine PJ.iconst (pc := 25) (v := 1) d_T_enough_25 (by decide) ?_
    refine PJ.cVI (pc := 26) cs_T_95 (fun z hz => PM_T_refuse hz) (pj_fitb rfl) rfl rfl (Nat.le_of_ble_eq_true rfl) d_T_enough_26 (fun v2 => ?_)
    exact PJ.iret (pc := 29) d_T_enough_29 rfl (Nat.le_of_ble_eq_true rfl) (Nat.le_of_ble_eq_true rfl)
  · refine PJ.aload_n (pc := 7) d_T_enough_7 rfl ?_
    refine PJ.aload_n (pc := 8) d_T_enough_8 rfl ?_
    refine PJ.getR (pc := 9) fs_T_20 d_T_enough_9 (fun v3 => ?_)
    refine PJ.getR (pc := 12) fs_T_300 d_T_enough_12 (fun v4 => ?_)
    refine PJ.cVpI (pc := 15) cs_T_312 (fun z hz => PM_Shops_fewest hz) (pj_fitb rfl) rfl rfl (Nat.le_of_ble_eq_true rfl) d_T_enough_15 (fun v5 => ?_)
    refine PJ.cVI (pc := 18) cs_T_114 (fun z hz => PM_T_fine hz) (pj_fitb rfl) rfl rfl (Nat.le_of_ble_eq_true rfl) d_T_enough_18 (fun v6 => ?_)
    refine PJ.goto (pc := 21) (tgt := 29) d_T_enough_21 (by decide) ?_
    exact PJ.iret (pc := 29) d_T_enough_29 rfl (Nat.le_of_ble_eq_true rfl) (Nat.le_of_ble_eq_true rfl)
theorem d_T_catches_0 : decode Y_T_catches.2.1 0 = .ok (.iload_n 1, 1) := by decide +kernel
theorem d_T_catches_1 : decode Y_T_catches.2.1 1 = .ok (.ifCond .lt 24, 3) := by decide +kernel
theorem d_T_catches_4 : decode Y_T_catches.2.1 4 = .ok (.aload_n 0, 1) := by decide +kernel
theorem d_T_catches_5 : decode Y_T_catches.2.1 5 = .ok (.getfield 36, 3) := by decide +kernel
theorem d_T_catches_8 : decode Y_T_catches.2.1 8 = .ok (.ifCond .eq 17, 3) := by decide +kernel
theorem d_T_catches_11 : decode Y_T_catches.2.1 11 = .ok (.iload_n 1, 1) := by decide +kernel
theorem d_T_catches_12 : decode Y_T_catches.2.1 12 = .ok (.aload_n 0, 1) := by decide +kernel
theorem d_T_catches_13 : decode Y_T_catches.2.1 13 = .ok (.getfield 20, 3) := by decide +kernel
theorem d_T_catches_16 : decode Y_T_catches.2.1 16 = .ok (.getfield 300, 3) := by decide +kernel
theorem d_T_catches_19 : decode Y_T_catches.2.1 19 = .ok (.getfield 315, 3) := by decide +kernel
theorem d_T_catches_22 : decode Y_T_catches.2.1 22 = .ok (.if_icmp .lt 9, 3) := by decide +kernel
theorem d_T_catches_25 : decode Y_T_catches.2.1 25 = .ok (.aload_n 0, 1) := by decide +kernel
theorem d_T_catches_26 : decode Y_T_catches.2.1 26 = .ok (.iconst 1, 1) := by decide +kernel
theorem d_T_catches_27 : decode Y_T_catches.2.1 27 = .ok (.invokevirtual 95, 3) := by decide +kernel
theorem d_T_catches_30 : decode Y_T_catches.2.1 30 = .ok (.ireturn, 1) := by decide +kernel
theorem d_T_catches_31 : decode Y_T_catches.2.1 31 = .ok (.aload_n 0, 1) := by decide +kernel
theorem d_T_catches_32 : decode Y_T_catches.2.1 32 = .ok (.aload_n 0, 1) := by decide +kernel
theorem d_T_catches_33 : decode Y_T_catches.2.1 33 = .ok (.getfield 20, 3) := by decide +kernel
theorem d_T_catches_36 : decode Y_T_catches.2.1 36 = .ok (.getfield 300, 3) := by decide +kernel
theorem d_T_catches_39 : decode Y_T_catches.2.1 39 = .ok (.iconst 1, 1) := by decide +kernel
theorem d_T_catches_40 : decode Y_T_catches.2.1 40 = .ok (.iload_n 1, 1) := by decide +kernel
theorem d_T_catches_41 : decode Y_T_catches.2.1 41 = .ok (.ishl, 1) := by decide +kernel
theorem d_T_catches_42 : decode Y_T_catches.2.1 42 = .ok (.invokevirtual 309, 3) := by decide +kernel
theorem d_T_catches_45 : decode Y_T_catches.2.1 45 = .ok (.invokevirtual 114, 3) := by decide +kernel
theorem d_T_catches_48 : decode Y_T_catches.2.1 48 = .ok (.ireturn, 1) := by decide +kernel
def f_T_catches (h : PH) (a0 : Option Nat) (a1 : Int32) : Option (Int32 × PH) := if a1 < 0 then ((cl h 10 a0 (f_T_refuse h a0 (1 : Int32))).bind fun v1 => some (v1.1, v1.2)) else ((gI h 10 a0 5).bind fun v2 => if v2 = 0 then ((cl h 10 a0 (f_T_refuse h a0 (1 : Int32))).bind fun v3 => some (v3.1, v3.2)) else ((gR h 10 a0 2).bind fun v4 => (gR h 1 v4 12).bind fun v5 => (gI h 9 v5 0).bind fun v6 => if a1 < v6 then ((gR h 10 a0 2).bind fun v7 => (gR h 1 v7 12).bind fun v8 => (cl h 9 v8 (f_Shops_caughtFrom h v8 ((1 : Int32) <<< (a1 &&& 31)))).bind fun v9 => (cl h 10 a0 (f_T_fine h a0 v9)).bind fun v10 => some (v10.1, v10.2)) else ((cl h 10 a0 (f_T_refuse h a0 (1 : Int32))).bind fun v11 => some (v11.1, v11.2))))
set_option maxRecDepth 20000 in
theorem PM_T_catches {l : Launch} {G : Cx} {h : PH} {a0 : Option Nat} {a1 : Int32} {z : (Int32 × PH)} (hz : f_T_catches h a0 a1 = some z) : PM l G 2 0 0 Y_T_catches [.inr (.inr a0), .inl a1] h (some (.inl z.1), z.2) := by
  refine PM.of (Y := Y_T_catches) (cv := (fun z : (Int32 × PH) => (((some (.inl z.1), z.2) : Option PV × PH)))) (by decide) (L0 := [some (.inr (.inr a0)), some (.inl a1)]) 0 rfl (Nat.le_of_ble_eq_true rfl) ?_ hz
  unfold f_T_catches
  refine PJ.iload_n (pc := 0) d_T_catches_0 rfl ?_
  refine PJ.if_lt (pc := 1) (tgt := 25) d_T_catches_1 (by decide) (fun _ => ?_) (fun _ => ?_)
  · refine PJ.aload_n (pc := 25) d_T_catches_25 rfl ?_
    refine PJ.iconst (pc := 26) (v := 1) d_T_catches_26 (by decide) ?_
    refine PJ.cVI (pc := 27) cs_T_95 (fun z hz => PM_T_refuse hz) (pj_fitb rfl) rfl rfl (Nat.le_of_ble_eq_true rfl) d_T_catches_27 (fun v1 => ?_)
    exact PJ.iret (pc := 30) d_T_catches_30 rfl (Nat.le_of_ble_eq_true rfl) (Nat.le_of_ble_eq_true rfl)
  · refine PJ.aload_n (pc := 4) d_T_catches_4 rfl ?_
    refine PJ.getI (pc := 5) fs_T_36 d_T_catches_5 (fun v2 => ?_)
    refine PJ.if_eq (pc := 8) (tgt := 25) d_T_catches_8 (by decide) (fun _ => ?_) (fun _ => ?_)
    · refine PJ.aload_n (pc := 25) d_T_catches_25 rfl ?_
      refine PJ.iconst (pc := 26) (v := 1) d_T_catches_26 (by decide) ?_
      refine PJ.cVI (pc := 27) cs_T_95 (fun z hz => PM_T_refuse hz) (pj_fitb rfl) rfl rfl (Nat.le_of_ble_eq_true rfl) d_T_catches_27 (fun v3 => ?_)
      exact PJ.iret (pc := 30) d_T_catches_30 rfl (Nat.le_of_ble_eq_true rfl) (Nat.le_of_ble_eq_true rfl)
    · refine PJ.iload_n (pc := 11) d_T_catches_11 rfl ?_
      refine PJ.aload_n (pc := 12) d_T_catches_12 rfl ?_
      refine PJ.getR (pc := 13) fs_T_20 d_T_catches_13 (fun v4 => ?_)
      refine PJ.getR (pc := 16) fs_T_300 d_T_catches_16 (fun v5 => ?_)
      refine PJ.getI (pc := 19) fs_T_315 d_T_catches_19 (fun v6 => ?_)
      refine PJ.icmp_lt (pc := 22) (tgt := 31) d_T_catches_22 (by decide) (fun _ => ?_) (fun _ => ?_)
      · refine PJ.aload_n (pc := 31) d_T_catches_31 rfl ?_
        refine PJ.aload_n (pc := 32) d_T_catches_32 rfl ?_
        refine PJ.getR (pc := 33) fs_T_20 d_T_catches_33 (fun v7 => ?_)
        refine PJ.getR (pc := 36) fs_T_300 d_T_catches_36 (fun v8 => ?_)
        refine PJ.iconst (pc := 39) (v := 1) d_T_catches_39 (by decide) ?_
        refine PJ.iload_n (pc := 40) d_T_catches_40 rfl ?_
        refine PJ.ishl (pc := 41) d_T_catches_41 ?_
        refine PJ.cVpI (pc := 42) cs_T_309 (fun z hz => PM_Shops_caughtFrom hz) (pj_fitb rfl) rfl rfl (Nat.le_of_ble_eq_true rfl) d_T_catches_42 (fun v9 => ?_)
        refine PJ.cVI (pc := 45) cs_T_114 (fun z hz => PM_T_fine hz) (pj_fitb rfl) rfl rfl (Nat.le_of_ble_eq_true rfl) d_T_catches_45 (fun v10 => ?_)
        exact PJ.iret (pc := 48) d_T_catches_48 rfl (Nat.le_of_ble_eq_true rfl) (Nat.le_of_ble_eq_true rfl)
      · refine PJ.aload_n (pc := 25) d_T_catches_25 rfl ?_
        refine PJ.iconst (pc := 26) (v := 1) d_T_catches_26 (by decide) ?_
        refine PJ.cVI (pc := 27) cs_T_95 (fun z hz => PM_T_refuse hz) (pj_fitb rfl) rfl rfl (Nat.le_of_ble_eq_true rfl) d_T_catches_27 (fun v11 => ?_)
        exact PJ.iret (pc := 30) d_T_catches_30 rfl (Nat.le_of_ble_eq_true rfl) (Nat.le_of_ble_eq_true rfl)
theorem d_T_areTwo_0 : decode Y_T_areTwo.2.1 0 = .ok (.aload_n 0, 1) := by decide +kernel
theorem d_T_areTwo_1 : decode Y_T_areTwo.2.1 1 = .ok (.iload_n 1, 1) := by decide +kernel
theorem d_T_areTwo_2 : decode Y_T_areTwo.2.1 2 = .ok (.invokevirtual 117, 3) := by decide +kernel
theorem d_T_areTwo_5 : decode Y_T_areTwo.2.1 5 = .ok (.ifCond .eq 20, 3) := by decide +kernel
theorem d_T_areTwo_8 : decode Y_T_areTwo.2.1 8 = .ok (.aload_n 0, 1) := by decide +kernel
theorem d_T_areTwo_9 : decode Y_T_areTwo.2.1 9 = .ok (.iload_n 2, 1) := by decide +kernel
theorem d_T_areTwo_10 : decode Y_T_areTwo.2.1 10 = .ok (.invokevirtual 117, 3) := by decide +kernel
theorem d_T_areTwo_13 : decode Y_T_areTwo.2.1 13 = .ok (.ifCond .eq 12, 3) := by decide +kernel
theorem d_T_areTwo_16 : decode Y_T_areTwo.2.1 16 = .ok (.iload_n 1, 1) := by decide +kernel
theorem d_T_areTwo_17 : decode Y_T_areTwo.2.1 17 = .ok (.iload_n 2, 1) := by decide +kernel
theorem d_T_areTwo_18 : decode Y_T_areTwo.2.1 18 = .ok (.if_icmp .eq 7, 3) := by decide +kernel
theorem d_T_areTwo_21 : decode Y_T_areTwo.2.1 21 = .ok (.iconst 1, 1) := by decide +kernel
theorem d_T_areTwo_22 : decode Y_T_areTwo.2.1 22 = .ok (.goto 4, 3) := by decide +kernel
theorem d_T_areTwo_25 : decode Y_T_areTwo.2.1 25 = .ok (.iconst 0, 1) := by decide +kernel
theorem d_T_areTwo_26 : decode Y_T_areTwo.2.1 26 = .ok (.ireturn, 1) := by decide +kernel
def f_T_areTwo (h : PH) (a0 : Option Nat) (a1 : Int32) (a2 : Int32) : Option Int32 := (cl h 10 a0 (f_T_isPerson h a0 a1)).bind fun v1 => if v1 = 0 then (some (0 : Int32)) else ((cl h 10 a0 (f_T_isPerson h a0 a2)).bind fun v2 => if v2 = 0 then (some (0 : Int32)) else (if a1 = a2 then (some (0 : Int32)) else (some (1 : Int32))))
set_option maxRecDepth 20000 in
theorem PM_T_areTwo {l : Launch} {G : Cx} {h : PH} {a0 : Option Nat} {a1 : Int32} {a2 : Int32} {z : Int32} (hz : f_T_areTwo h a0 a1 a2 = some z) : PM l G 2 0 0 Y_T_areTwo [.inr (.inr a0), .inl a1, .inl a2] h (some (.inl z), h) := by
  refine PM.of (Y := Y_T_areTwo) (cv := (fun z : Int32 => (((some (.inl z), h) : Option PV × PH)))) (by decide) (L0 := [some (.inr (.inr a0)), some (.inl a1), some (.inl a2)]) 0 rfl (Nat.le_of_ble_eq_true rfl) ?_ hz
  unfold f_T_areTwo
  refine PJ.aload_n (pc := 0) d_T_areTwo_0 rfl ?_
  refine PJ.iload_n (pc := 1) d_T_areTwo_1 rfl ?_
  refine PJ.cVpI (pc := 2) cs_T_117 (fun z hz => PM_T_isPerson hz) (pj_fitb rfl) rfl rfl (Nat.le_of_ble_eq_true rfl) d_T_areTwo_2 (fun v1 => ?_)
  refine PJ.if_eq (pc := 5) (tgt := 25) d_T_areTwo_5 (by decide) (fun _ => ?_) (fun _ => ?_)
  · refine PJ.iconst (pc := 25) (v := 0) d_T_areTwo_25 (by decide) ?_
    exact PJ.zretp (pc := 26) d_T_areTwo_26 rfl rfl (Nat.le_of_ble_eq_true rfl) (Nat.le_of_ble_eq_true rfl)
  · refine PJ.aload_n (pc := 8) d_T_areTwo_8 rfl ?_
    refine PJ.iload_n (pc := 9) d_T_areTwo_9 rfl ?_
    refine PJ.cVpI (pc := 10) cs_T_117 (fun z hz => PM_T_isPerson hz) (pj_fitb rfl) rfl rfl (Nat.le_of_ble_eq_true rfl) d_T_areTwo_10 (fun v2 => ?_)
    refine PJ.if_eq (pc := 13) (tgt := 25) d_T_areTwo_13 (by decide) (fun _ => ?_) (fun _ => ?_)
    · refine PJ.iconst (pc := 25) (v := 0) d_T_areTwo_25 (by decide) ?_
      exact PJ.zretp (pc := 26) d_T_areTwo_26 rfl rfl (Nat.le_of_ble_eq_true rfl) (Nat.le_of_ble_eq_true rfl)
    · refine PJ.iload_n (pc := 16) d_T_areTwo_16 rfl ?_
      refine PJ.iload_n (pc := 17) d_T_areTwo_17 rfl ?_
      refine PJ.icmp_eq (pc := 18) (tgt := 25) d_T_areTwo_18 (by decide) (fun _ => ?_) (fun _ => ?_)
      · refine PJ.iconst (pc := 25) (v := 0) d_T_areTwo_25 (by decide) ?_
        exact PJ.zretp (pc := 26) d_T_areTwo_26 rfl rfl (Nat.le_of_ble_eq_true rfl) (Nat.le_of_ble_eq_true rfl)
      · refine PJ.iconst (pc := 21) (v := 1) d_T_areTwo_21 (by decide) ?_
        refine PJ.goto (pc := 22) (tgt := 26) d_T_areTwo_22 (by decide) ?_
        exact PJ.zretp (pc := 26) d_T_areTwo_26 rfl rfl (Nat.le_of_ble_eq_true rfl) (Nat.le_of_ble_eq_true rfl)
theorem d_Desk_besides_0 : decode Y_Desk_besides.2.1 0 = .ok (.iload_n 2, 1) := by decide +kernel
theorem d_Desk_besides_1 : decode Y_Desk_besides.2.1 1 = .ok (.ifCond .eq 15, 3) := by decide +kernel
theorem d_Desk_besides_4 : decode Y_Desk_besides.2.1 4 = .ok (.aload_n 0, 1) := by decide +kernel
theorem d_Desk_besides_5 : decode Y_Desk_besides.2.1 5 = .ok (.getfield 22, 3) := by decide +kernel
theorem d_Desk_besides_8 : decode Y_Desk_besides.2.1 8 = .ok (.getfield 33, 3) := by decide +kernel
theorem d_Desk_besides_11 : decode Y_Desk_besides.2.1 11 = .ok (.iload_n 3, 1) := by decide +kernel
theorem d_Desk_besides_12 : decode Y_Desk_besides.2.1 12 = .ok (.iaload, 1) := by decide +kernel
theorem d_Desk_besides_13 : decode Y_Desk_besides.2.1 13 = .ok (.goto 12, 3) := by decide +kernel
theorem d_Desk_besides_16 : decode Y_Desk_besides.2.1 16 = .ok (.aload_n 0, 1) := by decide +kernel
theorem d_Desk_besides_17 : decode Y_Desk_besides.2.1 17 = .ok (.getfield 22, 3) := by decide +kernel
theorem d_Desk_besides_20 : decode Y_Desk_besides.2.1 20 = .ok (.getfield 33, 3) := by decide +kernel
theorem d_Desk_besides_23 : decode Y_Desk_besides.2.1 23 = .ok (.iload_n 1, 1) := by decide +kernel
theorem d_Desk_besides_24 : decode Y_Desk_besides.2.1 24 = .ok (.iaload, 1) := by decide +kernel
theorem d_Desk_besides_25 : decode Y_Desk_besides.2.1 25 = .ok (.istore 5, 2) := by decide +kernel
theorem d_Desk_besides_27 : decode Y_Desk_besides.2.1 27 = .ok (.iload 4, 2) := by decide +kernel
theorem d_Desk_besides_29 : decode Y_Desk_besides.2.1 29 = .ok (.ifCond .eq 15, 3) := by decide +kernel
theorem d_Desk_besides_32 : decode Y_Desk_besides.2.1 32 = .ok (.aload_n 0, 1) := by decide +kernel
theorem d_Desk_besides_33 : decode Y_Desk_besides.2.1 33 = .ok (.getfield 22, 3) := by decide +kernel
theorem d_Desk_besides_36 : decode Y_Desk_besides.2.1 36 = .ok (.getfield 33, 3) := by decide +kernel
theorem d_Desk_besides_39 : decode Y_Desk_besides.2.1 39 = .ok (.iload_n 1, 1) := by decide +kernel
theorem d_Desk_besides_40 : decode Y_Desk_besides.2.1 40 = .ok (.iaload, 1) := by decide +kernel
theorem d_Desk_besides_41 : decode Y_Desk_besides.2.1 41 = .ok (.goto 12, 3) := by decide +kernel
theorem d_Desk_besides_44 : decode Y_Desk_besides.2.1 44 = .ok (.aload_n 0, 1) := by decide +kernel
theorem d_Desk_besides_45 : decode Y_Desk_besides.2.1 45 = .ok (.getfield 22, 3) := by decide +kernel
theorem d_Desk_besides_48 : decode Y_Desk_besides.2.1 48 = .ok (.getfield 33, 3) := by decide +kernel
theorem d_Desk_besides_51 : decode Y_Desk_besides.2.1 51 = .ok (.iload_n 3, 1) := by decide +kernel
theorem d_Desk_besides_52 : decode Y_Desk_besides.2.1 52 = .ok (.iaload, 1) := by decide +kernel
theorem d_Desk_besides_53 : decode Y_Desk_besides.2.1 53 = .ok (.istore 6, 2) := by decide +kernel
theorem d_Desk_besides_55 : decode Y_Desk_besides.2.1 55 = .ok (.aload_n 0, 1) := by decide +kernel
theorem d_Desk_besides_56 : decode Y_Desk_besides.2.1 56 = .ok (.iload_n 1, 1) := by decide +kernel
theorem d_Desk_besides_57 : decode Y_Desk_besides.2.1 57 = .ok (.iload 5, 2) := by decide +kernel
theorem d_Desk_besides_59 : decode Y_Desk_besides.2.1 59 = .ok (.invokevirtual 89, 3) := by decide +kernel
theorem d_Desk_besides_62 : decode Y_Desk_besides.2.1 62 = .ok (.iload 5, 2) := by decide +kernel
theorem d_Desk_besides_64 : decode Y_Desk_besides.2.1 64 = .ok (.iload 6, 2) := by decide +kernel
theorem d_Desk_besides_66 : decode Y_Desk_besides.2.1 66 = .ok (.if_icmp .ne 7, 3) := by decide +kernel
theorem d_Desk_besides_69 : decode Y_Desk_besides.2.1 69 = .ok (.iconst 5, 1) := by decide +kernel
theorem d_Desk_besides_70 : decode Y_Desk_besides.2.1 70 = .ok (.goto 4, 3) := by decide +kernel
theorem d_Desk_besides_73 : decode Y_Desk_besides.2.1 73 = .ok (.iconst 0, 1) := by decide +kernel
theorem d_Desk_besides_74 : decode Y_Desk_besides.2.1 74 = .ok (.iadd, 1) := by decide +kernel
theorem d_Desk_besides_75 : decode Y_Desk_besides.2.1 75 = .ok (.ireturn, 1) := by decide +kernel
def f_Desk_besides (h : PH) (a0 : Option Nat) (a1 : Int32) (a2 : Int32) (a3 : Int32) (a4 : Int32) : Option Int32 := (if a2 = 0 then ((gR h 0 a0 1).bind fun v2 => (gR h 2 v2 3).bind fun v3 => (aI h v3 a1).bind fun v4 => some v4) else ((gR h 0 a0 1).bind fun v5 => (gR h 2 v5 3).bind fun v6 => (aI h v6 a3).bind fun v7 => some v7) : Option (Int32)).bind fun j1 => (if a4 = 0 then ((gR h 0 a0 1).bind fun v9 => (gR h 2 v9 3).bind fun v10 => (aI h v10 a3).bind fun v11 => some v11) else ((gR h 0 a0 1).bind fun v12 => (gR h 2 v12 3).bind fun v13 => (aI h v13 a1).bind fun v14 => some v14) : Option (Int32)).bind fun j8 => (cl h 0 a0 (f_Desk_leftOf h a0 a1 j1)).bind fun v15 => if ¬ j1 = j8 then (some (v15 + (0 : Int32))) else (some (v15 + (5 : Int32)))
set_option maxRecDepth 20000 in
theorem PM_Desk_besides {l : Launch} {G : Cx} {h : PH} {a0 : Option Nat} {a1 : Int32} {a2 : Int32} {a3 : Int32} {a4 : Int32} {z : Int32} (hz : f_Desk_besides h a0 a1 a2 a3 a4 = some z) : PM l G 4 0 0 Y_Desk_besides [.inr (.inr a0), .inl a1, .inl a2, .inl a3, .inl a4] h (some (.inl z), h) := by
  refine PM.of (Y := Y_Desk_besides) (cv := (fun z : Int32 => (((some (.inl z), h) : Option PV × PH)))) (by decide) (L0 := [some (.inr (.inr a0)), some (.inl a1), some (.inl a2), some (.inl a3), some (.inl a4), none, none]) 2 rfl (Nat.le_of_ble_eq_true rfl) ?_ hz
  unfold f_Desk_besides
  refine PJ.iload_n (pc := 0) d_Desk_besides_0 rfl ?_
  refine PJ.bind (fun j1 : Int32 => ((25 : Nat), ([some (.inr (.inr a0)), some (.inl a1), none, some (.inl a3), some (.inl a4), none, none] : List (Option PV)), ([.inl j1] : List PV), (h : PH), (0 : Nat), (0 : Nat))) ?_ (fun j1 => ?_)
  · refine PJ.if_eq (pc := 1) (tgt := 16) d_Desk_besides_1 (by decide) (fun _ => ?_) (fun _ => ?_)
    · refine PJ.aload_n (pc := 16) d_Desk_besides_16 rfl ?_
      refine PJ.getR (pc := 17) fs_Desk_22 d_Desk_besides_17 (fun v2 => ?_)
      refine PJ.getR (pc := 20) fs_Desk_33 d_Desk_besides_20 (fun v3 => ?_)
      refine PJ.iload_n (pc := 23) d_Desk_besides_23 rfl ?_
      refine PJ.iald (pc := 24) d_Desk_besides_24 (fun v4 => ?_)
      refine PJ.mk (L1 := [some (.inr (.inr a0)), some (.inl a1), none, some (.inl a3), some (.inl a4), none, none]) [true, true, false, true, true, false, false] rfl ?_
      exact PJ.done rfl
    · refine PJ.aload_n (pc := 4) d_Desk_besides_4 rfl ?_
      refine PJ.getR (pc := 5) fs_Desk_22 d_Desk_besides_5 (fun v5 => ?_)
      refine PJ.getR (pc := 8) fs_Desk_33 d_Desk_besides_8 (fun v6 => ?_)
      refine PJ.iload_n (pc := 11) d_Desk_besides_11 rfl ?_
      refine PJ.iald (pc := 12) d_Desk_besides_12 (fun v7 => ?_)
      refine PJ.goto (pc := 13) (tgt := 25) d_Desk_besides_13 (by decide) ?_
      refine PJ.mk (L1 := [some (.inr (.inr a0)), some (.inl a1), none, some (.inl a3), some (.inl a4), none, none]) [true, true, false, true, true, false, false] rfl ?_
      exact PJ.done rfl
  · show PJ l G (pj_rm 4 0 0) Y_Desk_besides 25 [some (.inr (.inr a0)), some (.inl a1), none, some (.inl a3), some (.inl a4), none, none] [.inl j1] h 0 0 _ _
    refine PJ.istore (pc := 25) (L1 := [some (.inr (.inr a0)), some (.inl a1), none, some (.inl a3), some (.inl a4), some (.inl j1), none]) d_Desk_besides_25 (Nat.le_of_ble_eq_true rfl) rfl rfl ?_
    refine PJ.iload (pc := 27) d_Desk_besides_27 rfl ?_
    refine PJ.bind (fun j8 : Int32 => ((53 : Nat), ([some (.inr (.inr a0)), some (.inl a1), none, none, none, some (.inl j1), none] : List (Option PV)), ([.inl j8] : List PV), (h : PH), (0 : Nat), (0 : Nat))) ?_ (fun j8 => ?_)
    · refine PJ.if_eq (pc := 29) (tgt := 44) d_Desk_besides_29 (by decide) (fun _ => ?_) (fun _ => ?_)
      · refine PJ.aload_n (pc := 44) d_Desk_besides_44 rfl ?_
        refine PJ.getR (pc := 45) fs_Desk_22 d_Desk_besides_45 (fun v9 => ?_)
        refine PJ.getR (pc := 48) fs_Desk_33 d_Desk_besides_48 (fun v10 => ?_)
        refine PJ.iload_n (pc := 51) d_Desk_besides_51 rfl ?_
        refine PJ.iald (pc := 52) d_Desk_besides_52 (fun v11 => ?_)
        refine PJ.mk (L1 := [some (.inr (.inr a0)), some (.inl a1), none, none, none, some (.inl j1), none]) [true, true, false, false, false, true, false] rfl ?_
        exact PJ.done rfl
      · refine PJ.aload_n (pc := 32) d_Desk_besides_32 rfl ?_
        refine PJ.getR (pc := 33) fs_Desk_22 d_Desk_besides_33 (fun v12 => ?_)
        refine PJ.getR (pc := 36) fs_Desk_33 d_Desk_besides_36 (fun v13 => ?_)
        refine PJ.iload_n (pc := 39) d_Desk_besides_39 rfl ?_
        refine PJ.iald (pc := 40) d_Desk_besides_40 (fun v14 => ?_)
        refine PJ.goto (pc := 41) (tgt := 53) d_Desk_besides_41 (by decide) ?_
        refine PJ.mk (L1 := [some (.inr (.inr a0)), some (.inl a1), none, none, none, some (.inl j1), none]) [true, true, false, false, false, true, false] rfl ?_
        exact PJ.done rfl
    · show PJ l G (pj_rm 4 0 0) Y_Desk_besides 53 [some (.inr (.inr a0)), some (.inl a1), none, none, none, some (.inl j1), none] [.inl j8] h 0 0 _ _
      refine PJ.istore (pc := 53) (L1 := [some (.inr (.inr a0)), some (.inl a1), none, none, none, some (.inl j1), some (.inl j8)]) d_Desk_besides_53 (Nat.le_of_ble_eq_true rfl) rfl rfl ?_
      refine PJ.aload_n (pc := 55) d_Desk_besides_55 rfl ?_
      refine PJ.iload_n (pc := 56) d_Desk_besides_56 rfl ?_
      refine PJ.iload (pc := 57) d_Desk_besides_57 rfl ?_
      refine PJ.cVpI (pc := 59) cs_Desk_89 (fun z hz => PM_Desk_leftOf hz) (pj_fitb rfl) rfl rfl (Nat.le_of_ble_eq_true rfl) d_Desk_besides_59 (fun v15 => ?_)
      refine PJ.iload (pc := 62) d_Desk_besides_62 rfl ?_
      refine PJ.iload (pc := 64) d_Desk_besides_64 rfl ?_
      refine PJ.icmp_ne (pc := 66) (tgt := 73) d_Desk_besides_66 (by decide) (fun _ => ?_) (fun _ => ?_)
      · refine PJ.iconst (pc := 73) (v := 0) d_Desk_besides_73 (by decide) ?_
        refine PJ.iadd (pc := 74) d_Desk_besides_74 ?_
        exact PJ.iretp (pc := 75) d_Desk_besides_75 rfl (Nat.le_of_ble_eq_true rfl) (Nat.le_of_ble_eq_true rfl)
      · refine PJ.iconst (pc := 69) (v := 5) d_Desk_besides_69 (by decide) ?_
        refine PJ.goto (pc := 70) (tgt := 74) d_Desk_besides_70 (by decide) ?_
        refine PJ.iadd (pc := 74) d_Desk_besides_74 ?_
        exact PJ.iretp (pc := 75) d_Desk_besides_75 rfl (Nat.le_of_ble_eq_true rfl) (Nat.le_of_ble_eq_true rfl)
theorem d_T_two_0 : decode Y_T_two.2.1 0 = .ok (.aload_n 0, 1) := by decide +kernel
theorem d_T_two_1 : decode Y_T_two.2.1 1 = .ok (.iload_n 1, 1) := by decide +kernel
theorem d_T_two_2 : decode Y_T_two.2.1 2 = .ok (.iload_n 3, 1) := by decide +kernel
theorem d_T_two_3 : decode Y_T_two.2.1 3 = .ok (.invokevirtual 316, 3) := by decide +kernel
theorem d_T_two_6 : decode Y_T_two.2.1 6 = .ok (.ifCond .ne 13, 3) := by decide +kernel
theorem d_T_two_9 : decode Y_T_two.2.1 9 = .ok (.aload_n 0, 1) := by decide +kernel
theorem d_T_two_10 : decode Y_T_two.2.1 10 = .ok (.iconst 1, 1) := by decide +kernel
theorem d_T_two_11 : decode Y_T_two.2.1 11 = .ok (.invokevirtual 95, 3) := by decide +kernel
theorem d_T_two_14 : decode Y_T_two.2.1 14 = .ok (.pop, 1) := by decide +kernel
theorem d_T_two_15 : decode Y_T_two.2.1 15 = .ok (.sipush (-1000), 3) := by decide +kernel
theorem d_T_two_18 : decode Y_T_two.2.1 18 = .ok (.ireturn, 1) := by decide +kernel
theorem d_T_two_19 : decode Y_T_two.2.1 19 = .ok (.aload_n 0, 1) := by decide +kernel
theorem d_T_two_20 : decode Y_T_two.2.1 20 = .ok (.getfield 55, 3) := by decide +kernel
theorem d_T_two_23 : decode Y_T_two.2.1 23 = .ok (.aload_n 0, 1) := by decide +kernel
theorem d_T_two_24 : decode Y_T_two.2.1 24 = .ok (.getfield 20, 3) := by decide +kernel
theorem d_T_two_27 : decode Y_T_two.2.1 27 = .ok (.aload_n 0, 1) := by decide +kernel
theorem d_T_two_28 : decode Y_T_two.2.1 28 = .ok (.getfield 43, 3) := by decide +kernel
theorem d_T_two_31 : decode Y_T_two.2.1 31 = .ok (.invokevirtual 252, 3) := by decide +kernel
theorem d_T_two_34 : decode Y_T_two.2.1 34 = .ok (.aload_n 0, 1) := by decide +kernel
theorem d_T_two_35 : decode Y_T_two.2.1 35 = .ok (.iload 5, 2) := by decide +kernel
theorem d_T_two_37 : decode Y_T_two.2.1 37 = .ok (.ifCond .eq 18, 3) := by decide +kernel
theorem d_T_two_40 : decode Y_T_two.2.1 40 = .ok (.aload_n 0, 1) := by decide +kernel
theorem d_T_two_41 : decode Y_T_two.2.1 41 = .ok (.getfield 55, 3) := by decide +kernel
theorem d_T_two_44 : decode Y_T_two.2.1 44 = .ok (.iload_n 3, 1) := by decide +kernel
theorem d_T_two_45 : decode Y_T_two.2.1 45 = .ok (.iload 4, 2) := by decide +kernel
theorem d_T_two_47 : decode Y_T_two.2.1 47 = .ok (.iload_n 1, 1) := by decide +kernel
theorem d_T_two_48 : decode Y_T_two.2.1 48 = .ok (.iload_n 2, 1) := by decide +kernel
theorem d_T_two_49 : decode Y_T_two.2.1 49 = .ok (.invokevirtual 320, 3) := by decide +kernel
theorem d_T_two_52 : decode Y_T_two.2.1 52 = .ok (.goto 15, 3) := by decide +kernel
theorem d_T_two_55 : decode Y_T_two.2.1 55 = .ok (.aload_n 0, 1) := by decide +kernel
theorem d_T_two_56 : decode Y_T_two.2.1 56 = .ok (.getfield 55, 3) := by decide +kernel
theorem d_T_two_59 : decode Y_T_two.2.1 59 = .ok (.iload_n 1, 1) := by decide +kernel
theorem d_T_two_60 : decode Y_T_two.2.1 60 = .ok (.iload_n 2, 1) := by decide +kernel
theorem d_T_two_61 : decode Y_T_two.2.1 61 = .ok (.iload_n 3, 1) := by decide +kernel
theorem d_T_two_62 : decode Y_T_two.2.1 62 = .ok (.iload 4, 2) := by decide +kernel
theorem d_T_two_64 : decode Y_T_two.2.1 64 = .ok (.invokevirtual 320, 3) := by decide +kernel
theorem d_T_two_67 : decode Y_T_two.2.1 67 = .ok (.invokevirtual 114, 3) := by decide +kernel
theorem d_T_two_70 : decode Y_T_two.2.1 70 = .ok (.ireturn, 1) := by decide +kernel
def f_T_two (h : PH) (a0 : Option Nat) (a1 : Int32) (a2 : Int32) (a3 : Int32) (a4 : Int32) (a5 : Int32) : Option (Int32 × PH) := (cl h 10 a0 (f_T_areTwo h a0 a1 a3)).bind fun v1 => if ¬ v1 = 0 then ((gR h 10 a0 8).bind fun v2 => (gR h 10 a0 2).bind fun v3 => (gR h 10 a0 6).bind fun v4 => (cl h 0 v2 (f_Desk_look h v2 v3 v4)).bind fun h5 => (if a5 = 0 then ((gR h5 10 a0 8).bind fun v7 => (cl h5 0 v7 (f_Desk_besides h5 v7 a1 a2 a3 a4)).bind fun v8 => some v8) else ((gR h5 10 a0 8).bind fun v9 => (cl h5 0 v9 (f_Desk_besides h5 v9 a3 a4 a1 a2)).bind fun v10 => some v10) : Option (Int32)).bind fun j6 => (cl h5 10 a0 (f_T_fine h5 a0 j6)).bind fun v11 => some (v11.1, v11.2)) else ((cl h 10 a0 (f_T_refuse h a0 (1 : Int32))).bind fun v12 => some ((-1000 : Int32), v12.2))
set_option maxRecDepth 20000 in
theorem PM_T_two {l : Launch} {G : Cx} {h : PH} {a0 : Option Nat} {a1 : Int32} {a2 : Int32} {a3 : Int32} {a4 : Int32} {a5 : Int32} {z : (Int32 × PH)} (hz : f_T_two h a0 a1 a2 a3 a4 a5 = some z) : PM l G 5 0 0 Y_T_two [.inr (.inr a0), .inl a1, .inl a2, .inl a3, .inl a4, .inl a5] h (some (.inl z.1), z.2) := by
  refine PM.of (Y := Y_T_two) (cv := (fun z : (Int32 × PH) => (((some (.inl z.1), z.2) : Option PV × PH)))) (by decide) (L0 := [some (.inr (.inr a0)), some (.inl a1), some (.inl a2), some (.inl a3), some (.inl a4), some (.inl a5)]) 0 rfl (Nat.le_of_ble_eq_true rfl) ?_ hz
  unfold f_T_two
  refine PJ.aload_n (pc := 0) d_T_two_0 rfl ?_
  refine PJ.iload_n (pc := 1) d_T_two_1 rfl ?_
  refine PJ.iload_n (pc := 2) d_T_two_2 rfl ?_
  refine PJ.cVpI (pc := 3) cs_T_316 (fun z hz => PM_T_areTwo hz) (pj_fitb rfl) rfl rfl (Nat.le_of_ble_eq_true rfl) d_T_two_3 (fun v1 => ?_)
  refine PJ.if_ne (pc := 6) (tgt := 19) d_T_two_6 (by decide) (fun _ => ?_) (fun _ => ?_)
  · refine PJ.aload_n (pc := 19) d_T_two_19 rfl ?_
    refine PJ.getR (pc := 20) fs_T_55 d_T_two_20 (fun v2 => ?_)
    refine PJ.aload_n (pc := 23) d_T_two_23 rfl ?_
    refine PJ.getR (pc := 24) fs_T_20 d_T_two_24 (fun v3 => ?_)
    refine PJ.aload_n (pc := 27) d_T_two_27 rfl ?_
    refine PJ.getR (pc := 28) fs_T_43 d_T_two_28 (fun v4 => ?_)
    refine PJ.cVV (pc := 31) cs_T_252 (fun z hz => PM_Desk_look hz) (pj_fitb rfl) rfl rfl (Nat.le_of_ble_eq_true rfl) d_T_two_31 (fun h5 => ?_)
    refine PJ.aload_n (pc := 34) d_T_two_34 rfl ?_
    refine PJ.iload (pc := 35) d_T_two_35 rfl ?_
    refine PJ.bind (fun j6 : Int32 => ((67 : Nat), ([none, none, none, none, none, none] : List (Option PV)), ([.inl j6, .inr (.inr a0)] : List PV), (h5 : PH), (0 : Nat), (0 : Nat))) ?_ (fun j6 => ?_)
    · refine PJ.if_eq (pc := 37) (tgt := 55) d_T_two_37 (by decide) (fun _ => ?_) (fun _ => ?_)
      · refine PJ.aload_n (pc := 55) d_T_two_55 rfl ?_
        refine PJ.getR (pc := 56) fs_T_55 d_T_two_56 (fun v7 => ?_)
        refine PJ.iload_n (pc := 59) d_T_two_59 rfl ?_
        refine PJ.iload_n (pc := 60) d_T_two_60 rfl ?_
        refine PJ.iload_n (pc := 61) d_T_two_61 rfl ?_
        refine PJ.iload (pc := 62) d_T_two_62 rfl ?_
        refine PJ.cVpI (pc := 64) cs_T_320 (fun z hz => PM_Desk_besides hz) (pj_fitb rfl) rfl rfl (Nat.le_of_ble_eq_true rfl) d_T_two_64 (fun v8 => ?_)
        refine PJ.mk (L1 := [none, none, none, none, none, none]) [false, false, false, false, false, false] rfl ?_
        exact PJ.done rfl
      · refine PJ.aload_n (pc := 40) d_T_two_40 rfl ?_
        refine PJ.getR (pc := 41) fs_T_55 d_T_two_41 (fun v9 => ?_)
        refine PJ.iload_n (pc := 44) d_T_two_44 rfl ?_
        refine PJ.iload (pc := 45) d_T_two_45 rfl ?_
        refine PJ.iload_n (pc := 47) d_T_two_47 rfl ?_
        refine PJ.iload_n (pc := 48) d_T_two_48 rfl ?_
        refine PJ.cVpI (pc := 49) cs_T_320 (fun z hz => PM_Desk_besides hz) (pj_fitb rfl) rfl rfl (Nat.le_of_ble_eq_true rfl) d_T_two_49 (fun v10 => ?_)
        refine PJ.goto (pc := 52) (tgt := 67) d_T_two_52 (by decide) ?_
        refine PJ.mk (L1 := [none, none, none, none, none, none]) [false, false, false, false, false, false] rfl ?_
        exact PJ.done rfl
    · show PJ l G (pj_rm 5 0 0) Y_T_two 67 [none, none, none, none, none, none] [.inl j6, .inr (.inr a0)] h5 0 0 _ _
      refine PJ.cVI (pc := 67) cs_T_114 (fun z hz => PM_T_fine hz) (pj_fitb rfl) rfl rfl (Nat.le_of_ble_eq_true rfl) d_T_two_67 (fun v11 => ?_)
      exact PJ.iret (pc := 70) d_T_two_70 rfl (Nat.le_of_ble_eq_true rfl) (Nat.le_of_ble_eq_true rfl)
  · refine PJ.aload_n (pc := 9) d_T_two_9 rfl ?_
    refine PJ.iconst (pc := 10) (v := 1) d_T_two_10 (by decide) ?_
    refine PJ.cVI (pc := 11) cs_T_95 (fun z hz => PM_T_refuse hz) (pj_fitb rfl) rfl rfl (Nat.le_of_ble_eq_true rfl) d_T_two_11 (fun v12 => ?_)
    refine PJ.pop (pc := 14) d_T_two_14 rfl ?_
    refine PJ.sipush (pc := 15) (v := -1000) d_T_two_15 (by decide) ?_
    exact PJ.iret (pc := 18) d_T_two_18 rfl (Nat.le_of_ble_eq_true rfl) (Nat.le_of_ble_eq_true rfl)
theorem d_T_isRest_0 : decode Y_T_isRest.2.1 0 = .ok (.iload_n 3, 1) := by decide +kernel
theorem d_T_isRest_1 : decode Y_T_isRest.2.1 1 = .ok (.iconst 2, 1) := by decide +kernel
theorem d_T_isRest_2 : decode Y_T_isRest.2.1 2 = .ok (.idiv, 1) := by decide +kernel
theorem d_T_isRest_3 : decode Y_T_isRest.2.1 3 = .ok (.iconst 1, 1) := by decide +kernel
theorem d_T_isRest_4 : decode Y_T_isRest.2.1 4 = .ok (.if_icmp .ne 7, 3) := by decide +kernel
theorem d_T_isRest_7 : decode Y_T_isRest.2.1 7 = .ok (.iconst 1, 1) := by decide +kernel
theorem d_T_isRest_8 : decode Y_T_isRest.2.1 8 = .ok (.goto 4, 3) := by decide +kernel
theorem d_T_isRest_11 : decode Y_T_isRest.2.1 11 = .ok (.iconst 0, 1) := by decide +kernel
theorem d_T_isRest_12 : decode Y_T_isRest.2.1 12 = .ok (.istore 4, 2) := by decide +kernel
theorem d_T_isRest_14 : decode Y_T_isRest.2.1 14 = .ok (.iload_n 3, 1) := by decide +kernel
theorem d_T_isRest_15 : decode Y_T_isRest.2.1 15 = .ok (.iconst 2, 1) := by decide +kernel
theorem d_T_isRest_16 : decode Y_T_isRest.2.1 16 = .ok (.irem, 1) := by decide +kernel
theorem d_T_isRest_17 : decode Y_T_isRest.2.1 17 = .ok (.iconst 1, 1) := by decide +kernel
theorem d_T_isRest_18 : decode Y_T_isRest.2.1 18 = .ok (.if_icmp .ne 7, 3) := by decide +kernel
theorem d_T_isRest_21 : decode Y_T_isRest.2.1 21 = .ok (.iconst 1, 1) := by decide +kernel
theorem d_T_isRest_22 : decode Y_T_isRest.2.1 22 = .ok (.goto 4, 3) := by decide +kernel
theorem d_T_isRest_25 : decode Y_T_isRest.2.1 25 = .ok (.iconst 0, 1) := by decide +kernel
theorem d_T_isRest_26 : decode Y_T_isRest.2.1 26 = .ok (.istore 5, 2) := by decide +kernel
theorem d_T_isRest_28 : decode Y_T_isRest.2.1 28 = .ok (.aload_n 0, 1) := by decide +kernel
theorem d_T_isRest_29 : decode Y_T_isRest.2.1 29 = .ok (.getfield 55, 3) := by decide +kernel
theorem d_T_isRest_32 : decode Y_T_isRest.2.1 32 = .ok (.aload_n 0, 1) := by decide +kernel
theorem d_T_isRest_33 : decode Y_T_isRest.2.1 33 = .ok (.getfield 20, 3) := by decide +kernel
theorem d_T_isRest_36 : decode Y_T_isRest.2.1 36 = .ok (.aload_n 0, 1) := by decide +kernel
theorem d_T_isRest_37 : decode Y_T_isRest.2.1 37 = .ok (.getfield 43, 3) := by decide +kernel
theorem d_T_isRest_40 : decode Y_T_isRest.2.1 40 = .ok (.invokevirtual 252, 3) := by decide +kernel
theorem d_T_isRest_43 : decode Y_T_isRest.2.1 43 = .ok (.aload_n 0, 1) := by decide +kernel
theorem d_T_isRest_44 : decode Y_T_isRest.2.1 44 = .ok (.getfield 55, 3) := by decide +kernel
theorem d_T_isRest_47 : decode Y_T_isRest.2.1 47 = .ok (.iload_n 1, 1) := by decide +kernel
theorem d_T_isRest_48 : decode Y_T_isRest.2.1 48 = .ok (.iload 4, 2) := by decide +kernel
theorem d_T_isRest_50 : decode Y_T_isRest.2.1 50 = .ok (.iload_n 2, 1) := by decide +kernel
theorem d_T_isRest_51 : decode Y_T_isRest.2.1 51 = .ok (.iload 5, 2) := by decide +kernel
theorem d_T_isRest_53 : decode Y_T_isRest.2.1 53 = .ok (.invokevirtual 320, 3) := by decide +kernel
theorem d_T_isRest_56 : decode Y_T_isRest.2.1 56 = .ok (.aload_n 0, 1) := by decide +kernel
theorem d_T_isRest_57 : decode Y_T_isRest.2.1 57 = .ok (.getfield 55, 3) := by decide +kernel
theorem d_T_isRest_60 : decode Y_T_isRest.2.1 60 = .ok (.iload_n 1, 1) := by decide +kernel
theorem d_T_isRest_61 : decode Y_T_isRest.2.1 61 = .ok (.iload 4, 2) := by decide +kernel
theorem d_T_isRest_63 : decode Y_T_isRest.2.1 63 = .ok (.ifCond .ne 7, 3) := by decide +kernel
theorem d_T_isRest_66 : decode Y_T_isRest.2.1 66 = .ok (.iconst 1, 1) := by decide +kernel
theorem d_T_isRest_67 : decode Y_T_isRest.2.1 67 = .ok (.goto 4, 3) := by decide +kernel
theorem d_T_isRest_70 : decode Y_T_isRest.2.1 70 = .ok (.iconst 0, 1) := by decide +kernel
theorem d_T_isRest_71 : decode Y_T_isRest.2.1 71 = .ok (.iload_n 2, 1) := by decide +kernel
theorem d_T_isRest_72 : decode Y_T_isRest.2.1 72 = .ok (.iload 5, 2) := by decide +kernel
theorem d_T_isRest_74 : decode Y_T_isRest.2.1 74 = .ok (.invokevirtual 320, 3) := by decide +kernel
theorem d_T_isRest_77 : decode Y_T_isRest.2.1 77 = .ok (.if_icmp .lt 44, 3) := by decide +kernel
theorem d_T_isRest_80 : decode Y_T_isRest.2.1 80 = .ok (.aload_n 0, 1) := by decide +kernel
theorem d_T_isRest_81 : decode Y_T_isRest.2.1 81 = .ok (.getfield 55, 3) := by decide +kernel
theorem d_T_isRest_84 : decode Y_T_isRest.2.1 84 = .ok (.iload_n 2, 1) := by decide +kernel
theorem d_T_isRest_85 : decode Y_T_isRest.2.1 85 = .ok (.iload 5, 2) := by decide +kernel
theorem d_T_isRest_87 : decode Y_T_isRest.2.1 87 = .ok (.iload_n 1, 1) := by decide +kernel
theorem d_T_isRest_88 : decode Y_T_isRest.2.1 88 = .ok (.iload 4, 2) := by decide +kernel
theorem d_T_isRest_90 : decode Y_T_isRest.2.1 90 = .ok (.invokevirtual 320, 3) := by decide +kernel
theorem d_T_isRest_93 : decode Y_T_isRest.2.1 93 = .ok (.aload_n 0, 1) := by decide +kernel
theorem d_T_isRest_94 : decode Y_T_isRest.2.1 94 = .ok (.getfield 55, 3) := by decide +kernel
theorem d_T_isRest_97 : decode Y_T_isRest.2.1 97 = .ok (.iload_n 2, 1) := by decide +kernel
theorem d_T_isRest_98 : decode Y_T_isRest.2.1 98 = .ok (.iload 5, 2) := by decide +kernel
theorem d_T_isRest_100 : decode Y_T_isRest.2.1 100 = .ok (.ifCond .ne 7, 3) := by decide +kernel
theorem d_T_isRest_103 : decode Y_T_isRest.2.1 103 = .ok (.iconst 1, 1) := by decide +kernel
theorem d_T_isRest_104 : decode Y_T_isRest.2.1 104 = .ok (.goto 4, 3) := by decide +kernel
theorem d_T_isRest_107 : decode Y_T_isRest.2.1 107 = .ok (.iconst 0, 1) := by decide +kernel
theorem d_T_isRest_108 : decode Y_T_isRest.2.1 108 = .ok (.iload_n 1, 1) := by decide +kernel
theorem d_T_isRest_109 : decode Y_T_isRest.2.1 109 = .ok (.iload 4, 2) := by decide +kernel
theorem d_T_isRest_111 : decode Y_T_isRest.2.1 111 = .ok (.invokevirtual 320, 3) := by decide +kernel
theorem d_T_isRest_114 : decode Y_T_isRest.2.1 114 = .ok (.if_icmp .lt 7, 3) := by decide +kernel
theorem d_T_isRest_117 : decode Y_T_isRest.2.1 117 = .ok (.iconst 1, 1) := by decide +kernel
theorem d_T_isRest_118 : decode Y_T_isRest.2.1 118 = .ok (.goto 4, 3) := by decide +kernel
theorem d_T_isRest_121 : decode Y_T_isRest.2.1 121 = .ok (.iconst 0, 1) := by decide +kernel
theorem d_T_isRest_122 : decode Y_T_isRest.2.1 122 = .ok (.ireturn, 1) := by decide +kernel
def f_T_isRest (h : PH) (a0 : Option Nat) (a1 : Int32) (a2 : Int32) (a3 : Int32) : Option (Int32 × PH) := if (2 : Int32) = 0 then none else ((if ¬ (a3 / (2 : Int32)) = (1 : Int32) then (some (0 : Int32)) else (some (1 : Int32)) : Option (Int32)).bind fun j1 => if (2 : Int32) = 0 then none else ((if ¬ (a3 - a3 / (2 : Int32) * (2 : Int32)) = (1 : Int32) then (some (0 : Int32)) else (some (1 : Int32)) : Option (Int32)).bind fun j2 => (gR h 10 a0 8).bind fun v3 => (gR h 10 a0 2).bind fun v4 => (gR h 10 a0 6).bind fun v5 => (cl h 0 v3 (f_Desk_look h v3 v4 v5)).bind fun h6 => (gR h6 10 a0 8).bind fun v7 => (cl h6 0 v7 (f_Desk_besides h6 v7 a1 j1 a2 j2)).bind fun v8 => (gR h6 10 a0 8).bind fun v9 => (if ¬ j1 = 0 then (some (0 : Int32)) else (some (1 : Int32)) : Option (Int32)).bind fun j10 => (cl h6 0 v9 (f_Desk_besides h6 v9 a1 j10 a2 j2)).bind fun v11 => if v8 < v11 then (some ((0 : Int32), h6)) else ((gR h6 10 a0 8).bind fun v12 => (cl h6 0 v12 (f_Desk_besides h6 v12 a2 j2 a1 j1)).bind fun v13 => (gR h6 10 a0 8).bind fun v14 => (if ¬ j2 = 0 then (some (0 : Int32)) else (some (1 : Int32)) : Option (Int32)).bind fun j15 => (cl h6 0 v14 (f_Desk_besides h6 v14 a2 j15 a1 j1)).bind fun v16 => if v13 < v16 then (some ((0 : Int32), h6)) else (some ((1 : Int32), h6)))))
set_option maxRecDepth 20000 in
theorem PM_T_isRest {l : Launch} {G : Cx} {h : PH} {a0 : Option Nat} {a1 : Int32} {a2 : Int32} {a3 : Int32} {z : (Int32 × PH)} (hz : f_T_isRest h a0 a1 a2 a3 = some z) : PM l G 5 0 0 Y_T_isRest [.inr (.inr a0), .inl a1, .inl a2, .inl a3] h (some (.inl z.1), z.2) := by
  refine PM.of (Y := Y_T_isRest) (cv := (fun z : (Int32 × PH) => (((some (.inl z.1), z.2) : Option PV × PH)))) (by decide) (L0 := [some (.inr (.inr a0)), some (.inl a1), some (.inl a2), some (.inl a3), none, none]) 2 rfl (Nat.le_of_ble_eq_true rfl) ?_ hz
  unfold f_T_isRest
  refine PJ.iload_n (pc := 0) d_T_isRest_0 rfl ?_
  refine PJ.iconst (pc := 1) (v := 2) d_T_isRest_1 (by decide) ?_
  refine PJ.idiv (pc := 2) d_T_isRest_2 (fun _ => ?_)
  refine PJ.iconst (pc := 3) (v := 1) d_T_isRest_3 (by decide) ?_
  refine PJ.bind (fun j1 : Int32 => ((12 : Nat), ([some (.inr (.inr a0)), some (.inl a1), some (.inl a2), some (.inl a3), none, none] : List (Option PV)), ([.inl j1] : List PV), (h : PH), (0 : Nat), (0 : Nat))) ?_ (fun j1 => ?_)
  · refine PJ.icmp_ne (pc := 4) (tgt := 11) d_T_isRest_4 (by decide) (fun _ => ?_) (fun _ => ?_)
    · refine PJ.iconst (pc := 11) (v := 0) d_T_isRest_11 (by decide) ?_
      exact PJ.done rfl
    · refine PJ.iconst (pc := 7) (v := 1) d_T_isRest_7 (by decide) ?_
      refine PJ.goto (pc := 8) (tgt := 12) d_T_isRest_8 (by decide) ?_
      exact PJ.done rfl
  · show PJ l G (pj_rm 5 0 0) Y_T_isRest 12 [some (.inr (.inr a0)), some (.inl a1), some (.inl a2), some (.inl a3), none, none] [.inl j1] h 0 0 _ _
    refine PJ.istore (pc := 12) (L1 := [some (.inr (.inr a0)), some (.inl a1), some (.inl a2), some (.inl a3), some (.inl j1), none]) d_T_isRest_12 (Nat.le_of_ble_eq_true rfl) rfl rfl ?_
    refine PJ.iload_n (pc := 14) d_T_isRest_14 rfl ?_
    refine PJ.iconst (pc := 15) (v := 2) d_T_isRest_15 (by decide) ?_
    refine PJ.irem (pc := 16) d_T_isRest_16 (fun _ => ?_)
    refine PJ.iconst (pc := 17) (v := 1) d_T_isRest_17 (by decide) ?_
    refine PJ.bind (fun j2 : Int32 => ((26 : Nat), ([some (.inr (.inr a0)), some (.inl a1), some (.inl a2), none, some (.inl j1), none] : List (Option PV)), ([.inl j2] : List PV), (h : PH), (0 : Nat), (0 : Nat))) ?_ (fun j2 => ?_)
    · refine PJ.icmp_ne (pc := 18) (tgt := 25) d_T_isRest_18 (by decide) (fun _ => ?_) (fun _ => ?_)
      · refine PJ.iconst (pc := 25) (v := 0) d_T_isRest_25 (by decide) ?_
        refine PJ.mk (L1 := [some (.inr (.inr a0)), some (.inl a1), some (.inl a2), none, some (.inl j1), none]) [true, true, true, false, true, false] rfl ?_
        exact PJ.done rfl
      · refine PJ.iconst (pc := 21) (v := 1) d_T_isRest_21 (by decide) ?_
        refine PJ.goto (pc := 22) (tgt := 26) d_T_isRest_22 (by decide) ?_
        refine PJ.mk (L1 := [some (.inr (.inr a0)), some (.inl a1), some (.inl a2), none, some (.inl j1), none]) [true, true, true, false, true, false] rfl ?_
        exact PJ.done rfl
    · show PJ l G (pj_rm 5 0 0) Y_T_isRest 26 [some (.inr (.inr a0)), some (.inl a1), some (.inl a2), none, some (.inl j1), none] [.inl j2] h 0 0 _ _
      refine PJ.istore (pc := 26) (L1 := [some (.inr (.inr a0)), some (.inl a1), some (.inl a2), none, some (.inl j1), some (.inl j2)]) d_T_isRest_26 (Nat.le_of_ble_eq_true rfl) rfl rfl ?_
      refine PJ.aload_n (pc := 28) d_T_isRest_28 rfl ?_
      refine PJ.getR (pc := 29) fs_T_55 d_T_isRest_29 (fun v3 => ?_)
      refine PJ.aload_n (pc := 32) d_T_isRest_32 rfl ?_
      refine PJ.getR (pc := 33) fs_T_20 d_T_isRest_33 (fun v4 => ?_)
      refine PJ.aload_n (pc := 36) d_T_isRest_36 rfl ?_
      refine PJ.getR (pc := 37) fs_T_43 d_T_isRest_37 (fun v5 => ?_)
      refine PJ.cVV (pc := 40) cs_T_252 (fun z hz => PM_Desk_look hz) (pj_fitb rfl) rfl rfl (Nat.le_of_ble_eq_true rfl) d_T_isRest_40 (fun h6 => ?_)
      refine PJ.aload_n (pc := 43) d_T_isRest_43 rfl ?_
      refine PJ.getR (pc := 44) fs_T_55 d_T_isRest_44 (fun v7 => ?_)
      refine PJ.iload_n (pc := 47) d_T_isRest_47 rfl ?_
      refine PJ.iload (pc := 48) d_T_isRest_48 rfl ?_
      refine PJ.iload_n (pc := 50) d_T_isRest_50 rfl ?_
      refine PJ.iload (pc := 51) d_T_isRest_51 rfl ?_
      refine PJ.cVpI (pc := 53) cs_T_320 (fun z hz => PM_Desk_besides hz) (pj_fitb rfl) rfl rfl (Nat.le_of_ble_eq_true rfl) d_T_isRest_53 (fun v8 => ?_)
      refine PJ.aload_n (pc := 56) d_T_isRest_56 rfl ?_
      refine PJ.getR (pc := 57) fs_T_55 d_T_isRest_57 (fun v9 => ?_)
      refine PJ.iload_n (pc := 60) d_T_isRest_60 rfl ?_
      refine PJ.iload (pc := 61) d_T_isRest_61 rfl ?_
      refine PJ.bind (fun j10 : Int32 => ((71 : Nat), ([some (.inr (.inr a0)), some (.inl a1), some (.inl a2), none, some (.inl j1), some (.inl j2)] : List (Option PV)), ([.inl j10, .inl a1, .inr (.inr v9), .inl v8] : List PV), (h6 : PH), (0 : Nat), (0 : Nat))) ?_ (fun j10 => ?_)
      · refine PJ.if_ne (pc := 63) (tgt := 70) d_T_isRest_63 (by decide) (fun _ => ?_) (fun _ => ?_)
        · refine PJ.iconst (pc := 70) (v := 0) d_T_isRest_70 (by decide) ?_
          exact PJ.done rfl
        · refine PJ.iconst (pc := 66) (v := 1) d_T_isRest_66 (by decide) ?_
          refine PJ.goto (pc := 67) (tgt := 71) d_T_isRest_67 (by decide) ?_
          exact PJ.done rfl
      · show PJ l G (pj_rm 5 0 0) Y_T_isRest 71 [some (.inr (.inr a0)), some (.inl a1), some (.inl a2), none, some (.inl j1), some (.inl j2)] [.inl j10, .inl a1, .inr (.inr v9), .inl v8] h6 0 0 _ _
        refine PJ.iload_n (pc := 71) d_T_isRest_71 rfl ?_
        refine PJ.iload (pc := 72) d_T_isRest_72 rfl ?_
        refine PJ.cVpI (pc := 74) cs_T_320 (fun z hz => PM_Desk_besides hz) (pj_fitb rfl) rfl rfl (Nat.le_of_ble_eq_true rfl) d_T_isRest_74 (fun v11 => ?_)
        refine PJ.icmp_lt (pc := 77) (tgt := 121) d_T_isRest_77 (by decide) (fun _ => ?_) (fun _ => ?_)
        · refine PJ.iconst (pc := 121) (v := 0) d_T_isRest_121 (by decide) ?_
          exact PJ.zret (pc := 122) d_T_isRest_122 rfl rfl (Nat.le_of_ble_eq_true rfl) (Nat.le_of_ble_eq_true rfl)
        · refine PJ.aload_n (pc := 80) d_T_isRest_80 rfl ?_
          refine PJ.getR (pc := 81) fs_T_55 d_T_isRest_81 (fun v12 => ?_)
          refine PJ.iload_n (pc := 84) d_T_isRest_84 rfl ?_
          refine PJ.iload (pc := 85) d_T_isRest_85 rfl ?_
          refine PJ.iload_n (pc := 87) d_T_isRest_87 rfl ?_
          refine PJ.iload (pc := 88) d_T_isRest_88 rfl ?_
          refine PJ.cVpI (pc := 90) cs_T_320 (fun z hz => PM_Desk_besides hz) (pj_fitb rfl) rfl rfl (Nat.le_of_ble_eq_true rfl) d_T_isRest_90 (fun v13 => ?_)
          refine PJ.aload_n (pc := 93) d_T_isRest_93 rfl ?_
          refine PJ.getR (pc := 94) fs_T_55 d_T_isRest_94 (fun v14 => ?_)
          refine PJ.iload_n (pc := 97) d_T_isRest_97 rfl ?_
          refine PJ.iload (pc := 98) d_T_isRest_98 rfl ?_
          refine PJ.bind (fun j15 : Int32 => ((108 : Nat), ([none, some (.inl a1), none, none, some (.inl j1), none] : List (Option PV)), ([.inl j15, .inl a2, .inr (.inr v14), .inl v13] : List PV), (h6 : PH), (0 : Nat), (0 : Nat))) ?_ (fun j15 => ?_)
          · refine PJ.if_ne (pc := 100) (tgt := 107) d_T_isRest_100 (by decide) (fun _ => ?_) (fun _ => ?_)
            · refine PJ.iconst (pc := 107) (v := 0) d_T_isRest_107 (by decide) ?_
              refine PJ.mk (L1 := [none, some (.inl a1), none, none, some (.inl j1), none]) [false, true, false, false, true, false] rfl ?_
              exact PJ.done rfl
            · refine PJ.iconst (pc := 103) (v := 1) d_T_isRest_103 (by decide) ?_
              refine PJ.goto (pc := 104) (tgt := 108) d_T_isRest_104 (by decide) ?_
              refine PJ.mk (L1 := [none, some (.inl a1), none, none, some (.inl j1), none]) [false, true, false, false, true, false] rfl ?_
              exact PJ.done rfl
          · show PJ l G (pj_rm 5 0 0) Y_T_isRest 108 [none, some (.inl a1), none, none, some (.inl j1), none] [.inl j15, .inl a2, .inr (.inr v14), .inl v13] h6 0 0 _ _
            refine PJ.iload_n (pc := 108) d_T_isRest_108 rfl ?_
            refine PJ.iload (pc := 109) d_T_isRest_109 rfl ?_
            refine PJ.cVpI (pc := 111) cs_T_320 (fun z hz => PM_Desk_besides hz) (pj_fitb rfl) rfl rfl (Nat.le_of_ble_eq_true rfl) d_T_isRest_111 (fun v16 => ?_)
            refine PJ.icmp_lt (pc := 114) (tgt := 121) d_T_isRest_114 (by decide) (fun _ => ?_) (fun _ => ?_)
            · refine PJ.iconst (pc := 121) (v := 0) d_T_isRest_121 (by decide) ?_
              exact PJ.zret (pc := 122) d_T_isRest_122 rfl rfl (Nat.le_of_ble_eq_true rfl) (Nat.le_of_ble_eq_true rfl)
            · refine PJ.iconst (pc := 117) (v := 1) d_T_isRest_117 (by decide) ?_
              refine PJ.goto (pc := 118) (tgt := 122) d_T_isRest_118 (by decide) ?_
              exact PJ.zret (pc := 122) d_T_isRest_122 rfl rfl (Nat.le_of_ble_eq_true rfl) (Nat.le_of_ble_eq_true rfl)
theorem d_T_rests_0 : decode Y_T_rests.2.1 0 = .ok (.aload_n 0, 1) := by decide +kernel
theorem d_T_rests_1 : decode Y_T_rests.2.1 1 = .ok (.iload_n 1, 1) := by decide +kernel
theorem d_T_rests_2 : decode Y_T_rests.2.1 2 = .ok (.iload_n 2, 1) := by decide +kernel
theorem d_T_rests_3 : decode Y_T_rests.2.1 3 = .ok (.invokevirtual 316, 3) := by decide +kernel
theorem d_T_rests_6 : decode Y_T_rests.2.1 6 = .ok (.ifCond .ne 9, 3) := by decide +kernel
theorem d_T_rests_9 : decode Y_T_rests.2.1 9 = .ok (.aload_n 0, 1) := by decide +kernel
theorem d_T_rests_10 : decode Y_T_rests.2.1 10 = .ok (.iconst 1, 1) := by decide +kernel
theorem d_T_rests_11 : decode Y_T_rests.2.1 11 = .ok (.invokevirtual 95, 3) := by decide +kernel
theorem d_T_rests_14 : decode Y_T_rests.2.1 14 = .ok (.ireturn, 1) := by decide +kernel
theorem d_T_rests_15 : decode Y_T_rests.2.1 15 = .ok (.iconst 0, 1) := by decide +kernel
theorem d_T_rests_16 : decode Y_T_rests.2.1 16 = .ok (.istore_n 3, 1) := by decide +kernel
theorem d_T_rests_17 : decode Y_T_rests.2.1 17 = .ok (.iconst 0, 1) := by decide +kernel
theorem d_T_rests_18 : decode Y_T_rests.2.1 18 = .ok (.istore 4, 2) := by decide +kernel
theorem d_T_rests_20 : decode Y_T_rests.2.1 20 = .ok (.iload 4, 2) := by decide +kernel
theorem d_T_rests_22 : decode Y_T_rests.2.1 22 = .ok (.iconst 4, 1) := by decide +kernel
theorem d_T_rests_23 : decode Y_T_rests.2.1 23 = .ok (.if_icmp .ge 23, 3) := by decide +kernel
theorem d_T_rests_26 : decode Y_T_rests.2.1 26 = .ok (.aload_n 0, 1) := by decide +kernel
theorem d_T_rests_27 : decode Y_T_rests.2.1 27 = .ok (.iload_n 1, 1) := by decide +kernel
theorem d_T_rests_28 : decode Y_T_rests.2.1 28 = .ok (.iload_n 2, 1) := by decide +kernel
theorem d_T_rests_29 : decode Y_T_rests.2.1 29 = .ok (.iload 4, 2) := by decide +kernel
theorem d_T_rests_31 : decode Y_T_rests.2.1 31 = .ok (.invokevirtual 324, 3) := by decide +kernel
theorem d_T_rests_34 : decode Y_T_rests.2.1 34 = .ok (.ifCond .eq 6, 3) := by decide +kernel
theorem d_T_rests_37 : decode Y_T_rests.2.1 37 = .ok (.iinc 3 1, 3) := by decide +kernel
theorem d_T_rests_40 : decode Y_T_rests.2.1 40 = .ok (.iinc 4 1, 3) := by decide +kernel
theorem d_T_rests_43 : decode Y_T_rests.2.1 43 = .ok (.goto (-23), 3) := by decide +kernel
theorem d_T_rests_46 : decode Y_T_rests.2.1 46 = .ok (.aload_n 0, 1) := by decide +kernel
theorem d_T_rests_47 : decode Y_T_rests.2.1 47 = .ok (.iload_n 3, 1) := by decide +kernel
theorem d_T_rests_48 : decode Y_T_rests.2.1 48 = .ok (.invokevirtual 114, 3) := by decide +kernel
theorem d_T_rests_51 : decode Y_T_rests.2.1 51 = .ok (.ireturn, 1) := by decide +kernel
def f_T_rests (h : PH) (a0 : Option Nat) (a1 : Int32) (a2 : Int32) : Option (Int32 × PH) := (cl h 10 a0 (f_T_areTwo h a0 a1 a2)).bind fun v1 => if ¬ v1 = 0 then ((pj_it (X := Int32 × PH) (fun s2 : Int32 × Int32 × PH => if (4 : Int32) ≤ s2.2.1 then (some (.inr (s2.1, s2.2.2))) else ((cl s2.2.2 10 a0 (f_T_isRest s2.2.2 a0 a1 a2 s2.2.1)).bind fun v4 => if v4.1 = 0 then (some (.inl (s2.1, (s2.2.1 + (1 : Int32)), v4.2))) else (some (.inl ((s2.1 + (1 : Int32)), (s2.2.1 + (1 : Int32)), v4.2))))) FU ((0 : Int32), (0 : Int32), h)).bind fun x3 => (cl x3.2 10 a0 (f_T_fine x3.2 a0 x3.1)).bind fun v5 => some (v5.1, v5.2)) else ((cl h 10 a0 (f_T_refuse h a0 (1 : Int32))).bind fun v6 => some (v6.1, v6.2))
set_option maxRecDepth 20000 in
theorem PM_T_rests {l : Launch} {G : Cx} {h : PH} {a0 : Option Nat} {a1 : Int32} {a2 : Int32} {z : (Int32 × PH)} (hz : f_T_rests h a0 a1 a2 = some z) : PM l G 6 0 0 Y_T_rests [.inr (.inr a0), .inl a1, .inl a2] h (some (.inl z.1), z.2) := by
  refine PM.of (Y := Y_T_rests) (cv := (fun z : (Int32 × PH) => (((some (.inl z.1), z.2) : Option PV × PH)))) (by decide) (L0 := [some (.inr (.inr a0)), some (.inl a1), some (.inl a2), none, none]) 2 rfl (Nat.le_of_ble_eq_true rfl) ?_ hz
  unfold f_T_rests
  refine PJ.aload_n (pc := 0) d_T_rests_0 rfl ?_
  refine PJ.iload_n (pc := 1) d_T_rests_1 rfl ?_
  refine PJ.iload_n (pc := 2) d_T_rests_2 rfl ?_
  refine PJ.cVpI (pc := 3) cs_T_316 (fun z hz => PM_T_areTwo hz) (pj_fitb rfl) rfl rfl (Nat.le_of_ble_eq_true rfl) d_T_rests_3 (fun v1 => ?_)
  refine PJ.if_ne (pc := 6) (tgt := 15) d_T_rests_6 (by decide) (fun _ => ?_) (fun _ => ?_)
  · refine PJ.iconst (pc := 15) (v := 0) d_T_rests_15 (by decide) ?_
    refine PJ.istore_n (pc := 16) (L1 := [some (.inr (.inr a0)), some (.inl a1), some (.inl a2), some (.inl (0 : Int32)), none]) d_T_rests_16 (Nat.le_of_ble_eq_true rfl) rfl rfl ?_
    refine PJ.iconst (pc := 17) (v := 0) d_T_rests_17 (by decide) ?_
    refine PJ.istore (pc := 18) (L1 := [some (.inr (.inr a0)), some (.inl a1), some (.inl a2), some (.inl (0 : Int32)), some (.inl (0 : Int32))]) d_T_rests_18 (Nat.le_of_ble_eq_true rfl) rfl rfl ?_
    refine PJ.bind (fun x3 : Int32 × PH => ((46 : Nat), ([some (.inr (.inr a0)), none, none, some (.inl x3.1), none] : List (Option PV)), ([] : List PV), (x3.2 : PH), (0 : Nat), (0 : Nat))) (PJ.it (E := (fun s2 : Int32 × Int32 × PH => ((20 : Nat), ([some (.inr (.inr a0)), some (.inl a1), some (.inl a2), some (.inl s2.1), some (.inl s2.2.1)] : List (Option PV)), ([] : List PV), (s2.2.2 : PH), (0 : Nat), (0 : Nat)))) (F := (fun x3 : Int32 × PH => ((46 : Nat), ([some (.inr (.inr a0)), none, none, some (.inl x3.1), none] : List (Option PV)), ([] : List PV), (x3.2 : PH), (0 : Nat), (0 : Nat)))) (fun s2 => ?_) FU ((0 : Int32), (0 : Int32), h)) (fun x3 => ?_)
    · show PJ l G (pj_rm 6 0 0) Y_T_rests 20 [some (.inr (.inr a0)), some (.inl a1), some (.inl a2), some (.inl s2.1), some (.inl s2.2.1)] [] s2.2.2 0 0 _ _
      refine PJ.iload (pc := 20) d_T_rests_20 rfl ?_
      refine PJ.iconst (pc := 22) (v := 4) d_T_rests_22 (by decide) ?_
      refine PJ.icmp_ge (pc := 23) (tgt := 46) d_T_rests_23 (by decide) (fun _ => ?_) (fun _ => ?_)
      · refine PJ.mk (L1 := [some (.inr (.inr a0)), none, none, some (.inl s2.1), none]) [true, false, false, true, false] rfl ?_
        exact PJ.done rfl
      · refine PJ.aload_n (pc := 26) d_T_rests_26 rfl ?_
        refine PJ.iload_n (pc := 27) d_T_rests_27 rfl ?_
        refine PJ.iload_n (pc := 28) d_T_rests_28 rfl ?_
        refine PJ.iload (pc := 29) d_T_rests_29 rfl ?_
        refine PJ.cVI (pc := 31) cs_T_324 (fun z hz => PM_T_isRest hz) (pj_fitb rfl) rfl rfl (Nat.le_of_ble_eq_true rfl) d_T_rests_31 (fun v4 => ?_)
        refine PJ.if_eq (pc := 34) (tgt := 40) d_T_rests_34 (by decide) (fun _ => ?_) (fun _ => ?_)
        · refine PJ.iinc (pc := 40) (v := 1) (L1 := [some (.inr (.inr a0)), some (.inl a1), some (.inl a2), some (.inl s2.1), some (.inl (s2.2.1 + (1 : Int32)))]) d_T_rests_40 rfl (by decide) (Nat.le_of_ble_eq_true rfl) rfl rfl ?_
          refine PJ.goto (pc := 43) (tgt := 20) d_T_rests_43 (by decide) ?_
          exact PJ.done rfl
        · refine PJ.iinc (pc := 37) (v := 1) (L1 := [some (.inr (.inr a0)), some (.inl a1), some (.inl a2), some (.inl (s2.1 + (1 : Int32))), some (.inl s2.2.1)]) d_T_rests_37 rfl (by decide) (Nat.le_of_ble_eq_true rfl) rfl rfl ?_
          refine PJ.iinc (pc := 40) (v := 1) (L1 := [some (.inr (.inr a0)), some (.inl a1), some (.inl a2), some (.inl (s2.1 + (1 : Int32))), some (.inl (s2.2.1 + (1 : Int32)))]) d_T_rests_40 rfl (by decide) (Nat.le_of_ble_eq_true rfl) rfl rfl ?_
          refine PJ.goto (pc := 43) (tgt := 20) d_T_rests_43 (by decide) ?_
          exact PJ.done rfl
    · show PJ l G (pj_rm 6 0 0) Y_T_rests 46 [some (.inr (.inr a0)), none, none, some (.inl x3.1), none] [] x3.2 0 0 _ _
      refine PJ.aload_n (pc := 46) d_T_rests_46 rfl ?_
      refine PJ.iload_n (pc := 47) d_T_rests_47 rfl ?_
      refine PJ.cVI (pc := 48) cs_T_114 (fun z hz => PM_T_fine hz) (pj_fitb rfl) rfl rfl (Nat.le_of_ble_eq_true rfl) d_T_rests_48 (fun v5 => ?_)
      exact PJ.iret (pc := 51) d_T_rests_51 rfl (Nat.le_of_ble_eq_true rfl) (Nat.le_of_ble_eq_true rfl)
  · refine PJ.aload_n (pc := 9) d_T_rests_9 rfl ?_
    refine PJ.iconst (pc := 10) (v := 1) d_T_rests_10 (by decide) ?_
    refine PJ.cVI (pc := 11) cs_T_95 (fun z hz => PM_T_refuse hz) (pj_fitb rfl) rfl rfl (Nat.le_of_ble_eq_true rfl) d_T_rests_11 (fun v6 => ?_)
    exact PJ.iret (pc := 14) d_T_rests_14 rfl (Nat.le_of_ble_eq_true rfl) (Nat.le_of_ble_eq_true rfl)
