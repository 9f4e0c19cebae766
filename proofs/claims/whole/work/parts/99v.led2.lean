/-! led on the machine: it returns or throws; the law's own led catches -/
abbrev Y_T_led : MI := (⟨"WaverTax", "led", "(I)I"⟩, prog_1_method_65_code, 4, (some .int))
theorem d_T_led_0 : decode Y_T_led.2.1 0 = .ok (.iload_n 1, 1) := by decide +kernel
theorem d_T_led_1 : decode Y_T_led.2.1 1 = .ok (.istore_n 2, 1) := by decide +kernel
theorem d_T_led_2 : decode Y_T_led.2.1 2 = .ok (.iconst 0, 1) := by decide +kernel
theorem d_T_led_3 : decode Y_T_led.2.1 3 = .ok (.istore_n 3, 1) := by decide +kernel
theorem d_T_led_4 : decode Y_T_led.2.1 4 = .ok (.iload_n 3, 1) := by decide +kernel
theorem d_T_led_5 : decode Y_T_led.2.1 5 = .ok (.aload_n 0, 1) := by decide +kernel
theorem d_T_led_6 : decode Y_T_led.2.1 6 = .ok (.getfield 20, 3) := by decide +kernel
theorem d_T_led_9 : decode Y_T_led.2.1 9 = .ok (.getfield 111, 3) := by decide +kernel
theorem d_T_led_12 : decode Y_T_led.2.1 12 = .ok (.if_icmp .ge 43, 3) := by decide +kernel
theorem d_T_led_15 : decode Y_T_led.2.1 15 = .ok (.iload_n 2, 1) := by decide +kernel
theorem d_T_led_16 : decode Y_T_led.2.1 16 = .ok (.ifCond .lt 39, 3) := by decide +kernel
theorem d_T_led_19 : decode Y_T_led.2.1 19 = .ok (.aload_n 0, 1) := by decide +kernel
theorem d_T_led_20 : decode Y_T_led.2.1 20 = .ok (.getfield 43, 3) := by decide +kernel
theorem d_T_led_23 : decode Y_T_led.2.1 23 = .ok (.getfield 128, 3) := by decide +kernel
theorem d_T_led_26 : decode Y_T_led.2.1 26 = .ok (.iload_n 3, 1) := by decide +kernel
theorem d_T_led_27 : decode Y_T_led.2.1 27 = .ok (.iaload, 1) := by decide +kernel
theorem d_T_led_28 : decode Y_T_led.2.1 28 = .ok (.aload_n 0, 1) := by decide +kernel
theorem d_T_led_29 : decode Y_T_led.2.1 29 = .ok (.getfield 20, 3) := by decide +kernel
theorem d_T_led_32 : decode Y_T_led.2.1 32 = .ok (.getfield 125, 3) := by decide +kernel
theorem d_T_led_35 : decode Y_T_led.2.1 35 = .ok (.iload_n 3, 1) := by decide +kernel
theorem d_T_led_36 : decode Y_T_led.2.1 36 = .ok (.iaload, 1) := by decide +kernel
theorem d_T_led_37 : decode Y_T_led.2.1 37 = .ok (.if_icmp .ne 12, 3) := by decide +kernel
theorem d_T_led_40 : decode Y_T_led.2.1 40 = .ok (.iload_n 2, 1) := by decide +kernel
theorem d_T_led_41 : decode Y_T_led.2.1 41 = .ok (.ifCond .ne 5, 3) := by decide +kernel
theorem d_T_led_44 : decode Y_T_led.2.1 44 = .ok (.iload_n 3, 1) := by decide +kernel
theorem d_T_led_45 : decode Y_T_led.2.1 45 = .ok (.ireturn, 1) := by decide +kernel
theorem d_T_led_46 : decode Y_T_led.2.1 46 = .ok (.iinc 2 (-1), 3) := by decide +kernel
theorem d_T_led_49 : decode Y_T_led.2.1 49 = .ok (.iinc 3 1, 3) := by decide +kernel
theorem d_T_led_52 : decode Y_T_led.2.1 52 = .ok (.goto (-48), 3) := by decide +kernel
theorem d_T_led_55 : decode Y_T_led.2.1 55 = .ok (.new 375, 3) := by decide +kernel
theorem d_T_led_58 : decode Y_T_led.2.1 58 = .ok (.dup, 1) := by decide +kernel
theorem d_T_led_59 : decode Y_T_led.2.1 59 = .ok (.ldc_w 377, 3) := by decide +kernel
theorem d_T_led_62 : decode Y_T_led.2.1 62 = .ok (.invokespecial 379, 3) := by decide +kernel
theorem d_T_led_65 : decode Y_T_led.2.1 65 = .ok (.athrow, 1) := by decide +kernel
theorem d_W_led_0 : decode Y_W_led.2.1 0 = .ok (.aload_n 2, 1) := by decide +kernel
theorem d_W_led_1 : decode Y_W_led.2.1 1 = .ok (.iconst 0, 1) := by decide +kernel
theorem d_W_led_2 : decode Y_W_led.2.1 2 = .ok (.aload_n 0, 1) := by decide +kernel
theorem d_W_led_3 : decode Y_W_led.2.1 3 = .ok (.iload_n 1, 1) := by decide +kernel
theorem d_W_led_4 : decode Y_W_led.2.1 4 = .ok (.invokevirtual 7, 3) := by decide +kernel
theorem d_W_led_7 : decode Y_W_led.2.1 7 = .ok (.i2l, 1) := by decide +kernel
theorem d_W_led_8 : decode Y_W_led.2.1 8 = .ok (.lastore, 1) := by decide +kernel
theorem d_W_led_9 : decode Y_W_led.2.1 9 = .ok (.goto 6, 3) := by decide +kernel
theorem d_W_led_12 : decode Y_W_led.2.1 12 = .ok (.astore_n 3, 1) := by decide +kernel
theorem d_W_led_13 : decode Y_W_led.2.1 13 = .ok (.iconst 1, 1) := by decide +kernel
theorem d_W_led_14 : decode Y_W_led.2.1 14 = .ok (.ireturn, 1) := by decide +kernel
theorem d_W_led_15 : decode Y_W_led.2.1 15 = .ok (.iconst 0, 1) := by decide +kernel
theorem d_W_led_16 : decode Y_W_led.2.1 16 = .ok (.ireturn, 1) := by decide +kernel
theorem cs_W_7 : pj_cV "WaverTaxLaw" 7 Y_T_led 1 10 := ⟨⟨pj_mem 1315 (by decide +kernel) rfl, pj_mem 130 (by decide +kernel) rfl, ⟨by decide +kernel, by decide +kernel, by decide +kernel⟩, Or.inl (pj_mem 1312 (by decide +kernel) rfl)⟩, by decide, pj_mem 1313 (by decide +kernel) rfl, pj_mem 1314 (by decide +kernel) rfl, ⟨_, rfl, rfl⟩⟩
/-- what led leaves: an answer over the same heap; or a throw, with one cell more -/
def QcX (G : Cx) (h : PH) (z : Int32 ⊕ Unit) : Array Value → State → Outcome → State → Prop := fun _ _ o t => ∃ v, z = .inl v ∧ o = .returned (some (.int v)) ∧ pj_R G h t.heap
def XcX (G : Cx) (h : PH) (z : Int32 ⊕ Unit) : String → State → State → Prop := fun E _ t => z = .inr () ∧ E = pj_nse ∧ pj_R G (h ++ [(99, [])]) t.heap
def RTX (G : Cx) (mc ms : Nat) (h : PH) : Int32 ⊕ Unit → MT → (State → Prop) → Prop := fun x M Q => (∀ z ∈ M.2.2.2.2.2.2.2.exceptionTable.toList, False) ∧ Q = vx_MQ M.2.2.2.2.2.1 (QcX G h x) (XcX G h x) M.2.2.2.2.1 M.2.2.1 mc ms (fun q => G.1 ≤ q)
theorem pj_R.thrown {G : Cx} {h : PH} {H H1 : Heap} (hR : pj_R G h H) (hs : H1.size = H.size + 1) (ho : ∀ q, q < H.size → H1[q]? = H[q]?) : pj_R G (h ++ [(99, [])]) H1 := by
  obtain ⟨a, b, d, e⟩ := hR
  refine ⟨by rw [List.length_append, hs]; simp only [List.length_cons, List.length_nil]; omega, by rw [List.length_append]; omega, fun q hq => ?_, fun j c1 hj hj9 => ?_⟩
  · rw [ho q (by omega)]; exact d q hq
  · by_cases ej : j < h.length
    · rw [List.getElem?_append_left ej] at hj
      obtain ⟨x, y⟩ := e j c1 hj hj9
      refine ⟨x, y.kept (ho _ ?_)⟩
      rw [pj_ad_ge x]
      omega
    · have hjl : j < (h ++ [((99, []) : PC)]).length := (List.getElem?_eq_some_iff.mp hj).1
      rw [List.length_append] at hjl
      simp only [List.length_cons, List.length_nil] at hjl
      have : j = h.length := by omega
      subst this
      rw [List.getElem?_append_right (Nat.le_refl _), Nat.sub_self] at hj
      cases hj
      exact absurd rfl hj9
section WX2
variable {l : Launch} {G : Cx} {R : Room} {Y : MI} {pc : Nat} {L : List (Option PV)} {st : List PV} {h : PH} {k n mc ms : Nat}
theorem PJ.iretX {v : Int32} (hd : decode Y.2.1 pc = .ok (.ireturn, 1)) (ht : Y.2.2.2 = some .int) (hk : k ≤ mc) (hn : n ≤ ms) : PJ l G R Y pc L [.inl v] h k n (some (.inl v)) (RTX G mc ms h) := by
  intro M hM x9 hx9 Q hQ H locs ls hR hl hlo
  cases hx9
  obtain ⟨hx, hb, hml, hown, hts, hr, hlk, hnm, hK⟩ := id hM
  obtain ⟨-, rfl⟩ := hQ
  exact vx_ret (W.widen hk hn (W.iret hx hb (hr.trans ht) (fun t ht9 hW => ⟨v, rfl, rfl, by rw [ht9]; exact hR⟩) hlo hd hlk))
theorem PJ.thr (hl : l.stackTraces = false) (hY : Y.1.cls = "WaverTax") (d0 : decode Y.2.1 pc = .ok (.new 375, 3)) (d3 : decode Y.2.1 (pc + 3) = .ok (.dup, 1)) (d4 : decode Y.2.1 (pc + 4) = .ok (.ldc_w 377, 3)) (d7 : decode Y.2.1 (pc + 7) = .ok (.invokespecial 379, 3)) (d10 : decode Y.2.1 (pc + 10) = .ok (.athrow, 1))
    (hRf : 5 < R.frames) (hRl : pj_sum st + 82 ≤ R.locals) (hRc : k + 1 ≤ R.cells) (hRs : n + 6 ≤ R.slots) (hk : k + 1 ≤ mc) (hn : n + 6 ≤ ms) : PJ l G R Y pc L st h k n (some (.inr ())) (RTX G mc ms h) := by
  intro M hM x9 hx9 Q hQ H locs ls hR hl9 hlo
  cases hx9
  obtain ⟨hx, hb, hml, hown, hts, hr, hlk, hnm, hK⟩ := id hM
  obtain ⟨ht, rfl⟩ := hQ
  rw [hY] at hown
  obtain ⟨w9, -, -, -, -, -, x1, x2, x3⟩ := hK.2.2.2.2.2
  have hold : ∀ a : Nat, a < G.2.2.2.2.2.size → ¬ G.1 ≤ a → H[a]? = G.2.2.2.2.2[a]? := fun a _ q => hR.2.2.1 a (by omega)
  refine wx_throw (text := "no such person holds what he held first") (sa := G.2.1 23) (A := fun q => G.1 ≤ q) hx hb hl hown (hts _ (pj_mem 1316 (by decide +kernel) rfl)) (hts _ (pj_mem 154 (by decide +kernel) rfl)) (hK.2.2.1 ("WaverTax", 377, "no such person holds what he held first", 23) (by decide +kernel))
    (wx_words hts x1) (x2.kept hold) (x3.kept hold) (hl9.1.trans hml.symm) d0 d3 d4 d7 d10 (fun z hz => absurd hz (fun q => ht z q)) hRf (by rw [pj_sum_v]; exact hRl) hRc hRs hlk (fun t e1 e2 => ⟨rfl, rfl, hR.thrown e1 e2⟩) hlo hk hn
end WX2
section WX3
variable {l : Launch} {G : Cx} {h : PH}
set_option maxRecDepth 20000 in
theorem PX_T_led (hl : l.stackTraces = false) {a0 : Option Nat} {a1 : Int32} : PJ l G (pj_rm 8 1 6) Y_T_led 0 [some (.inr (.inr a0)), some (.inl a1), none, none] [] h 0 0 (f_T_led h a0 a1) (RTX G 1 6 h) := by
  unfold f_T_led
  refine PJ.iload_n (pc := 0) d_T_led_0 rfl ?_
  refine PJ.istore_n (pc := 1) (L1 := [some (.inr (.inr a0)), some (.inl a1), some (.inl a1), none]) d_T_led_1 (Nat.le_of_ble_eq_true rfl) rfl rfl ?_
  refine PJ.iconst (pc := 2) (v := 0) d_T_led_2 (by decide) ?_
  refine PJ.istore_n (pc := 3) (L1 := [some (.inr (.inr a0)), some (.inl a1), some (.inl a1), some (.inl (0 : Int32))]) d_T_led_3 (Nat.le_of_ble_eq_true rfl) rfl rfl ?_
  refine PJ.mk (L1 := [some (.inr (.inr a0)), none, some (.inl a1), some (.inl (0 : Int32))]) [true, false, true, true] rfl ?_
  refine PJ.bind (fun x2 : (Unit) ⊕ (Int32) => match x2 with | (.inl y0) => ((55 : Nat), ([none, none, none, none] : List (Option PV)), ([] : List PV), (h : PH), (0 : Nat), (0 : Nat)) | (.inr y1) => ((44 : Nat), ([none, none, none, some (.inl y1)] : List (Option PV)), ([] : List PV), (h : PH), (0 : Nat), (0 : Nat))) (PJ.it (E := (fun s1 : Int32 × Int32 => ((4 : Nat), ([some (.inr (.inr a0)), none, some (.inl s1.1), some (.inl s1.2)] : List (Option PV)), ([] : List PV), (h : PH), (0 : Nat), (0 : Nat)))) (F := (fun x2 : (Unit) ⊕ (Int32) => match x2 with | (.inl y0) => ((55 : Nat), ([none, none, none, none] : List (Option PV)), ([] : List PV), (h : PH), (0 : Nat), (0 : Nat)) | (.inr y1) => ((44 : Nat), ([none, none, none, some (.inl y1)] : List (Option PV)), ([] : List PV), (h : PH), (0 : Nat), (0 : Nat)))) (fun s1 => ?_) FU (a1, (0 : Int32))) (fun x2 => ?_)
  · show PJ l G (pj_rm 8 1 6) Y_T_led 4 [some (.inr (.inr a0)), none, some (.inl s1.1), some (.inl s1.2)] [] h 0 0 _ _
    refine PJ.iload_n (pc := 4) d_T_led_4 rfl ?_
    refine PJ.aload_n (pc := 5) d_T_led_5 rfl ?_
    refine PJ.getR (pc := 6) fs_T_20 d_T_led_6 (fun v3 => ?_)
    refine PJ.getI (pc := 9) fs_T_111 d_T_led_9 (fun v4 => ?_)
    refine PJ.icmp_ge (pc := 12) (tgt := 55) d_T_led_12 (by decide) (fun _ => ?_) (fun _ => ?_)
    · refine PJ.mk (L1 := [none, none, none, none]) [false, false, false, false] rfl ?_
      exact PJ.done rfl
    · refine PJ.iload_n (pc := 15) d_T_led_15 rfl ?_
      refine PJ.if_lt (pc := 16) (tgt := 55) d_T_led_16 (by decide) (fun _ => ?_) (fun _ => ?_)
      · refine PJ.mk (L1 := [none, none, none, none]) [false, false, false, false] rfl ?_
        exact PJ.done rfl
      · refine PJ.aload_n (pc := 19) d_T_led_19 rfl ?_
        refine PJ.getR (pc := 20) fs_T_43 d_T_led_20 (fun v5 => ?_)
        refine PJ.getR (pc := 23) fs_T_128 d_T_led_23 (fun v6 => ?_)
        refine PJ.iload_n (pc := 26) d_T_led_26 rfl ?_
        refine PJ.iald (pc := 27) d_T_led_27 (fun v7 => ?_)
        refine PJ.aload_n (pc := 28) d_T_led_28 rfl ?_
        refine PJ.getR (pc := 29) fs_T_20 d_T_led_29 (fun v8 => ?_)
        refine PJ.getR (pc := 32) fs_T_125 d_T_led_32 (fun v9 => ?_)
        refine PJ.iload_n (pc := 35) d_T_led_35 rfl ?_
        refine PJ.iald (pc := 36) d_T_led_36 (fun v10 => ?_)
        refine PJ.icmp_ne (pc := 37) (tgt := 49) d_T_led_37 (by decide) (fun _ => ?_) (fun _ => ?_)
        · refine PJ.iinc (pc := 49) (v := 1) (L1 := [some (.inr (.inr a0)), none, some (.inl s1.1), some (.inl (s1.2 + (1 : Int32)))]) d_T_led_49 rfl (by decide) (Nat.le_of_ble_eq_true rfl) rfl rfl ?_
          refine PJ.goto (pc := 52) (tgt := 4) d_T_led_52 (by decide) ?_
          exact PJ.done rfl
        · refine PJ.iload_n (pc := 40) d_T_led_40 rfl ?_
          refine PJ.if_ne (pc := 41) (tgt := 46) d_T_led_41 (by decide) (fun _ => ?_) (fun _ => ?_)
          · refine PJ.iinc (pc := 46) (v := -1) (L1 := [some (.inr (.inr a0)), none, some (.inl (s1.1 + (-1 : Int32))), some (.inl s1.2)]) d_T_led_46 rfl (by decide) (Nat.le_of_ble_eq_true rfl) rfl rfl ?_
            refine PJ.iinc (pc := 49) (v := 1) (L1 := [some (.inr (.inr a0)), none, some (.inl (s1.1 + (-1 : Int32))), some (.inl (s1.2 + (1 : Int32)))]) d_T_led_49 rfl (by decide) (Nat.le_of_ble_eq_true rfl) rfl rfl ?_
            refine PJ.goto (pc := 52) (tgt := 4) d_T_led_52 (by decide) ?_
            exact PJ.done rfl
          · refine PJ.mk (L1 := [none, none, none, some (.inl s1.2)]) [false, false, false, true] rfl ?_
            exact PJ.done rfl
  · rcases x2 with yx2_0 | yx2_1
    · show PJ l G (pj_rm 8 1 6) Y_T_led 55 [none, none, none, none] [] h 0 0 _ _
      exact PJ.thr (pc := 55) hl rfl d_T_led_55 d_T_led_58 d_T_led_59 d_T_led_62 d_T_led_65 (by decide) (by decide) (by decide) (by decide) (by decide) (by decide)
    · show PJ l G (pj_rm 8 1 6) Y_T_led 44 [none, none, none, some (.inl yx2_1)] [] h 0 0 _ _
      refine PJ.iload_n (pc := 44) d_T_led_44 rfl ?_
      exact PJ.iretX (pc := 45) d_T_led_45 rfl (by decide) (by decide)
theorem PMX_T_led (hl : l.stackTraces = false) {a0 : Option Nat} {a1 : Int32} {z : Int32 ⊕ Unit} (hz : f_T_led h a0 a1 = some z) : vx_Met l Y_T_led.1 (pj_wsY Y_T_led) (pj_rm 8 1 6) (pj_Pc G [.inr (.inr a0), .inl a1] h) (QcX G h z) (XcX G h z) 1 6 (fun q => G.1 ≤ q) := by
  refine vx_ofW (cc := Y_T_led.2.1) (maxL := Y_T_led.2.2.1) (ret := Y_T_led.2.2.2) (by decide) rfl ?_
  intro p e s m args below meth c s₁ B hml htab hv
  obtain ⟨rfl, hR, hK⟩ := hv
  have hts := atoms_spec (ws := pj_wsY Y_T_led) B.pre
  have hM : pj_M G Y_T_led (p, e, s, m, (([.inr (.inr a0), .inl a1] : List PV).map (pj_v G)).toArray, below, meth, c) := ⟨B.exec, B.bytes, hml, findClass_of_methodNamed B.named, fun w hw => hts w (List.mem_cons_of_mem _ hw), B.returns, B.notSynchronized, (name_of_methodNamed B.named B.method).1, hK⟩
  rw [lg_entry_eq]
  have hl9 := lv_entry (([.inr (.inr a0), .inl a1] : List PV).map (pj_v G)) (n := Y_T_led.2.2.1) (by rw [pj_sl_len]; exact Nat.le_of_ble_eq_true rfl)
  rw [← pj_args_L, ← pj_L_rep (m := 2)] at hl9
  exact PX_T_led hl _ hM z hz _ ⟨htab, rfl⟩ s.heap [] _ hR hl9 (fun q hq => by cases hq)
/-! the law's own led -/
def RTW (G : Cx) (mc ms : Nat) : Int32 × PH → MT → (State → Prop) → Prop := fun x M Q => M.2.2.2.2.2.2.2.exceptionTable.toList = tableOf [(0, 9, 12, 13)] ∧ RT G mc ms cvI x M Q
theorem led_7 {a2 : Option Nat} {v : Int32} : PJ l G (pj_rm 20 1 6) Y_W_led 7 [none, none, none, none] [.inl v, .inl 0, .inr (.inr a2)] h 1 6 ((sA h 51 a2 0 (.inr (.inl v.toInt64))).bind fun h1 => some ((0 : Int32), h1)) (RT G 1 6 cvI) := by
  refine PJ.i2l (pc := 7) d_W_led_7 ?_
  refine PJ.last (pc := 8) d_W_led_8 (fun h1 => ?_)
  refine PJ.goto (pc := 9) (tgt := 15) d_W_led_9 (by decide) ?_
  refine PJ.iconst (pc := 15) (v := 0) d_W_led_15 (by decide) ?_
  exact PJ.iret (pc := 16) d_W_led_16 rfl (by decide) (by decide)
theorem led_13 : PJ l G (pj_rm 20 1 6) Y_W_led 13 [none, none, none, none] [] h 1 6 (some ((1 : Int32), h)) (RT G 1 6 cvI) := by
  refine PJ.iconst (pc := 13) (v := 1) d_W_led_13 (by decide) ?_
  exact PJ.iret (pc := 14) d_W_led_14 rfl (by decide) (by decide)
theorem led_4 (hl : l.stackTraces = false) {a0 a2 : Option Nat} {a1 : Int32} : PJ l G (pj_rm 20 1 6) Y_W_led 4 [some (.inr (.inr a0)), some (.inl a1), some (.inr (.inr a2)), none] [.inl a1, .inr (.inr a0), .inl 0, .inr (.inr a2)] h 0 0 (f_W_led h a0 a1 a2) (RTW G 1 6) := by
  intro M hM x9 hx9 Q hQ H locs ls hR hl9 hlo
  obtain ⟨htab, hQ⟩ := hQ
  unfold f_W_led at hx9
  obtain ⟨fs, hz1, hx9⟩ := Option.bind_eq_some_iff.mp hx9
  obtain ⟨z, hz, hx9⟩ := Option.bind_eq_some_iff.mp hx9
  obtain ⟨i, rfl, hi⟩ := pj_at_spec hz1
  obtain ⟨hcb, hci, hw1, hw2, r9, hr1, hr2⟩ := cs_W_7
  have hf : pj_fit (pj_rm 20 1 6) Y_T_led 8 1 6 0 0 := ⟨by decide, by decide, by decide, by decide⟩
  obtain ⟨hB, -⟩ := pj_callB hM hcb hf
  obtain ⟨hx, hb, hml, hown, hts, hr, hlk, hnm, hK⟩ := id hM
  have hMt := PMX_T_led (l := l) (G := G) hl hz
  have hpre : PreV M.2.2.1 H Y_T_led.1.cls (pj_ad G i) (pj_Pc G [.inr (.inr (some i)), .inl a1] h) ([.inl a1].map (pj_v G)) := by
    refine ⟨pj_blind, ?_, fun U hU hW => ⟨rfl, by rw [hU]; exact hR, hK.warm hW⟩⟩
    obtain ⟨r, e1, -, cell, q1, q2, q3, q4⟩ := ((hR.2.2.2 i _ hi (show (10 : Nat) ≠ 99 by decide)).2).1 hci
    cases hr1.symm.trans e1
    obtain ⟨hS, hfc, -⟩ := hK.1.1 10 _ hr1
    exact ⟨cell, q1, by rw [q3]; rfl, by rw [← hr2, q2]; exact hfc⟩
  have hmon : 2 * (F0 M.2.2.2.1 4 ls (([.inl a1, .inr (.inr (some i)), .inl 0, .inr (.inr a2)] : List PV).map (pj_v G))).monitorRoom + ((([.inl 0, .inr (.inr a2)] : List PV).map (pj_v G)).map fun v => v.category).sum ≤ 8 := by
    rw [pj_sum_v]
    show 2 * 0 + 2 ≤ 8
    omega
  have hw : Cond.methodLink "WaverTaxLaw" 7 Y_T_led.1 ∈ pj_ws := pj_mem 1312 (by decide +kernel) rfl
  have run := vx_runV (Ts := pj_ws) (l := l) (below := M.2.2.2.2.2.1) (e := M.2.1) (meth := M.2.2.2.2.2.2.1) (locs := locs) (cells := 0) (slots := 0) ⟨hx, hb, hml, hown, hts⟩ hMt ⟨hB hw, hts _ hw1, hts _ hw2⟩ hpre (g := F0 M.2.2.2.1 4 ls (([.inl a1, .inr (.inr (some i)), .inl 0, .inr (.inr a2)] : List PV).map (pj_v G))) (rest := ([.inl 0, .inr (.inr a2)] : List PV).map (pj_v G)) rfl rfl hl9.1 rfl hmon d_W_led_4 ⟨by decide, by decide⟩
  have hn : lv_has ls 4 (pj_L G 0 [none, none, none, none]) := ⟨hl9.1, hl9.2.1, fun q hq => by cases hq⟩
  intro T hT X
  rcases run T hT X with ⟨v, st₀, t, T', L9, h0, X', hL, e1, e2, hq, st⟩ | ⟨q, st₀, t, T', L9, E, ce, h0, X', hL, e1, e2, hq, hce, hcv, hcl, st⟩
  · obtain ⟨v', rfl, hv, hRt⟩ := hq
    have hv : v = some (.int v') := Outcome.returned.inj hv
    subst hv
    obtain ⟨t2, b1, b2⟩ := led_7 (l := l) M hM x9 hx9 Q hQ T'.heap (locs ++ L9) ls (by rw [e1]; exact hRt) hn (fun q hq => (List.mem_append.mp hq).elim (hlo q) (hL q)) T' rfl X'
    exact ⟨t2, st t2 b1, b2⟩
  · obtain ⟨rfl, rfl, hRt⟩ := hq
    cases hx9
    have kk : W M.1 l M.2.1 (pj_rm 20 1 6) M.2.2.1 M.2.2.2.1 M.2.2.2.2.1 M.2.2.2.2.2.1 M.2.2.2.2.2.2.1 M.2.2.2.2.2.2.2 T'.heap (locs ++ L9) (0 + 1) (0 + 6) Q (F0 M.2.2.2.1 12 ls [.ref q]) := by
      refine lv_astore_n hx hb (k := 3) (i := 3) (nL := 4) d_W_led_12 rfl hn (by decide) rfl (fun ls1 hl1 => ?_)
      exact led_13 (l := l) M hM _ rfl Q hQ T'.heap (locs ++ L9) ls1 (by rw [e1]; exact hRt) ⟨hl1.1, hl1.2.1, fun q hq => by cases hq⟩ (fun q hq => (List.mem_append.mp hq).elim (hlo q) (hL q))
    have hown2 : M.2.2.1.vm.findClass "WaverTaxLaw" = some M.2.2.2.1.cls := hown
    obtain ⟨w9, -, -, -, -, -, x1, -⟩ := hK.2.2.2.2.2
    obtain ⟨t2, b1, b2⟩ := vx_catch (own := "WaverTaxLaw") (name := pj_nse) (E := pj_nse) (pc := 4) (rest := ([.inl 0, .inr (.inr a2)] : List PV).map (pj_v G)) hown2 [] ⟨0, 9, 12, 13⟩ [] htab (fun z hz => by cases hz) (by decide) (by decide) (hts _ (pj_mem 1311 (by decide +kernel) rfl)) (x1.use rfl) (by rw [e1]; exact hce) hcv hcl kk T' rfl X'
    exact ⟨t2, st.trans b1, b2⟩
theorem PM_W_led (hl : l.stackTraces = false) : ∀ h a0 a1 a2 z, f_W_led h a0 a1 a2 = some z → PMW l G 20 1 6 Y_W_led [(0, 9, 12, 13)] [.inr (.inr a0), .inl a1, .inr (.inr a2)] h (some (.inl z.1), z.2) := by
  intro h a0 a1 a2 z hz
  unfold PMW
  refine va_MetW (cc := Y_W_led.2.1) (maxL := Y_W_led.2.2.1) (ret := Y_W_led.2.2.2) (by decide) rfl ?_
  intro p e s m args below meth c s₁ B hml hv
  obtain ⟨rfl, hR, hK⟩ := hv
  have hts := atoms_spec (ws := Cond.codeWith Y_W_led.1 Y_W_led.2.1 Y_W_led.2.2.1 Y_W_led.2.2.2 [(0, 9, 12, 13)] :: pj_ws) B.pre
  have htab := vx_table (x := Y_W_led.1) B (hts _ List.mem_cons_self)
  have hM : pj_M G Y_W_led (p, e, s, m, (([.inr (.inr a0), .inl a1, .inr (.inr a2)] : List PV).map (pj_v G)).toArray, below, meth, c) := ⟨B.exec, B.bytes, hml, findClass_of_methodNamed B.named, fun w hw => hts w (List.mem_cons_of_mem _ hw), B.returns, B.notSynchronized, (name_of_methodNamed B.named B.method).1, hK⟩
  rw [lg_entry_eq]
  have hl9 := lv_entry (([.inr (.inr a0), .inl a1, .inr (.inr a2)] : List PV).map (pj_v G)) (n := Y_W_led.2.2.1) (by rw [pj_sl_len]; exact Nat.le_of_ble_eq_true rfl)
  rw [← pj_args_L, ← pj_L_rep (m := 1)] at hl9
  have body : PJ l G (pj_rm 20 1 6) Y_W_led 0 [some (.inr (.inr a0)), some (.inl a1), some (.inr (.inr a2)), none] [] h 0 0 (f_W_led h a0 a1 a2) (RTW G 1 6) := by
    refine PJ.aload_n (pc := 0) d_W_led_0 rfl ?_
    refine PJ.iconst (pc := 1) (v := 0) d_W_led_1 (by decide) ?_
    refine PJ.aload_n (pc := 2) d_W_led_2 rfl ?_
    refine PJ.iload_n (pc := 3) d_W_led_3 rfl ?_
    exact led_4 hl
  exact body _ hM z hz _ ⟨htab, rfl⟩ s.heap [] _ hR hl9 (fun q hq => by cases hq)
end WX3
