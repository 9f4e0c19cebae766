/-! a throw of the claim's one exception, its first constructor by the pool's index 13 (after the library's law of exceptions with a text) -/
def wx_r : String := "java/lang/RuntimeException"
def wx_e : String := "java/lang/Exception"
def wx_tl : List Cond := [.methodLink "WaverTax" 379 (Bundle.initS pj_nse), .instantiable pj_nse 6, .castable pj_nse pj_nse, .selects pj_nse Bundle.tFill0 Bundle.tFill0, .selects pj_nse Bundle.tFill Bundle.tFill, .lays pj_nse Bundle.tN "cause" "Ljava/lang/Throwable;", .lays pj_nse Bundle.tN "stackTrace" Bundle.steD, .lays pj_nse Bundle.tN "suppressedExceptions" Bundle.listD, .lays pj_nse Bundle.tN "detailMessage" "Ljava/lang/String;", .isRef (.static Bundle.tN "UNASSIGNED_STACK" Bundle.steD), .isRef (.static Bundle.tN "SUPPRESSED_SENTINEL" Bundle.listD), .fieldLink Bundle.tN 198 Bundle.tN "backtrace" "Ljava/lang/Object;", .lays Bundle.tN Bundle.tN "backtrace" "Ljava/lang/Object;", .lays pj_nse Bundle.tN "backtrace" "Ljava/lang/Object;"]
def wx_all : List Cond := Bundle.throwableAtoms ++ (Bundle.throwableSAtoms ++ (Bundle.passSAtoms pj_nse wx_r 13 prog_30_method_4_code ++ (Bundle.chainSAtoms wx_r [wx_e] ++ wx_tl)))
theorem wx_m1 {w : Cond} (h : w ∈ Bundle.throwableAtoms) : w ∈ wx_all := List.mem_append_left _ h
theorem wx_m2 {w : Cond} (h : w ∈ Bundle.throwableSAtoms) : w ∈ wx_all := List.mem_append_right _ (List.mem_append_left _ h)
theorem wx_m3 {w : Cond} (h : w ∈ Bundle.passSAtoms pj_nse wx_r 13 prog_30_method_4_code) : w ∈ wx_all := List.mem_append_right _ (List.mem_append_right _ (List.mem_append_left _ h))
theorem wx_m4 {w : Cond} (h : w ∈ Bundle.chainSAtoms wx_r [wx_e]) : w ∈ wx_all := List.mem_append_right _ (List.mem_append_right _ (List.mem_append_right _ (List.mem_append_left _ h)))
theorem wx_m5 {w : Cond} (h : w ∈ wx_tl) : w ∈ wx_all := List.mem_append_right _ (List.mem_append_right _ (List.mem_append_right _ (List.mem_append_right _ h)))
theorem wx_0 : decode prog_30_method_4_code 0 = .ok (.aload_n 0, 1) := by decide +kernel
theorem wx_1 : decode prog_30_method_4_code 1 = .ok (.aload_n 1, 1) := by decide +kernel
theorem wx_2 : decode prog_30_method_4_code 2 = .ok (.invokespecial 13, 3) := by decide +kernel
theorem wx_5 : decode prog_30_method_4_code 5 = .ok (.return_, 1) := by decide +kernel
theorem wx_fit : Bundle.fit pj_nse = true ∧ Bundle.fit wx_r = true ∧ ∀ n ∈ [wx_e], Bundle.fit n = true := by decide +kernel
theorem wx_in : ∀ w ∈ (wx_all.filter vx_no).filter goodWord, w ∈ lw_tbl := by decide +kernel
theorem wx_out : ∀ w ∈ (wx_all.filter vx_no).filter (fun w => !goodWord w), w ∈ [Cond.castable pj_nse pj_nse, Cond.declares (Bundle.initS wx_r), Cond.declares (Bundle.initS wx_e), Cond.declares (Bundle.initS Bundle.tN)] := by decide +kernel
/-- a method with code, and no static one, is declared -/
theorem wx_decl {x : MethodName} {bytes : ByteArray} {n : Nat} {r : Option FieldType} {args : Array Value} {s : State} (h1 : (Cond.code x bytes n r).before args s = true) (h2 : (Cond.instanceMethod x).before args s = true) : (Cond.declares x).before args s = true := by
  obtain ⟨m, hm⟩ : ∃ m, s.methodNamed? x = some m := by
    cases hn : s.methodNamed? x with
    | none => simp [Cond.before, Cond.holds, Cond.value, hn] at h1
    | some m => exact ⟨m, rfl⟩
  obtain ⟨meth, c, q1, -, -, -, -, -, -, q8⟩ := Cond.code_spec hm h1
  have h3 : meth.isStatic = false := by
    simp only [Cond.before, Cond.holds, Cond.value, hm, Option.bind_some, q1, Option.map_some, beq_iff_eq, Option.some.injEq, Bool.and_eq_true, Bool.not_eq_true'] at h2
    exact h2.1
  simp [Cond.before, Cond.holds, Cond.value, hm, q1, h3, q8]
theorem wx_words {args : Array Value} {s : State} (hts : ∀ w ∈ pj_ws, w.before args s = true) (hc : va_Nw (.castable pj_nse pj_nse) s) : ∀ w ∈ wx_all.filter vx_no, w.before args s = true := by
  have hg : ∀ w ∈ (wx_all.filter vx_no).filter goodWord, w.before args s = true := fun w hw => hts w (List.mem_filter.mpr ⟨wx_in w hw, (List.mem_filter.mp hw).2⟩)
  have d1 : (Cond.declares (Bundle.initS wx_r)).before args s = true := wx_decl (bytes := Bundle.six) (n := 2) (r := none) (hg _ (by decide +kernel)) (hg _ (by decide +kernel))
  have d2 : (Cond.declares (Bundle.initS wx_e)).before args s = true := wx_decl (bytes := Bundle.six) (n := 2) (r := none) (hg _ (by decide +kernel)) (hg _ (by decide +kernel))
  have d3 : (Cond.declares (Bundle.initS Bundle.tN)).before args s = true := wx_decl (bytes := LibCode.Throwable.InitS.code) (n := 2) (r := none) (hg _ (by decide +kernel)) (hg _ (by decide +kernel))
  exact vx_hat hg wx_out (vx_c (hc.use rfl) (vx_c d1 (vx_c d2 (vx_c d3 vx_n))))
theorem wx_ot : ∀ w ∈ Cond.classLink "WaverTax" 375 pj_nse :: Cond.initialized pj_nse :: wx_all.filter vx_no, vx_ot w = true := by decide +kernel
section WX1
variable {p : Program} {l : Launch} {e : Env} {R : Room} {s : State} {m : MethodId} {args : Array Value} {below : List Frame} {meth : Method} {c : Code} {locs : List Loc} {cells slots : Nat}
set_option maxHeartbeats 1000000 in
theorem wx_ctor {V : State} (X : Stand p l e R s m args below meth c V locs cells slots) (hexec : p.tables.exec = Jvm.exec) (htr : e.platform.stackTraces = false) (hown : s.vm.findClass "WaverTax" = some m.cls)
    (h : ∀ w ∈ wx_all, w.before args s = true) (hlocs : ∀ x ∈ locs, ∀ cell, s.heap[x.base]? = some cell → cell.vm.isStatics = false)
    {a : Addr} {cX : ClassId} {kX : Class} (hfX : s.vm.findClass pj_nse = some cX) (hkX : s.vm.classes[cX]? = some kX) (hcell : V.heap[a]? = some (freshCell cX kX)) (hnew : s.heap.size ≤ a) {msg : Value} (hmsg : msg.isRef = true)
    {g : JFrame} (hg : g.method = m) (hsize : g.locals.size = c.maxLocals) (hlocked : g.locked = none) (hentered : g.entered = []) {rest : List Value} (hstack : g.stack = msg :: .ref a :: .ref a :: rest)
    (hd6 : decode c.code g.pc = .ok (.invokespecial 379, 3)) (hd9 : decode c.code (g.pc + 3) = .ok (.athrow, 1)) (hout : ∀ x ∈ c.exceptionTable.toList, covers x (g.pc + 3) = false)
    (hRf : 5 < R.frames) (hRl : 2 * g.monitorRoom + ((Value.ref a :: rest).map fun v => v.category).sum + 81 ≤ R.locals) (hlocks : meth.locks = false) :
    ∃ U : State, Steps p.tables e below (V.setTop g) U ∧ U.status = .running ∧ Ended U below (.threw a) ∧ s.WarmedH U.vm ∧ s.sameButNew ({ U with vm := s.vm } : State) locs cells slots ∧ ∃ ce, U.heap[a]? = some ce ∧ ce.vm = .none ∧ s.vm.findClass pj_nse = some ce.cls := by
  have howns : e.platform.frameOwnsMonitors = true := by rw [X.admits.platform]
  have hfin : e.platform.finalization = false := by rw [X.admits.platform]
  have hpl : e.platform.magicAccessors = ({} : Platform).magicAccessors := by rw [X.admits.platform]
  have tl : ∀ w, w ∈ wx_tl → w.holds args s none s [] = true := fun w hw => h w (wx_m5 hw)
  obtain ⟨T, Z0, LT, -, Y⟩ := ThrowableC.of_atoms (args := args) howns hfin hpl (fun w hw => h w (wx_m1 hw))
  obtain ⟨Z, M, LZ, LM, hnZ⟩ := Init0T.ofS_atoms (args := args) hpl LT Y (fun w hw => h w (wx_m2 hw))
  obtain ⟨P0, L0, hP0m, hP0s⟩ := PassC.ofS_atoms (args := args) (s := s) hpl (X := pj_nse) (Y := wx_r) (Bundle.fit_spec wx_fit.1).1 (Bundle.fit_spec wx_fit.2.1).2 wx_0 wx_1 wx_2 wx_5 (fun w hw => h w (wx_m3 hw))
  obtain ⟨P1, Ps, hlen, L1, hL, hP1m, hsup, hpass⟩ := Bundle.chainS (args := args) hpl hnZ [wx_e] wx_r wx_fit.2.1 wx_fit.2.2 (fun w hw => h w (wx_m4 hw))
  have hfound : s.vm.findClass pj_nse = some P0.m.cls := findClass_of_methodNamed hP0m
  cases Option.some.inj (hfX.symm.trans hfound)
  obtain ⟨c1, kX', hc1, hk, hord, -, -, hn6⟩ := Cond.instantiable_spec (tl (.instantiable pj_nse 6) (by simp [wx_tl]))
  cases Option.some.inj (hc1.symm.trans hfound)
  cases Option.some.inj (hkX.symm.trans hk)
  have hsel : ∀ {f : MethodName} {mf : MethodId}, s.methodNamed? f = some mf → f.cls ≠ "java/lang/invoke/MethodHandle" ∧ f.cls ≠ "java/lang/invoke/VarHandle" → (Cond.selects pj_nse f f).holds args s none s [] = true → selectMethod e.platform s.vm P0.m.cls mf = .method mf := by
    intro f mf hf hne hh
    obtain ⟨c2, r2, m2, q1, q2, q3, q4, -⟩ := Cond.selects_spec hh
    cases Option.some.inj (q1.symm.trans hfound)
    cases Option.some.inj (q2.symm.trans (State.methodFound?_of_named hf hne))
    cases Option.some.inj (q3.symm.trans hf)
    rw [Launch.admits_selectMethod X.admits]; exact q4
  have hsel0 := hsel Y.fill0 (by decide) (tl (.selects pj_nse Bundle.tFill0 Bundle.tFill0) (by simp [wx_tl]))
  have hselF := hsel Y.fill (by decide) (tl (.selects pj_nse Bundle.tFill Bundle.tFill) (by simp [wx_tl]))
  obtain ⟨cellS0, hcS0, hiss⟩ := Y.statics
  obtain ⟨u0, hu0⟩ := Cond.staticRefV Y.unassigned LT.unassignedStatic LT.statics hcS0 hiss (tl (.isRef (.static Bundle.tN "UNASSIGNED_STACK" Bundle.steD)) (by simp [wx_tl]))
  obtain ⟨sen, hsen⟩ := Cond.staticRefV Y.sentinel LT.sentinelStatic LT.statics hcS0 hiss (tl (.isRef (.static Bundle.tN "SUPPRESSED_SENTINEL" Bundle.listD)) (by simp [wx_tl]))
  obtain ⟨ci198, i198, fB, hk198, hg198, ha198, hsB, -, hnB, htB, hffB⟩ := Cond.ownField (t := .object "java/lang/Object") Y.found LT.cls (by decide +kernel) (tl (.fieldLink Bundle.tN 198 Bundle.tN "backtrace" "Ljava/lang/Object;") (by simp [wx_tl])) (tl (.lays Bundle.tN Bundle.tN "backtrace" "Ljava/lang/Object;") (by simp [wx_tl])) e.platform hpl
  obtain ⟨cellS, hcS', heS, -, hkeep⟩ := X.same.2.2.2.2.2 T.aS cellS0 hcS0
  have hcellS : V.heap[T.aS]? = some cellS := hcS'
  have hoff : ∀ i, (⟨T.aS, i⟩ : Loc) ∉ locs := fun i hmem => by
    have := hlocs _ hmem cellS0 hcS0
    rw [hiss] at this; cases this
  have hknownS : cellS.vm ≠ .unknown := by
    rw [heS]; intro hu
    rw [show cellS0.vm = .unknown from hu] at hiss
    cases hiss
  have hneS : T.aS ≠ a := Nat.ne_of_lt (Nat.lt_of_lt_of_le (Array.getElem?_eq_some_iff.mp hcS0).1 hnew)
  obtain ⟨iM, hffM⟩ := Y.msg
  obtain ⟨tyC, dC, hdC, hdnC⟩ := Cond.laysAt hfound hk Y.cause (tl (.lays pj_nse Bundle.tN "cause" "Ljava/lang/Throwable;") (by simp [wx_tl]))
  obtain ⟨tyS, dS, hdS, hdnS⟩ := Cond.laysAt hfound hk Y.stack (tl (.lays pj_nse Bundle.tN "stackTrace" Bundle.steD) (by simp [wx_tl]))
  obtain ⟨tyP, dP, hdP, hdnP⟩ := Cond.laysAt hfound hk Y.supp (tl (.lays pj_nse Bundle.tN "suppressedExceptions" Bundle.listD) (by simp [wx_tl]))
  obtain ⟨tyM, dM, hdM, hdnM⟩ := Cond.laysAt hfound hk hffM (tl (.lays pj_nse Bundle.tN "detailMessage" "Ljava/lang/String;") (by simp [wx_tl]))
  obtain ⟨tyB, dB, hdB, hdnB⟩ := Cond.laysAt hfound hk hffB (tl (.lays pj_nse Bundle.tN "backtrace" "Ljava/lang/Object;") (by simp [wx_tl]))
  have bC := Cond.laysApart hdB hdC hdnB hdnC (by rw [hnB, Y.causeName]; decide)
  have bS := Cond.laysApart hdB hdS hdnB hdnS (by rw [hnB, Y.stackName]; decide)
  have bP := Cond.laysApart hdB hdP hdnB hdnP (by rw [hnB, Y.suppName]; decide)
  have hskip : SkipFacts T e.platform s (fun u => u) u0 ((preparedCellV T.toThrowableT (freshCell P0.m.cls kX) a u0 sen).withEntry V.cur) :=
    ⟨{ ci198 := ci198, i198 := i198, fBack := fB }, ⟨hk198, hg198, ha198, hsB⟩, by
      have := fresh_default (c := P0.m.cls) tyB
      rw [htB] at this
      simpa [preparedCellV, Cell.setSlot, Cell.withEntry, Array.getElem?_setIfInBounds, bC, bS, bP, bC.symm, bS.symm, bP.symm, defaultValue] using this, fun _ _ => rfl⟩
  obtain ⟨tm, methC, cdC, kC, vm₁, hnC, -, -, -, -, -, -, -, hW₁, st1⟩ := Steps.initColdS (tb := p.tables) (e := e) (below := below) (s := s) (U := V) X.here hexec X.warmed hpl hown (t := Bundle.initS pj_nse) rfl rfl (Bundle.fit_spec wx_fit.1).2
    (tl (.methodLink "WaverTax" 379 (Bundle.initS pj_nse)) (by simp [wx_tl])) (h (.instanceMethod (Bundle.initS pj_nse)) (wx_m3 (by simp [Bundle.passSAtoms]))) (bytes := prog_30_method_4_code) (maxL := 2) (h (.code (Bundle.initS pj_nse) prog_30_method_4_code 2 none) (wx_m3 (by simp [Bundle.passSAtoms])))
    (f := g) hg (a := a) (msg := msg) (rest := .ref a :: rest) hstack hd6
  cases Option.some.inj (hnC.symm.trans hP0m)
  have X₁ := X.noted hW₁
  obtain ⟨vm₂, X₂, st2⟩ := X₁.ctorMessageOffV hexec (g := { g with stack := .ref a :: rest }) hg hsize T LT Z LZ M LM (P0 :: P1 :: Ps)
    (fun P hP => by
      rcases List.mem_cons.mp hP with rfl | hP
      · exact L0
      · rcases List.mem_cons.mp hP with rfl | hP
        · exact L1
        · exact hL P hP) ⟨Option.some.inj (hP0s.symm.trans hP1m), hsup, hpass⟩ (u0 := u0) (sen := sen) (self := a) hmsg (cell := freshCell P0.m.cls kX) (cellS := cellS)
    hcell (fun _ => by simp) (by simp) rfl rfl hsel0 hselF hcellS hneS hknownS (by rw [hkeep _ (hoff _)]; exact hu0) (by rw [hkeep _ (hoff _)]; exact hsen)
    (Takes.of_laid hk hord tyC (by rw [Y.causeType]; rfl)) (Takes.of_laid hk hord tyS (by rw [Y.stackType]; exact fits_refV_array _ u0)) (Takes.of_laid hk hord tyP (by rw [Y.suppType]; exact fits_refV_object _ sen))
    (Takes.of_laid hk hord tyM (by rw [Y.msgType]; exact fits_refV_object _ ⟨msg, hmsg⟩)) Y.objLocals hskip htr [] hd6
    (by simp only [List.length_cons, hlen, List.length_nil]; omega) (by simp only [List.length_cons, hlen, List.length_nil]; exact hRl)
  obtain ⟨hwalk, hrun, hended, hWU, hsame⟩ := X₂.athrowLeaves hexec (g := { g with stack := .ref a :: rest, pc := g.pc + 3 }) hg hlocked hentered hout (a := a) (rest := rest) rfl hd9
  have hlt : a < ((V.setVm vm₁).setVm vm₂).heap.size := (Array.getElem?_eq_some_iff.mp hcell).1
  have hU := heapAt_setCell_self (s := (V.setVm vm₁).setVm vm₂) (plainBareV T.toThrowableT (freshCell P0.m.cls kX) a u0 sen msg) hlt
  refine ⟨_, st1 _ (fun acts => ?_), hrun, hended, hWU, hsame.weaken (fun y hy hlt' => ?_) (Nat.le_refl _) (Nat.le_refl _), _, hU, rfl, hfound⟩
  · rw [doInvoke_state]
    exact st2 _ hwalk
  · rcases List.mem_append.mp hy with h1 | h1
    · exact h1
    · exfalso
      have hb : y.base = a := by
        simp only [List.mem_cons, List.not_mem_nil, or_false] at h1
        rcases h1 with rfl | rfl | rfl | rfl | rfl <;> rfl
      rw [hb] at hlt'
      exact Nat.not_lt.mpr hnew hlt'
variable {H : Heap} {mc ms : Nat} {free : Addr → Prop} {ls : Array Slot} {rest : List Value} {Qc : Array Value → State → Outcome → State → Prop} {XC : String → State → State → Prop}
/-- 'throw new NoSuchElementException("..")': one cell more, nothing else -/
theorem wx_throw {cc : ByteArray} {pc sa : Nat} {text : String} {A : Nat → Prop} (hexec : p.tables.exec = Jvm.exec) (hb : c.code = cc) (hl : l.stackTraces = false) (hown : s.vm.findClass "WaverTax" = some m.cls)
    (hk : (Cond.classLink "WaverTax" 375 pj_nse).before args s = true) (hini : (Cond.initialized pj_nse).before args s = true) (hstr : vk_R "WaverTax" 377 text sa s) (hat : ∀ w ∈ wx_all.filter vx_no, w.before args s = true)
    (hU : vx_Zq Bundle.tN "UNASSIGNED_STACK" Bundle.steD A s H) (hN : vx_Zq Bundle.tN "SUPPRESSED_SENTINEL" Bundle.listD A s H) (hsize : ls.size = c.maxLocals)
    (d0 : decode cc pc = .ok (.new 375, 3)) (d3 : decode cc (pc + 3) = .ok (.dup, 1)) (d4 : decode cc (pc + 4) = .ok (.ldc_w 377, 3)) (d7 : decode cc (pc + 7) = .ok (.invokespecial 379, 3)) (d10 : decode cc (pc + 10) = .ok (.athrow, 1))
    (hout : ∀ x ∈ c.exceptionTable.toList, covers x (pc + 10) = false)
    (hRf : 5 < R.frames) (hRl : (rest.map fun v => v.category).sum + 82 ≤ R.locals) (hRc : cells + 1 ≤ R.cells) (hRs : slots + 6 ≤ R.slots) (hlocks : meth.locks = false)
    (hx : ∀ t : State, t.heap.size = H.size + 1 → (∀ q : Nat, q < H.size → t.heap[q]? = H[q]?) → XC pj_nse s t)
    (hf : ∀ z ∈ locs, free z.base) (hc : cells + 1 ≤ mc) (hs : slots + 6 ≤ ms) :
    W p l e R s m args below meth c H locs cells slots (vx_MQ below Qc XC args s mc ms free) (F0 m pc ls rest) := by
  intro T hT X
  have htr : e.platform.stackTraces = false := (show e.platform.stackTraces = l.stackTraces by rw [X.admits.platform]).trans hl
  have Y := vx_rebase X (R' := { frames := R.frames, locals := R.locals, cells := 1, slots := 6 }) (Nat.le_refl _) (Nat.le_refl _) hRc hRs
  obtain ⟨s', hA⟩ : ∃ z, z = (T.setVm s.vm).setFrames (.invoking m args :: below) := ⟨_, rfl⟩
  rw [← hA] at Y
  have hvm : s'.vm = s.vm := by rw [hA]; rfl
  have hhp : s'.heap = H := by rw [hA]; exact hT
  have hW0 : s.WarmedH s'.vm := by rw [hvm]; exact State.WarmedH.refl s
  have hat' : ∀ w ∈ wx_all.filter vx_no, w.before args s' = true := fun w hw => vx_ot_at hW0 hvm.symm (wx_ot w (List.mem_cons_of_mem _ (List.mem_cons_of_mem _ hw))) (hat w hw)
  have hk' : (Cond.classLink "WaverTax" 375 pj_nse).before args s' = true := vx_ot_at hW0 hvm.symm (wx_ot _ List.mem_cons_self) hk
  have hini' : (Cond.initialized pj_nse).before args s' = true := vx_ot_at hW0 hvm.symm (wx_ot _ (List.mem_cons_of_mem _ List.mem_cons_self)) hini
  have hU' : vx_Zq Bundle.tN "UNASSIGNED_STACK" Bundle.steD A s' s'.heap := by rw [hhp]; exact vx_Zq.moved hW0.alike hU
  have hN' : vx_Zq Bundle.tN "SUPPRESSED_SENTINEL" Bundle.listD A s' s'.heap := by rw [hhp]; exact vx_Zq.moved hW0.alike hN
  have h : ∀ w ∈ wx_all, w.before args s' = true := vx_own hat' (vx_isRefq hU'.1) (vx_isRefq hN'.1) hU'.2.word hN'.2.word
  have hown' : s'.vm.findClass "WaverTax" = some m.cls := by rw [hvm]; exact hown
  have hins : (Cond.instantiable pj_nse 6).before args s' = true := h _ (wx_m5 (by simp [wx_tl]))
  obtain ⟨vm₁, cX, kX, hfX, hkX, -, -, X₁, st1⟩ := Y.newCold hexec (own := "WaverTax") (C := pj_nse) (index := 375) (n := 6) hown' hk' hins hini'
    (g := F0 m pc ls rest) rfl (by rw [hb]; exact d0) (Nat.le_refl _) (Nat.le_refl _)
  generalize hT1 : (T.setVm vm₁).pushCell { cls := cX, slots := kX.instanceTypes.map defaultValue, vm := .none } = T1 at X₁ st1
  have hcat : (Value.ref T.heap.size).category = 1 := rfl
  have hcellA : T1.heap[T.heap.size]? = some (freshCell cX kX) := by rw [← hT1]; exact State.heap_pushCell_size _ _
  have d3' : decode c.code (pc + 3) = .ok (.dup, 1) := by rw [hb]; exact d3
  have d4' : decode c.code (pc + 4) = .ok (.ldc_w 377, 3) := by rw [hb]; exact d4
  have hstr' : vk_R "WaverTax" 377 text sa s' := vk_R.warm hW0 hstr
  obtain ⟨U, hsteps, hrun, hend, hW, hsame, ce, hce, hcv, hO⟩ := wx_ctor X₁ hexec htr hown' h (fun x hx => nomatch hx) hfX hkX hcellA (by rw [hhp, hT]; exact Nat.le_refl _) (msg := .ref sa) rfl
    (g := { method := m, pc := pc + 7, locals := ls, stack := .ref sa :: .ref T.heap.size :: .ref T.heap.size :: rest, locked := none }) rfl hsize rfl rfl (rest := rest) rfl
    (by rw [hb]; exact d7) (by rw [hb]; exact d10) hout hRf (by
      simp only [List.map_cons, List.sum_cons, hcat]
      show 2 * 0 + (1 + (rest.map fun v => v.category).sum) + 81 ≤ R.locals
      omega) hlocks
  obtain ⟨f1, f2⟩ := vx_frame hsame
  have f3 : U.heap.size ≤ s'.heap.size + (0 + 1) := hsame.2.2.1
  rw [hhp] at f1 f2 f3
  have f4 : T.heap.size < U.heap.size := (Array.getElem?_eq_some_iff.mp hce).1
  rw [hT] at f4
  have hWs : s.WarmedH U.vm := State.WarmedH.trans hW0 hW
  have hcl : s.vm.findClass pj_nse = some ce.cls := by
    rw [hvm] at hO
    exact hO
  have hall : s.sameButNew ({ U with vm := s.vm } : State) locs mc ms := by
    subst hA
    obtain ⟨e1, e2⟩ := hsame
    rw [State.setFrames_setFrames] at e1
    have h2 : (T.setVm s.vm).sameButNew ({ U with vm := s.vm } : State) [] (0 + 1) (0 + 6) := ⟨e1, e2⟩
    have h3 := X.same.trans h2
    rw [List.append_nil] at h3
    exact h3.mono hc hs
  refine ⟨U, ?_, .threw T.heap.size, hrun, hend, Or.inr ⟨T.heap.size, rfl, pj_nse, ce, locs, hx U (by omega) (fun q hq => f2 q hq (fun z hz => nomatch hz)), hce, hcv, hcl, hWs, hall, hf⟩⟩
  refine st1 _ ?_
  show Steps p.tables e below (T1.setTop { method := m, pc := pc + 3, locals := ls, stack := .ref T.heap.size :: rest, locked := none }) _
  jvm_step X₁.here [X₁.here.top, hexec, d3', Value.category]
  exact X₁.ldcStringW hexec (own := "WaverTax") (text := text) (index := 377) (a := sa) hown' hstr'.1 hstr'.2
    (g := { method := m, pc := pc + 4, locals := ls, stack := .ref T.heap.size :: .ref T.heap.size :: rest, locked := none }) rfl d4' _ hsteps
end WX1
