/-! rows of rows; the String's own methods on constants -/
theorem pj_R.app {G : Cx} {h : PH} {H H1 : Heap} (hR : pj_R G h H) {cs : List PC} (hs : H1.size = H.size + cs.length) (ho : ∀ q, q < H.size → H1[q]? = H[q]?) (hc : ∀ i c, cs[i]? = some c → pj_cell G (h.length + i) c H1) : pj_R G (h ++ cs) H1 := by
  obtain ⟨a, b, d, e⟩ := hR
  refine ⟨by rw [List.length_append, hs]; omega, by rw [List.length_append]; omega, fun q hq => ?_, fun j c1 hj hj9 => ?_⟩
  · rw [ho q (by omega)]; exact d q hq
  · by_cases ej : j < h.length
    · rw [List.getElem?_append_left ej] at hj
      obtain ⟨x, y⟩ := e j c1 hj hj9
      refine ⟨x, y.kept (ho _ ?_)⟩
      rw [pj_ad_ge x]
      omega
    · rw [List.getElem?_append_right (by omega)] at hj
      have := hc _ _ hj
      rw [show h.length + (j - h.length) = j by omega] at this
      exact ⟨by omega, this⟩
theorem pj_outer (c : ClassId) (N h0 : Nat) : ∀ i, Jvm.Free.Multi.outerC c N h0 i = arrV c N (fun j => if j < i then .ref (h0 + 1 + j) else .null)
  | 0 => by
    show ({ cls := c, slots := Array.replicate N .null, vm := .none } : Cell) = _
    rw [arrV_new]
    exact arrV_congr fun j _ => by simp
  | i + 1 => by
    show (Jvm.Free.Multi.outerC c N h0 i).setSlot i (.ref (h0 + 1 + i)) = _
    rw [pj_outer c N h0 i, arrV_store]
    refine arrV_congr fun j _ => ?_
    unfold updV
    by_cases e : j = i
    · subst e; simp
    · by_cases q : j < i
      · simp [e, q, Nat.lt_succ_of_lt q]
      · simp [e, q, show ¬ j < i + 1 by omega]
theorem pj_ar {x y g j : Nat} (e2 : g + (y - 100) = x) (h : 100 ≤ y) : x + 1 + j = g + (y + 1 + j - 100) := by omega
section J7
variable {l : Launch} {G : Cx} {R : Room} {Y : MI} {pc : Nat} {L : List (Option PV)} {st : List PV} {h : PH} {k n : Nat} {X Z : Type} {Ψ : X → MT → (State → Prop) → Prop} {o o1 o2 : Option X}
theorem PJ.mnew {N K idx : Nat} {c1 c2 : Int32} (hw1 : Cond.classLink Y.1.cls idx "[[I" ∈ pj_ws) (hw3 : Cond.arrayClass .int ∈ pj_ws) (hc1 : ¬ c1 < 0) (hc2 : ¬ c2 < 0) (hN : c1.toNatClampNeg = N) (hKK : c2.toNatClampNeg = K) (b1 : N * 4 ≤ 536870912) (b2 : K * componentBytes .int ≤ 536870912) (b3 : K ≤ 536870912) (hk1 : k + (1 + N) ≤ R.cells) (hn1 : n + (N + N * K) ≤ R.slots) (hd : decode Y.2.1 pc = .ok (.multianewarray idx 2, 4))
    (kk : PJ l G R Y (pc + 4) L (.inr (.inr (some h.length)) :: st) (nM h N K) (k + 1 + N) (n + N + N * K) o Ψ) : PJ l G R Y pc L (.inl c2 :: .inl c1 :: st) h k n o Ψ := by
  intro M hM x9 hx9 Q hQ H locs ls hR hl hlo
  obtain ⟨hx, hb, hml, hown, hts, hr, hlk, hnm, hK⟩ := id hM
  subst hN
  subst hKK
  obtain ⟨w9, -, hAA, -⟩ := hK.2.2.2.2.2
  intro T hT Xs
  obtain ⟨vm₁, cA, comp, -, fA, fC, hO, -, X', step⟩ := Xs.multianewarray2F hx hown (ty := .int) (hts _ hw1) hAA (hts _ hw3) (g := F0 M.2.2.2.1 pc ls (.int c2 :: .int c1 :: st.map (pj_v G))) rfl (by rw [hb]; exact hd) rfl hc1 hc2 b1 b2 b3 rfl rfl hk1 hn1
  have e53 : cA = G.2.2.2.2.1 53 := Option.some.inj (fA.symm.trans (pj_arr hK (t := 53) (by decide) (by decide)).2)
  have e50 : comp = G.2.2.2.2.1 50 := Option.some.inj (fC.symm.trans (pj_arr hK (t := 50) (by decide) (by decide)).2)
  subst e53
  subst e50
  have hRn := hR.next
  have hTh : (T.setVm vm₁).heap = H := hT
  obtain ⟨f1, f2, -, -⟩ := Jvm.Free.Multi.fill_facts (T.setVm vm₁) (G.2.2.2.2.1 53) (G.2.2.2.2.1 50) c1.toNatClampNeg c2.toNatClampNeg (defaultValue .int) c1.toNatClampNeg
  have f3 := fun (a : Nat) (ha : a < (T.setVm vm₁).heap.size) => Jvm.Free.Multi.fill_old (T.setVm vm₁) (G.2.2.2.2.1 53) (G.2.2.2.2.1 50) c1.toNatClampNeg c2.toNatClampNeg (defaultValue .int) ha c1.toNatClampNeg
  have f4 := Jvm.Free.Multi.fill_inner (T.setVm vm₁) (G.2.2.2.2.1 53) (G.2.2.2.2.1 50) c1.toNatClampNeg c2.toNatClampNeg (defaultValue .int) c1.toNatClampNeg
  rw [hTh] at f1 f2 f3 f4
  generalize hF : Jvm.Free.Multi.fill (T.setVm vm₁) (G.2.2.2.2.1 53) (G.2.2.2.2.1 50) c1.toNatClampNeg c2.toNatClampNeg (defaultValue .int) c1.toNatClampNeg = F at X' step f1 f2 f3 f4
  have hRel : pj_R G (nM h c1.toNatClampNeg c2.toNatClampNeg) F.heap := by
    unfold nM
    rw [List.append_assoc]
    refine hR.app ?_ f3 ?_
    · rw [f1]; simp; omega
    · intro i c hi
      cases i with
      | zero =>
        cases hi
        refine ⟨fun q => absurd q (by show ¬ (53 : Nat) < 50; decide), fun _ => ?_⟩
        show F.heap[pj_ad G (h.length + 0)]? = _
        rw [Nat.add_zero, hRn, f2, pj_outer]
        congr 1
        rw [List.length_map, List.length_range]
        refine arrV_congr fun j hj => ?_
        rw [if_pos hj]
        have e : ((List.range c1.toNatClampNeg).map fun i => (Sum.inr (Sum.inr (some (h.length + 1 + i))) : PV))[j]? = some (Sum.inr (Sum.inr (some (h.length + 1 + j)))) := by simp [hj]
        rw [pj_f_at e]
        show Value.ref _ = Value.ref (pj_ad G (h.length + 1 + j))
        have e1 : pj_ad G (h.length + 1 + j) = G.1 + (h.length + 1 + j - 100) := pj_ad_ge (by have := hR.2.1; omega)
        have e2 : G.1 + (h.length - 100) = H.size := by rw [← pj_ad_ge hR.2.1]; exact hRn
        have := hR.2.1
        have e3 : H.size + 1 + j = G.1 + (h.length + 1 + j - 100) := pj_ar e2 this
        rw [e1]
        exact congrArg Value.ref e3
      | succ i =>
        simp only [List.singleton_append, List.getElem?_cons_succ] at hi
        have hlt : i < c1.toNatClampNeg := by
          have := (List.getElem?_eq_some_iff.mp hi).1
          simpa using this
        rw [List.getElem?_replicate, if_pos hlt] at hi
        cases hi
        refine ⟨fun q => absurd q (by show ¬ (50 : Nat) < 50; decide), fun _ => ?_⟩
        show F.heap[pj_ad G (h.length + (i + 1))]? = _
        have ea : pj_ad G (h.length + (i + 1)) = H.size + 1 + i := by
          rw [pj_ad_ge (by have := hR.2.1; omega), ← hRn, pj_ad_ge hR.2.1]
          have := hR.2.1
          omega
        rw [ea, f4 i hlt]
        show some ({ cls := G.2.2.2.2.1 50, slots := Array.replicate c2.toNatClampNeg (defaultValue .int), vm := .none } : Cell) = _
        congr 1
        exact pj_arrV_rep (G := G) (G.2.2.2.2.1 50) c2.toNatClampNeg (.inl 0)
  obtain ⟨t, a1, b1'⟩ := kk M hM x9 hx9 Q hQ F.heap locs ls hRel hl hlo F rfl X'
  refine ⟨t, step t ?_, b1'⟩
  have e9 : pj_v G (.inr (.inr (some h.length))) = .ref T.heap.size := by show Value.ref (pj_ad G h.length) = _; rw [hRn, hT]
  rw [List.map_cons, e9] at a1
  exact a1
/-! Strings: number i below 24; its bytes: number 50 + i -/
def sLn (i : Nat) : Nat := st_len.getD i 0
def sBy (i j : Nat) : Int32 := (st_byt.getD i []).getD j 0
theorem pj_ad_s {i : Nat} (hi : i < 24) : pj_ad G i = G.2.1 i := by unfold pj_ad; rw [if_pos (by omega)]
theorem pj_ad_b {i : Nat} (hi : i < 24) : pj_ad G (50 + i) = G.2.2.1 i := by
  unfold pj_ad; rw [if_neg (by omega), if_pos (by omega)]
  rw [Nat.add_sub_cancel_left]
theorem pj_old {H : Heap} (hR : pj_R G h H) {q : Nat} {c : Cell} (hc : G.2.2.2.2.2[q]? = some c) (hq : ¬ G.1 ≤ q) : H[q]? = some c := by
  rw [hR.2.2.1 q (by omega)]; exact hc
theorem PJ.sval {idx i : Nat} (hi : i < 24) (hw : Cond.fieldLink Y.1.cls idx "java/lang/String" "value" "[B" ∈ pj_ws) (hd : decode Y.2.1 pc = .ok (.getfield idx, 3)) (kk : PJ l G R Y (pc + 3) L (.inr (.inr (some (50 + i))) :: st) h k n o Ψ) : PJ l G R Y pc L (.inr (.inr (some i)) :: st) h k n o Ψ := by
  intro M hM x9 hx9 Q hQ H locs ls hR hl hlo
  obtain ⟨hx, hb, hml, hown, hts, hr, hlk, hnm, hK⟩ := id hM
  obtain ⟨cf, kc, fi, f, cell, h1, h2, h3, h4, h5, h6⟩ := (hK.2.2.2.1.1 i hi).2.2.1
  have hk9 := kk M hM x9 hx9 Q hQ H locs ls hR hl hlo
  rw [List.map_cons, show pj_v G (.inr (.inr (some (50 + i)))) = .ref (G.2.2.1 i) by show Value.ref (pj_ad G (50 + i)) = _; rw [pj_ad_b hi]] at hk9
  rw [List.map_cons, show pj_v G (.inr (.inr (some i))) = .ref (G.2.1 i) by show Value.ref (pj_ad G i) = _; rw [pj_ad_s hi]]
  exact W.getf hx hb hown (hts _ hw) h1 h2 (pj_old hR h3 h6) h4 h5 rfl rfl hd hk9
theorem PJ.scod {idx i : Nat} (hi : i < 24) (hw : Cond.fieldLink Y.1.cls idx "java/lang/String" "coder" "B" ∈ pj_ws) (hd : decode Y.2.1 pc = .ok (.getfield idx, 3)) (kk : PJ l G R Y (pc + 3) L (.inl 0 :: st) h k n o Ψ) : PJ l G R Y pc L (.inr (.inr (some i)) :: st) h k n o Ψ := by
  intro M hM x9 hx9 Q hQ H locs ls hR hl hlo
  obtain ⟨hx, hb, hml, hown, hts, hr, hlk, hnm, hK⟩ := id hM
  obtain ⟨cf, kc, fi, f, cell, h1, h2, h3, h4, h5, h6⟩ := (hK.2.2.2.1.1 i hi).2.1
  have hk9 := kk M hM x9 hx9 Q hQ H locs ls hR hl hlo
  rw [List.map_cons, show pj_v G (.inr (.inr (some i))) = .ref (G.2.1 i) by show Value.ref (pj_ad G i) = _; rw [pj_ad_s hi]]
  exact W.getf hx hb hown (hts _ hw) h1 h2 (pj_old hR h3 h6) h4 h5 rfl rfl hd hk9
theorem PJ.scmp {idx : Nat} (hw : Cond.fieldLink Y.1.cls idx "java/lang/String" "COMPACT_STRINGS" "Z" ∈ pj_ws) (hd : decode Y.2.1 pc = .ok (.getstatic idx, 3)) (kk : PJ l G R Y (pc + 3) L (.inl 1 :: st) h k n o Ψ) : PJ l G R Y pc L st h k n o Ψ := by
  intro M hM x9 hx9 Q hQ H locs ls hR hl hlo
  obtain ⟨hx, hb, hml, hown, hts, hr, hlk, hnm, hK⟩ := id hM
  obtain ⟨cf, kf, fi, f, a, cell, h1, h2, h3, h4, h5, h6, h7, h8⟩ := hK.2.2.2.2.1
  exact W.gets hx hb hown (hts _ hw) h1 h2 h3 h4 (pj_old hR h5 h8) (fun e => by rw [e] at h6; cases h6) h7 rfl hd (kk M hM x9 hx9 Q hQ H locs ls hR hl hlo)
theorem PJ.sfmt {idx : Nat} (hw : Cond.fieldLink Y.1.cls idx "jdk/internal/util/Preconditions" "SIOOBE_FORMATTER" "Ljava/util/function/BiFunction;" ∈ pj_ws) (hd : decode Y.2.1 pc = .ok (.getstatic idx, 3)) (kk : ∀ w : Option Nat, PJ l G R Y (pc + 3) L (.inr (.inr w) :: st) h k n o Ψ) : PJ l G R Y pc L st h k n o Ψ := by
  intro M hM x9 hx9 Q hQ H locs ls hR hl hlo
  obtain ⟨hx, hb, hml, hown, hts, hr, hlk, hnm, hK⟩ := id hM
  obtain ⟨w, ⟨cf, kf, fi, f, a, cell, h1, h2, h3, h4, h5, h6, h7, h8⟩, -⟩ := hK.2.2.2.2.2
  exact W.gets hx hb hown (hts _ hw) h1 h2 h3 h4 (pj_old hR h5 h8) (fun e => by rw [e] at h6; cases h6) h7 rfl hd (kk w M hM x9 hx9 Q hQ H locs ls hR hl hlo)
theorem PJ.slen {i : Nat} (hi : i < 24) (hd : decode Y.2.1 pc = .ok (.arraylength, 1)) (kk : PJ l G R Y (pc + 1) L (.inl (Int32.ofNat (sLn i)) :: st) h k n o Ψ) : PJ l G R Y pc L (.inr (.inr (some (50 + i))) :: st) h k n o Ψ := by
  intro M hM x9 hx9 Q hQ H locs ls hR hl hlo
  obtain ⟨hx, hb, hml, hown, hts, hr, hlk, hnm, hK⟩ := id hM
  obtain ⟨cell, h1, h2, h3, h4, h5, h6, h7⟩ := (hK.2.2.2.1.1 i hi).2.2.2
  rw [List.map_cons, show pj_v G (.inr (.inr (some (50 + i)))) = .ref (G.2.2.1 i) by show Value.ref (pj_ad G (50 + i)) = _; rw [pj_ad_b hi]]
  exact W.alen hx hb (pj_old hR h1 h7) h2 (n := Int32.ofNat (sLn i)) h5 rfl rfl hd (kk M hM x9 hx9 Q hQ H locs ls hR hl hlo)
theorem PJ.sbyt {i : Nat} {j : Int32} (hi : i < 24) (hj : ¬ j < 0) (hj2 : j.toNatClampNeg < sLn i) (hd : decode Y.2.1 pc = .ok (.baload, 1)) (kk : PJ l G R Y (pc + 1) L (.inl (sBy i j.toNatClampNeg) :: st) h k n o Ψ) : PJ l G R Y pc L (.inl j :: .inr (.inr (some (50 + i))) :: st) h k n o Ψ := by
  intro M hM x9 hx9 Q hQ H locs ls hR hl hlo
  obtain ⟨hx, hb, hml, hown, hts, hr, hlk, hnm, hK⟩ := id hM
  obtain ⟨cell, h1, h2, h3, h4, h5, h6, h7⟩ := (hK.2.2.2.1.1 i hi).2.2.2
  rw [List.map_cons, List.map_cons, show pj_v G (.inr (.inr (some (50 + i)))) = .ref (G.2.2.1 i) by show Value.ref (pj_ad G (50 + i)) = _; rw [pj_ad_b hi]]
  have h4' : sLn i ≤ cell.slots.size := h4
  exact W.bald hx hb (pj_old hR h1 h7) h2 h3 (by rintro (q | q); exact hj q; omega) (h6 _ hj2) rfl rfl hd (kk M hM x9 hx9 Q hQ H locs ls hR hl hlo)
theorem PJ.i2c {x v : Int32} (hd : decode Y.2.1 pc = .ok (.i2c, 1)) (hv : (x.toUInt32 % 65536).toInt32 = v) (kk : PJ l G R Y (pc + 1) L (.inl v :: st) h k n o Ψ) : PJ l G R Y pc L (.inl x :: st) h k n o Ψ := by
  intro M hM x9 hx9 Q hQ H locs ls hR hl hlo
  obtain ⟨hx, hb, hml, hown, hts, hr, hlk, hnm, hK⟩ := id hM
  exact lv_i2c hx hb hd hv (kk M hM x9 hx9 Q hQ H locs ls hR hl hlo)
/-- an answer of a narrow kind -/
theorem PJ.nret {mc ms : Nat} {v : Int32} {ty : FieldType} (hd : decode Y.2.1 pc = .ok (.ireturn, 1)) (ht : Y.2.2.2 = some ty) (hv : narrow ty (.int v) = .int v) (hk : k ≤ mc) (hn : n ≤ ms) : PJ l G R Y pc L [.inl v] h k n (some v) (RT G mc ms (fun z : Int32 => (((some (.inl z), h) : Option PV × PH)))) := by
  intro M hM x9 hx9 Q hQ H locs ls hR hl hlo
  cases hx9
  obtain ⟨hx, hb, hml, hown, hts, hr, hlk, hnm, hK⟩ := id hM
  unfold RT at hQ
  subst hQ
  exact W.widen hk hn (W.zret hx hb (hr.trans ht) hv (fun t ht9 hW => ⟨rfl, by rw [ht9]; exact hR⟩) hlo hd hlk)
/-- the script -/
def scr (G : Cx) (j : Int32) : Option Int32 := if j < 0 ∨ pj_sL G ≤ j.toNatClampNeg then none else some (pj_sX G j.toNatClampNeg)
theorem pj_ad_49 : pj_ad G 49 = G.2.1 49 := by unfold pj_ad; rw [if_pos (by decide)]
theorem PJ.sld {j : Int32} {K : Int32 → Option X} (hd : decode Y.2.1 pc = .ok (.iaload, 1)) (kk : ∀ x, PJ l G R Y (pc + 1) L (.inl x :: st) h k n (K x) Ψ) : PJ l G R Y pc L (.inl j :: .inr (.inr (some 49)) :: st) h k n ((scr G j).bind K) Ψ := by
  intro M hM x9 hx9 Q hQ H locs ls hR hl hlo
  obtain ⟨x, h1, h2⟩ := Option.bind_eq_some_iff.mp hx9
  unfold scr at h1
  by_cases hj : j < 0 ∨ pj_sL G ≤ j.toNatClampNeg
  · rw [if_pos hj] at h1; cases h1
  rw [if_neg hj] at h1
  cases h1
  obtain ⟨hx, hb, hml, hown, hts, hr, hlk, hnm, hK⟩ := id hM
  obtain ⟨w9, -, -, -, ⟨scr9, f1, f2, f3, f4, f5⟩, f6, -⟩ := hK.2.2.2.2.2
  rw [List.map_cons, List.map_cons, show pj_v G (.inr (.inr (some 49))) = .ref (G.2.1 49) by show Value.ref (pj_ad G 49) = _; rw [pj_ad_49]]
  exact W.iald hx hb (pj_old hR f1 (by omega)) f2 f3 (by rw [f4]; exact hj) (f5 _ (by omega)) rfl rfl hd (kk _ M hM x9 h2 Q hQ H locs ls hR hl hlo)
theorem PJ.sln (hd : decode Y.2.1 pc = .ok (.arraylength, 1)) (kk : PJ l G R Y (pc + 1) L (.inl (pj_sL G).toInt32 :: st) h k n o Ψ) : PJ l G R Y pc L (.inr (.inr (some 49)) :: st) h k n o Ψ := by
  intro M hM x9 hx9 Q hQ H locs ls hR hl hlo
  obtain ⟨hx, hb, hml, hown, hts, hr, hlk, hnm, hK⟩ := id hM
  obtain ⟨w9, -, -, -, ⟨scr9, f1, f2, f3, f4, f5⟩, f6, -⟩ := hK.2.2.2.2.2
  rw [List.map_cons, show pj_v G (.inr (.inr (some 49))) = .ref (G.2.1 49) by show Value.ref (pj_ad G 49) = _; rw [pj_ad_49]]
  exact W.alen hx hb (pj_old hR f1 (by omega)) f2 (n := (pj_sL G).toInt32) (by rw [f4]) rfl rfl hd (kk M hM x9 hx9 Q hQ H locs ls hR hl hlo)
/-- a String's method -/
def pj_cT (own : String) (idx : Nat) (Y1 : MI) (np : Nat) : Prop := pj_cb own idx Y1 np ∧ Y1.1.cls = "java/lang/String" ∧ Cond.instanceMethod Y1.1 ∈ pj_ws ∧ Cond.selects Y1.1.cls Y1.1 Y1.1 ∈ pj_ws
theorem PJ.callT {d np idx i : Nat} {Y1 : MI} {as rest : List PV} {o1 : Option Int32} {K : Int32 → Option X} (hi : i < 24) (hs : pj_cT Y.1.cls idx Y1 np) (hMt : ∀ z, o1 = some z → PM l G d 0 0 Y1 (.inr (.inr (some i)) :: as) h (some (.inl z), h)) (hf : pj_fit R Y1 d 0 0 k n) (hn : as.length = np) (hst : st = as.reverse ++ .inr (.inr (some i)) :: rest) (hsm : pj_sum rest ≤ 8) (hd : decode Y.2.1 pc = .ok (.invokevirtual idx, 3))
    (kk : ∀ z, PJ l G R Y (pc + 3) L (.inl z :: rest) h k n (K z) Ψ) : PJ l G R Y pc L st h k n (o1.bind K) Ψ := by
  intro M hM x9 hx9 Q hQ H locs ls hR hl hlo
  obtain ⟨z, hz, hy9⟩ := Option.bind_eq_some_iff.mp hx9
  obtain ⟨hcb, hcl, hw1, hw2⟩ := hs
  obtain ⟨hB, hN⟩ := pj_callB hM hcb hf
  obtain ⟨hx, hb, hml, hown, hts, hr, hlk, hnm, hK⟩ := id hM
  have hPM : Met l Y1.1 (pj_wsY Y1) (pj_rm d 0 0) (pj_Pc G (.inr (.inr (some i)) :: as) h) (pj_Qc G (some (.inl z), h)) 0 0 (fun q => G.1 ≤ q) := hMt z hz
  have hpre : PreV M.2.2.1 H Y1.1.cls (pj_ad G i) (pj_Pc G (.inr (.inr (some i)) :: as) h) (as.map (pj_v G)) := by
    refine ⟨pj_blind, ?_, fun U hU hW => ⟨rfl, by rw [hU]; exact hR, hK.warm hW⟩⟩
    obtain ⟨cell, h1, h2, h3, h4⟩ := (hK.2.2.2.1.1 i hi).1
    exact ⟨cell, by rw [pj_ad_s hi]; exact pj_old hR h1 h4, h2, by rw [hcl]; exact h3⟩
  have hstk : (F0 M.2.2.2.1 pc ls (st.map (pj_v G))).stack = (as.map (pj_v G)).reverse ++ .ref (pj_ad G i) :: rest.map (pj_v G) := by
    show st.map (pj_v G) = _
    rw [hst, List.map_append, List.map_reverse]
    rfl
  have hmon : 2 * (F0 M.2.2.2.1 pc ls (st.map (pj_v G))).monitorRoom + ((rest.map (pj_v G)).map fun v => v.category).sum ≤ 8 := by
    rw [pj_sum_v]
    have : (F0 M.2.2.2.1 pc ls (st.map (pj_v G))).monitorRoom = 0 := rfl
    rw [this]
    omega
  refine pj_fin hlo (mc := 0) (ms := 0) (rest := rest) (x := (some (.inl z), h)) (a := (Value.ref (pj_ad G i) :: as.map (pj_v G)).toArray) ?_ (fun H1 locs1 g1 g2 => kk z M hM x9 hy9 Q hQ H1 locs1 ls g1 hl g2)
  rcases hcb.2.2.2 with hw | ⟨host, hw⟩
  · exact va_runV (Ts := pj_ws) ⟨hx, hb, hml, hown, hts⟩ hPM ⟨hB hw, hts _ hw1, hts _ hw2⟩ hpre rfl (by rw [List.length_map]; exact hn) hl.1 hstk hmon hd ⟨hf.2.2.1, hf.2.2.2⟩
  · exact va_runVN (Ts := pj_ws) ⟨hx, hb, hml, hown, hts⟩ hPM ⟨hN host hw, hts _ hw1, hts _ hw2⟩ hpre rfl (by rw [List.length_map]; exact hn) hl.1 hstk hmon hd ⟨hf.2.2.1, hf.2.2.2⟩
end J7
