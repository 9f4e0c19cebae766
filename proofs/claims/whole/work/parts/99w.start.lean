/-! the law's entry: what the Statement gives of the start makes a context of ours -/
theorem z_arrC {args : Array Value} {s : State} {ty : FieldType} (h : (Cond.arrayClass ty).before args s = true) (hty : ∀ C, ty ≠ .object C) : ∃ cA, ArrOfT s cA ty ∧ va_RA s cA ty := by
  obtain ⟨cA, kA, comp, h1, h2, h3⟩ := Cond.arrayClass_spec h
  refine ⟨cA, fun n z => ⟨fun k h => (by cases h), kA, h2, comp, h3⟩, ?_⟩
  cases ty with
  | object C => exact absurd rfl (hty C)
  | _ => exact h1
theorem z_arrA {args : Array Value} {s : State} {t : FieldType} (h : (Cond.arrayOver (.array t)).before args s = true) : ∃ cA, ArrOfT s cA (.array t) ∧ va_RA s cA (.array t) := by
  obtain ⟨comp, cA, kA, h1, -, h3, h4, h5⟩ := arrayOverA_spec h
  exact ⟨cA, fun n z => ⟨fun k h => (by cases h), kA, h3, comp, h4⟩, h5⟩
theorem z_arrO {args : Array Value} {s : State} {C : String} (h : (Cond.arrayOver (.object C)).before args s = true) : ∃ cA, ArrOfT s cA (.object C) ∧ va_RA s cA (.object C) := by
  obtain ⟨comp, cA, kA, hcomp, -, hkA, hkind, hname⟩ := Cond.arrayOver_spec h
  exact ⟨cA, fun n z => ⟨fun k h => (by cases h), kA, hkA, comp, hkind⟩, kA, comp, hkA, hkind, hcomp, hname⟩
/-- the classes -/
theorem z_cls {args : Array Value} {s : State} (hts : ∀ w ∈ pj_ws, w.before args s = true) : ∀ q ∈ pj_cls, ∃ d : ClassId × (Nat → Nat), u_Kn s q.1 q.2.1 q.2.2 d.1 d.2 := by
  have go : ∀ {C : String} {T : u_T} {N : Nat}, (∀ w ∈ u_ws C T N, w ∈ pj_ws) → Cond.instantiable C N ∈ pj_ws → ∃ d : ClassId × (Nat → Nat), u_Kn s C T N d.1 d.2 := fun hin hi => by
    obtain ⟨a, b, h⟩ := u_known hts hin (hts _ hi)
    exact ⟨(a, b), h⟩
  unfold pj_cls
  refine List.forall_mem_cons.mpr ⟨go ql0 (pj_mem 449 (by decide +kernel) rfl), ?_⟩
  refine List.forall_mem_cons.mpr ⟨go ql1 (pj_mem 164 (by decide +kernel) rfl), ?_⟩
  refine List.forall_mem_cons.mpr ⟨go ql2 (pj_mem 402 (by decide +kernel) rfl), ?_⟩
  refine List.forall_mem_cons.mpr ⟨go ql3 (pj_mem 527 (by decide +kernel) rfl), ?_⟩
  refine List.forall_mem_cons.mpr ⟨go ql4 (pj_mem 470 (by decide +kernel) rfl), ?_⟩
  refine List.forall_mem_cons.mpr ⟨go ql5 (pj_mem 352 (by decide +kernel) rfl), ?_⟩
  refine List.forall_mem_cons.mpr ⟨go ql6 (pj_mem 172 (by decide +kernel) rfl), ?_⟩
  refine List.forall_mem_cons.mpr ⟨go ql7 (pj_mem 220 (by decide +kernel) rfl), ?_⟩
  refine List.forall_mem_cons.mpr ⟨go ql8 (pj_mem 489 (by decide +kernel) rfl), ?_⟩
  refine List.forall_mem_cons.mpr ⟨go ql9 (pj_mem 250 (by decide +kernel) rfl), ?_⟩
  refine List.forall_mem_cons.mpr ⟨go ql10 (pj_mem 156 (by decide +kernel) rfl), ?_⟩
  refine List.forall_mem_cons.mpr ⟨go ql11 (pj_mem 1502 (by decide +kernel) rfl), ?_⟩
  refine List.forall_mem_cons.mpr ⟨go ql12 (pj_mem 1382 (by decide +kernel) rfl), fun _ h => absurd h List.not_mem_nil⟩
theorem z_clsC {args : Array Value} {s : State} (hts : ∀ w ∈ pj_ws, w.before args s = true) : ∃ D : va_G, ∀ (c : Nat) (q : vw_C), pj_cls[c]? = some q → u_Kn s q.1 q.2.1 q.2.2 (D.1 c) (D.2 c) := by
  have h0 : ∀ c : Nat, ∃ d : ClassId × (Nat → Nat), ∀ q : vw_C, pj_cls[c]? = some q → u_Kn s q.1 q.2.1 q.2.2 d.1 d.2 := by
    intro c
    cases hc : pj_cls[c]? with
    | none => exact ⟨((0 : Nat), fun _ => 0), fun q h => by cases h⟩
    | some q =>
      obtain ⟨d, hd⟩ := z_cls hts q (List.mem_of_getElem? hc)
      exact ⟨d, fun q' h => by cases h; exact hd⟩
  obtain ⟨f, hf⟩ := Classical.axiomOfChoice h0
  exact ⟨(fun c => (f c).1, fun c => (f c).2), hf⟩
theorem z_nest : ∀ w ∈ pj_nest, w.onTables = true ∧ w ∈ lw_tbl := by decide +kernel
/-! the String constants -/
def z_fl : List Cond := flatC (.and given_1 narrow_1)
def z_b : List Nat := [24, 31, 41, 48, 58, 67, 77, 85, 93, 101, 109, 118, 124, 133, 140, 149, 158, 167, 176, 182, 190, 198, 206, 215]
def z_tm (i : Nat) : Term := match st_refs[i]? with
  | some q => .string q.1 q.2.1
  | none => .arg 0
def z_vl (i : Nat) : Term := .field (z_tm i) "java/lang/String" "value" "[B"
theorem z_1 : ∀ i, i < 24 → z_fl[z_b.getD i 0]? = some (Cond.exactly (z_tm i) "java/lang/String") := by decide +kernel
theorem z_2 : ∀ i, i < 24 → z_fl[z_b.getD i 0 + 1]? = some (Cond.eq (.field (z_tm i) "java/lang/String" "coder" "B") (.int 0)) := by decide +kernel
theorem z_3 : ∀ i, i < 24 → z_fl[z_b.getD i 0 + 2]? = some (Cond.arrayOf (z_vl i) .byte) := by decide +kernel
theorem z_4 : ∀ i, i < 24 → z_fl[z_b.getD i 0 + 3]? = some (Cond.eq (.length (z_vl i)) (.int (Int32.ofNat (st_len.getD i 0)))) := by decide +kernel
theorem z_5 : ∀ i, i < 24 → ∀ j, j < st_len.getD i 0 → z_fl[z_b.getD i 0 + 4 + j]? = some (Cond.eq (.elem (z_vl i) (.int (Int32.ofNat j))) (.int ((st_byt.getD i []).getD j 0))) := by decide +kernel
theorem z_6 : ∀ i, i < 24 → st_len.getD i 0 < 2 ^ 31 := by decide +kernel
theorem z_7 : ∀ i, i < 24 → ∀ j, j < 24 → Int32.ofNat (st_len.getD i 0) = Int32.ofNat (st_len.getD j 0) → st_len.getD i 0 = st_len.getD j 0 := by decide +kernel
theorem z_8 : ∀ i, i < 24 → ∀ j, j < 24 → st_len.getD i 0 = st_len.getD j 0 → (∀ t, t < st_len.getD i 0 → (st_byt.getD i []).getD t 0 = (st_byt.getD j []).getD t 0) → i = j := by decide +kernel
theorem z_9 : ∀ q ∈ st_refs, q.2.2.2 < 24 ∧ Cond.stringRef q.1 q.2.1 q.2.2.1 ∈ lw_tbl ∧ (Term.string q.1 q.2.1 = z_tm q.2.2.2 ∨ Cond.eq (z_tm q.2.2.2) (.string q.1 q.2.1) ∈ z_fl) := by decide +kernel
/-- a String constant's cell tells which one it is -/
theorem z_inj {A : Nat → Prop} {U : State} {H : Heap} {a t1 t2 i j : Nat} (hi : i < 24) (hj : j < 24) (v1 : va_OF "java/lang/String" "value" "[B" (.ref t1) a A U H) (v2 : va_OF "java/lang/String" "value" "[B" (.ref t2) a A U H)
    (h1 : va_T .byte t1 (st_len.getD i 0) (fun n => .int ((st_byt.getD i []).getD n 0)) A U H) (h2 : va_T .byte t2 (st_len.getD j 0) (fun n => .int ((st_byt.getD j []).getD n 0)) A U H) : i = j := by
  obtain ⟨cf, k, fi, f, cell, a1, a2, a3, a4, a5, -⟩ := v1
  obtain ⟨cf', k', fi', f', cell', b1, b2, b3, b4, b5, -⟩ := v2
  have e1 := Option.some.inj (a1.symm.trans b1)
  cases e1
  have e2 := Option.some.inj (a3.symm.trans b3)
  cases e2
  have e3 := Option.some.inj (a5.symm.trans b5)
  cases e3
  obtain ⟨c1, p1, -, -, p4, p5, p6, -⟩ := h1
  obtain ⟨c2, q1, -, -, q4, q5, q6, -⟩ := h2
  have e4 := Option.some.inj (p1.symm.trans q1)
  cases e4
  have hlen := z_7 i hi j hj (p5.symm.trans q5)
  refine z_8 i hi j hj hlen (fun t ht => ?_)
  have e5 := Option.some.inj ((p6 t ht).symm.trans (q6 t (by omega)))
  exact Value.int.inj e5
theorem z_S {args : Array Value} {s : State} {A : Nat → Prop} (hf : ∀ w ∈ z_fl, w.before args s = true) (hA : ∀ a : Nat, a < s.heap.size → ¬ A a) :
    ∃ adK adV : Nat → Nat, vk_S 24 st_len st_byt adK adV A s s.heap ∧ ∀ i : Nat, i < 24 → (z_tm i).eval args s none [] s = some (.ref (adK i)) := by
  have hm : ∀ {k : Nat} {w : Cond}, z_fl[k]? = some w → w.before args s = true := fun h => hf _ (List.mem_of_getElem? h)
  have h0 : ∀ i : Nat, ∃ q : Nat × Nat, i < 24 → (z_tm i).eval args s none [] s = some (.ref q.1) ∧ va_O "java/lang/String" q.1 A s s.heap ∧ va_OF "java/lang/String" "coder" "B" (.int 0) q.1 A s s.heap ∧ va_OF "java/lang/String" "value" "[B" (.ref q.2) q.1 A s s.heap ∧ va_T .byte q.2 (st_len.getD i 0) (fun j => .int ((st_byt.getD i []).getD j 0)) A s s.heap := by
    intro i
    by_cases hi : i < 24
    · obtain ⟨a, c, cA, kA, q1, q2, q3, q4, q5, q6, -⟩ := Cond.exactly_spec (args := args) (first := s) (o := none) (s := s) (idx := []) (t := z_tm i) (cls := "java/lang/String") (hm (z_1 i hi))
      obtain ⟨t, ht, hT⟩ := va_Tof (f := fun j => .int ((st_byt.getD i []).getD j 0)) (A := A) (z_6 i hi) (hm (z_3 i hi)) (va_eqt (hm (z_4 i hi))) (fun j hj => va_eqt (hm (z_5 i hi j hj))) hA
      exact ⟨(a, t), fun _ => ⟨q1, ⟨cA, q3, q5, by rw [q6]; exact q2, hA a (Array.getElem?_eq_some_iff.mp q3).1⟩, vk_OFof q1 (va_eqt (hm (z_2 i hi))) hA, vk_OFof q1 ht hA, hT⟩⟩
    · exact ⟨(0, 0), fun h => absurd h hi⟩
  obtain ⟨ad, had⟩ := Classical.axiomOfChoice h0
  refine ⟨fun i => (ad i).1, fun i => (ad i).2, ⟨fun i hi => (had i hi).2, fun i j hi hj e => ?_⟩, fun i hi => (had i hi).1⟩
  have v2 := (had j hj).2.2.2.1
  have e : (ad i).1 = (ad j).1 := e
  rw [← e] at v2
  exact z_inj hi hj (had i hi).2.2.2.1 v2 (had i hi).2.2.2.2 (had j hj).2.2.2.2
theorem z_i32 (x : Int32) : Int32.ofNat x.toBitVec.toNat = x := by
  apply Int32.toBitVec_inj.mp
  show BitVec.ofNat 32 x.toBitVec.toNat = x.toBitVec
  simp
/-- the addresses: the constants, a spare one, the script's length, its place, its ints -/
def z_ad (adK : Nat → Nat) (t L b : Nat) (xs : Nat → Int32) (i : Nat) : Nat := if i < 24 then adK i else if i = 47 then t else if i = 48 then L else if i = 49 then b else (xs (i - 1000)).toBitVec.toNat
def z_dA (a : List ClassId) (i : Nat) : ClassId := a.getD (i - 50) (0 : Nat)
theorem z_K {args : Array Value} {s : State} {b L : Nat} {xs : Nat → Int32} (hts : ∀ w ∈ lw_tbl, w.before args s = true) (hX : va_X b L xs s s.heap) (hb : b < s.heap.size) (hgv : (Jvm.Cond.and given_1 narrow_1).before args s = true) :
    ∃ G : Cx, pj_K G s ∧ G.1 = s.heap.size ∧ G.2.2.2.2.2 = s.heap ∧ G.2.1 49 = b ∧ pj_sL G = L := by
  have hf : ∀ w ∈ z_fl, w.before args s = true := flat_of_before _ hgv
  have hws : ∀ w ∈ pj_ws, w.before args s = true := fun w hw => hts w (List.mem_filter.mp hw).1
  have hm : ∀ {k : Nat} {w : Cond}, lw_tbl[k]? = some w → w.before args s = true := fun h => hts _ (List.mem_of_getElem? h)
  have hn : ∀ {k : Nat} {w : Cond}, z_fl[k]? = some w → w.before args s = true := fun h => hf _ (List.mem_of_getElem? h)
  have hA : ∀ a : Nat, a < s.heap.size → ¬ s.heap.size ≤ a := fun a h => Nat.not_le.mpr h
  obtain ⟨D, hD⟩ := z_clsC hws
  obtain ⟨a0, h0⟩ := z_arrC (ty := .int) (hm (k := 218) (by decide +kernel)) (fun C q => by cases q)
  obtain ⟨a1, h1⟩ := z_arrC (ty := .long) (hm (k := 1484) (by decide +kernel)) (fun C q => by cases q)
  obtain ⟨a2, h2⟩ := z_arrC (ty := .byte) (hm (k := 217) (by decide +kernel)) (fun C q => by cases q)
  have wA : (Cond.arrayOver (.array .int)).before args s = true := hm (k := 170) (by decide +kernel)
  have wO : (Cond.arrayOver (.object "WaverTax$Now")).before args s = true := hm (k := 533) (by decide +kernel)
  obtain ⟨a3, h3⟩ := z_arrA wA
  obtain ⟨a4, h4⟩ := z_arrO wO
  obtain ⟨adK, adV, hS, hT⟩ := z_S (A := fun q => s.heap.size ≤ q) hf hA
  have hP : va_Zq "jdk/internal/util/Preconditions" "SIOOBE_FORMATTER" "Ljava/util/function/BiFunction;" (fun q => s.heap.size ≤ q) s s.heap := va_Zqof (hm (k := 681) (by decide +kernel)) (hm (k := 146) (by decide +kernel)) (hn (k := 5) (by decide +kernel)) hA
  obtain ⟨t, hP⟩ : ∃ t : Nat, va_Z "jdk/internal/util/Preconditions" "SIOOBE_FORMATTER" "Ljava/util/function/BiFunction;" .null (fun q => s.heap.size ≤ q) s s.heap ∨ va_Z "jdk/internal/util/Preconditions" "SIOOBE_FORMATTER" "Ljava/util/function/BiFunction;" (.ref t) (fun q => s.heap.size ≤ q) s s.heap := by
    rcases hP with h | ⟨t, h⟩
    · exact ⟨0, Or.inl h⟩
    · exact ⟨t, Or.inr h⟩
  have eK : ∀ i, i < 24 → z_ad adK t L b xs i = adK i := fun i hi => if_pos hi
  have e47 : z_ad adK t L b xs 47 = t := rfl
  have e48 : z_ad adK t L b xs 48 = L := rfl
  have e49 : z_ad adK t L b xs 49 = b := rfl
  have eX : ∀ j, z_ad adK t L b xs (1000 + j) = (xs j).toBitVec.toNat := fun j => by
    unfold z_ad
    rw [if_neg (by omega), if_neg (by omega), if_neg (by omega), if_neg (by omega), show 1000 + j - 1000 = j by omega]
  have hZ : va_Z "java/lang/String" "COMPACT_STRINGS" "Z" (.int 1) (fun q => s.heap.size ≤ q) s s.heap := va_Zof (hm (k := 665) (by decide +kernel)) (hm (k := 144) (by decide +kernel)) (va_eqi (hn (k := 4) (by decide +kernel))) hA
  have hU := vx_Zqof (C := Bundle.tN) (n := "UNASSIGNED_STACK") (d := Bundle.steD) (A := fun q => s.heap.size ≤ q) (hm (k := 1343) (by decide +kernel)) (hm (k := 151) (by decide +kernel)) (hn (k := 9) (by decide +kernel)) hA
  have hV := vx_Zqof (C := Bundle.tN) (n := "SUPPRESSED_SENTINEL") (d := Bundle.listD) (A := fun q => s.heap.size ≤ q) (hm (k := 1345) (by decide +kernel)) (hm (k := 151) (by decide +kernel)) (hn (k := 10) (by decide +kernel)) hA
  have hC : va_Nw (.castable pj_nse pj_nse) s := va_Nw.of rfl (hm (k := 1318) (by decide +kernel))
  refine ⟨(s.heap.size, z_ad adK t L b xs, adV, D, z_dA [a0, a1, a2, a3, a4], s.heap), ⟨⟨hD, ?_⟩, fun w hw => va_Nw.of (z_nest w hw).1 (hts w (z_nest w hw).2), fun q hq => ?_, ⟨fun i hi => ?_, fun i j hi hj e => ?_⟩, hZ, ?_⟩, rfl, rfl, e49, e48⟩
  · intro k q hk
    have hk2 : ([(a0, .int), (a1, .long), (a2, .byte), (a3, .array .int), (a4, .object "WaverTax$Now")] : List (ClassId × FieldType))[k]? = some q := hk
    have hmem := List.mem_of_getElem? hk2
    simp only [List.mem_cons, List.not_mem_nil, or_false] at hmem
    rcases hmem with rfl | rfl | rfl | rfl | rfl
    · exact h0
    · exact h1
    · exact h2
    · exact h3
    · exact h4
  · obtain ⟨g1, g2, g3⟩ := z_9 q hq
    have ev : (Term.string q.1 q.2.1).eval args s none [] s = some (.ref (adK q.2.2.2)) := by
      rcases g3 with g3 | g3
      · rw [g3]; exact hT _ g1
      · exact va_eqR (hf _ g3) (hT _ g1)
    show vk_R q.1 q.2.1 q.2.2.1 (z_ad adK t L b xs q.2.2.2) s
    rw [eK _ g1]
    exact vk_R.of (hts _ g2) ev
  · show _ ∧ _ ∧ _ ∧ _
    have := hS.1 i hi
    rw [← eK i hi] at this
    exact this
  · refine hS.2 i j hi hj ?_
    rw [← eK i hi, ← eK j hj]
    exact e
  · have hsx : pj_sX (s.heap.size, z_ad adK t L b xs, adV, D, z_dA [a0, a1, a2, a3, a4], s.heap) = xs := funext fun j => by
      show Int32.ofNat (z_ad adK t L b xs (1000 + j)) = xs j
      rw [eX, z_i32]
    have hXX : va_X b L (pj_sX (s.heap.size, z_ad adK t L b xs, adV, D, z_dA [a0, a1, a2, a3, a4], s.heap)) s s.heap := by rw [hsx]; exact hX
    rcases hP with hP | hP
    · exact ⟨none, hP, wA, wO, hXX, hb, hC, hU, hV⟩
    · exact ⟨some 47, hP, wA, wO, hXX, hb, hC, hU, hV⟩
theorem z_R {G : Cx} {H : Heap} (h1 : G.1 = H.size) (h2 : G.2.2.2.2.2 = H) : pj_R G h00 H := by
  refine ⟨by rw [h1]; rfl, by unfold h00; rw [List.length_replicate]; exact Nat.le_refl _, fun q hq => by rw [h2], fun i c hc h9 => ?_⟩
  unfold h00 at hc
  rw [List.getElem?_replicate] at hc
  split at hc
  · cases hc
    exact absurd rfl h9
  · cases hc
theorem z_run {p : Program} {l : Launch} {e : Env} {s : State} {m : MethodId} {below : List Frame} {meth : Method} {c : Code} {G : Cx} (hl : l.stackTraces = false) (hM : pj_M G Y_W_law (p, e, s, m, #[pj_v G (.inr (.inr (some 49)))], below, meth, c)) (h1 : G.1 = s.heap.size) (h2 : G.2.2.2.2.2 = s.heap) (hL : pj_sL G ≤ 3072) :
    W p l e room_1 s m #[pj_v G (.inr (.inr (some 49)))] below meth c s.heap [] 0 0 (lw_Z below #[pj_v G (.inr (.inr (some 49)))] s) (entryFrame m ([pj_v G (.inr (.inr (some 49)))] : List Value).toArray 7) := by
  rw [lg_entry_eq]
  have hl9 := lv_entry (([.inr (.inr (some 49))] : List PV).map (pj_v G)) (n := 7) (by rw [pj_sl_len]; exact Nat.le_of_ble_eq_true rfl)
  rw [← pj_args_L, ← pj_L_rep (m := 6)] at hl9
  exact PJ_W_law (l := l) (G := G) (PM_W_led hl) (h := h00) _ hM 1 (W_law hL) _ ⟨rfl, ⟨pj_ad G 49, rfl, rfl⟩, h1⟩ s.heap [] _ (z_R h1 h2) hl9 (fun q hq => by cases hq)
/-- from the entry, for every script of at most 3072 ints, the law comes to its end with true -/
theorem whole_start {p : Program} {e : Env} {s : State} {m : MethodId} {below : List Frame} {meth : Method} {c : Code} (l : Launch) (hl : l.stackTraces = false) (hnm : meth.name = Y_W_law.1.name) {b L : Nat} {xs : Nat → Int32} (hL : L ≤ 3072) (C0 : lw_At p s m meth c b L xs) : W p l e room_1 s m #[Value.ref b] below meth c s.heap [] 0 0 (lw_Z below #[Value.ref b] s) (entryFrame m ([Value.ref b] : List Value).toArray 7) := by
  obtain ⟨hx, hb, hr, hml, hown, hts, hX, hbl, hlk, hgv⟩ := C0
  obtain ⟨G, hK, g1, g2, g3, g4⟩ := z_K hts hX hbl hgv
  have e49 : pj_v G (.inr (.inr (some 49))) = Value.ref b := by
    show Value.ref (pj_ad G 49) = _
    unfold pj_ad
    rw [if_pos (by decide), g3]
  rw [← e49] at hts ⊢
  exact z_run hl ⟨hx, hb, hml, hown, fun w hw => hts w (List.mem_filter.mp hw).1, hr, hlk, hnm, hK⟩ g1 g2 (by rw [g4]; exact hL)
