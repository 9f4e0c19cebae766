/-! one instruction, a row -/
section J1
variable {l : Launch} {G : Cx} {R : Room} {Y : MI} {pc : Nat} {L : List (Option PV)} {st : List PV} {h : PH} {k n : Nat} {X Z : Type} {Ψ : X → MT → (State → Prop) → Prop} {o o1 o2 : Option X}
theorem PJ.iconst {c : Int} {v : Int32} (hd : decode Y.2.1 pc = .ok (.iconst c, 1)) (hv : Int32.ofInt c = v) (kk : PJ l G R Y (pc + 1) L (.inl v :: st) h k n o Ψ) : PJ l G R Y pc L st h k n o Ψ := by
  intro M hM x9 hx9 Q hQ H locs ls hR hl hlo
  obtain ⟨hx, hb, hml, hown, hts, hr, hlk, hnm, hK⟩ := id hM
  exact lv_iconst hx hb hd hv (kk M hM x9 hx9 Q hQ H locs ls hR hl hlo)
theorem PJ.bipush {c : Int} {v : Int32} (hd : decode Y.2.1 pc = .ok (.bipush c, 2)) (hv : (Int8.ofInt c).toInt32 = v) (kk : PJ l G R Y (pc + 2) L (.inl v :: st) h k n o Ψ) : PJ l G R Y pc L st h k n o Ψ := by
  intro M hM x9 hx9 Q hQ H locs ls hR hl hlo
  obtain ⟨hx, hb, hml, hown, hts, hr, hlk, hnm, hK⟩ := id hM
  exact lv_bipush hx hb hd hv (kk M hM x9 hx9 Q hQ H locs ls hR hl hlo)
theorem PJ.sipush {c : Int} {v : Int32} (hd : decode Y.2.1 pc = .ok (.sipush c, 3)) (hv : (Int16.ofInt c).toInt32 = v) (kk : PJ l G R Y (pc + 3) L (.inl v :: st) h k n o Ψ) : PJ l G R Y pc L st h k n o Ψ := by
  intro M hM x9 hx9 Q hQ H locs ls hR hl hlo
  obtain ⟨hx, hb, hml, hown, hts, hr, hlk, hnm, hK⟩ := id hM
  exact lv_sipush hx hb hd hv (kk M hM x9 hx9 Q hQ H locs ls hR hl hlo)
theorem PJ.lconst {c : Fin 2} {v : Int64} (hd : decode Y.2.1 pc = .ok (.lconst c, 1)) (hv : Int64.ofNat (c : Nat) = v) (kk : PJ l G R Y (pc + 1) L (.inr (.inl v) :: st) h k n o Ψ) : PJ l G R Y pc L st h k n o Ψ := by
  intro M hM x9 hx9 Q hQ H locs ls hR hl hlo
  obtain ⟨hx, hb, hml, hown, hts, hr, hlk, hnm, hK⟩ := id hM
  exact lv_lconst hx hb hd hv (kk M hM x9 hx9 Q hQ H locs ls hR hl hlo)
theorem PJ.ldc {c : Nat} {v : Int32} (hd : decode Y.2.1 pc = .ok (.ldc c, 2)) (hw : Cond.constant Y.1.cls c v ∈ pj_ws) (kk : PJ l G R Y (pc + 2) L (.inl v :: st) h k n o Ψ) : PJ l G R Y pc L st h k n o Ψ := by
  intro M hM x9 hx9 Q hQ H locs ls hR hl hlo
  obtain ⟨hx, hb, hml, hown, hts, hr, hlk, hnm, hK⟩ := id hM
  exact lv_ldc hx hb hown (hts _ hw) hd (kk M hM x9 hx9 Q hQ H locs ls hR hl hlo)
theorem PJ.ldcw {c : Nat} {v : Int32} (hd : decode Y.2.1 pc = .ok (.ldc_w c, 3)) (hw : Cond.constant Y.1.cls c v ∈ pj_ws) (kk : PJ l G R Y (pc + 3) L (.inl v :: st) h k n o Ψ) : PJ l G R Y pc L st h k n o Ψ := by
  intro M hM x9 hx9 Q hQ H locs ls hR hl hlo
  obtain ⟨hx, hb, hml, hown, hts, hr, hlk, hnm, hK⟩ := id hM
  exact lv_ldcw hx hb hown (hts _ hw) hd (kk M hM x9 hx9 Q hQ H locs ls hR hl hlo)
theorem PJ.ldc2 {c : Nat} {v : Int64} (hd : decode Y.2.1 pc = .ok (.ldc2_w c, 3)) (hw : Cond.constantLong Y.1.cls c v ∈ pj_ws) (kk : PJ l G R Y (pc + 3) L (.inr (.inl v) :: st) h k n o Ψ) : PJ l G R Y pc L st h k n o Ψ := by
  intro M hM x9 hx9 Q hQ H locs ls hR hl hlo
  obtain ⟨hx, hb, hml, hown, hts, hr, hlk, hnm, hK⟩ := id hM
  exact lv_ldc2 hx hb hown (hts _ hw) hd (kk M hM x9 hx9 Q hQ H locs ls hR hl hlo)
theorem PJ.ldcS {c i : Nat} {tx : String} (hd : decode Y.2.1 pc = .ok (.ldc c, 2)) (hi : i < 50) (hw : (Y.1.cls, c, tx, i) ∈ st_refs) (kk : PJ l G R Y (pc + 2) L (.inr (.inr (some i)) :: st) h k n o Ψ) : PJ l G R Y pc L st h k n o Ψ := by
  intro M hM x9 hx9 Q hQ H locs ls hR hl hlo
  obtain ⟨hx, hb, hml, hown, hts, hr, hlk, hnm, hK⟩ := id hM
  have hz := hK.2.2.1 _ hw
  have he : pj_v G (.inr (.inr (some i))) = .ref (G.2.1 i) := by show Value.ref (pj_ad G i) = _; unfold pj_ad; rw [if_pos hi]
  have hk9 := kk M hM x9 hx9 Q hQ H locs ls hR hl hlo
  rw [List.map_cons, he] at hk9
  exact va_ldcS hx hb hown hz hd hk9
theorem PJ.iload_n {i : Fin 4} {x : Int32} (hd : decode Y.2.1 pc = .ok (.iload_n i, 1)) (hl0 : L[(i : Nat)]? = some (some (.inl x))) (kk : PJ l G R Y (pc + 1) L (.inl x :: st) h k n o Ψ) : PJ l G R Y pc L st h k n o Ψ := by
  intro M hM x9 hx9 Q hQ H locs ls hR hl hlo
  obtain ⟨hx, hb, hml, hown, hts, hr, hlk, hnm, hK⟩ := id hM
  exact lv_iload_n hx hb hd rfl (pj_L.at hl hl0) (kk M hM x9 hx9 Q hQ H locs ls hR hl hlo)
theorem PJ.iload {i : Nat} {x : Int32} (hd : decode Y.2.1 pc = .ok (.iload i, 2)) (hl0 : L[i]? = some (some (.inl x))) (kk : PJ l G R Y (pc + 2) L (.inl x :: st) h k n o Ψ) : PJ l G R Y pc L st h k n o Ψ := by
  intro M hM x9 hx9 Q hQ H locs ls hR hl hlo
  obtain ⟨hx, hb, hml, hown, hts, hr, hlk, hnm, hK⟩ := id hM
  exact lv_iload hx hb hd (pj_L.at hl hl0) (kk M hM x9 hx9 Q hQ H locs ls hR hl hlo)
theorem PJ.lload_n {i : Fin 4} {x : Int64} (hd : decode Y.2.1 pc = .ok (.lload_n i, 1)) (hl0 : L[(i : Nat)]? = some (some (.inr (.inl x)))) (kk : PJ l G R Y (pc + 1) L (.inr (.inl x) :: st) h k n o Ψ) : PJ l G R Y pc L st h k n o Ψ := by
  intro M hM x9 hx9 Q hQ H locs ls hR hl hlo
  obtain ⟨hx, hb, hml, hown, hts, hr, hlk, hnm, hK⟩ := id hM
  exact lv_lload_n hx hb hd rfl (pj_L.at hl hl0) (kk M hM x9 hx9 Q hQ H locs ls hR hl hlo)
theorem PJ.lload {i : Nat} {x : Int64} (hd : decode Y.2.1 pc = .ok (.lload i, 2)) (hl0 : L[i]? = some (some (.inr (.inl x)))) (kk : PJ l G R Y (pc + 2) L (.inr (.inl x) :: st) h k n o Ψ) : PJ l G R Y pc L st h k n o Ψ := by
  intro M hM x9 hx9 Q hQ H locs ls hR hl hlo
  obtain ⟨hx, hb, hml, hown, hts, hr, hlk, hnm, hK⟩ := id hM
  exact lv_lload hx hb hd (pj_L.at hl hl0) (kk M hM x9 hx9 Q hQ H locs ls hR hl hlo)
theorem PJ.aload_n {i : Fin 4} {x : Option Nat} (hd : decode Y.2.1 pc = .ok (.aload_n i, 1)) (hl0 : L[(i : Nat)]? = some (some (.inr (.inr x)))) (kk : PJ l G R Y (pc + 1) L (.inr (.inr x) :: st) h k n o Ψ) : PJ l G R Y pc L st h k n o Ψ := by
  intro M hM x9 hx9 Q hQ H locs ls hR hl hlo
  obtain ⟨hx, hb, hml, hown, hts, hr, hlk, hnm, hK⟩ := id hM
  cases x with
  | none => exact lv_aload_nN hx hb hd rfl (pj_L.at hl hl0) (kk M hM x9 hx9 Q hQ H locs ls hR hl hlo)
  | some a => exact lv_aload_n hx hb hd rfl (pj_L.at hl hl0) (kk M hM x9 hx9 Q hQ H locs ls hR hl hlo)
theorem PJ.aload {i : Nat} {x : Option Nat} (hd : decode Y.2.1 pc = .ok (.aload i, 2)) (hl0 : L[i]? = some (some (.inr (.inr x)))) (kk : PJ l G R Y (pc + 2) L (.inr (.inr x) :: st) h k n o Ψ) : PJ l G R Y pc L st h k n o Ψ := by
  intro M hM x9 hx9 Q hQ H locs ls hR hl hlo
  obtain ⟨hx, hb, hml, hown, hts, hr, hlk, hnm, hK⟩ := id hM
  cases x with
  | none => exact lv_aloadN hx hb hd (pj_L.at hl hl0) (kk M hM x9 hx9 Q hQ H locs ls hR hl hlo)
  | some a => exact lv_aload hx hb hd (pj_L.at hl hl0) (kk M hM x9 hx9 Q hQ H locs ls hR hl hlo)
theorem PJ.istore_n {i : Fin 4} {x : Int32} {L1 : List (Option PV)} (hd : decode Y.2.1 pc = .ok (.istore_n i, 1)) (hn : (i : Nat) < Y.2.2.1) (hok : pj_ok L (i : Nat) = true) (he : (L.set (i : Nat) (some (.inl x))) = L1) (kk : PJ l G R Y (pc + 1) L1 st h k n o Ψ) : PJ l G R Y pc L (.inl x :: st) h k n o Ψ := by
  intro M hM x9 hx9 Q hQ H locs ls hR hl hlo
  obtain ⟨hx, hb, hml, hown, hts, hr, hlk, hnm, hK⟩ := id hM
  exact lv_istore_n hx hb hd rfl hl hn rfl (fun ls1 hl1 => kk M hM x9 hx9 Q hQ H locs ls1 hR (by rw [← he]; exact pj_st1 hl1 hok) hlo)
theorem PJ.istore {i : Nat} {x : Int32} {L1 : List (Option PV)} (hd : decode Y.2.1 pc = .ok (.istore i, 2)) (hn : i < Y.2.2.1) (hok : pj_ok L i = true) (he : (L.set i (some (.inl x))) = L1) (kk : PJ l G R Y (pc + 2) L1 st h k n o Ψ) : PJ l G R Y pc L (.inl x :: st) h k n o Ψ := by
  intro M hM x9 hx9 Q hQ H locs ls hR hl hlo
  obtain ⟨hx, hb, hml, hown, hts, hr, hlk, hnm, hK⟩ := id hM
  exact lv_istore hx hb hd hl hn rfl (fun ls1 hl1 => kk M hM x9 hx9 Q hQ H locs ls1 hR (by rw [← he]; exact pj_st1 hl1 hok) hlo)
theorem PJ.lstore_n {i : Fin 4} {x : Int64} {L1 : List (Option PV)} (hd : decode Y.2.1 pc = .ok (.lstore_n i, 1)) (hn : (i : Nat) + 1 < Y.2.2.1) (hok : pj_ok L (i : Nat) = true) (he : ((L.set ((i : Nat) + 1) Option.none).set (i : Nat) (some (.inr (.inl x)))) = L1) (kk : PJ l G R Y (pc + 1) L1 st h k n o Ψ) : PJ l G R Y pc L (.inr (.inl x) :: st) h k n o Ψ := by
  intro M hM x9 hx9 Q hQ H locs ls hR hl hlo
  obtain ⟨hx, hb, hml, hown, hts, hr, hlk, hnm, hK⟩ := id hM
  exact lv_lstore_n hx hb hd rfl hl hn rfl (fun ls1 hl1 => kk M hM x9 hx9 Q hQ H locs ls1 hR (by rw [← he]; exact pj_st2 hl1 hok) hlo)
theorem PJ.lstore {i : Nat} {x : Int64} {L1 : List (Option PV)} (hd : decode Y.2.1 pc = .ok (.lstore i, 2)) (hn : i + 1 < Y.2.2.1) (hok : pj_ok L i = true) (he : ((L.set (i + 1) Option.none).set i (some (.inr (.inl x)))) = L1) (kk : PJ l G R Y (pc + 2) L1 st h k n o Ψ) : PJ l G R Y pc L (.inr (.inl x) :: st) h k n o Ψ := by
  intro M hM x9 hx9 Q hQ H locs ls hR hl hlo
  obtain ⟨hx, hb, hml, hown, hts, hr, hlk, hnm, hK⟩ := id hM
  exact lv_lstore hx hb hd hl hn rfl (fun ls1 hl1 => kk M hM x9 hx9 Q hQ H locs ls1 hR (by rw [← he]; exact pj_st2 hl1 hok) hlo)
theorem PJ.astore_n {i : Fin 4} {x : Option Nat} {L1 : List (Option PV)} (hd : decode Y.2.1 pc = .ok (.astore_n i, 1)) (hn : (i : Nat) < Y.2.2.1) (hok : pj_ok L (i : Nat) = true) (he : (L.set (i : Nat) (some (.inr (.inr x)))) = L1) (kk : PJ l G R Y (pc + 1) L1 st h k n o Ψ) : PJ l G R Y pc L (.inr (.inr x) :: st) h k n o Ψ := by
  intro M hM x9 hx9 Q hQ H locs ls hR hl hlo
  obtain ⟨hx, hb, hml, hown, hts, hr, hlk, hnm, hK⟩ := id hM
  cases x with
  | none => exact lv_astore_nN hx hb hd rfl hl hn rfl (fun ls1 hl1 => kk M hM x9 hx9 Q hQ H locs ls1 hR (by rw [← he]; exact pj_st1 hl1 hok) hlo)
  | some a => exact lv_astore_n hx hb hd rfl hl hn rfl (fun ls1 hl1 => kk M hM x9 hx9 Q hQ H locs ls1 hR (by rw [← he]; exact pj_st1 hl1 hok) hlo)
theorem PJ.astore {i : Nat} {x : Option Nat} {L1 : List (Option PV)} (hd : decode Y.2.1 pc = .ok (.astore i, 2)) (hn : i < Y.2.2.1) (hok : pj_ok L i = true) (he : (L.set i (some (.inr (.inr x)))) = L1) (kk : PJ l G R Y (pc + 2) L1 st h k n o Ψ) : PJ l G R Y pc L (.inr (.inr x) :: st) h k n o Ψ := by
  intro M hM x9 hx9 Q hQ H locs ls hR hl hlo
  obtain ⟨hx, hb, hml, hown, hts, hr, hlk, hnm, hK⟩ := id hM
  cases x with
  | none => exact lv_astoreN hx hb hd hl hn rfl (fun ls1 hl1 => kk M hM x9 hx9 Q hQ H locs ls1 hR (by rw [← he]; exact pj_st1 hl1 hok) hlo)
  | some a => exact lv_astore hx hb hd hl hn rfl (fun ls1 hl1 => kk M hM x9 hx9 Q hQ H locs ls1 hR (by rw [← he]; exact pj_st1 hl1 hok) hlo)
theorem PJ.iinc {i : Nat} {c : Int} {x v : Int32} {L1 : List (Option PV)} (hd : decode Y.2.1 pc = .ok (.iinc i c, 3)) (hl0 : L[i]? = some (some (.inl x))) (hv : Int32.ofInt c = v) (hn : i < Y.2.2.1) (hok : pj_ok L i = true) (he : L.set i (some (.inl (x + v))) = L1) (kk : PJ l G R Y (pc + 3) L1 st h k n o Ψ) : PJ l G R Y pc L st h k n o Ψ := by
  intro M hM x9 hx9 Q hQ H locs ls hR hl hlo
  obtain ⟨hx, hb, hml, hown, hts, hr, hlk, hnm, hK⟩ := id hM
  subst hv
  have hm := pj_L_at (G := G) (n := 0) hl0
  rw [Nat.zero_add] at hm
  obtain ⟨k9, hk9⟩ := List.getElem?_of_mem hm
  exact lv_iinc hx hb hd hl hk9 rfl hn rfl (fun ls1 hl1 => kk M hM x9 hx9 Q hQ H locs ls1 hR (by rw [← he]; exact pj_st1 hl1 hok) hlo)
theorem PJ.iadd {x y : Int32} (hd : decode Y.2.1 pc = .ok (.iadd, 1))  (kk : PJ l G R Y (pc + 1) L (.inl (x + y) :: st) h k n o Ψ) : PJ l G R Y pc L (.inl (y) :: .inl (x) :: st) h k n o Ψ := by
  intro M hM x9 hx9 Q hQ H locs ls hR hl hlo
  obtain ⟨hx, hb, hml, hown, hts, hr, hlk, hnm, hK⟩ := id hM
  exact lv_iadd hx hb hd (kk M hM x9 hx9 Q hQ H locs ls hR hl hlo)
theorem PJ.isub {x y : Int32} (hd : decode Y.2.1 pc = .ok (.isub, 1))  (kk : PJ l G R Y (pc + 1) L (.inl (x - y) :: st) h k n o Ψ) : PJ l G R Y pc L (.inl (y) :: .inl (x) :: st) h k n o Ψ := by
  intro M hM x9 hx9 Q hQ H locs ls hR hl hlo
  obtain ⟨hx, hb, hml, hown, hts, hr, hlk, hnm, hK⟩ := id hM
  exact lv_isub hx hb hd (kk M hM x9 hx9 Q hQ H locs ls hR hl hlo)
theorem PJ.imul {x y : Int32} (hd : decode Y.2.1 pc = .ok (.imul, 1))  (kk : PJ l G R Y (pc + 1) L (.inl (x * y) :: st) h k n o Ψ) : PJ l G R Y pc L (.inl (y) :: .inl (x) :: st) h k n o Ψ := by
  intro M hM x9 hx9 Q hQ H locs ls hR hl hlo
  obtain ⟨hx, hb, hml, hown, hts, hr, hlk, hnm, hK⟩ := id hM
  exact lv_imul hx hb hd (kk M hM x9 hx9 Q hQ H locs ls hR hl hlo)
theorem PJ.iand {x y : Int32} (hd : decode Y.2.1 pc = .ok (.iand, 1))  (kk : PJ l G R Y (pc + 1) L (.inl (x &&& y) :: st) h k n o Ψ) : PJ l G R Y pc L (.inl (y) :: .inl (x) :: st) h k n o Ψ := by
  intro M hM x9 hx9 Q hQ H locs ls hR hl hlo
  obtain ⟨hx, hb, hml, hown, hts, hr, hlk, hnm, hK⟩ := id hM
  exact lv_iand hx hb hd (kk M hM x9 hx9 Q hQ H locs ls hR hl hlo)
theorem PJ.ior {x y : Int32} (hd : decode Y.2.1 pc = .ok (.ior, 1))  (kk : PJ l G R Y (pc + 1) L (.inl (x ||| y) :: st) h k n o Ψ) : PJ l G R Y pc L (.inl (y) :: .inl (x) :: st) h k n o Ψ := by
  intro M hM x9 hx9 Q hQ H locs ls hR hl hlo
  obtain ⟨hx, hb, hml, hown, hts, hr, hlk, hnm, hK⟩ := id hM
  exact lv_ior hx hb hd (kk M hM x9 hx9 Q hQ H locs ls hR hl hlo)
theorem PJ.ixor {x y : Int32} (hd : decode Y.2.1 pc = .ok (.ixor, 1))  (kk : PJ l G R Y (pc + 1) L (.inl (x ^^^ y) :: st) h k n o Ψ) : PJ l G R Y pc L (.inl (y) :: .inl (x) :: st) h k n o Ψ := by
  intro M hM x9 hx9 Q hQ H locs ls hR hl hlo
  obtain ⟨hx, hb, hml, hown, hts, hr, hlk, hnm, hK⟩ := id hM
  exact lv_ixor hx hb hd (kk M hM x9 hx9 Q hQ H locs ls hR hl hlo)
theorem PJ.ishl {x y : Int32} (hd : decode Y.2.1 pc = .ok (.ishl, 1))  (kk : PJ l G R Y (pc + 1) L (.inl (x <<< (y &&& 31)) :: st) h k n o Ψ) : PJ l G R Y pc L (.inl (y) :: .inl (x) :: st) h k n o Ψ := by
  intro M hM x9 hx9 Q hQ H locs ls hR hl hlo
  obtain ⟨hx, hb, hml, hown, hts, hr, hlk, hnm, hK⟩ := id hM
  exact lv_ishl hx hb hd (kk M hM x9 hx9 Q hQ H locs ls hR hl hlo)
theorem PJ.ishr {x y : Int32} (hd : decode Y.2.1 pc = .ok (.ishr, 1))  (kk : PJ l G R Y (pc + 1) L (.inl (x >>> (y &&& 31)) :: st) h k n o Ψ) : PJ l G R Y pc L (.inl (y) :: .inl (x) :: st) h k n o Ψ := by
  intro M hM x9 hx9 Q hQ H locs ls hR hl hlo
  obtain ⟨hx, hb, hml, hown, hts, hr, hlk, hnm, hK⟩ := id hM
  exact lv_ishr hx hb hd (kk M hM x9 hx9 Q hQ H locs ls hR hl hlo)
theorem PJ.ladd {x y : Int64} (hd : decode Y.2.1 pc = .ok (.ladd, 1))  (kk : PJ l G R Y (pc + 1) L (.inr (.inl (x + y)) :: st) h k n o Ψ) : PJ l G R Y pc L (.inr (.inl (y)) :: .inr (.inl (x)) :: st) h k n o Ψ := by
  intro M hM x9 hx9 Q hQ H locs ls hR hl hlo
  obtain ⟨hx, hb, hml, hown, hts, hr, hlk, hnm, hK⟩ := id hM
  exact lv_ladd hx hb hd (kk M hM x9 hx9 Q hQ H locs ls hR hl hlo)
theorem PJ.lsub {x y : Int64} (hd : decode Y.2.1 pc = .ok (.lsub, 1))  (kk : PJ l G R Y (pc + 1) L (.inr (.inl (x - y)) :: st) h k n o Ψ) : PJ l G R Y pc L (.inr (.inl (y)) :: .inr (.inl (x)) :: st) h k n o Ψ := by
  intro M hM x9 hx9 Q hQ H locs ls hR hl hlo
  obtain ⟨hx, hb, hml, hown, hts, hr, hlk, hnm, hK⟩ := id hM
  exact lv_lsub hx hb hd (kk M hM x9 hx9 Q hQ H locs ls hR hl hlo)
theorem PJ.lmul {x y : Int64} (hd : decode Y.2.1 pc = .ok (.lmul, 1))  (kk : PJ l G R Y (pc + 1) L (.inr (.inl (x * y)) :: st) h k n o Ψ) : PJ l G R Y pc L (.inr (.inl (y)) :: .inr (.inl (x)) :: st) h k n o Ψ := by
  intro M hM x9 hx9 Q hQ H locs ls hR hl hlo
  obtain ⟨hx, hb, hml, hown, hts, hr, hlk, hnm, hK⟩ := id hM
  exact lv_lmul hx hb hd (kk M hM x9 hx9 Q hQ H locs ls hR hl hlo)
theorem PJ.iushr {x y : Int32} (hd : decode Y.2.1 pc = .ok (.iushr, 1))  (kk : PJ l G R Y (pc + 1) L (.inl ((x.toUInt32 >>> (y.toUInt32 &&& Int32.toUInt32 31)).toInt32) :: st) h k n o Ψ) : PJ l G R Y pc L (.inl y :: .inl x :: st) h k n o Ψ := by
  intro M hM x9 hx9 Q hQ H locs ls hR hl hlo
  obtain ⟨hx, hb, hml, hown, hts, hr, hlk, hnm, hK⟩ := id hM
  exact lv_iushr hx hb hd rfl (kk M hM x9 hx9 Q hQ H locs ls hR hl hlo)
theorem PJ.idiv {x y : Int32} (hd : decode Y.2.1 pc = .ok (.idiv, 1)) (kk : ¬ y = 0 → PJ l G R Y (pc + 1) L (.inl (x / y) :: st) h k n o Ψ) : PJ l G R Y pc L (.inl (y) :: .inl (x) :: st) h k n (if y = 0 then Option.none else o) Ψ := by
  intro M hM x9 hx9 Q hQ H locs ls hR hl hlo
  obtain ⟨hx, hb, hml, hown, hts, hr, hlk, hnm, hK⟩ := id hM
  by_cases hy : y = 0
  · rw [if_pos hy] at hx9; cases hx9
  · rw [if_neg hy] at hx9
    exact lv_idiv hx hb hd hy (kk hy M hM x9 hx9 Q hQ H locs ls hR hl hlo)
theorem PJ.irem {x y : Int32} (hd : decode Y.2.1 pc = .ok (.irem, 1)) (kk : ¬ y = 0 → PJ l G R Y (pc + 1) L (.inl (x - x / y * y) :: st) h k n o Ψ) : PJ l G R Y pc L (.inl (y) :: .inl (x) :: st) h k n (if y = 0 then Option.none else o) Ψ := by
  intro M hM x9 hx9 Q hQ H locs ls hR hl hlo
  obtain ⟨hx, hb, hml, hown, hts, hr, hlk, hnm, hK⟩ := id hM
  by_cases hy : y = 0
  · rw [if_pos hy] at hx9; cases hx9
  · rw [if_neg hy] at hx9
    exact lv_irem hx hb hd hy (kk hy M hM x9 hx9 Q hQ H locs ls hR hl hlo)
theorem PJ.ldiv {x y : Int64} (hd : decode Y.2.1 pc = .ok (.ldiv, 1)) (kk : ¬ y = 0 → PJ l G R Y (pc + 1) L (.inr (.inl (x / y)) :: st) h k n o Ψ) : PJ l G R Y pc L (.inr (.inl (y)) :: .inr (.inl (x)) :: st) h k n (if y = 0 then Option.none else o) Ψ := by
  intro M hM x9 hx9 Q hQ H locs ls hR hl hlo
  obtain ⟨hx, hb, hml, hown, hts, hr, hlk, hnm, hK⟩ := id hM
  by_cases hy : y = 0
  · rw [if_pos hy] at hx9; cases hx9
  · rw [if_neg hy] at hx9
    exact lv_ldiv hx hb hd hy (kk hy M hM x9 hx9 Q hQ H locs ls hR hl hlo)
theorem PJ.lrem {x y : Int64} (hd : decode Y.2.1 pc = .ok (.lrem, 1)) (kk : ¬ y = 0 → PJ l G R Y (pc + 1) L (.inr (.inl (x - x / y * y)) :: st) h k n o Ψ) : PJ l G R Y pc L (.inr (.inl (y)) :: .inr (.inl (x)) :: st) h k n (if y = 0 then Option.none else o) Ψ := by
  intro M hM x9 hx9 Q hQ H locs ls hR hl hlo
  obtain ⟨hx, hb, hml, hown, hts, hr, hlk, hnm, hK⟩ := id hM
  by_cases hy : y = 0
  · rw [if_pos hy] at hx9; cases hx9
  · rw [if_neg hy] at hx9
    exact lv_lrem hx hb hd hy (kk hy M hM x9 hx9 Q hQ H locs ls hR hl hlo)
theorem PJ.ineg {x : Int32} (hd : decode Y.2.1 pc = .ok (.ineg, 1))  (kk : PJ l G R Y (pc + 1) L (.inl (-x) :: st) h k n o Ψ) : PJ l G R Y pc L (.inl x :: st) h k n o Ψ := by
  intro M hM x9 hx9 Q hQ H locs ls hR hl hlo
  obtain ⟨hx, hb, hml, hown, hts, hr, hlk, hnm, hK⟩ := id hM
  exact lv_ineg hx hb hd (kk M hM x9 hx9 Q hQ H locs ls hR hl hlo)
theorem PJ.lneg {x : Int64} (hd : decode Y.2.1 pc = .ok (.lneg, 1))  (kk : PJ l G R Y (pc + 1) L (.inr (.inl (-x)) :: st) h k n o Ψ) : PJ l G R Y pc L (.inr (.inl x) :: st) h k n o Ψ := by
  intro M hM x9 hx9 Q hQ H locs ls hR hl hlo
  obtain ⟨hx, hb, hml, hown, hts, hr, hlk, hnm, hK⟩ := id hM
  exact lv_lneg hx hb hd (kk M hM x9 hx9 Q hQ H locs ls hR hl hlo)
theorem PJ.i2l {x : Int32} (hd : decode Y.2.1 pc = .ok (.i2l, 1))  (kk : PJ l G R Y (pc + 1) L (.inr (.inl x.toInt64) :: st) h k n o Ψ) : PJ l G R Y pc L (.inl x :: st) h k n o Ψ := by
  intro M hM x9 hx9 Q hQ H locs ls hR hl hlo
  obtain ⟨hx, hb, hml, hown, hts, hr, hlk, hnm, hK⟩ := id hM
  exact lv_i2l hx hb hd rfl (kk M hM x9 hx9 Q hQ H locs ls hR hl hlo)
theorem PJ.l2i {x : Int64} (hd : decode Y.2.1 pc = .ok (.l2i, 1))  (kk : PJ l G R Y (pc + 1) L (.inl x.toInt32 :: st) h k n o Ψ) : PJ l G R Y pc L (.inr (.inl x) :: st) h k n o Ψ := by
  intro M hM x9 hx9 Q hQ H locs ls hR hl hlo
  obtain ⟨hx, hb, hml, hown, hts, hr, hlk, hnm, hK⟩ := id hM
  exact lv_l2i hx hb hd rfl (kk M hM x9 hx9 Q hQ H locs ls hR hl hlo)
theorem PJ.i2b {x : Int32} (hd : decode Y.2.1 pc = .ok (.i2b, 1))  (kk : PJ l G R Y (pc + 1) L (.inl x.toInt8.toInt32 :: st) h k n o Ψ) : PJ l G R Y pc L (.inl x :: st) h k n o Ψ := by
  intro M hM x9 hx9 Q hQ H locs ls hR hl hlo
  obtain ⟨hx, hb, hml, hown, hts, hr, hlk, hnm, hK⟩ := id hM
  exact lv_i2b hx hb hd rfl (kk M hM x9 hx9 Q hQ H locs ls hR hl hlo)
theorem PJ.lcmp {x y : Int64} (hd : decode Y.2.1 pc = .ok (.lcmp, 1))  (kk : PJ l G R Y (pc + 1) L (.inl (lg_cmp x y) :: st) h k n o Ψ) : PJ l G R Y pc L (.inr (.inl y) :: .inr (.inl x) :: st) h k n o Ψ := by
  intro M hM x9 hx9 Q hQ H locs ls hR hl hlo
  obtain ⟨hx, hb, hml, hown, hts, hr, hlk, hnm, hK⟩ := id hM
  exact W.lcmp hx hb hd (kk M hM x9 hx9 Q hQ H locs ls hR hl hlo)
theorem PJ.dup {v : PV} (hd : decode Y.2.1 pc = .ok (.dup, 1)) (hc : pj_cat v = 1) (kk : PJ l G R Y (pc + 1) L (v :: v :: st) h k n o Ψ) : PJ l G R Y pc L (v :: st) h k n o Ψ := by
  intro M hM x9 hx9 Q hQ H locs ls hR hl hlo
  obtain ⟨hx, hb, hml, hown, hts, hr, hlk, hnm, hK⟩ := id hM
  exact lv_dup hx hb hd (by rw [pj_cat_v]; exact hc) (kk M hM x9 hx9 Q hQ H locs ls hR hl hlo)
theorem PJ.dup2 {v w : PV} (hd : decode Y.2.1 pc = .ok (.dup2, 1)) (hc : pj_cat v = 1) (hc2 : pj_cat w = 1) (kk : PJ l G R Y (pc + 1) L (v :: w :: v :: w :: st) h k n o Ψ) : PJ l G R Y pc L (v :: w :: st) h k n o Ψ := by
  intro M hM x9 hx9 Q hQ H locs ls hR hl hlo
  obtain ⟨hx, hb, hml, hown, hts, hr, hlk, hnm, hK⟩ := id hM
  exact lv_dup2_11 hx hb hd (by rw [pj_cat_v]; exact hc) (by rw [pj_cat_v]; exact hc2) (kk M hM x9 hx9 Q hQ H locs ls hR hl hlo)
theorem PJ.pop {v : PV} (hd : decode Y.2.1 pc = .ok (.pop, 1)) (hc : pj_cat v = 1) (kk : PJ l G R Y (pc + 1) L st h k n o Ψ) : PJ l G R Y pc L (v :: st) h k n o Ψ := by
  intro M hM x9 hx9 Q hQ H locs ls hR hl hlo
  obtain ⟨hx, hb, hml, hown, hts, hr, hlk, hnm, hK⟩ := id hM
  exact lv_pop hx hb hd (by rw [pj_cat_v]; exact hc) (kk M hM x9 hx9 Q hQ H locs ls hR hl hlo)
theorem PJ.pop2 {v : PV} (hd : decode Y.2.1 pc = .ok (.pop2, 1)) (hc : pj_cat v = 2) (kk : PJ l G R Y (pc + 1) L st h k n o Ψ) : PJ l G R Y pc L (v :: st) h k n o Ψ := by
  intro M hM x9 hx9 Q hQ H locs ls hR hl hlo
  obtain ⟨hx, hb, hml, hown, hts, hr, hlk, hnm, hK⟩ := id hM
  exact lv_pop2_2 hx hb hd (by rw [pj_cat_v]; exact hc) (kk M hM x9 hx9 Q hQ H locs ls hR hl hlo)
theorem PJ.icmp_eq {x y : Int32} {off : Int} {tgt : Nat} (hd : decode Y.2.1 pc = .ok (.if_icmp .eq off, 3)) (ht : (pc : Int) + off = (tgt : Int)) (kt : (x = y) → PJ l G R Y tgt L st h k n o1 Ψ) (kf : ¬ (x = y) → PJ l G R Y (pc + 3) L st h k n o2 Ψ) : PJ l G R Y pc L (.inl y :: .inl x :: st) h k n (if (x = y) then o1 else o2) Ψ := by
  intro M hM x9 hx9 Q hQ H locs ls hR hl hlo
  obtain ⟨hx, hb, hml, hown, hts, hr, hlk, hnm, hK⟩ := id hM
  refine lv_icmp_eq (tgt := tgt) hx hb hd ht (fun c9 => ?_) (fun c9 => ?_)
  · rw [if_pos c9] at hx9; exact kt c9 M hM x9 hx9 Q hQ H locs ls hR hl hlo
  · rw [if_neg c9] at hx9; exact kf c9 M hM x9 hx9 Q hQ H locs ls hR hl hlo
theorem PJ.icmp_lt {x y : Int32} {off : Int} {tgt : Nat} (hd : decode Y.2.1 pc = .ok (.if_icmp .lt off, 3)) (ht : (pc : Int) + off = (tgt : Int)) (kt : (x < y) → PJ l G R Y tgt L st h k n o1 Ψ) (kf : ¬ (x < y) → PJ l G R Y (pc + 3) L st h k n o2 Ψ) : PJ l G R Y pc L (.inl y :: .inl x :: st) h k n (if (x < y) then o1 else o2) Ψ := by
  intro M hM x9 hx9 Q hQ H locs ls hR hl hlo
  obtain ⟨hx, hb, hml, hown, hts, hr, hlk, hnm, hK⟩ := id hM
  refine lv_icmp_lt (tgt := tgt) hx hb hd ht (fun c9 => ?_) (fun c9 => ?_)
  · rw [if_pos c9] at hx9; exact kt c9 M hM x9 hx9 Q hQ H locs ls hR hl hlo
  · rw [if_neg c9] at hx9; exact kf c9 M hM x9 hx9 Q hQ H locs ls hR hl hlo
theorem PJ.icmp_ge {x y : Int32} {off : Int} {tgt : Nat} (hd : decode Y.2.1 pc = .ok (.if_icmp .ge off, 3)) (ht : (pc : Int) + off = (tgt : Int)) (kt : (y ≤ x) → PJ l G R Y tgt L st h k n o1 Ψ) (kf : ¬ (y ≤ x) → PJ l G R Y (pc + 3) L st h k n o2 Ψ) : PJ l G R Y pc L (.inl y :: .inl x :: st) h k n (if (y ≤ x) then o1 else o2) Ψ := by
  intro M hM x9 hx9 Q hQ H locs ls hR hl hlo
  obtain ⟨hx, hb, hml, hown, hts, hr, hlk, hnm, hK⟩ := id hM
  refine lv_icmp_ge (tgt := tgt) hx hb hd ht (fun c9 => ?_) (fun c9 => ?_)
  · rw [if_pos c9] at hx9; exact kt c9 M hM x9 hx9 Q hQ H locs ls hR hl hlo
  · rw [if_neg c9] at hx9; exact kf c9 M hM x9 hx9 Q hQ H locs ls hR hl hlo
theorem PJ.icmp_gt {x y : Int32} {off : Int} {tgt : Nat} (hd : decode Y.2.1 pc = .ok (.if_icmp .gt off, 3)) (ht : (pc : Int) + off = (tgt : Int)) (kt : (y < x) → PJ l G R Y tgt L st h k n o1 Ψ) (kf : ¬ (y < x) → PJ l G R Y (pc + 3) L st h k n o2 Ψ) : PJ l G R Y pc L (.inl y :: .inl x :: st) h k n (if (y < x) then o1 else o2) Ψ := by
  intro M hM x9 hx9 Q hQ H locs ls hR hl hlo
  obtain ⟨hx, hb, hml, hown, hts, hr, hlk, hnm, hK⟩ := id hM
  refine lv_icmp_gt (tgt := tgt) hx hb hd ht (fun c9 => ?_) (fun c9 => ?_)
  · rw [if_pos c9] at hx9; exact kt c9 M hM x9 hx9 Q hQ H locs ls hR hl hlo
  · rw [if_neg c9] at hx9; exact kf c9 M hM x9 hx9 Q hQ H locs ls hR hl hlo
theorem PJ.icmp_le {x y : Int32} {off : Int} {tgt : Nat} (hd : decode Y.2.1 pc = .ok (.if_icmp .le off, 3)) (ht : (pc : Int) + off = (tgt : Int)) (kt : (x ≤ y) → PJ l G R Y tgt L st h k n o1 Ψ) (kf : ¬ (x ≤ y) → PJ l G R Y (pc + 3) L st h k n o2 Ψ) : PJ l G R Y pc L (.inl y :: .inl x :: st) h k n (if (x ≤ y) then o1 else o2) Ψ := by
  intro M hM x9 hx9 Q hQ H locs ls hR hl hlo
  obtain ⟨hx, hb, hml, hown, hts, hr, hlk, hnm, hK⟩ := id hM
  refine lv_icmp_le (tgt := tgt) hx hb hd ht (fun c9 => ?_) (fun c9 => ?_)
  · rw [if_pos c9] at hx9; exact kt c9 M hM x9 hx9 Q hQ H locs ls hR hl hlo
  · rw [if_neg c9] at hx9; exact kf c9 M hM x9 hx9 Q hQ H locs ls hR hl hlo
theorem PJ.icmp_ne {x y : Int32} {off : Int} {tgt : Nat} (hd : decode Y.2.1 pc = .ok (.if_icmp .ne off, 3)) (ht : (pc : Int) + off = (tgt : Int)) (kt : (¬ x = y) → PJ l G R Y tgt L st h k n o1 Ψ) (kf : ¬ (¬ x = y) → PJ l G R Y (pc + 3) L st h k n o2 Ψ) : PJ l G R Y pc L (.inl y :: .inl x :: st) h k n (if (¬ x = y) then o1 else o2) Ψ := by
  intro M hM x9 hx9 Q hQ H locs ls hR hl hlo
  obtain ⟨hx, hb, hml, hown, hts, hr, hlk, hnm, hK⟩ := id hM
  refine lv_icmp_ne (tgt := tgt) hx hb hd ht (fun c9 => ?_) (fun c9 => ?_)
  · rw [if_pos c9] at hx9; exact kt c9 M hM x9 hx9 Q hQ H locs ls hR hl hlo
  · have c8 : ¬ (¬ x = y) := fun q => q c9
    rw [if_neg c8] at hx9; exact kf c8 M hM x9 hx9 Q hQ H locs ls hR hl hlo
theorem PJ.if_eq {x : Int32} {off : Int} {tgt : Nat} (hd : decode Y.2.1 pc = .ok (.ifCond .eq off, 3)) (ht : (pc : Int) + off = (tgt : Int)) (kt : (x = 0) → PJ l G R Y tgt L st h k n o1 Ψ) (kf : ¬ (x = 0) → PJ l G R Y (pc + 3) L st h k n o2 Ψ) : PJ l G R Y pc L (.inl x :: st) h k n (if (x = 0) then o1 else o2) Ψ := by
  intro M hM x9 hx9 Q hQ H locs ls hR hl hlo
  obtain ⟨hx, hb, hml, hown, hts, hr, hlk, hnm, hK⟩ := id hM
  refine lv_if_eq (tgt := tgt) hx hb hd ht (fun c9 => ?_) (fun c9 => ?_)
  · rw [if_pos c9] at hx9; exact kt c9 M hM x9 hx9 Q hQ H locs ls hR hl hlo
  · rw [if_neg c9] at hx9; exact kf c9 M hM x9 hx9 Q hQ H locs ls hR hl hlo
theorem PJ.if_lt {x : Int32} {off : Int} {tgt : Nat} (hd : decode Y.2.1 pc = .ok (.ifCond .lt off, 3)) (ht : (pc : Int) + off = (tgt : Int)) (kt : (x < 0) → PJ l G R Y tgt L st h k n o1 Ψ) (kf : ¬ (x < 0) → PJ l G R Y (pc + 3) L st h k n o2 Ψ) : PJ l G R Y pc L (.inl x :: st) h k n (if (x < 0) then o1 else o2) Ψ := by
  intro M hM x9 hx9 Q hQ H locs ls hR hl hlo
  obtain ⟨hx, hb, hml, hown, hts, hr, hlk, hnm, hK⟩ := id hM
  refine lv_if_lt (tgt := tgt) hx hb hd ht (fun c9 => ?_) (fun c9 => ?_)
  · rw [if_pos c9] at hx9; exact kt c9 M hM x9 hx9 Q hQ H locs ls hR hl hlo
  · rw [if_neg c9] at hx9; exact kf c9 M hM x9 hx9 Q hQ H locs ls hR hl hlo
theorem PJ.if_ge {x : Int32} {off : Int} {tgt : Nat} (hd : decode Y.2.1 pc = .ok (.ifCond .ge off, 3)) (ht : (pc : Int) + off = (tgt : Int)) (kt : (0 ≤ x) → PJ l G R Y tgt L st h k n o1 Ψ) (kf : ¬ (0 ≤ x) → PJ l G R Y (pc + 3) L st h k n o2 Ψ) : PJ l G R Y pc L (.inl x :: st) h k n (if (0 ≤ x) then o1 else o2) Ψ := by
  intro M hM x9 hx9 Q hQ H locs ls hR hl hlo
  obtain ⟨hx, hb, hml, hown, hts, hr, hlk, hnm, hK⟩ := id hM
  refine lv_if_ge (tgt := tgt) hx hb hd ht (fun c9 => ?_) (fun c9 => ?_)
  · rw [if_pos c9] at hx9; exact kt c9 M hM x9 hx9 Q hQ H locs ls hR hl hlo
  · rw [if_neg c9] at hx9; exact kf c9 M hM x9 hx9 Q hQ H locs ls hR hl hlo
theorem PJ.if_gt {x : Int32} {off : Int} {tgt : Nat} (hd : decode Y.2.1 pc = .ok (.ifCond .gt off, 3)) (ht : (pc : Int) + off = (tgt : Int)) (kt : (0 < x) → PJ l G R Y tgt L st h k n o1 Ψ) (kf : ¬ (0 < x) → PJ l G R Y (pc + 3) L st h k n o2 Ψ) : PJ l G R Y pc L (.inl x :: st) h k n (if (0 < x) then o1 else o2) Ψ := by
  intro M hM x9 hx9 Q hQ H locs ls hR hl hlo
  obtain ⟨hx, hb, hml, hown, hts, hr, hlk, hnm, hK⟩ := id hM
  refine lv_if_gt (tgt := tgt) hx hb hd ht (fun c9 => ?_) (fun c9 => ?_)
  · rw [if_pos c9] at hx9; exact kt c9 M hM x9 hx9 Q hQ H locs ls hR hl hlo
  · rw [if_neg c9] at hx9; exact kf c9 M hM x9 hx9 Q hQ H locs ls hR hl hlo
theorem PJ.if_le {x : Int32} {off : Int} {tgt : Nat} (hd : decode Y.2.1 pc = .ok (.ifCond .le off, 3)) (ht : (pc : Int) + off = (tgt : Int)) (kt : (x ≤ 0) → PJ l G R Y tgt L st h k n o1 Ψ) (kf : ¬ (x ≤ 0) → PJ l G R Y (pc + 3) L st h k n o2 Ψ) : PJ l G R Y pc L (.inl x :: st) h k n (if (x ≤ 0) then o1 else o2) Ψ := by
  intro M hM x9 hx9 Q hQ H locs ls hR hl hlo
  obtain ⟨hx, hb, hml, hown, hts, hr, hlk, hnm, hK⟩ := id hM
  refine lv_if_le (tgt := tgt) hx hb hd ht (fun c9 => ?_) (fun c9 => ?_)
  · rw [if_pos c9] at hx9; exact kt c9 M hM x9 hx9 Q hQ H locs ls hR hl hlo
  · rw [if_neg c9] at hx9; exact kf c9 M hM x9 hx9 Q hQ H locs ls hR hl hlo
theorem PJ.if_ne {x : Int32} {off : Int} {tgt : Nat} (hd : decode Y.2.1 pc = .ok (.ifCond .ne off, 3)) (ht : (pc : Int) + off = (tgt : Int)) (kt : (¬ x = 0) → PJ l G R Y tgt L st h k n o1 Ψ) (kf : ¬ (¬ x = 0) → PJ l G R Y (pc + 3) L st h k n o2 Ψ) : PJ l G R Y pc L (.inl x :: st) h k n (if (¬ x = 0) then o1 else o2) Ψ := by
  intro M hM x9 hx9 Q hQ H locs ls hR hl hlo
  obtain ⟨hx, hb, hml, hown, hts, hr, hlk, hnm, hK⟩ := id hM
  refine lv_if_ne (tgt := tgt) hx hb hd ht (fun c9 => ?_) (fun c9 => ?_)
  · rw [if_pos c9] at hx9; exact kt c9 M hM x9 hx9 Q hQ H locs ls hR hl hlo
  · have c8 : ¬ (¬ x = 0) := fun q => q c9
    rw [if_neg c8] at hx9; exact kf c8 M hM x9 hx9 Q hQ H locs ls hR hl hlo
theorem PJ.goto {off : Int} {tgt : Nat} (hd : decode Y.2.1 pc = .ok (.goto off, 3)) (ht : (pc : Int) + off = (tgt : Int)) (kk : PJ l G R Y tgt L st h k n o Ψ) : PJ l G R Y pc L st h k n o Ψ := by
  intro M hM x9 hx9 Q hQ H locs ls hR hl hlo
  obtain ⟨hx, hb, hml, hown, hts, hr, hlk, hnm, hK⟩ := id hM
  exact lv_goto hx hb hd ht (kk M hM x9 hx9 Q hQ H locs ls hR hl hlo)
theorem PJ.ifnull {a : Option Nat} {off : Int} {tgt : Nat} (hd : decode Y.2.1 pc = .ok (.ifnull off, 3)) (ht : (pc : Int) + off = (tgt : Int)) (kt : a = Option.none → PJ l G R Y tgt L st h k n o1 Ψ) (kf : ¬ a = Option.none → PJ l G R Y (pc + 3) L st h k n o2 Ψ) : PJ l G R Y pc L (.inr (.inr a) :: st) h k n (if a = Option.none then o1 else o2) Ψ := by
  intro M hM x9 hx9 Q hQ H locs ls hR hl hlo
  obtain ⟨hx, hb, hml, hown, hts, hr, hlk, hnm, hK⟩ := id hM
  cases a with
  | none => rw [if_pos rfl] at hx9; exact lv_ifnullN hx hb hd ht (kt rfl M hM x9 hx9 Q hQ H locs ls hR hl hlo)
  | some i =>
    rw [if_neg (fun q => by cases q)] at hx9
    exact lv_ifnull hx hb hd (kf (fun q => by cases q) M hM x9 hx9 Q hQ H locs ls hR hl hlo)
theorem PJ.ifnonnull {a : Option Nat} {off : Int} {tgt : Nat} (hd : decode Y.2.1 pc = .ok (.ifnonnull off, 3)) (ht : (pc : Int) + off = (tgt : Int)) (kt : ¬ a = Option.none → PJ l G R Y tgt L st h k n o1 Ψ) (kf : a = Option.none → PJ l G R Y (pc + 3) L st h k n o2 Ψ) : PJ l G R Y pc L (.inr (.inr a) :: st) h k n (if a = Option.none then o2 else o1) Ψ := by
  intro M hM x9 hx9 Q hQ H locs ls hR hl hlo
  obtain ⟨hx, hb, hml, hown, hts, hr, hlk, hnm, hK⟩ := id hM
  cases a with
  | none => rw [if_pos rfl] at hx9; exact lv_ifnonnullN hx hb hd (kf rfl M hM x9 hx9 Q hQ H locs ls hR hl hlo)
  | some i =>
    rw [if_neg (fun q => by cases q)] at hx9
    exact lv_ifnonnull hx hb hd ht (kt (fun q => by cases q) M hM x9 hx9 Q hQ H locs ls hR hl hlo)
theorem PJ.swo {dflt lo hi : Int} {offs : Array Int} {len : Nat} {x : Int32} {tgt : Nat} (hd : decode Y.2.1 pc = .ok (.tableswitch dflt lo hi offs, len)) (ht : (pc : Int) + dflt = (tgt : Int)) (kt : (x.toInt < lo ∨ hi < x.toInt) → PJ l G R Y tgt L st h k n o1 Ψ) (kf : ¬ (x.toInt < lo ∨ hi < x.toInt) → PJ l G R Y pc L (.inl x :: st) h k n o2 Ψ) : PJ l G R Y pc L (.inl x :: st) h k n (if x.toInt < lo ∨ hi < x.toInt then o1 else o2) Ψ := by
  intro M hM x9 hx9 Q hQ H locs ls hR hl hlo
  obtain ⟨hx, hb, hml, hown, hts, hr, hlk, hnm, hK⟩ := id hM
  by_cases c9 : x.toInt < lo ∨ hi < x.toInt
  · rw [if_pos c9] at hx9
    exact lv_tableOut (tgt := tgt) hx hb hd c9 ht (kt c9 M hM x9 hx9 Q hQ H locs ls hR hl hlo)
  · rw [if_neg c9] at hx9
    exact kf c9 M hM x9 hx9 Q hQ H locs ls hR hl hlo
theorem PJ.swc {dflt lo hi : Int} {offs : Array Int} {len : Nat} {x : Int32} {off : Int} {tgt : Nat} (c : Int32) (hd : decode Y.2.1 pc = .ok (.tableswitch dflt lo hi offs, len)) (h1 : ¬ c.toInt < lo) (h2 : ¬ hi < c.toInt) (ho : offs[(c.toInt - lo).toNat]? = some off) (ht : (pc : Int) + off = (tgt : Int)) (kt : x = c → PJ l G R Y tgt L st h k n o1 Ψ) (kf : ¬ x = c → PJ l G R Y pc L (.inl x :: st) h k n o2 Ψ) : PJ l G R Y pc L (.inl x :: st) h k n (if x = c then o1 else o2) Ψ := by
  intro M hM x9 hx9 Q hQ H locs ls hR hl hlo
  obtain ⟨hx, hb, hml, hown, hts, hr, hlk, hnm, hK⟩ := id hM
  by_cases c9 : x = c
  · rw [if_pos c9] at hx9
    subst c9
    exact lv_tableIn (tgt := tgt) hx hb hd h1 h2 ho ht (kt rfl M hM x9 hx9 Q hQ H locs ls hR hl hlo)
  · rw [if_neg c9] at hx9
    exact kf c9 M hM x9 hx9 Q hQ H locs ls hR hl hlo
end J1
