/-! String constants by a wide index; System.arraycopy; rows of rows; the String's own methods -/
def pj_isI : PV → Bool
  | .inl _ => true
  | _ => false
/-- the first n ints of one array into another -/
def aC (h : PH) (a : Option Nat) (sp : Int32) (b : Option Nat) (dp n : Int32) : Option PH := (pj_at h 50 a).bind fun es => (pj_at h 50 b).bind fun ds =>
  if sp = 0 ∧ dp = 0 ∧ ¬ n < 0 ∧ n.toNatClampNeg ≤ es.length ∧ n.toNatClampNeg ≤ ds.length ∧ (es.take n.toNatClampNeg).all pj_isI = true then (match b with | some j => some (h.set j (50, es.take n.toNatClampNeg ++ ds.drop n.toNatClampNeg)) | none => none) else none
def nM (h : PH) (N K : Nat) : PH := (h ++ [(53, (List.range N).map fun i => .inr (.inr (some (h.length + 1 + i))))]) ++ List.replicate N (50, List.replicate K (.inl 0))
theorem arrV_congr {c : ClassId} {N : Nat} {f g : Nat → Value} (e : ∀ j, j < N → f j = g j) : arrV c N f = arrV c N g := by
  unfold arrV
  congr 1
  apply Array.ext
  · simp
  · intro j h1 h2
    simp only [Array.size_ofFn] at h1
    simp [e j h1]
section J6
variable {l : Launch} {G : Cx} {R : Room} {Y : MI} {pc : Nat} {L : List (Option PV)} {st : List PV} {h : PH} {k n : Nat} {X Z : Type} {Ψ : X → MT → (State → Prop) → Prop} {o o1 o2 : Option X}
theorem PJ.ldcwS {c i : Nat} {tx : String} (hd : decode Y.2.1 pc = .ok (.ldc_w c, 3)) (hi : i < 50) (hw : (Y.1.cls, c, tx, i) ∈ st_refs) (kk : PJ l G R Y (pc + 3) L (.inr (.inr (some i)) :: st) h k n o Ψ) : PJ l G R Y pc L st h k n o Ψ := by
  intro M hM x9 hx9 Q hQ H locs ls hR hl hlo
  obtain ⟨hx, hb, hml, hown, hts, hr, hlk, hnm, hK⟩ := id hM
  have hz := hK.2.2.1 _ hw
  have he : pj_v G (.inr (.inr (some i))) = .ref (G.2.1 i) := by show Value.ref (pj_ad G i) = _; unfold pj_ad; rw [if_pos hi]
  have hk9 := kk M hM x9 hx9 Q hQ H locs ls hR hl hlo
  rw [List.map_cons, he] at hk9
  intro T hT X
  obtain ⟨t, a1, b1⟩ := hk9 T hT X
  obtain ⟨k0, cf, i0, a', hk0, hcf, hcp, -, hr0, hev'⟩ := Cond.stringRef_spec hown hz.1
  cases hz.2.symm.trans hev'
  obtain ⟨k', hk', he'⟩ := X.warmed.alike.2.2 _ _ hk0
  have hr' : k'.resolved[c]? = some (some (.string (G.2.1 i))) := by
    rcases X.warmed.entry hk0 hk' c with q | ⟨q, -⟩
    · rw [q]; exact hr0
    · rw [hr0] at q; cases q
  refine ⟨t, ?_, b1⟩
  have hd' : decode M.2.2.2.2.2.2.2.code pc = .ok (.ldc_w c, 3) := by rw [hb]; exact hd
  jvm_step X.here [hx, hd', ldc_w.wp_string (e := M.2.1) (s := T) (f := F0 M.2.2.2.1 pc ls (st.map (pj_v G))) X.here.top hk' (by rw [he']; exact hcf) hcp hr']
  exact a1
theorem PJ.acopy {idx : Nat} {a b : Option Nat} {sp dp c : Int32} {K : PH → Option X} (hw1 : Cond.methodLink Y.1.cls idx arraycopyName ∈ pj_ws) (hw2 : Cond.native arraycopyName ∈ pj_ws) (hw3 : Cond.static arraycopyName ∈ pj_ws) (hw4 : Cond.initialized "java/lang/System" ∈ pj_ws) (hfr : 1 ≤ R.frames) (hlc : pj_sum st + (nativeFrameWords "java/lang/System" "arraycopy" 5 + 11) ≤ R.locals) (hd : decode Y.2.1 pc = .ok (.invokestatic idx, 3))
    (kk : ∀ h1, PJ l G R Y (pc + 3) L st h1 k n (K h1) Ψ) : PJ l G R Y pc L (.inl c :: .inl dp :: .inr (.inr b) :: .inl sp :: .inr (.inr a) :: st) h k n ((aC h a sp b dp c).bind K) Ψ := by
  intro M hM x9 hx9 Q hQ H locs ls hR hl hlo
  obtain ⟨h1, e1, e2⟩ := Option.bind_eq_some_iff.mp hx9
  unfold aC at e1
  obtain ⟨es, f1, e3⟩ := Option.bind_eq_some_iff.mp e1
  obtain ⟨ds, f2, e4⟩ := Option.bind_eq_some_iff.mp e3
  obtain ⟨i, rfl, hi⟩ := pj_at_spec f1
  obtain ⟨j, rfl, hj⟩ := pj_at_spec f2
  by_cases hc : sp = 0 ∧ dp = 0 ∧ ¬ c < 0 ∧ c.toNatClampNeg ≤ es.length ∧ c.toNatClampNeg ≤ ds.length ∧ (es.take c.toNatClampNeg).all pj_isI = true
  case neg => rw [if_neg hc] at e4; cases e4
  rw [if_pos hc] at e4
  obtain ⟨rfl, rfl, c3, c4, c5, c6⟩ := hc
  cases e4
  clear e3 e1
  obtain ⟨hx, hb, hml, hown, hts, hr, hlk, hnm, hK⟩ := id hM
  obtain ⟨-, hci⟩ := pj_rd hR hi (by decide) (by decide)
  obtain ⟨h100, hcj⟩ := pj_rd hR hj (by decide) (by decide)
  have hA := (pj_arr hK (t := 50) (by decide) (by decide)).1
  obtain ⟨-, k0, hk0, cm0, hkk0⟩ := hA es.length (pj_f G es)
  intro T hT X
  have z0 : (0 : Int32).toNatClampNeg = 0 := rfl
  have nn : c.toInt = (c.toNatClampNeg : Int) := by
    have hz0 : (0 : Int) ≤ c.toInt := by
      have := Int32.not_lt.mp c3
      simpa using Int32.le_iff_toInt_le.mp this
    show c.toInt = ((c.toInt.toNat : Nat) : Int)
    omega
  obtain ⟨vm', X', step⟩ := X.arraycopy hx hown (hts _ hw1) (hts _ hw2) (hts _ hw3) (hts _ hw4) (src := pj_ad G i) (dst := pj_ad G j) (cs := arrV (G.2.2.2.2.1 50) es.length (pj_f G es)) (cd := arrV (G.2.2.2.2.1 50) ds.length (pj_f G ds)) (srcPos := 0) (destPos := 0) (n := c) (by rw [hT]; exact hci) (by rw [hT]; exact hcj)
    (fun _ h => by cases h) (fun _ h => by cases h) (fun h => by cases h) (fun h => by cases h) hk0 hk0 hkk0 hkk0 (by simp [refKind, pj_aty]) (by decide) (by decide) c3
    (by rw [nn, arrV_size]; simp; omega)
    (by rw [nn, arrV_size]; simp; omega)
    (fun vm₁ _ i9 hi9 => by
      have hlt : i9 < es.length := by omega
      obtain ⟨x, hx8⟩ : ∃ x, es[i9]? = some (.inl x) := by
        have hm : es[i9] ∈ es.take c.toNatClampNeg := by
          rw [List.mem_take_iff_getElem]
          exact ⟨i9, by omega, rfl⟩
        have := List.all_eq_true.mp c6 _ hm
        cases hv : es[i9] with
        | inl x => exact ⟨x, by rw [List.getElem?_eq_getElem hlt, hv]⟩
        | inr y => rw [hv] at this; cases this
      have e : (arrV (G.2.2.2.2.1 50) es.length (pj_f G es)).slots.getD ((0 : Int32).toNatClampNeg + i9) .null = .int x := by
        rw [z0, Nat.zero_add, Array.getD_eq_getD_getElem?, arrV_read _ _ hlt, pj_f_at hx8]
        rfl
      refine ⟨?_, ?_⟩
      · rw [e]; rfl
      · rw [e]; exact trivial)
    (g := F0 M.2.2.2.1 pc ls ((.inl c :: .inl 0 :: .inr (.inr (some j)) :: .inl 0 :: .inr (.inr (some i)) :: st).map (pj_v G))) rfl (by rw [hml]; exact hl.1) (rest := st.map (pj_v G)) rfl (by rw [hb]; exact hd) hfr (by rw [pj_sum_v]; show 2 * 0 + _ + _ ≤ _; omega)
  have e1 : copied (arrV (G.2.2.2.2.1 50) es.length (pj_f G es)) (arrV (G.2.2.2.2.1 50) ds.length (pj_f G ds)) 0 0 c = arrV (G.2.2.2.2.1 50) (es.take c.toNatClampNeg ++ ds.drop c.toNatClampNeg).length (pj_f G (es.take c.toNatClampNeg ++ ds.drop c.toNatClampNeg)) := by
    refine (va_copied (sp := (0 : Int32).toNatClampNeg) (dp := (0 : Int32).toNatClampNeg) (n := c.toNatClampNeg) (fun z => z) (G.2.2.2.2.1 50) (G.2.2.2.2.1 50) (pj_f G es) (pj_f G ds) (by rw [z0]; omega)).trans ?_
    have hlen : (es.take c.toNatClampNeg ++ ds.drop c.toNatClampNeg).length = ds.length := by
      rw [List.length_append, List.length_take, List.length_drop]; omega
    rw [hlen]
    refine arrV_congr fun j9 hj9 => ?_
    unfold va_cpy pj_f
    rw [z0]
    simp only [Nat.zero_le, Nat.zero_add, Nat.sub_zero, true_and]
    by_cases q : j9 < c.toNatClampNeg
    · rw [if_pos q, List.getElem?_append_left (by rw [List.length_take]; omega), List.getElem?_take, if_pos q]
    · rw [if_neg q, List.getElem?_append_right (by rw [List.length_take]; omega), List.getElem?_drop, List.length_take]
      rw [show c.toNatClampNeg + (j9 - min c.toNatClampNeg es.length) = j9 by omega]
  rw [e1] at X' step
  have hjl : pj_ad G j < H.size := (Array.getElem?_eq_some_iff.mp hcj).1
  obtain ⟨t, a1, b1⟩ := kk _ M hM x9 e2 Q hQ (H.setIfInBounds (pj_ad G j) (arrV (G.2.2.2.2.1 50) (es.take c.toNatClampNeg ++ ds.drop c.toNatClampNeg).length (pj_f G (es.take c.toNatClampNeg ++ ds.drop c.toNatClampNeg)))) _ ls
    (hR.set hj (by decide) (by simp) (fun q hq => by simp [Array.getElem?_setIfInBounds, Ne.symm hq]) ⟨fun q => absurd q (by show ¬ (50 : Nat) < 50; decide), fun _ => by simp [Array.getElem?_setIfInBounds, hjl]⟩) hl
    (fun q hq => by
      rcases List.mem_append.mp hq with z | z
      · exact hlo q z
      · obtain ⟨y, -, hy⟩ := List.mem_map.mp z
        rw [← hy]
        show G.1 ≤ pj_ad G j
        rw [pj_ad_ge h100]; omega) _ (by rw [← hT]; rfl) X'
  exact ⟨t, step t a1, b1⟩
end J6
