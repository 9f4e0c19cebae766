/-! the reference's rows: kept, marked, brought again -/
def wrI (f g : Nat → Int32) (o m : Nat) : Nat → Int32 := fun k => if o ≤ k ∧ k < o + m then g (k - o) else f k
theorem wrI_s {f g : Nat → Int32} {o m : Nat} : up1 (wrI f g o m) (o + m) (g m) = wrI f g o (m + 1) := by
  funext k
  unfold up1 wrI
  by_cases z : k = o + m
  · subst z
    rw [if_pos rfl, if_pos (by omega)]
    congr 1; omega
  · rw [if_neg z]
    by_cases w : o ≤ k ∧ k < o + m
    · rw [if_pos w, if_pos (by omega)]
    · rw [if_neg w, if_neg (by omega)]
theorem wrI_0 {f g : Nat → Int32} {o : Nat} : wrI f g o 0 = f := by
  funext k
  unfold wrI
  rw [if_neg (by omega)]
section F1
variable {h h1 : PH} {lw c : Nat} {S : StD} {ml : Option Nat} {N : NowD} {P : PaD}
theorem cpy {step : Int32 × PH → Option ((Int32 × PH) ⊕ PH)} {d M o n : Nat} {f g : Nat → Int32} (hd : Fu h d M f) (hM : o + n ≤ M) (hM1 : M < 2 ^ 31) (hn : n < 4096) (hs : ∀ j h1, j < n → Fr h h1 d (d + 1) → step (nI j, h1) = (sA h1 50 (some d) (nI (o + j)) (.inl (g j))).bind fun h10 => some (.inl (nI (j + 1), h10))) (he : ∀ h1, step (nI n, h1) = some (.inr h1)) : ∃ h1, pj_it step FU ((0 : Int32), h) = some h1 ∧ Fu h1 d M (wrI f g o n) ∧ Fr h h1 d (d + 1) := by
  obtain ⟨x, l1, l2⟩ := pj_inv (step := step) (fun i s => s.1 = nI i ∧ Fu s.2 d M (wrI f g o i) ∧ Fr h s.2 d (d + 1)) (fun x => Fu x d M (wrI f g o n) ∧ Fr h x d (d + 1)) n (s0 := ((0 : Int32), h)) hn ⟨rfl, by rw [wrI_0]; exact hd, Fr.rf⟩ (by
    rintro i ⟨s1, s2⟩ hi ⟨x1, x2, x3⟩
    dsimp only at x1 x2 x3 ⊢
    subst x1
    left
    obtain ⟨h2, y1, y2, y3⟩ := x2.set (p := o + i) (by omega) hM1 (g i)
    rw [hs i s2 hi x3, y1, Option.bind_some]
    exact ⟨_, rfl, rfl, by rw [← wrI_s]; exact y2, x3.tr y3⟩) (by
    rintro ⟨s1, s2⟩ ⟨x1, x2, x3⟩
    dsimp only at x1 x2 x3 ⊢
    subst x1
    exact ⟨_, he s2, x2, x3⟩)
  exact ⟨x, l1, l2⟩
theorem Mst.fi (e : Mst h ml S) : gI h 12 (some 285) 19 = some (nI (und (sP S))) ∧ gI h 12 (some 285) 20 = some (nI (mks (sP S))) ∧ gR h 12 (some 285) 17 = some (some 289) ∧ gR h 12 (some 285) 18 = some (some 290) ∧ gR h 12 (some 285) 16 = some (some 288) := by
  obtain ⟨F, e0, e1, -⟩ := e
  obtain ⟨a1, a2, a3, a4, a5, a6, a7, a8, a9, a10, a11, a12, a13, a14, a15, a16⟩ := e1
  exact ⟨e0.gi (by omega) a11, e0.gi (by omega) a12, e0.gr (by omega) a9, e0.gr (by omega) a10, e0.gr (by omega) a8⟩
theorem nI_23 (a k : Nat) : (23 : Int32) * nI a + nI k = nI (23 * a + k) := by
  rw [show (23 : Int32) = nI 23 from by decide, pk_mul, nI_add]
/-- past field and row are changed -/
theorem Mst.pa {f : Nat → Int32} {F1 : Nat → PV} (e : Mst h ml S) (g : Fr h h1 285 290) (a0 : Fo h1 285 12 32 F1) (a1 : MF F1 (paS S P) ml) (a2 : ∀ i, i < 290 → 286 ≤ i → i ≠ 289 → h1[i]? = h[i]?) (a3 : Fu h1 289 368 f) (a4 : ∀ i, i < und P → MRw (fun k => f (23 * i + k)) (nP (sL S)) (kep P i)) (a5 : mks P = mks (sP S) ∧ mkd P = mkd (sP S)) : Mst h1 ml (paS S P) := by
  obtain ⟨F, e0, e1, ⟨e2, ⟨f3, e3, e3'⟩, e4, ⟨f5, e5, e5'⟩⟩, ⟨⟨f6, e6⟩, e7, e8, e9, e10⟩, e11⟩ := e
  refine ⟨F1, a0, a1, ⟨(a2 _ (by omega) (by omega) (by omega)).trans e2, ⟨f3, (a2 _ (by omega) (by omega) (by omega)).trans e3, e3'⟩, ⟨f, a3, a4⟩, ⟨f5, e5.fr g (by omega), ?_⟩⟩, ⟨⟨f6, (a2 _ (by omega) (by omega) (by omega)).trans e6⟩, ?_, ?_, ?_, ?_⟩, e11.lt (fun i p q => g.2 i (by omega))⟩
  · intro i hi
    show MRw _ _ (mkd P i)
    rw [a5.2]
    exact e5' i (by rw [← a5.1]; exact hi)
  · obtain ⟨f, e⟩ := e7; exact ⟨f, e.fr g (by omega)⟩
  · obtain ⟨f, e⟩ := e8; exact ⟨f, e.fr g (by omega)⟩
  · obtain ⟨f, e⟩ := e9; exact ⟨f, e.fr g (by omega)⟩
  · obtain ⟨f, e⟩ := e10; exact ⟨f, e.fr g (by omega)⟩
theorem mf_pa {F : Nat → PV} (e : MF F S ml) (hm : mks P = mks (sP S)) : MF (upF F 19 (.inl (nI (und P)))) (paS S P) ml := by
  obtain ⟨a1, a2, a3, a4, a5, a6, a7, a8, a9, a10, a11, a12, a13, a14, a15, a16⟩ := e
  exact ⟨a1, a2, a3, a4, a5, a6, a7, a8, a9, a10, rfl, by show _ = Sum.inl (nI (mks P)); rw [hm]; exact a12, a13, a14, a15, a16⟩
/-- the oldest goes, in the reference -/
theorem mod_rot (e : Mst h ml S) (hu : und (sP S) = 16) (h5 : nP (sL S) ≤ 5) : ∃ h1, ((pj_it (X := PH) (fun s3 : Int32 × PH => if (345 : Int32) ≤ s3.1 then (some (.inr s3.2)) else ((gR s3.2 12 (some 285) 17).bind fun v5 => (gR s3.2 12 (some 285) 17).bind fun v6 => (aI s3.2 v6 (s3.1 + (23 : Int32))).bind fun v7 => (sA s3.2 50 v5 s3.1 (.inl v7)).bind fun h8 => some (.inl ((s3.1 + (1 : Int32)), h8)))) FU ((0 : Int32), h)).bind fun x4 => (gI x4 12 (some 285) 19).bind fun v9 => (sF x4 12 (some 285) 19 (.inl (v9 - (1 : Int32)))).bind fun h10 => some h10) = some h1 ∧ Mst h1 ml (paS S (roP (sP S))) ∧ Fr h h1 285 290 ∧ ∀ j, j ≠ 19 → gV h1 12 (some 285) j = gV h 12 (some 285) j := by
  obtain ⟨F, e0, e1, ⟨e2, e3, ⟨f4, e4, e4'⟩, e5⟩, e6, e7⟩ := id e
  have hfi := e.fi
  obtain ⟨x, l1, l2, l3⟩ := pj_inv (step := fun s3 : Int32 × PH => if (345 : Int32) ≤ s3.1 then (some (.inr s3.2) : Option ((Int32 × PH) ⊕ PH)) else ((gR s3.2 12 (some 285) 17).bind fun v5 => (gR s3.2 12 (some 285) 17).bind fun v6 => (aI s3.2 v6 (s3.1 + (23 : Int32))).bind fun v7 => (sA s3.2 50 v5 s3.1 (.inl v7)).bind fun h8 => some (.inl ((s3.1 + (1 : Int32)), h8)))) (fun i s => s.1 = nI i ∧ Fu s.2 289 368 (fun k => if k < i then f4 (k + 23) else f4 k) ∧ Fr h s.2 289 290) (fun x => Fu x 289 368 (fun k => if k < 345 then f4 (k + 23) else f4 k) ∧ Fr h x 289 290) 345 (s0 := ((0 : Int32), h)) (by omega) ⟨rfl, by simpa using e4, Fr.rf⟩ (by
    rintro i ⟨s1, s2⟩ hi ⟨x1, x2, x3⟩
    dsimp only at x1 x2 x3 ⊢
    subst x1
    left
    have r17 : gR s2 12 (some 285) 17 = some (some 289) := by rw [gR_c (x3.2 285 (by omega))]; exact hfi.2.2.1
    obtain ⟨h2, y1, y2, y3⟩ := x2.set (p := i) (by omega) (by decide) (f4 (i + 23))
    rw [if_neg (show ¬ (345 : Int32) ≤ nI i from nI_ge (b := 345) hi (by omega)), r17, Option.bind_some, Option.bind_some, show nI i + (23 : Int32) = nI (i + 23) from nI_add i 23, x2.at (p := i + 23) (by omega) (by decide), Option.bind_some, if_neg (by omega), y1, Option.bind_some, nI_s]
    refine ⟨_, rfl, rfl, y2.eq (fun k hk => ?_), x3.tr y3⟩
    unfold up1
    by_cases z : k = i
    · subst z; rw [if_pos rfl, if_pos (by omega)]
    · rw [if_neg z]
      dsimp only
      by_cases w : k < i
      · rw [if_pos w, if_pos (show k < i + 1 by omega)]
      · rw [if_neg w, if_neg (show ¬ k < i + 1 by omega)]) (by
    rintro ⟨s1, s2⟩ ⟨x1, x2, x3⟩
    dsimp only at x1 x2 x3 ⊢
    subst x1
    rw [if_pos (show (345 : Int32) ≤ nI 345 by decide)]
    exact ⟨_, rfl, x2, x3⟩)
  have q0 := e0.fr l3 (by omega)
  obtain ⟨h2, b1, b2, b3⟩ := q0.set (k := 19) (by omega) (.inl (nI 15))
  have G : Fr h h2 285 290 := (l3.wd (by omega) (by omega)).tr (b3.wd (by omega) (by omega))
  refine ⟨h2, ?_, e.pa (f := fun k => if k < 345 then f4 (k + 23) else f4 k) G b2 (mf_pa (P := roP (sP S)) e1 rfl) (fun i p q r => ?_) (l2.fr b3 (by omega)) (fun i hi => ?_) ⟨rfl, rfl⟩, G, fun j hj => ?_⟩
  · rw [l1, Option.bind_some, q0.gi (by omega) e1.2.2.2.2.2.2.2.2.2.2.1, Option.bind_some, hu, show nI 16 - (1 : Int32) = nI 15 from by decide, b1, Option.bind_some]
  · rw [b3.2 i (by omega), l3.2 i (by omega)]
  · have hi : i < 15 := hi
    show MRw _ _ (if i = 15 then _ else kep (sP S) (i + 1))
    rw [if_neg (by omega)]
    refine rd_row (fun k hk => ?_) h5 (e4' (i + 1) (by omega))
    rw [if_pos (by omega)]
    congr 1; omega
  · unfold gV
    rw [pj_at_o b2, pj_at_o e0, Option.bind_some, Option.bind_some]
    by_cases q : j < 32
    · simp [q, upF_n hj]
    · rw [List.getElem?_eq_none (by simp; omega), List.getElem?_eq_none (by simp; omega)]
theorem mod_keep1 (e : Mst h ml S) (lf : sLf S = true) (hu : und (sP S) < 16) (h5 : nP (sL S) ≤ 5) : ∃ h1, ((pj_it (X := PH) (fun s11 : Int32 × PH => if (23 : Int32) ≤ s11.1 then (some (.inr s11.2)) else ((gR s11.2 12 (some 285) 17).bind fun v13 => (gI s11.2 12 (some 285) 19).bind fun v14 => (gR s11.2 12 (some 285) 15).bind fun v15 => (aI s11.2 v15 s11.1).bind fun v16 => (sA s11.2 50 v13 (((23 : Int32) * v14) + s11.1) (.inl v16)).bind fun h17 => some (.inl ((s11.1 + (1 : Int32)), h17)))) FU ((0 : Int32), h)).bind fun x12 => (gI x12 12 (some 285) 19).bind fun v18 => (sF x12 12 (some 285) 19 (.inl (v18 + (1 : Int32)))).bind fun h19 => some h19) = some h1 ∧ Mst h1 ml (paS S (k1P (sP S) (sNw S))) ∧ Fr h h1 285 290 ∧ ∀ j, j ≠ 19 → gV h1 12 (some 285) j = gV h 12 (some 285) j := by
  obtain ⟨F, e0, e1, ⟨e2, ⟨f3, e3, e3'⟩, ⟨f4, e4, e4'⟩, e5⟩, e6, e7⟩ := id e
  have hfi := e.fi
  obtain ⟨x, l1, l2, l3⟩ := cpy (step := fun s11 : Int32 × PH => if (23 : Int32) ≤ s11.1 then (some (.inr s11.2) : Option ((Int32 × PH) ⊕ PH)) else ((gR s11.2 12 (some 285) 17).bind fun v13 => (gI s11.2 12 (some 285) 19).bind fun v14 => (gR s11.2 12 (some 285) 15).bind fun v15 => (aI s11.2 v15 s11.1).bind fun v16 => (sA s11.2 50 v13 (((23 : Int32) * v14) + s11.1) (.inl v16)).bind fun h17 => some (.inl ((s11.1 + (1 : Int32)), h17)))) (o := 23 * und (sP S)) (n := 23) (g := f3) e4 (by omega) (by decide) (by omega) (by
    intro j h2 hj x3
    dsimp only
    have r17 : gR h2 12 (some 285) 17 = some (some 289) := by rw [gR_c (x3.2 285 (by omega))]; exact hfi.2.2.1
    have r19 : gI h2 12 (some 285) 19 = some (nI (und (sP S))) := by rw [gI_c (x3.2 285 (by omega))]; exact hfi.1
    have r15 : gR h2 12 (some 285) 15 = some (some 287) := by rw [gR_c (x3.2 285 (by omega))]; exact e.vr
    rw [if_neg (show ¬ (23 : Int32) ≤ nI j from nI_ge (b := 23) hj (by omega)), r17, Option.bind_some, r19, Option.bind_some, r15, Option.bind_some, (e3.fr x3 (by omega)).at (by omega) (by decide), Option.bind_some, nI_23, nI_s]) (by
    intro h2
    dsimp only
    rw [if_pos (show (23 : Int32) ≤ nI 23 by decide)])
  have q0 := e0.fr l3 (by omega)
  obtain ⟨h2, b1, b2, b3⟩ := q0.set (k := 19) (by omega) (.inl (nI (und (sP S) + 1)))
  have G : Fr h h2 285 290 := (l3.wd (by omega) (by omega)).tr (b3.wd (by omega) (by omega))
  refine ⟨h2, ?_, e.pa (f := wrI f4 f3 (23 * und (sP S)) 23) G b2 (mf_pa (P := k1P (sP S) (sNw S)) e1 rfl) (fun i p q r => ?_) (l2.fr b3 (by omega)) (fun i hi => ?_) ⟨rfl, rfl⟩, G, fun j hj => ?_⟩
  · rw [l1, Option.bind_some, q0.gi (by omega) e1.2.2.2.2.2.2.2.2.2.2.1, Option.bind_some, nI_s, b1, Option.bind_some]
  · rw [b3.2 i (by omega), l3.2 i (by omega)]
  · have hi : i < und (sP S) + 1 := hi
    show MRw _ _ (if i = und (sP S) then sNw S else kep (sP S) i)
    by_cases z : i = und (sP S)
    · rw [if_pos z]
      refine rd_row (fun k hk => ?_) h5 (e3' lf)
      unfold wrI
      rw [if_pos (by omega)]
      congr 1; omega
    · rw [if_neg z]
      refine rd_row (fun k hk => ?_) h5 (e4' i (by omega))
      unfold wrI
      rw [if_neg (by omega)]
  · unfold gV
    rw [pj_at_o b2, pj_at_o e0, Option.bind_some, Option.bind_some]
    by_cases q : j < 32
    · simp [q, upF_n hj]
    · rw [List.getElem?_eq_none (by simp; omega), List.getElem?_eq_none (by simp; omega)]
theorem mod_keep (e : Mst h ml S) (lf : sLf S = true) (hu : und (sP S) ≤ 16) (h5 : nP (sL S) ≤ 5) : ∃ h1, f_M_remembers h (some 285) = some h1 ∧ Mst h1 ml (paS S (kpP (sP S) (sNw S))) ∧ Fr h h1 285 290 ∧ ∀ j, j ≠ 19 → gV h1 12 (some 285) j = gV h 12 (some 285) j := by
  unfold f_M_remembers kpP
  rw [e.fi.1, Option.bind_some]
  by_cases z : und (sP S) = 16
  · rw [if_neg (by rw [z]; exact fun q => q (by decide)), if_pos z]
    obtain ⟨h1, a1, a2, a3, a4⟩ := mod_rot e z h5
    rw [a1, Option.bind_some]
    obtain ⟨h2, b1, b2, b3, b4⟩ := mod_keep1 a2 lf (by show 15 < 16; omega) h5
    exact ⟨h2, b1, b2, a3.tr b3, fun j hj => (b4 j hj).trans (a4 j hj)⟩
  · rw [if_pos (show ¬ nI (und (sP S)) = 16 from fun q => z ((nI_eq (b := 16) (by omega) (by omega)).mp q)), if_neg z, Option.bind_some]
    exact mod_keep1 e lf (by omega) h5
/-! seed, undo, mark, back -/
theorem SOk.nw (o : SOk c S) (g : sLf S = true → NowG 999 c (sL S) N) (z : sLf S = false → hou N = 0 ∧ sed N = 0) : SOk c (nwS S N) := by
  obtain ⟨a, b, d, e, f, i⟩ := o
  refine ⟨a, fun q => ⟨(b q).1, (b q).2.1, g q, (b q).2.2.2⟩, fun q => ?_, e, f, i⟩
  obtain ⟨d1, d2, d3, d4, d5, d6, d7, d8, d9, d10, d11, d12, d13⟩ := d q
  exact ⟨d1, d2, d3, d4, d5, d6, d7, d8, d9, (z q).1, (z q).2, d12, d13⟩
theorem SOk.pa (o : SOk c S) (lf : sLf S = true) (g : ∀ i, i < und P → NowG 999 c (sL S) (kep P i)) (g2 : ∀ i, i < mks P → NowG 999 c (sL S) (mkd P i)) (hu : und P ≤ 16) (hm : mks P ≤ 3) : SOk c (paS S P) := by
  obtain ⟨a, b, d, e, f, i⟩ := o
  exact ⟨a, fun q => ⟨(b q).1, (b q).2.1, (b q).2.2.1, g, g2⟩, fun q => absurd (lf.symm.trans q) (by decide), hu, hm, i⟩
theorem rZ_1 {h : PH} : rZ 1 h = some (1, h) := by unfold rZ; rw [if_pos (by decide)]
theorem rZ_0 {h : PH} : rZ 0 h = some (0, h) := by unfold rZ; rw [if_pos (by decide)]
theorem an_Z {o : Option (Int32 × PH)} {x : Int32} {h1 : PH} (e : (o.bind fun v => some (v.1, v.2)) = some (x, h1)) (hx : x = 0 ∨ x = 1) : (o.bind fun v => rZ v.1 v.2) = some (x, h1) := by
  cases o with
  | none => cases e
  | some v =>
    have e : some (v.1, v.2) = some (x, h1) := e
    obtain ⟨v1, v2⟩ := v
    cases e
    show rZ _ _ = _
    rcases hx with rfl | rfl
    · exact rZ_0
    · exact rZ_1
theorem nwS_tr (S : StD) (N : NowD) (t : Int32) : trS (nwS S N) t = nwS (trS S t) N := rfl
theorem op_seed (o : SOk c S) (hc : c < 600) (a : Int32) : Op (fun h => f_T_seed h (some 100) a) (fun h => f_M_seed h (some 285) a) c S := by
  by_cases z : bdS S a 0 65536 = 0
  · have lf : sLf S = true := by
      cases lf : sLf S with
      | true => rfl
      | false => unfold bdS at z; rw [if_pos lf] at z; exact absurd z (by decide)
    have hin : ¬ a < 0 ∧ ¬ (65536 : Int32) < a := by
      unfold bdS at z
      rw [if_neg (by rw [lf]; decide)] at z
      by_cases q : a < 0 ∨ (65536 : Int32) < a
      · rw [if_pos q] at z; exact absurd z (by decide)
      · exact ⟨fun w => q (Or.inl w), fun w => q (Or.inr w)⟩
    have hs : ∃ s, s < 65537 ∧ a = nI s := by
      obtain ⟨j, hj, rfl⟩ := nI_of hin.1
      refine ⟨j, ?_, rfl⟩
      have := hin.2
      rw [show (65536 : Int32) = nI 65536 from by decide, nI_ltI (by omega) hj] at this
      omega
    refine ⟨1, trS (nwS S (set0 (sNw S) 1 a)) 0, fun h lw e => ?_, fun h ml e => ?_, ?_⟩
    · obtain ⟨h1, a1, a2, a3⟩ := (e.2.2.2.2.2.2.1).s0 (j := 1) (by omega) a
      have e1 := e.nw (a3.wd (by omega) (by omega)) a2
      obtain ⟨h2, lw2, r1, r2, r3⟩ := e1.an 0
      refine ⟨h2, lw2, ?_, r2, (a3.wd (by omega) (by omega)).tr r3⟩
      show f_T_seed h (some 100) a = _
      unfold f_T_seed
      rw [e.bd, z, Option.bind_some, if_neg (fun q => q rfl), gR_o e.2.1 rfl, Option.bind_some, a1, Option.bind_some, Option.bind_some]
      exact an_Z r1 (Or.inr rfl)
    · obtain ⟨h1, s1, s2, s3⟩ := e.st
      obtain ⟨i0, m1, -⟩ := s2.ye lf
      obtain ⟨F, e0, e1, ⟨e2, ⟨f3, e3, e3'⟩, e4, e5⟩, e6, e7⟩ := id s2
      obtain ⟨h2, a1, a2, a3⟩ := e3.set (p := 22) (by omega) (by decide) a
      have e8 := s2.nw (N := set0 (sNw S) 1 a) a3 a2 (fun q => by
        obtain ⟨r0, r1, r2, r3⟩ := e3' q
        have h5 := o.P5
        refine ⟨fun p hp => ?_, ?_, ?_, ?_⟩
        · unfold up1
          rw [if_neg (by omega), if_neg (by omega), if_neg (by omega), if_neg (by omega)]
          simpa [set0, tur, spe, lat] using r0 p hp
        · unfold up1; rw [if_neg (by omega)]; simpa [set0, cme] using r1
        · unfold up1; rw [if_neg (by omega)]; simpa [set0, hou] using r2
        · unfold up1; rw [if_pos rfl]; simp [set0, sed])
      obtain ⟨h3, ml3, r1, r2, r3⟩ := e8.gr
      refine ⟨h3, ml3, ?_, r2, (s3.tr (a3.wd (by omega) (by omega))).tr r3⟩
      show f_M_seed h (some 285) a = _
      unfold f_M_seed f_M_in
      rw [s1, Option.bind_some, s2.lwR, Option.bind_some, if_neg (by rw [m1]; simp), if_neg hin.1, if_neg hin.2, Option.bind_some, if_pos (by decide), s2.vr, Option.bind_some, show (22 : Int32) = nI 22 from by decide, a1, Option.bind_some]
      exact an_Z r1 (Or.inr rfl)
    · refine SOk.tr (c := c) (o.nw (fun q => ?_) (fun q => absurd (lf.symm.trans q) (by decide))) 0 (by omega) (by omega)
      obtain ⟨g1, g2, g3, g4, g5⟩ := (o.2.1 lf).2.2.1
      refine ⟨by simpa [set0, hou] using g1, ⟨hs.choose, hs.choose_spec.1, by simpa [set0, sed] using hs.choose_spec.2⟩, by simpa [set0, cme, hou] using g3, fun p hp => ?_, fun p hp hp5 => by simpa [set0, spe] using g5 p hp hp5⟩
      have := g4 p hp
      simpa [set0, tur, lat, hou] using this
  · have hv : bdS S a 0 65536 = 0 ∨ bdS S a 0 65536 = 1 ∨ bdS S a 0 65536 = 2 := by
      unfold bdS
      split
      · simp
      · split <;> simp
    refine ⟨0, trS S (bdS S a 0 65536), fun h lw e => ?_, fun h ml e => ?_, o.tr _ (by omega) (by omega)⟩
    · obtain ⟨h1, lw1, r1, r2, r3⟩ := e.an (bdS S a 0 65536)
      refine ⟨h1, lw1, ?_, r2, r3⟩
      show f_T_seed h (some 100) a = _
      unfold f_T_seed
      rw [e.bd, Option.bind_some, if_pos z, Option.bind_some]
      rw [if_neg z] at r1
      exact an_Z r1 (Or.inl rfl)
    · obtain ⟨h1, s1, s2, s3⟩ := e.st
      obtain ⟨h2, ml2, r1, r2, r3⟩ := s2.dn (bdS S a 0 65536) (by rcases hv with q | q | q <;> rw [q] <;> decide)
      refine ⟨h2, ml2, ?_, r2, s3.tr r3⟩
      show f_M_seed h (some 285) a = _
      unfold f_M_seed f_M_in
      rw [s1, Option.bind_some, s2.lwR, Option.bind_some]
      cases lf : sLf S with
      | false =>
        rw [show bdS S a 0 65536 = 1 from if_pos lf] at r1
        rw [if_pos (s2.no lf)]
        exact an_Z r1 (Or.inl rfl)
      | true =>
        obtain ⟨i0, m1, -⟩ := s2.ye lf
        have hb : bdS S a 0 65536 = 2 := by
          rcases hv with q | q | q
          · exact absurd q z
          · unfold bdS at q
            rw [if_neg (by rw [lf]; decide)] at q
            split at q <;> exact absurd q (by decide)
          · exact q
        rw [hb] at r1
        rw [if_neg (by rw [m1]; simp)]
        by_cases q : a < 0
        · rw [if_pos q, Option.bind_some, if_neg (fun w => w rfl)]
          exact an_Z r1 (Or.inl rfl)
        · rw [if_neg q]
          have q2 : (65536 : Int32) < a := by
            unfold bdS at hb
            rw [if_neg (by rw [lf]; decide)] at hb
            by_cases w : a < 0 ∨ (65536 : Int32) < a
            · exact w.resolve_left q
            · rw [if_neg w] at hb; exact absurd hb (by decide)
          rw [if_pos q2, Option.bind_some, if_neg (fun w => w rfl)]
          exact an_Z r1 (Or.inl rfl)
/-- a row is brought again -/
theorem Mst.bk (e : Mst h ml S) {d M o0 : Nat} {f : Nat → Int32} (hd : Fu h d M f) (hM : o0 + 23 ≤ M) (hM1 : M < 2 ^ 31) (hdj : d ≠ 287) (r : MRw (fun k => f (o0 + k)) (nP (sL S)) N) (h5 : nP (sL S) ≤ 5) {step : Int32 × PH → Option ((Int32 × PH) ⊕ PH)} (hs : ∀ j h1, j < 23 → Fr h h1 287 288 → aI h1 (some d) (nI (o0 + j)) = some (f (o0 + j)) → step (nI j, h1) = (sA h1 50 (some 287) (nI (0 + j)) (.inl (f (o0 + j)))).bind fun h10 => some (.inl (nI (j + 1), h10))) (he : ∀ h1, step (nI 23, h1) = some (.inr h1)) : ∃ h1, pj_it step FU ((0 : Int32), h) = some h1 ∧ Mst h1 ml (nwS S N) ∧ Fr h h1 287 288 := by
  obtain ⟨F, e0, e1, ⟨e2, ⟨f3, e3, e3'⟩, e4, e5⟩, e6, e7⟩ := id e
  obtain ⟨x, l1, l2, l3⟩ := cpy (step := step) (o := 0) (n := 23) (g := fun k => f (o0 + k)) e3 (by omega) (by decide) (by omega) (fun j h1 hj x3 => hs j h1 hj x3 ((hd.fr x3 (by omega)).at (by omega) hM1)) he
  refine ⟨x, l1, e.nw l3 l2 (fun q => rd_row (fun k hk => ?_) h5 r), l3⟩
  unfold wrI
  rw [if_pos (by omega)]
  rfl
theorem op_undo (o : SOk c S) (hc : c < 600) : Op (fun h => f_T_undo h (some 100)) (fun h => f_M_undo h (some 285)) c S := by
  have h5 := o.P5
  have hu := o.2.2.2.1
  by_cases z : und (sP S) = 0
  · refine ⟨0, trS S 6, fun h lw e => ?_, fun h ml e => ?_, o.tr _ (by omega) (by omega)⟩
    · obtain ⟨h1, lw1, r1, r2, r3⟩ := e.an 6
      refine ⟨h1, lw1, ?_, r2, r3⟩
      have p0 : Fo h 187 3 4 (paF (sP S)) := e.2.2.2.2.2.2.2.2.choose_spec.1
      show f_T_undo h (some 100) = _
      unfold f_T_undo f_Past_takeBack
      rw [gR_o e.2.1 rfl, Option.bind_some, gR_o e.2.1 rfl, Option.bind_some, cl_o p0, p0.gi (x := nI (und (sP S))) (by omega) rfl, Option.bind_some, if_neg (by rw [z]; exact fun q => q rfl), Option.bind_some]
      dsimp only
      rw [if_pos rfl, Option.bind_some]
      exact an_Z r1 (Or.inl rfl)
    · obtain ⟨h1, s1, s2, s3⟩ := e.st
      obtain ⟨h2, ml2, r1, r2, r3⟩ := s2.dn 6 (by decide)
      refine ⟨h2, ml2, ?_, r2, s3.tr r3⟩
      show f_M_undo h (some 285) = _
      unfold f_M_undo
      rw [s1, Option.bind_some, s2.lwR, Option.bind_some]
      by_cases q : ml = none
      · rw [if_pos q]; exact an_Z r1 (Or.inl rfl)
      · rw [if_neg q, s2.fi.1, Option.bind_some, if_neg (by rw [z]; exact fun q => q rfl)]
        exact an_Z r1 (Or.inl rfl)
  · have lf : sLf S = true := by
      cases lf : sLf S with
      | true => rfl
      | false => exact absurd (o.2.2.1 lf).2.2.2.2.2.2.2.2.2.2.2.1 z
    obtain ⟨u, hz⟩ : ∃ u, und (sP S) = u + 1 := ⟨und (sP S) - 1, by omega⟩
    refine ⟨1, trS (nwS (paS S ((u, mks (sP S)), kep (sP S), mkd (sP S))) (kep (sP S) u)) 0, fun h lw e => ?_, fun h ml e => ?_, ?_⟩
    · obtain ⟨σ, p0, p1, p2, p3, p4, p5, p6⟩ := e.2.2.2.2.2.2.2.2
      have p0 : Fo h 187 3 4 (paF (sP S)) := p0
      obtain ⟨h1, a1, a2, a3⟩ := p0.set (k := 2) (by omega) (.inl (nI u))
      have hp : PaC h1 ((u, mks (sP S)), kep (sP S), mkd (sP S)) := ⟨σ, a2.gt (G := paF ((u, mks (sP S)), kep (sP S), mkd (sP S))) (fun k _ => congrFun (paF_2 (P := sP S) (x := u)) k), p1.fr a3 (by omega), p2.fr a3 (by omega), p3, p4, fun i hi => a3.lc (NowC.lc _ _) (by omega) (p5 i hi), fun i hi => a3.lc (NowC.lc _ _) (by omega) (p6 i hi)⟩
      have e1 := e.pa (a3.wd (by omega) (by omega)) hp
      have hsu := p3 u (by omega)
      obtain ⟨h2, b1, b2, b3⟩ := cls_become e1.2.2.2.2.2.2.1 (a3.lc (NowC.lc _ _) (by omega) (p5 u (by omega))) (by omega)
      have e2 := e1.nw b3 b2
      obtain ⟨h3, lw3, r1, r2, r3⟩ := e2.an 0
      refine ⟨h3, lw3, ?_, r2, ((a3.wd (by omega) (by omega)).tr (b3.wd (by omega) (by omega))).tr r3⟩
      show f_T_undo h (some 100) = _
      unfold f_T_undo f_Past_takeBack
      rw [gR_o e.2.1 rfl, Option.bind_some, gR_o e.2.1 rfl, Option.bind_some, cl_o p0, p0.gi (x := nI (und (sP S))) (by omega) rfl, Option.bind_some, if_pos (by rw [hz]; exact nI_ne0 (by omega) (by omega)), Option.bind_some, hz, nI_pred, a1, Option.bind_some, a2.gr (x := some 188) (by omega) rfl, Option.bind_some, a2.gi (x := nI u) (by omega) rfl, Option.bind_some, (p1.fr a3 (by omega)).aR (by omega) (by decide) rfl, Option.bind_some, cl_o e1.2.2.2.2.2.2.1.1, b1, Option.bind_some, Option.bind_some]
      dsimp only
      rw [if_neg (by decide), Option.bind_some]
      exact an_Z r1 (Or.inr rfl)
    · obtain ⟨h1, s1, s2, s3⟩ := e.st
      obtain ⟨i0, m1, -⟩ := s2.ye lf
      obtain ⟨F, e0, e1, ⟨e2, e3, ⟨f4, e4, e4'⟩, e5⟩, e6, e7⟩ := id s2
      obtain ⟨h2, b1, b2, b3⟩ := e0.set (k := 19) (by omega) (.inl (nI u))
      have e8 : Mst h2 ml (paS S ((u, mks (sP S)), kep (sP S), mkd (sP S))) := s2.pa (f := f4) (b3.wd (by omega) (by omega)) b2 (mf_pa (P := ((u, mks (sP S)), kep (sP S), mkd (sP S))) e1 rfl) (fun i p q r => b3.2 i (by omega)) (e4.fr b3 (by omega)) (fun i hi => e4' i (by have : i < u := hi; omega)) ⟨rfl, rfl⟩
      obtain ⟨h3, c1, c2, c3⟩ := e8.bk (N := kep (sP S) u) (step := fun s7 : Int32 × PH => if (23 : Int32) ≤ s7.1 then (some (.inr s7.2) : Option ((Int32 × PH) ⊕ PH)) else ((gR s7.2 12 (some 285) 15).bind fun v9 => (gR s7.2 12 (some 285) 17).bind fun v10 => (gI s7.2 12 (some 285) 19).bind fun v11 => (aI s7.2 v10 (((23 : Int32) * v11) + s7.1)).bind fun v12 => (sA s7.2 50 v9 s7.1 (.inl v12)).bind fun h13 => some (.inl ((s7.1 + (1 : Int32)), h13)))) (o0 := 23 * u) (e4.fr b3 (by omega)) (by omega) (by decide) (by omega) (e4' u (by omega)) h5 (by
          intro j h9 hj x3 hr
          dsimp only
          have r17 : gR h9 12 (some 285) 17 = some (some 289) := by rw [gR_c (x3.2 285 (by omega))]; exact e8.fi.2.2.1
          have r19 : gI h9 12 (some 285) 19 = some (nI u) := by rw [gI_c (x3.2 285 (by omega))]; exact e8.fi.1
          have r15 : gR h9 12 (some 285) 15 = some (some 287) := by rw [gR_c (x3.2 285 (by omega))]; exact e8.vr
          rw [if_neg (show ¬ (23 : Int32) ≤ nI j from nI_ge (b := 23) hj (by omega)), r15, Option.bind_some, r17, Option.bind_some, r19, Option.bind_some, nI_23, hr, Option.bind_some, nI_s, Nat.zero_add]) (by
          intro h9
          dsimp only
          rw [if_pos (show (23 : Int32) ≤ nI 23 by decide)])
      obtain ⟨h4, ml4, r1, r2, r3⟩ := c2.gr
      refine ⟨h4, ml4, ?_, r2, ((s3.tr (b3.wd (by omega) (by omega))).tr (c3.wd (by omega) (by omega))).tr r3⟩
      show f_M_undo h (some 285) = _
      unfold f_M_undo
      rw [s1, Option.bind_some, s2.lwR, Option.bind_some, if_neg (by rw [m1]; simp), s2.fi.1, Option.bind_some, if_pos (by rw [hz]; exact nI_ne0 (by omega) (by omega)), Option.bind_some, hz, nI_pred, b1, Option.bind_some, c1, Option.bind_some]
      exact an_Z r1 (Or.inr rfl)
    · have g := (o.2.1 lf).2.2.2
      exact SOk.tr (c := c) ((o.pa lf (P := ((u, mks (sP S)), kep (sP S), mkd (sP S))) (fun i hi => g.1 i (by have : i < u := hi; omega)) g.2 (by show u ≤ 16; omega) o.2.2.2.2.1).nw (fun q => g.1 u (by omega)) (fun q => absurd (lf.symm.trans q) (by decide))) 0 (by omega) (by omega)
theorem op_mark (o : SOk c S) (hc : c < 600) : Op (fun h => f_T_mark h (some 100)) (fun h => f_M_mark h (some 285)) c S := by
  have h5 := o.P5
  have hm := o.2.2.2.2.1
  cases lf : sLf S with
  | false =>
    refine ⟨-1, trS S 1, fun h lw e => ?_, fun h ml e => ?_, o.tr _ (by omega) (by omega)⟩
    · obtain ⟨h1, lw1, r1, r2, r3⟩ := e.rf 1
      refine ⟨h1, lw1, ?_, r2, r3⟩
      show f_T_mark h (some 100) = _
      unfold f_T_mark
      rw [e.lf, bI_f lf, Option.bind_some, if_neg (fun q => q rfl)]
      exact r1
    · obtain ⟨h1, s1, s2, s3⟩ := e.st
      obtain ⟨h2, ml2, r1, r2, r3⟩ := s2.rf 1 (by decide)
      refine ⟨h2, ml2, ?_, r2, s3.tr r3⟩
      show f_M_mark h (some 285) = _
      unfold f_M_mark
      rw [s1, Option.bind_some, s2.lwR, Option.bind_some, if_pos (s2.no lf)]
      exact r1
  | true =>
    by_cases z : mks (sP S) = 3
    · refine ⟨-1, trS S 3, fun h lw e => ?_, fun h ml e => ?_, o.tr _ (by omega) (by omega)⟩
      · obtain ⟨h1, lw1, r1, r2, r3⟩ := e.rf 3
        refine ⟨h1, lw1, ?_, r2, r3⟩
        have p0 : Fo h 187 3 4 (paF (sP S)) := e.2.2.2.2.2.2.2.2.choose_spec.1
        show f_T_mark h (some 100) = _
        unfold f_T_mark f_Past_putMark
        rw [e.lf, bI_t lf, Option.bind_some, if_pos (by decide), gR_o e.2.1 rfl, Option.bind_some, gR_o e.2.1 rfl, Option.bind_some, cl_o p0, p0.gi (x := nI (mks (sP S))) (by omega) rfl, Option.bind_some, z, if_neg (by decide), Option.bind_some]
        dsimp only
        rw [if_neg (by decide)]
        exact r1
      · obtain ⟨h1, s1, s2, s3⟩ := e.st
        obtain ⟨i0, m1, -⟩ := s2.ye lf
        obtain ⟨h2, ml2, r1, r2, r3⟩ := s2.rf 3 (by decide)
        refine ⟨h2, ml2, ?_, r2, s3.tr r3⟩
        show f_M_mark h (some 285) = _
        unfold f_M_mark
        rw [s1, Option.bind_some, s2.lwR, Option.bind_some, if_neg (by rw [m1]; simp), s2.fi.2.1, Option.bind_some, if_neg (by rw [z]; exact fun q => q (by decide))]
        exact r1
    · refine ⟨nI (mks (sP S)), trS (paS S ((und (sP S), mks (sP S) + 1), kep (sP S), fun i => if i = mks (sP S) then sNw S else mkd (sP S) i)) 0, fun h lw e => ?_, fun h ml e => ?_, ?_⟩
      · obtain ⟨σ, p0, p1, p2, p3, p4, p5, p6⟩ := e.2.2.2.2.2.2.2.2
        have p0 : Fo h 187 3 4 (paF (sP S)) := p0
        obtain ⟨h1, a1, a2, a3⟩ := cls_become (p6 (mks (sP S)) (by omega)) e.2.2.2.2.2.2.1 (by omega)
        have q0 := p0.fr a3 (by omega)
        obtain ⟨h2, b1, b2, b3⟩ := q0.set (k := 3) (by omega) (.inl (nI (mks (sP S) + 1)))
        have hp : PaC h2 ((und (sP S), mks (sP S) + 1), kep (sP S), fun i => if i = mks (sP S) then sNw S else mkd (sP S) i) := by
          refine ⟨σ, b2.gt (G := paF ((und (sP S), mks (sP S) + 1), kep (sP S), fun i => if i = mks (sP S) then sNw S else mkd (sP S) i)) (fun k hk => paF_3 (P := sP S) (x := mks (sP S) + 1) k hk), (p1.fr a3 (by omega)).fr b3 (by omega), (p2.fr a3 (by omega)).fr b3 (by omega), p3, p4, fun i hi => ?_, fun i hi => ?_⟩
          · have := p3 i hi
            exact b3.lc (NowC.lc _ _) (by omega) (a3.lc (NowC.lc _ _) (by omega) (p5 i hi))
          · show NowC h2 _ (if i = mks (sP S) then sNw S else mkd (sP S) i)
            by_cases y : i = mks (sP S)
            · rw [if_pos y, y]
              exact b3.lc (NowC.lc _ _) (by omega) a2
            · rw [if_neg y]
              exact b3.lc (NowC.lc _ _) (by omega) (a3.lc (NowC.lc _ _) (by omega) (p6 i hi))
        have G : Fr h h2 187 285 := (a3.wd (by omega) (by omega)).tr (b3.wd (by omega) (by omega))
        have e1 := e.pa G hp
        obtain ⟨h3, lw3, r1, r2, r3⟩ := e1.fn (nI (mks (sP S)))
        refine ⟨h3, lw3, ?_, r2, (G.wd (by omega) (by omega)).tr r3⟩
        show f_T_mark h (some 100) = _
        unfold f_T_mark f_Past_putMark
        rw [e.lf, bI_t lf, Option.bind_some, if_pos (by decide), gR_o e.2.1 rfl, Option.bind_some, gR_o e.2.1 rfl, Option.bind_some, cl_o p0, p0.gi (x := nI (mks (sP S))) (by omega) rfl, Option.bind_some, if_pos (show nI (mks (sP S)) < 3 from nI_lt (b := 3) (by omega) (by omega)), p0.gr (x := some 189) (by omega) rfl, Option.bind_some, Option.bind_some, p2.aR (by omega) (by decide) rfl, Option.bind_some, cl_o (p6 (mks (sP S)) (by omega)).1, a1, Option.bind_some, q0.gi (x := nI (mks (sP S))) (by omega) rfl, Option.bind_some, nI_s, b1, Option.bind_some, b2.gi (x := nI (mks (sP S) + 1)) (by omega) rfl, Option.bind_some, nI_pred, Option.bind_some]
        dsimp only
        rw [if_pos (nI_pos' (by omega))]
        exact r1
      · obtain ⟨h1, s1, s2, s3⟩ := e.st
        obtain ⟨i0, m1, -⟩ := s2.ye lf
        obtain ⟨F, e0, e1, ⟨e2, ⟨f3, e3, e3'⟩, ⟨f4, e4, e4'⟩, ⟨f5, e5, e5'⟩⟩, ⟨⟨g6, e6⟩, ⟨g7, e7⟩, ⟨g8, e8⟩, ⟨g9, e9⟩, ⟨g10, e10⟩⟩, e11⟩ := id s2
        obtain ⟨x, l1, l2, l3⟩ := cpy (step := fun s4 : Int32 × PH => if (23 : Int32) ≤ s4.1 then (some (.inr s4.2) : Option ((Int32 × PH) ⊕ PH)) else ((gR s4.2 12 (some 285) 18).bind fun v6 => (gI s4.2 12 (some 285) 20).bind fun v7 => (gR s4.2 12 (some 285) 15).bind fun v8 => (aI s4.2 v8 s4.1).bind fun v9 => (sA s4.2 50 v6 (((23 : Int32) * v7) + s4.1) (.inl v9)).bind fun h10 => some (.inl ((s4.1 + (1 : Int32)), h10)))) (o := 23 * mks (sP S)) (n := 23) (g := f3) e5 (by omega) (by decide) (by omega) (by
          intro j h2 hj x3
          dsimp only
          have r18 : gR h2 12 (some 285) 18 = some (some 290) := by rw [gR_c (x3.2 285 (by omega))]; exact s2.fi.2.2.2.1
          have r20 : gI h2 12 (some 285) 20 = some (nI (mks (sP S))) := by rw [gI_c (x3.2 285 (by omega))]; exact s2.fi.2.1
          have r15 : gR h2 12 (some 285) 15 = some (some 287) := by rw [gR_c (x3.2 285 (by omega))]; exact s2.vr
          rw [if_neg (show ¬ (23 : Int32) ≤ nI j from nI_ge (b := 23) hj (by omega)), r18, Option.bind_some, r20, Option.bind_some, r15, Option.bind_some, (e3.fr x3 (by omega)).at (by omega) (by decide), Option.bind_some, nI_23, nI_s]) (by
          intro h2
          dsimp only
          rw [if_pos (show (23 : Int32) ≤ nI 23 by decide)])
        have q0 := e0.fr l3 (by omega)
        obtain ⟨h2, b1, b2, b3⟩ := q0.set (k := 20) (by omega) (.inl (nI (mks (sP S) + 1)))
        have G : Fr h1 h2 285 291 := (l3.wd (by omega) (by omega)).tr (b3.wd (by omega) (by omega))
        have gg : ∀ i, i ≠ 285 → i ≠ 290 → h2[i]? = h1[i]? := fun i p q => (b3.2 i (by omega)).trans (l3.2 i (by omega))
        have e12 : Mst h2 ml (paS S ((und (sP S), mks (sP S) + 1), kep (sP S), fun i => if i = mks (sP S) then sNw S else mkd (sP S) i)) := by
          refine ⟨_, b2, ?_, ⟨(gg _ (by omega) (by omega)).trans e2, ⟨f3, (gg _ (by omega) (by omega)).trans e3, e3'⟩, ⟨f4, (gg _ (by omega) (by omega)).trans e4, e4'⟩, ⟨_, l2.fr b3 (by omega), fun i hi => ?_⟩⟩, ⟨⟨g6, (gg _ (by omega) (by omega)).trans e6⟩, ⟨g7, (gg _ (by omega) (by omega)).trans e7⟩, ⟨g8, (gg _ (by omega) (by omega)).trans e8⟩, ⟨g9, (gg _ (by omega) (by omega)).trans e9⟩, ⟨g10, (gg _ (by omega) (by omega)).trans e10⟩⟩, e11.lt (fun i p q => gg i (by omega) (by omega))⟩
          · obtain ⟨a1, a2, a3, a4, a5, a6, a7, a8, a9, a10, a11, a12, a13, a14, a15, a16⟩ := e1
            exact ⟨a1, a2, a3, a4, a5, a6, a7, a8, a9, a10, a11, rfl, a13, a14, a15, a16⟩
          · have hi : i < mks (sP S) + 1 := hi
            show MRw _ _ (if i = mks (sP S) then sNw S else mkd (sP S) i)
            by_cases y : i = mks (sP S)
            · rw [if_pos y]
              refine rd_row (fun k hk => ?_) h5 (e3' lf)
              unfold wrI
              rw [if_pos (by omega)]
              congr 1; omega
            · rw [if_neg y]
              refine rd_row (fun k hk => ?_) h5 (e5' i (by omega))
              unfold wrI
              rw [if_neg (by omega)]
        obtain ⟨h3, ml3, r1, r2, r3⟩ := e12.gd (nI (mks (sP S)))
        refine ⟨h3, ml3, ?_, r2, (s3.tr (G.wd (by omega) (by omega))).tr r3⟩
        show f_M_mark h (some 285) = _
        unfold f_M_mark
        rw [s1, Option.bind_some, s2.lwR, Option.bind_some, if_neg (by rw [m1]; simp), s2.fi.2.1, Option.bind_some, if_pos (show ¬ nI (mks (sP S)) = 3 from fun q => z ((nI_eq (b := 3) (by omega) (by omega)).mp q)), l1, Option.bind_some, q0.gi (by omega) e1.2.2.2.2.2.2.2.2.2.2.2.1, Option.bind_some, nI_s, b1, Option.bind_some, b2.gi (x := nI (mks (sP S) + 1)) (by omega) rfl, Option.bind_some, nI_pred]
        exact r1
      · have g := (o.2.1 lf).2.2
        refine SOk.tr (c := c) (o.pa lf (P := ((und (sP S), mks (sP S) + 1), kep (sP S), fun i => if i = mks (sP S) then sNw S else mkd (sP S) i)) g.2.1 (fun i hi => ?_) o.2.2.2.1 (by show mks (sP S) + 1 ≤ 3; omega)) 0 (by omega) (by omega)
        have hi : i < mks (sP S) + 1 := hi
        show NowG 999 c (sL S) (if i = mks (sP S) then sNw S else mkd (sP S) i)
        split
        · exact g.1
        · exact g.2.2 i (by omega)
theorem op_back (o : SOk c S) (hc : c < 600) (a : Int32) : Op (fun h => f_T_back h (some 100) a) (fun h => f_M_back h (some 285) a) c S := by
  have h5 := o.P5
  have hm := o.2.2.2.2.1
  rcases arg_c a (mks (sP S)) (by omega) with ⟨k, hk, rfl⟩ | ha
  · have lf : sLf S = true := by
      cases lf : sLf S with
      | true => rfl
      | false => have := (o.2.2.1 lf).2.2.2.2.2.2.2.2.2.2.2.2; omega
    refine ⟨1, trS (nwS (paS S ((0, mks (sP S)), kep (sP S), mkd (sP S))) (mkd (sP S) k)) 0, fun h lw e => ?_, fun h ml e => ?_, ?_⟩
    · obtain ⟨σ, p0, p1, p2, p3, p4, p5, p6⟩ := e.2.2.2.2.2.2.2.2
      have p0 : Fo h 187 3 4 (paF (sP S)) := p0
      obtain ⟨h1, b1, b2, b3⟩ := cls_become e.2.2.2.2.2.2.1 (p6 k (by omega)) (by omega)
      have q0 := p0.fr b3 (by omega)
      obtain ⟨h2, a1, a2, a3⟩ := q0.set (k := 2) (by omega) (.inl (nI 0))
      have e1 := e.nw b3 b2
      have hp : PaC h2 ((0, mks (sP S)), kep (sP S), mkd (sP S)) := ⟨σ, a2.gt (G := paF ((0, mks (sP S)), kep (sP S), mkd (sP S))) (fun k _ => congrFun (paF_2 (P := sP S) (x := 0)) k), (p1.fr b3 (by omega)).fr a3 (by omega), (p2.fr b3 (by omega)).fr a3 (by omega), p3, p4, fun i hi => a3.lc (NowC.lc _ _) (by omega) (b3.lc (NowC.lc _ _) (by omega) (p5 i hi)), fun i hi => a3.lc (NowC.lc _ _) (by omega) (b3.lc (NowC.lc _ _) (by omega) (p6 i hi))⟩
      have e2 : CI h2 lw (nwS (paS S ((0, mks (sP S)), kep (sP S), mkd (sP S))) (mkd (sP S) k)) := e1.pa (a3.wd (by omega) (by omega)) hp
      obtain ⟨h3, lw3, r1, r2, r3⟩ := e2.an 0
      refine ⟨h3, lw3, ?_, r2, ((b3.wd (by omega) (by omega)).tr (a3.wd (by omega) (by omega))).tr r3⟩
      show f_T_back h (some 100) (nI k) = _
      unfold f_T_back f_Past_goBack
      rw [gR_o e.2.1 rfl, Option.bind_some, gR_o e.2.1 rfl, Option.bind_some, cl_o p0, if_neg (nI_pos (by omega)), p0.gi (x := nI (mks (sP S))) (by omega) rfl, Option.bind_some, if_pos (nI_lt hk (by omega)), p0.gr (x := some 189) (by omega) rfl, Option.bind_some, p2.aR (by omega) (by decide) rfl, Option.bind_some, cl_o e.2.2.2.2.2.2.1.1, b1, Option.bind_some, show (0 : Int32) = nI 0 from rfl, a1, Option.bind_some, Option.bind_some]
      dsimp only
      rw [if_neg (by decide), Option.bind_some]
      exact an_Z r1 (Or.inr rfl)
    · obtain ⟨h1, s1, s2, s3⟩ := e.st
      obtain ⟨i0, m1, -⟩ := s2.ye lf
      obtain ⟨F, e0, e1, ⟨e2, e3, e4, ⟨f5, e5, e5'⟩⟩, e6, e7⟩ := id s2
      obtain ⟨h2, c1, c2, c3⟩ := s2.bk (N := mkd (sP S) k) (step := fun s6 : Int32 × PH => if (23 : Int32) ≤ s6.1 then (some (.inr s6.2) : Option ((Int32 × PH) ⊕ PH)) else ((gR s6.2 12 (some 285) 15).bind fun v8 => (gR s6.2 12 (some 285) 18).bind fun v9 => (aI s6.2 v9 (((23 : Int32) * nI k) + s6.1)).bind fun v10 => (sA s6.2 50 v8 s6.1 (.inl v10)).bind fun h11 => some (.inl ((s6.1 + (1 : Int32)), h11)))) (o0 := 23 * k) e5 (by omega) (by decide) (by omega) (e5' k hk) h5 (by
          intro j h9 hj x3 hr
          dsimp only
          have r18 : gR h9 12 (some 285) 18 = some (some 290) := by rw [gR_c (x3.2 285 (by omega))]; exact s2.fi.2.2.2.1
          have r15 : gR h9 12 (some 285) 15 = some (some 287) := by rw [gR_c (x3.2 285 (by omega))]; exact s2.vr
          rw [if_neg (show ¬ (23 : Int32) ≤ nI j from nI_ge (b := 23) hj (by omega)), r15, Option.bind_some, r18, Option.bind_some, nI_23, hr, Option.bind_some, nI_s, Nat.zero_add]) (by
          intro h9
          dsimp only
          rw [if_pos (show (23 : Int32) ≤ nI 23 by decide)])
      obtain ⟨F2, k0, k1, ⟨k2, k3, ⟨f4, k4, k4'⟩, k5⟩, k6, k7⟩ := id c2
      obtain ⟨h3, b1, b2, b3⟩ := k0.set (k := 19) (by omega) (.inl (nI 0))
      have e8 : Mst h3 ml (nwS (paS S ((0, mks (sP S)), kep (sP S), mkd (sP S))) (mkd (sP S) k)) := c2.pa (P := ((0, mks (sP S)), kep (sP S), mkd (sP S))) (f := f4) (b3.wd (by omega) (by omega)) b2 (mf_pa (P := ((0, mks (sP S)), kep (sP S), mkd (sP S))) k1 rfl) (fun i p q r => b3.2 i (by omega)) (k4.fr b3 (by omega)) (fun i hi => absurd hi (Nat.not_lt_zero i)) ⟨rfl, rfl⟩
      obtain ⟨h4, ml4, r1, r2, r3⟩ := e8.gr
      refine ⟨h4, ml4, ?_, r2, ((s3.tr (c3.wd (by omega) (by omega))).tr (b3.wd (by omega) (by omega))).tr r3⟩
      show f_M_back h (some 285) (nI k) = _
      unfold f_M_back
      rw [s1, Option.bind_some, s2.lwR, Option.bind_some, if_neg (by rw [m1]; simp), if_neg (nI_pos (by omega)), s2.fi.2.1, Option.bind_some, if_pos (nI_lt hk (by omega)), c1, Option.bind_some, show (.inl (0 : Int32) : PV) = .inl (nI 0) from rfl, b1, Option.bind_some]
      exact an_Z r1 (Or.inr rfl)
    · have g := (o.2.1 lf).2.2.2
      exact SOk.tr (c := c) ((o.pa lf (P := ((0, mks (sP S)), kep (sP S), mkd (sP S))) (fun i hi => absurd hi (Nat.not_lt_zero i)) g.2 (by show 0 ≤ 16; omega) o.2.2.2.2.1).nw (fun q => g.2 k hk) (fun q => absurd (lf.symm.trans q) (by decide))) 0 (by omega) (by omega)
  · refine ⟨0, trS S 1, fun h lw e => ?_, fun h ml e => ?_, o.tr _ (by omega) (by omega)⟩
    · obtain ⟨h1, lw1, r1, r2, r3⟩ := e.an 1
      refine ⟨h1, lw1, ?_, r2, r3⟩
      have p0 : Fo h 187 3 4 (paF (sP S)) := e.2.2.2.2.2.2.2.2.choose_spec.1
      show f_T_back h (some 100) a = _
      unfold f_T_back f_Past_goBack
      rw [gR_o e.2.1 rfl, Option.bind_some, gR_o e.2.1 rfl, Option.bind_some, cl_o p0]
      by_cases z : a < 0
      · rw [if_pos z, Option.bind_some]
        dsimp only
        rw [if_pos rfl, Option.bind_some]
        exact an_Z r1 (Or.inl rfl)
      · rw [if_neg z, p0.gi (x := nI (mks (sP S))) (by omega) rfl, Option.bind_some, if_neg (fun q => ha ⟨Int32.not_lt.mp z, q⟩), Option.bind_some]
        dsimp only
        rw [if_pos rfl, Option.bind_some]
        exact an_Z r1 (Or.inl rfl)
    · obtain ⟨h1, s1, s2, s3⟩ := e.st
      obtain ⟨h2, ml2, r1, r2, r3⟩ := s2.dn 1 (by decide)
      refine ⟨h2, ml2, ?_, r2, s3.tr r3⟩
      show f_M_back h (some 285) a = _
      unfold f_M_back
      rw [s1, Option.bind_some, s2.lwR, Option.bind_some]
      by_cases q : ml = none
      · rw [if_pos q]; exact an_Z r1 (Or.inl rfl)
      · rw [if_neg q]
        by_cases z : a < 0
        · rw [if_pos z]; exact an_Z r1 (Or.inl rfl)
        · rw [if_neg z, s2.fi.2.1, Option.bind_some, if_neg (fun q => ha ⟨Int32.not_lt.mp z, q⟩)]
          exact an_Z r1 (Or.inl rfl)
end F1
