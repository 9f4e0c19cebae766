/-! the class's lines: receipts; a line; all lines -/
section V3
variable {h h1 : PH} {sp n : Nat} {tx : Nat → Int32} {N : NmD} {A : AsD} {r : RsD}
theorem bd_st {lo hi : Nat} {B : AsD} (q : (oBd tx lo hi r).1 = .inr B) : r = .inr B := by
  cases r with
  | inl f => cases q
  | inr B1 =>
    unfold oBd at q
    dsimp only at q
    split at q
    · cases q
    · split at q
      · cases q
      · cases q; rfl
theorem cls_lhx {lw : Nat} {L : LawD} (l : LawC h lw L) (h5 : nQ L ≤ 5) (p : Int32) : ∃ x, Jvm.Pilot.CWaverTaxLaw_law_r8537_6f3a17.cl h 7 (some (lw + 22)) (f_Receipts_latestHour h (some (lw + 22)) p) = some x := by
  obtain ⟨r0, r1, r2, r3⟩ := l.2.2.2.2.2.2.2.2.2.1
  rw [cl_o r0]
  unfold f_Receipts_latestHour
  obtain ⟨x, l1, -⟩ := pj_inv (step := fun s1 : Int32 × Int32 => (gI h 7 (some (lw + 22)) 0).bind fun v3 => if v3 ≤ s1.2 then (some (.inr s1.1) : Option ((Int32 × Int32) ⊕ Int32)) else ((gR h 7 (some (lw + 22)) 1).bind fun v4 => (aI h v4 s1.2).bind fun v5 => if ¬ v5 = p then (some (.inl (s1.1, (s1.2 + (1 : Int32))))) else ((gR h 7 (some (lw + 22)) 3).bind fun v6 => (aI h v6 s1.2).bind fun v7 => some (.inl (v7, (s1.2 + (1 : Int32))))))) (fun k s => s.2 = nI k) (fun _ => True) (nQ L) (s0 := ((-1 : Int32), (0 : Int32))) (by omega) rfl (by
      rintro k ⟨s1, s2⟩ hk x1
      dsimp only at x1 ⊢
      subst x1
      left
      rw [gI_o r0 rfl, Option.bind_some, if_neg (nI_nle' hk (by omega)), gR_o r0 rfl, Option.bind_some, r1.at (by omega) (by decide), Option.bind_some, nI_s]
      split
      · exact ⟨_, rfl, rfl⟩
      · rw [gR_o r0 rfl, Option.bind_some, r3.at (by omega) (by decide), Option.bind_some]
        exact ⟨_, rfl, rfl⟩) (by
      rintro ⟨s1, s2⟩ x1
      dsimp only at x1 ⊢
      subst x1
      rw [gI_o r0 rfl, Option.bind_some, if_pos (nI_le (Nat.le_refl _) (by omega))]
      exact ⟨_, rfl, trivial⟩)
  exact ⟨x, by rw [l1, Option.bind_some]⟩
theorem ln_pai (e : CG h sp tx n N A) (hn : n ≤ 900) (hs : sp = 102 ∨ sp = 131) (I : LawI A.2.2 N A.2.1) (hf : nQ A.2.2 < 5) : ∃ h1, Jvm.Pilot.CWaverTaxLaw_law_r8537_6f3a17.cl h 5 (some 160) (f_Reader_readPaid h (some 160)) = some h1 ∧ CX h1 sp tx n N (oPai tx n N A) ∧ Fq h h1 sp := by
  have e0 : CX h sp tx n N (.inr A) := e
  have l0 := e.2.2.choose_spec.2.2.2
  obtain ⟨h1, a1, a2, a3⟩ := cx_kn e0 hn hs (s := 3) (x := 3) rfl (by omega) I.n9
  obtain ⟨h2, b1, b2, b3⟩ := cx_wh a2 hn hs (lo := 0) (hi := 999) (x := 0) (y := 999) rfl rfl (by omega) (by omega)
  obtain ⟨h3, c1, c2, c3⟩ := cx_kw b2 hn hs (i := 21) (by omega)
  obtain ⟨st, s1, s2⟩ := c2.st
  obtain ⟨h4, d1, d2, d3⟩ := cx_wh c2 hn hs (lo := 0) (hi := 99) (x := 0) (y := 99) rfl rfl (by omega) (by omega)
  have hb1 : (pai1 tx n N A).2 < 5 := (nw_b I (ko_v (tx := tx) (N := N) (s := 3) (r := .inr A))).2.1 rfl
  have a1 : Jvm.Pilot.CWaverTaxLaw_law_r8537_6f3a17.cl h 5 (some 160) (f_Reader_known h (some 160) 3) = some (nI (pai1 tx n N A).2, h1) := a1
  have b1 : Jvm.Pilot.CWaverTaxLaw_law_r8537_6f3a17.cl h1 5 (some 160) (f_Reader_whole h1 (some 160) 0 999) = some (nI (pai2 tx n N A).2, h2) := b1
  have d1 : Jvm.Pilot.CWaverTaxLaw_law_r8537_6f3a17.cl h3 5 (some 160) (f_Reader_whole h3 (some 160) 0 99) = some (nI (pai4 tx n N A).2, h4) := d1
  have d2 : CX h4 sp tx n N (oNext tx n (pai4 tx n N A).1) := d2
  have hst : ∀ B, (pai4 tx n N A).1 = .inr B → st = nI B.1.2.1 := fun B q => s2 B (bd_st q)
  obtain ⟨L2, l1, l2, l3⟩ := d2.law
  have lf : ∀ B, (pai4 tx n N A).1 = .inr B → L2 = B.2.2 := fun B q => l3 (nxT tx n B.1.2.2, B.2) (by rw [q]; rfl)
  have sb : ∀ B, (pai4 tx n N A).1 = .inr B → B.2 = A.2 := by
    intro B q
    obtain ⟨A1, k1, k2, -⟩ := ((((sb_kn (N := N) (s := 3)).tr sb_wh).tr sb_kw).tr sb_bd) B q
    cases k1
    exact k2.symm
  obtain ⟨lh, lh1⟩ := cls_lhx l1 l2 (nI (pai1 tx n N A).2)
  have lh2 : ∀ B, (pai4 tx n N A).1 = .inr B → lh = lhA B.2.2 (pai1 tx n N A).2 (nQ B.2.2) := by
    intro B q
    have hB := sb B q
    have hL := lf B q
    have := cls_lh (p := (pai1 tx n N A).2) l1 l2 (by omega) (fun k hk => by
      rw [hL, hB] at hk ⊢
      have := I.2.1.2.2 k hk
      have := I.1
      omega)
    rw [lh1] at this
    rw [← hL]
    exact Option.some.inj this
  have mid : ∃ h5, (if lh < nI (pai4 tx n N A).2 then (some h4) else ((Jvm.Pilot.CWaverTaxLaw_law_r8537_6f3a17.cl h4 5 (some 160) (f_Reader_fail h4 (some 160) (4 : Int32) st)).bind fun h11 => some h11) : Option (PH)) = some h5 ∧ CX h5 sp tx n N (pai6 tx n N A) ∧ Fq h4 h5 sp := by
    by_cases z : lh < nI (pai4 tx n N A).2
    · rw [if_pos z]
      exact ⟨h4, rfl, cx_ck0 d2 (fun B q => by rw [← lh2 B q]; simpa using z), Fq.rf⟩
    · rw [if_neg z, show (4 : Int32) = nI 4 from rfl]
      exact cx_ck1 d2 hs (by omega) (by omega) hst (fun B q => by rw [← lh2 B q]; simpa using z)
  obtain ⟨h5, f1, f2, f3⟩ := mid
  have FF := (((a3.tr b3).tr c3).tr d3).tr f3
  rw [e.cl]
  unfold f_Reader_readPaid oPai
  rw [e.g5.2.2.2.2.2, Option.bind_some, gR_o l0.1 rfl, Option.bind_some, gI_o l0.2.2.2.2.2.2.2.2.2.1.1 rfl, Option.bind_some, a1, Option.bind_some]
  dsimp only
  rw [b1, Option.bind_some]
  dsimp only
  rw [c1, Option.bind_some, s1, Option.bind_some, d1, Option.bind_some]
  dsimp only
  rw [lh1, Option.bind_some, f1, Option.bind_some]
  cases hr : pai6 tx n N A with
  | inl f =>
    rw [hr] at f2
    have g := CB.g7 (h := h5) f2
    rw [g.2.1, Option.bind_some, if_pos g.2.2.2.2.2]
    exact ⟨h5, rfl, f2, FF⟩
  | inr B =>
    rw [hr] at f2
    have hB : B.2 = A.2 := by
      unfold pai6 at hr
      cases hx : (pai4 tx n N A).1 with
      | inl f => rw [hx] at hr; cases hr
      | inr C =>
        rw [hx] at hr
        unfold chk at hr
        dsimp only at hr
        split at hr
        · cases hr
        · cases hr; exact sb C hx
    have g := CG.g5 (h := h5) f2
    obtain ⟨L, m1, m2, m3⟩ := f2.law
    obtain rfl := m3 B rfl
    have hQ : nQ A.2.2 = nQ B.2.2 := by rw [hB]
    rw [hQ] at hf ⊢
    obtain ⟨h9, u1, u2, u3⟩ := m1.u_cpe hf (pai1 tx n N A).2
    obtain ⟨h10, w1, w2, w3⟩ := u2.u_cam hf (nI (pai2 tx n N A).2)
    obtain ⟨h11, x1, x2, x3⟩ := w2.u_cho hf (nI (pai4 tx n N A).2)
    obtain ⟨h12, y1, y2, y3⟩ := x2.u_nQ (nQ B.2.2 + 1)
    have F : Fr h5 h12 sp (sp + 29) := (((u3.wd (by omega) (by omega)).tr (w3.wd (by omega) (by omega))).tr (x3.wd (by omega) (by omega))).tr (y3.wd (by omega) (by omega))
    rw [g.2.1, Option.bind_some, if_neg (fun q => q rfl), gR_o m1.2.2.2.2.2.2.2.2.2.1.1 rfl, Option.bind_some, u1, Option.bind_some, gR_o u2.2.2.2.2.2.2.2.2.2.1.1 rfl, Option.bind_some, w1, Option.bind_some, gR_o w2.2.2.2.2.2.2.2.2.2.1.1 rfl, Option.bind_some, x1, Option.bind_some]
    rw [show gI h11 7 (some (sp + 22)) 0 = some (nI (nQ B.2.2)) from gI_o x2.2.2.2.2.2.2.2.2.2.1.1 rfl, Option.bind_some, nI_s, y1, Option.bind_some]
    exact ⟨h12, rfl, f2.lw hs F (by omega) (by omega) y2 (show nQ B.2.2 + 1 ≤ 5 by omega), FF.tr (F.q2 (by omega) (by omega))⟩
theorem ls_9 {w i : Nat} (q : lsA w 9 = some i) : i < 9 := by
  rcases ls_c (w := w) 9 (by omega) with e | ⟨j, a, b, -⟩
  · rw [e] at q; cases q
  · rw [b] at q; cases q; exact a
theorem cg_full (e : CG h sp tx n N A) (I : LawI A.2.2 N A.2.1) {i : Nat} (hi : i < 9) : Jvm.Pilot.CWaverTaxLaw_law_r8537_6f3a17.cl h 5 (some 160) (f_Reader_isFull h (some 160) (nI i)) = some (if fulB A.2.2 i = true then 1 else 0) := by
  have l0 := e.2.2.choose_spec.2.2.2
  have g2 := e.g5.2.2.2.2.2
  obtain ⟨i1, i2, i3, i4, i5, i6, i7, -⟩ := I.1
  have t10 : gR h 1 (some sp) 10 = some (some (sp + 16)) := gR_o l0.1 rfl
  have t11 : gR h 1 (some sp) 11 = some (some (sp + 22)) := gR_o l0.1 rfl
  have t12 : gR h 1 (some sp) 12 = some (some (sp + 26)) := gR_o l0.1 rfl
  have cmp : ∀ (a m : Nat) (x : Int32), x = nI m → a ≤ m → m < 100 → (if nI a < x then (some (0 : Int32)) else (some (1 : Int32))) = some (if decide (a = m) = true then 1 else 0) := by
    intro a m x hx ha hm
    subst hx
    by_cases z : a = m
    · rw [if_neg (nI_nlt (by omega) (by omega)), if_pos (by simp [z])]
    · rw [if_pos (nI_lt (by omega) (by omega)), if_neg (by simp [z])]
  rw [e.cl]
  unfold f_Reader_isFull fulB
  have : i = 0 ∨ i = 1 ∨ i = 2 ∨ i = 3 ∨ i = 4 ∨ i = 5 ∨ i = 6 ∨ i = 7 ∨ i = 8 := by omega
  rcases this with rfl | rfl | rfl | rfl | rfl | rfl | rfl | rfl | rfl
  · rw [if_pos (by decide)]; rfl
  · rw [if_neg (by decide), if_pos (by decide), g2, Option.bind_some, gI_o l0.1 rfl, Option.bind_some]
    exact cmp _ 5 _ rfl i1 (by omega)
  · rw [if_neg (by decide), if_neg (by decide), if_pos (by decide)]; rfl
  · rw [if_neg (by decide), if_neg (by decide), if_neg (by decide), if_pos (by decide), g2, Option.bind_some, gI_o l0.1 rfl, Option.bind_some]
    exact cmp _ 5 _ rfl i2 (by omega)
  · rw [if_neg (by decide), if_neg (by decide), if_neg (by decide), if_neg (by decide), if_pos (by decide), g2, Option.bind_some, gI_o l0.1 rfl, Option.bind_some]
    exact cmp _ 12 _ rfl i6 (by omega)
  · rw [if_neg (by decide), if_neg (by decide), if_neg (by decide), if_neg (by decide), if_neg (by decide), if_pos (by decide), g2, Option.bind_some, t10, Option.bind_some, gI_o l0.2.2.2.2.2.2.2.2.1.1 rfl, Option.bind_some]
    exact cmp _ 4 _ rfl i3 (by omega)
  · rw [if_neg (by decide), if_neg (by decide), if_neg (by decide), if_neg (by decide), if_neg (by decide), if_neg (by decide), if_pos (by decide), g2, Option.bind_some, t11, Option.bind_some, gI_o l0.2.2.2.2.2.2.2.2.2.1.1 rfl, Option.bind_some]
    exact cmp _ 5 _ rfl i4 (by omega)
  · rw [if_neg (by decide), if_neg (by decide), if_neg (by decide), if_neg (by decide), if_neg (by decide), if_neg (by decide), if_neg (by decide), if_pos (by decide), g2, Option.bind_some, t12, Option.bind_some, gI_o l0.2.2.2.2.2.2.2.2.2.2.1 rfl, Option.bind_some]
    exact cmp _ 6 _ rfl i5 (by omega)
  · rw [if_neg (by decide), if_neg (by decide), if_neg (by decide), if_neg (by decide), if_neg (by decide), if_neg (by decide), if_neg (by decide), if_neg (by decide), if_pos (by decide), g2, Option.bind_some, t12, Option.bind_some, gI_o l0.2.2.2.2.2.2.2.2.2.2.1 rfl, Option.bind_some]
    exact cmp _ 8 _ rfl i7 (by omega)
theorem cx_ad {r : RsD} {N1 : NmD} (e : CX h sp tx n N1 r) (N : NmD) : CX h sp tx n (adR r N N1) r := by
  cases r with
  | inl f => exact e
  | inr A => exact e
theorem ln_all (e : CG h sp tx n N A) (hn : n ≤ 900) (hs : sp = 102 ∨ sp = 131) (I : LawI A.2.2 N A.2.1) : ∃ h1, Jvm.Pilot.CWaverTaxLaw_law_r8537_6f3a17.cl h 5 (some 160) (f_Reader_readLine h (some 160)) = some h1 ∧ CX h1 sp tx n (oLine tx n N A).2 (oLine tx n N A).1 ∧ Fq h h1 sp := by
  rw [e.cl]
  unfold f_Reader_readLine oLine
  rw [cg_ls e hn, Option.bind_some]
  have fl : ∀ k, 0 < k → k < 100 → ∀ {x : Int32}, x = nI k → ∃ h1, ((gI h 5 (some 160) 5).bind fun v => (Jvm.Pilot.CWaverTaxLaw_law_r8537_6f3a17.cl h 5 (some 160) (f_Reader_fail h (some 160) x v)).bind fun h6 => some h6) = some h1 ∧ CB h1 sp tx n k A.1.2.1 ∧ Fq h h1 sp := by
    intro k k0 k1 x hx
    subst hx
    obtain ⟨h1, a1, a2, a3⟩ := cg_fail e hs k0 k1 A.1.2.1
    exact ⟨h1, by rw [e.g5.1, Option.bind_some, a1, Option.bind_some], a2, a3⟩
  have out : ∀ (h9 : PH) (k : Nat) (X : Option PH), CB h9 sp tx n k A.1.2.1 → ((gI h9 5 (some 160) 7).bind fun v20 => if v20 = 0 then X else some h9) = some h9 := by
    intro h9 k X c
    rw [c.g7.2.1, Option.bind_some, if_neg c.g7.2.2.2.2.2]
  have hls : (if A.1.1 = 1 then lsA (wdA tx A) 9 else none) = lnS tx A := rfl
  rw [hls]
  cases hl : lnS tx A with
  | none =>
    obtain ⟨h1, a1, a2, a3⟩ := fl 1 (by omega) (by omega) (x := 1) rfl
    dsimp only
    rw [if_neg (show ¬ ¬ lsI none = -1 from fun q => q rfl), a1, Option.bind_some, out _ _ _ a2]
    exact ⟨h1, rfl, a2, a3⟩
  | some i =>
    have h9 : i < 9 := by
      unfold lnS at hl
      split at hl
      · exact ls_9 hl
      · cases hl
    have n1 : ¬ lsI (some i) = -1 := fun q => by
      have := (lsI_n (some i) (fun j hj => by cases hj; omega)).mp q
      cases this
    have li : lsI (some i) = nI i := rfl
    rw [if_pos n1, li]
    dsimp only
    rw [e.g5.2.2.2.2.1]
    have full := cg_full e I h9
    by_cases z0 : i = 0
    · subst z0
      rw [if_neg (show ¬ ¬ nI 0 = 0 from fun q => q rfl), Option.bind_some]
      cases ht : A.2.1 with
      | true =>
        obtain ⟨h1, a1, a2, a3⟩ := fl 3 (by omega) (by omega) (x := 3) rfl
        rw [if_neg (show ¬ bI true = 0 by decide), a1, Option.bind_some, out _ _ _ a2, if_pos ⟨rfl, rfl⟩]
        exact ⟨h1, rfl, a2, a3⟩
      | false =>
        obtain ⟨h1, a1, a2, a3⟩ := cg_next e hn hs
        obtain ⟨h2, b1, b2, b3⟩ := ln_tax a2 hn hs
        rw [if_pos (show bI false = 0 by decide), full, Option.bind_some, if_neg (show ¬ fulB A.2.2 0 = true by unfold fulB; simp), if_pos rfl, if_pos (show nI 0 = 0 from rfl), Option.bind_some, e.g5.2.1, Option.bind_some, if_pos rfl, a1, Option.bind_some, if_neg (by decide), if_pos (by decide), b1, Option.bind_some]
        rw [if_neg (fun q => by cases q.2), if_neg (show ¬ fulB A.2.2 0 = true by unfold fulB; simp), if_neg (fun q => q.1 rfl)]
        unfold oBy
        rw [if_pos rfl]
        exact ⟨h2, rfl, b2, a3.tr b3⟩
    · have n0 : ¬ nI i = 0 := fun q => z0 ((nI_e0 (by omega)).mp q)
      rw [if_pos n0, full, Option.bind_some, if_neg (show ¬ (i = 0 ∧ A.2.1 = true) from fun q => z0 q.1)]
      by_cases z1 : fulB A.2.2 i = true
      · obtain ⟨h1, a1, a2, a3⟩ := fl 5 (by omega) (by omega) (x := 5) rfl
        rw [if_pos z1, if_neg (show ¬ (1 : Int32) = 0 by decide), a1, Option.bind_some, out _ _ _ a2, if_pos z1]
        exact ⟨h1, rfl, a2, a3⟩
      · rw [if_neg z1, if_pos rfl, if_neg n0, Option.bind_some, if_neg z1]
        cases ht : A.2.1 with
        | false =>
          obtain ⟨h1, a1, a2, a3⟩ := fl 6 (by omega) (by omega) (x := 6) rfl
          rw [if_neg (show ¬ ¬ bI false = 0 from fun q => q (by decide)), a1, Option.bind_some, out _ _ _ a2, if_pos ⟨z0, rfl⟩]
          exact ⟨h1, rfl, a2, a3⟩
        | true =>
          rw [if_pos (show ¬ bI true = 0 by decide), Option.bind_some, if_neg (fun q => by cases q.2), e.g5.2.1, Option.bind_some, if_pos rfl]
          obtain ⟨h1, a1, a2, a3⟩ := cg_next e hn hs
          have I2 : LawI (nxT tx n A.1.2.2, A.2).2.2 N (nxT tx n A.1.2.2, A.2).2.1 := I
          obtain ⟨i1, i2, i3, i4, i5, i6, i7, -⟩ := I.1
          rw [a1, Option.bind_some]
          unfold oBy
          unfold fulB at z1
          have : i = 1 ∨ i = 2 ∨ i = 3 ∨ i = 4 ∨ i = 5 ∨ i = 6 ∨ i = 7 ∨ i = 8 := by omega
          rcases this with rfl | rfl | rfl | rfl | rfl | rfl | rfl | rfl
          · obtain ⟨h2, b1, b2, b3⟩ := ln_cho a2 hn hs I2 (by simp at z1; show nC A.2.2 < 5; omega)
            rw [if_neg (by decide), if_neg (by decide), if_pos (by decide), b1, Option.bind_some, if_neg (by omega), if_pos rfl]
            exact ⟨h2, rfl, cx_ad b2 N, a3.tr b3⟩
          · obtain ⟨h2, b1, b2, b3⟩ := ln_far a2 hn hs I2
            rw [if_neg (by decide), if_neg (by decide), if_neg (by decide), if_pos (by decide), b1, Option.bind_some, if_neg (by omega), if_neg (by omega), if_pos rfl]
            exact ⟨h2, rfl, b2, a3.tr b3⟩
          · obtain ⟨h2, b1, b2, b3⟩ := ln_per a2 hn hs I2 (by simp at z1; show nP A.2.2 < 5; omega)
            rw [if_neg (by decide), if_neg (by decide), if_neg (by decide), if_neg (by decide), if_pos (by decide), b1, Option.bind_some, if_neg (by omega), if_neg (by omega), if_neg (by omega), if_pos rfl]
            exact ⟨h2, rfl, cx_ad b2 N, a3.tr b3⟩
          · obtain ⟨h2, b1, b2, b3⟩ := ln_lik a2 hn hs I2
            rw [if_neg (by decide), if_neg (by decide), if_neg (by decide), if_neg (by decide), if_neg (by decide), if_pos (by decide), b1, Option.bind_some, if_neg (by omega), if_neg (by omega), if_neg (by omega), if_neg (by omega), if_pos rfl]
            exact ⟨h2, rfl, b2, a3.tr b3⟩
          · obtain ⟨h2, b1, b2, b3⟩ := ln_rea a2 hn hs I2 (by simp at z1; show nR A.2.2 < 4; omega)
            rw [if_neg (by decide), if_neg (by decide), if_neg (by decide), if_neg (by decide), if_neg (by decide), if_neg (by decide), if_pos (by decide), b1, Option.bind_some, if_neg (by omega), if_neg (by omega), if_neg (by omega), if_neg (by omega), if_neg (by omega), if_pos rfl]
            exact ⟨h2, rfl, b2, a3.tr b3⟩
          · obtain ⟨h2, b1, b2, b3⟩ := ln_pai a2 hn hs I2 (by simp at z1; show nQ A.2.2 < 5; omega)
            rw [if_neg (by decide), if_neg (by decide), if_neg (by decide), if_neg (by decide), if_neg (by decide), if_neg (by decide), if_neg (by decide), if_pos (by decide), b1, Option.bind_some, if_neg (by omega), if_neg (by omega), if_neg (by omega), if_neg (by omega), if_neg (by omega), if_neg (by omega), if_pos rfl]
            exact ⟨h2, rfl, b2, a3.tr b3⟩
          · obtain ⟨h2, b1, b2, b3⟩ := ln_sho a2 hn hs I2 (by simp at z1; show nS A.2.2 < 6; omega)
            rw [if_neg (by decide), if_neg (by decide), if_neg (by decide), if_neg (by decide), if_neg (by decide), if_neg (by decide), if_neg (by decide), if_neg (by decide), if_pos (by decide), b1, Option.bind_some, if_neg (by omega), if_neg (by omega), if_neg (by omega), if_neg (by omega), if_neg (by omega), if_neg (by omega), if_neg (by omega), if_pos rfl]
            exact ⟨h2, rfl, cx_ad b2 N, a3.tr b3⟩
          · obtain ⟨h2, b1, b2, b3⟩ := ln_lan a2 hn hs I2
            rw [if_pos (by decide), b1, Option.bind_some, if_neg (by omega), if_neg (by omega), if_neg (by omega), if_neg (by omega), if_neg (by omega), if_neg (by omega), if_neg (by omega), if_neg (by omega)]
            exact ⟨h2, rfl, b2, a3.tr b3⟩
end V3
