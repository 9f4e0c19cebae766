/-! the class's lines: persons, likes, reasons, receipts, shops, lanes -/
section V2
variable {h h1 : PH} {sp n : Nat} {tx : Nat → Int32} {N : NmD} {A : AsD} {r : RsD}
theorem ko_st {s : Nat} {B : AsD} (q : (oKo tx N s r).1 = .inr B) : r = .inr B := by
  cases r with
  | inl f => cases q
  | inr B1 =>
    unfold oKo at q
    dsimp only at q
    split at q
    · split at q
      · cases q
      · split at q
        · cases q; rfl
        · cases q
    · cases q
theorem ln_per (e : CG h sp tx n N A) (hn : n ≤ 900) (hs : sp = 102 ∨ sp = 131) (I : LawI A.2.2 N A.2.1) (hf : nP A.2.2 < 5) : ∃ h1, Jvm.Pilot.CWaverTaxLaw_law_r8537_6f3a17.cl h 5 (some 160) (f_Reader_readPerson h (some 160)) = some h1 ∧ CX h1 sp tx n (adN N (oFr tx n N (.inr A)).2 3 (nP A.2.2)) (oPer tx n N A) ∧ Fq h h1 sp := by
  have l0 := e.2.2.choose_spec.2.2.2
  obtain ⟨h1, a1, a2, a3⟩ := cg_nn e hn hs (s := 3) (num := nP A.2.2) (x := 3) rfl (by have := I.1; omega)
  obtain ⟨h2, y, b1, b2, b3, b4⟩ := cx_ps a2 hn hs
  have b2 : CX h2 sp tx n (adN N (oFr tx n N (.inr A)).2 3 (nP A.2.2)) (per2 tx n N A).1 := b2
  obtain ⟨h3, c1, c2, c3⟩ := cx_kw b2 hn hs (i := 16) (by omega)
  have n9 : ∀ k, k < (adN N (oFr tx n N (.inr A)).2 3 (nP A.2.2)).1 → ((adN N (oFr tx n N (.inr A)).2 3 (nP A.2.2)).2 k).2.1 < 100 := by
    intro k hk
    have hk : k < N.1 + 1 := hk
    show (if k = N.1 then ((oFr tx n N (.inr A)).2, 3, nP A.2.2) else N.2 k).2.1 < 100
    split
    · show 3 < 100; omega
    · exact I.n9 k (by omega)
  obtain ⟨h4, d1, d2, d3⟩ := cx_kn c2 hn hs (s := 1) (x := 1) rfl (by omega) n9
  have ek : oKn tx n (adN N (oFr tx n N (.inr A)).2 3 (nP A.2.2)) 1 (oKw tx n 16 (per2 tx n N A).1) = per4 tx n N A := by
    unfold oKn per4 oKn
    rw [ko_ad (by omega)]
  rw [ek] at d1 d2
  have FF := (((a3.tr b3).tr c3).tr d3)
  rw [e.cl]
  unfold f_Reader_readPerson oPer
  rw [e.g5.2.2.2.2.2, Option.bind_some, gI_o l0.1 rfl, Option.bind_some, a1, Option.bind_some, b1, Option.bind_some]
  dsimp only
  rw [c1, Option.bind_some, d1, Option.bind_some]
  dsimp only
  cases hr : (per4 tx n N A).1 with
  | inl f =>
    rw [hr] at d2
    have g := CB.g7 (h := h4) d2
    rw [g.2.1, Option.bind_some, if_pos g.2.2.2.2.2]
    exact ⟨h4, rfl, d2, FF⟩
  | inr B =>
    rw [hr] at d2
    obtain ⟨A2, k1, k2, -⟩ := (sb_kw.tr sb_kn) B hr
    obtain ⟨A1, k3, k4, -⟩ := (sb_fr.tr sb_ps) A2 k1
    cases k3
    have hB : B.2 = A.2 := (k4.trans k2).symm
    have hv := b4 A2 k1
    have hv : y = nI (per2 tx n N A).2 := hv
    subst hv
    have g := CG.g5 (h := h4) d2
    obtain ⟨L, l1, l2, l3⟩ := d2.law
    obtain rfl := l3 B rfl
    have hP : nP B.2.2 < 5 := by rw [hB]; exact hf
    obtain ⟨h5, u1, u2, u3⟩ := l1.u_srt hP (nI (per2 tx n N A).2)
    obtain ⟨h6, w1, w2, w3⟩ := u2.u_frs (k := nP B.2.2) hP (per4 tx n N A).2
    obtain ⟨h7, x1, x2, x3⟩ := w2.u_nP (nP B.2.2 + 1)
    have F : Fr h4 h7 sp (sp + 29) := ((u3.wd (by omega) (by omega)).tr (w3.wd (by omega) (by omega))).tr (x3.wd (by omega) (by omega))
    have r5 : gR h5 5 (some 160) 2 = some (some sp) := by rw [gR_c (u3.2 160 (by omega))]; exact g.2.2.2.2.2
    have r6 : gR h6 5 (some 160) 2 = some (some sp) := by rw [gR_c (w3.2 160 (by omega))]; exact r5
    have q4 : gI h4 1 (some sp) 3 = some (nI (nP B.2.2)) := gI_o l1.1 rfl
    have q5 : gI h5 1 (some sp) 3 = some (nI (nP B.2.2)) := gI_o u2.1 rfl
    have q6 : gI h6 1 (some sp) 3 = some (nI (nP B.2.2)) := gI_o w2.1 rfl
    have t4 : gR h4 1 (some sp) 6 = some (some (sp + 7)) := gR_o l1.1 rfl
    have t5 : gR h5 1 (some sp) 7 = some (some (sp + 8)) := gR_o u2.1 rfl
    rw [g.2.1, Option.bind_some, if_neg (fun q => q rfl), g.2.2.2.2.2, Option.bind_some, t4, Option.bind_some, Option.bind_some, q4, Option.bind_some, u1, Option.bind_some, r5, Option.bind_some, t5, Option.bind_some, Option.bind_some, q5, Option.bind_some, w1, Option.bind_some, r6, Option.bind_some, q6, Option.bind_some, nI_s, x1, Option.bind_some]
    exact ⟨h7, rfl, d2.lw hs F (by omega) (by omega) x2 l2, FF.tr (F.q2 (by omega) (by omega))⟩
theorem ln_lik (e : CG h sp tx n N A) (hn : n ≤ 900) (hs : sp = 102 ∨ sp = 131) (I : LawI A.2.2 N A.2.1) : ∃ h1, Jvm.Pilot.CWaverTaxLaw_law_r8537_6f3a17.cl h 5 (some 160) (f_Reader_readLikes h (some 160)) = some h1 ∧ CX h1 sp tx n N (oLik tx n N A) ∧ Fq h h1 sp := by
  have e0 : CX h sp tx n N (.inr A) := e
  obtain ⟨h1, a1, a2, a3⟩ := cx_kn e0 hn hs (s := 3) (x := 3) rfl (by omega) I.n9
  obtain ⟨h2, b1, b2, b3⟩ := cx_kn a2 hn hs (s := 1) (x := 1) rfl (by omega) I.n9
  obtain ⟨st, s1, s2⟩ := a2.st
  have hb1 : (lik1 tx n N A).2 < 5 := (nw_b I (ko_v (tx := tx) (N := N) (s := 3) (r := .inr A))).2.1 rfl
  have hb2 : (lik2 tx n N A).2 < 5 := (nw_b I (ko_v (tx := tx) (N := N) (s := 1) (r := (lik1 tx n N A).1))).1 rfl
  have a1 : Jvm.Pilot.CWaverTaxLaw_law_r8537_6f3a17.cl h 5 (some 160) (f_Reader_known h (some 160) 3) = some (nI (lik1 tx n N A).2, h1) := a1
  have b1 : Jvm.Pilot.CWaverTaxLaw_law_r8537_6f3a17.cl h1 5 (some 160) (f_Reader_known h1 (some 160) 1) = some (nI (lik2 tx n N A).2, h2) := b1
  have b2 : CX h2 sp tx n N (oNext tx n (lik2 tx n N A).1) := b2
  have hst : ∀ B, (lik2 tx n N A).1 = .inr B → st = nI B.1.2.1 := fun B q => s2 B (ko_st q)
  obtain ⟨L2, l1, l2, l3⟩ := b2.law
  have lf : ∀ B, (lik2 tx n N A).1 = .inr B → L2 = B.2.2 := fun B q => l3 (nxT tx n B.1.2.2, B.2) (by rw [q]; rfl)
  have mid : ∃ h3, (if ¬ ((L2.1 9 (lik1 tx n N A).2 >>> (nI (lik2 tx n N A).2 &&& 31)) &&& (1 : Int32)) = (1 : Int32) then (some h2) else ((Jvm.Pilot.CWaverTaxLaw_law_r8537_6f3a17.cl h2 5 (some 160) (f_Reader_fail h2 (some 160) (3 : Int32) st)).bind fun h8 => some h8) : Option (PH)) = some h3 ∧ CX h3 sp tx n N (lik4 tx n N A) ∧ Fq h2 h3 sp := by
    by_cases z : bitN (L2.1 9 (lik1 tx n N A).2) (lik2 tx n N A).2 = 1
    · rw [if_neg (fun q => q z), show (3 : Int32) = nI 3 from rfl]
      exact cx_ck1 b2 hs (by omega) (by omega) hst (fun B q => by rw [← lf B q]; simp [z])
    · rw [if_pos (show ¬ ((L2.1 9 (lik1 tx n N A).2 >>> (nI (lik2 tx n N A).2 &&& 31)) &&& (1 : Int32)) = (1 : Int32) from z)]
      exact ⟨h2, rfl, cx_ck0 b2 (fun B q => by rw [← lf B q]; simp [z]), Fq.rf⟩
  obtain ⟨h3, c1, c2, c3⟩ := mid
  obtain ⟨h4, d1, d2, d3⟩ := cx_kw c2 hn hs (i := 17) (by omega)
  obtain ⟨h5, f1, f2, f3⟩ := cx_wh d2 hn hs (lo := 0) (hi := 99) (x := 0) (y := 99) rfl rfl (by omega) (by omega)
  have f1 : Jvm.Pilot.CWaverTaxLaw_law_r8537_6f3a17.cl h4 5 (some 160) (f_Reader_whole h4 (some 160) 0 99) = some (nI (lik6 tx n N A).2, h5) := f1
  have f2 : CX h5 sp tx n N (lik6 tx n N A).1 := f2
  obtain ⟨L5, m1, m2, m3⟩ := f2.law
  obtain ⟨h6, u1, u2, u3⟩ := m1.u_wor hb1 hb2 (nI (lik6 tx n N A).2)
  obtain ⟨h7, w1, w2, w3⟩ := u2.u_lik hb1 (L5.1 9 (lik1 tx n N A).2 ||| ((1 : Int32) <<< (nI (lik2 tx n N A).2 &&& 31)))
  obtain ⟨h8, x1, x2, x3⟩ := w2.u_nK (nK L5 + 1)
  have F : Fr h5 h8 sp (sp + 29) := ((u3.wd (by omega) (by omega)).tr (w3.wd (by omega) (by omega))).tr (x3.wd (by omega) (by omega))
  have e8 := f2.lw hs F (by omega) (by omega) x2 m2
  refine ⟨h8, ?_, ?_, ((((a3.tr b3).tr c3).tr d3).tr f3).tr (F.q2 (by omega) (by omega))⟩
  · have r6 : gR h6 5 (some 160) 2 = some (some sp) := by rw [gR_c (u3.2 160 (by omega))]; exact f2.g2
    have r7 : gR h7 5 (some 160) 2 = some (some sp) := by rw [gR_c (w3.2 160 (by omega))]; exact r6
    have t2 : gR h2 1 (some sp) 9 = some (some (sp + 15)) := gR_o l1.1 rfl
    have k2 : aI h2 (some (sp + 15)) (nI (lik1 tx n N A).2) = some (L2.1 9 (lik1 tx n N A).2) := l1.2.2.2.2.2.2.2.1.at hb1 (by decide)
    have t6 : gR h6 1 (some sp) 9 = some (some (sp + 15)) := gR_o u2.1 rfl
    have k6 : aI h6 (some (sp + 15)) (nI (lik1 tx n N A).2) = some (L5.1 9 (lik1 tx n N A).2) := by
      rw [u2.2.2.2.2.2.2.2.1.at hb1 (by decide), s1_ne (by omega)]
    have t7 : gI h7 1 (some sp) 4 = some (nI (nK L5)) := gI_o w2.1 rfl
    rw [e.cl]
    unfold f_Reader_readLikes
    rw [a1, Option.bind_some]
    dsimp only
    rw [s1, Option.bind_some, b1, Option.bind_some]
    dsimp only
    rw [b2.g2, Option.bind_some, t2, Option.bind_some, k2, Option.bind_some, c1, Option.bind_some, d1, Option.bind_some, f1, Option.bind_some]
    dsimp only
    rw [f2.g2, Option.bind_some, gR_o m1.1 rfl, Option.bind_some, aR_o m1.2.2.2.2.2.1 hb1 (by decide), Option.bind_some, show sp + 9 + 1 + (lik1 tx n N A).2 = sp + 10 + (lik1 tx n N A).2 by omega, u1, Option.bind_some, r6, Option.bind_some, t6, Option.bind_some, k6, Option.bind_some, w1, Option.bind_some, r7, Option.bind_some, t7, Option.bind_some, nI_s, x1, Option.bind_some]
  · rw [show oLik tx n N A = fin (lik6 tx n N A).1 (fun B => upT B (sL2 (sL1 (sL1 L5 (20 + (lik1 tx n N A).2) (lik2 tx n N A).2 (nI (lik6 tx n N A).2)) 9 (lik1 tx n N A).2 (L5.1 9 (lik1 tx n N A).2 ||| ((1 : Int32) <<< (nI (lik2 tx n N A).2 &&& 31)))) 0 2 (nK L5 + 1))) from fin_cg (fun B q => by rw [m3 B q])]
    exact e8
theorem ln_rea (e : CG h sp tx n N A) (hn : n ≤ 900) (hs : sp = 102 ∨ sp = 131) (I : LawI A.2.2 N A.2.1) (hf : nR A.2.2 < 4) : ∃ h1, Jvm.Pilot.CWaverTaxLaw_law_r8537_6f3a17.cl h 5 (some 160) (f_Reader_readReason h (some 160)) = some h1 ∧ CX h1 sp tx n N (oRea tx n N A) ∧ Fq h h1 sp := by
  have e0 : CX h sp tx n N (.inr A) := e
  have l0 := e.2.2.choose_spec.2.2.2
  obtain ⟨h1, a1, a2, a3⟩ := cx_kn e0 hn hs (s := 3) (x := 3) rfl (by omega) I.n9
  obtain ⟨h2, b1, b2, b3⟩ := cx_kn a2 hn hs (s := 1) (x := 1) rfl (by omega) I.n9
  obtain ⟨h3, c1, c2, c3⟩ := cx_kw b2 hn hs (i := 18) (by omega)
  obtain ⟨h4, d1, d2, d3⟩ := cx_wh c2 hn hs (lo := 1) (hi := 12) (x := 1) (y := 12) rfl rfl (by omega) (by omega)
  obtain ⟨h5, f1, f2, f3⟩ := cx_kw d2 hn hs (i := 19) (by omega)
  obtain ⟨h6, g1, g2, g3⟩ := cx_wh f2 hn hs (lo := 0) (hi := 100) (x := 0) (y := 100) rfl rfl (by omega) (by omega)
  obtain ⟨h7, i1, i2, i3⟩ := cx_kw g2 hn hs (i := 20) (by omega)
  obtain ⟨h8, j1, j2, j3⟩ := cx_wh i2 hn hs (lo := 1) (hi := 50) (x := 1) (y := 50) rfl rfl (by omega) (by omega)
  have FF := ((((((a3.tr b3).tr c3).tr d3).tr f3).tr g3).tr i3).tr j3
  have a1 : Jvm.Pilot.CWaverTaxLaw_law_r8537_6f3a17.cl h 5 (some 160) (f_Reader_known h (some 160) 3) = some (nI (rea1 tx n N A).2, h1) := a1
  have b1 : Jvm.Pilot.CWaverTaxLaw_law_r8537_6f3a17.cl h1 5 (some 160) (f_Reader_known h1 (some 160) 1) = some (nI (rea2 tx n N A).2, h2) := b1
  have d1 : Jvm.Pilot.CWaverTaxLaw_law_r8537_6f3a17.cl h3 5 (some 160) (f_Reader_whole h3 (some 160) 1 12) = some (nI (rea4 tx n N A).2, h4) := d1
  have g1 : Jvm.Pilot.CWaverTaxLaw_law_r8537_6f3a17.cl h5 5 (some 160) (f_Reader_whole h5 (some 160) 0 100) = some (nI (rea6 tx n N A).2, h6) := g1
  have j1 : Jvm.Pilot.CWaverTaxLaw_law_r8537_6f3a17.cl h7 5 (some 160) (f_Reader_whole h7 (some 160) 1 50) = some (nI (rea8 tx n N A).2, h8) := j1
  have j2 : CX h8 sp tx n N (rea8 tx n N A).1 := j2
  rw [e.cl]
  unfold f_Reader_readReason oRea
  rw [e.g5.2.2.2.2.2, Option.bind_some, gR_o l0.1 rfl, Option.bind_some, gI_o l0.2.2.2.2.2.2.2.2.1.1 rfl, Option.bind_some, a1, Option.bind_some]
  dsimp only
  rw [b1, Option.bind_some]
  dsimp only
  rw [c1, Option.bind_some, d1, Option.bind_some]
  dsimp only
  rw [f1, Option.bind_some, g1, Option.bind_some]
  dsimp only
  rw [i1, Option.bind_some, j1, Option.bind_some]
  dsimp only
  cases hr : (rea8 tx n N A).1 with
  | inl f =>
    rw [hr] at j2
    have g := CB.g7 (h := h8) j2
    rw [g.2.1, Option.bind_some, if_pos g.2.2.2.2.2]
    exact ⟨h8, rfl, j2, FF⟩
  | inr B =>
    rw [hr] at j2
    obtain ⟨A1, k1, k2, -⟩ := (((((((sb_kn.tr sb_kn).tr sb_kw).tr sb_wh).tr sb_kw).tr sb_wh).tr sb_kw).tr sb_wh) B hr
    cases k1
    have g := CG.g5 (h := h8) j2
    obtain ⟨L, l1, l2, l3⟩ := j2.law
    obtain rfl := l3 B rfl
    have hR : nR A.2.2 = nR B.2.2 := by rw [k2]
    rw [hR] at hf ⊢
    obtain ⟨h9, u1, u2, u3⟩ := l1.u_rpe hf (rea1 tx n N A).2
    obtain ⟨h10, w1, w2, w3⟩ := u2.u_rch hf (rea2 tx n N A).2
    obtain ⟨h11, x1, x2, x3⟩ := w2.u_rho hf (nI (rea4 tx n N A).2)
    obtain ⟨h12, y1, y2, y3⟩ := x2.u_rod hf (nI (rea6 tx n N A).2)
    obtain ⟨h13, z1, z2, z3⟩ := y2.u_rmo hf (nI (rea8 tx n N A).2)
    obtain ⟨h14, t1, t2, t3⟩ := z2.u_nR (nR B.2.2 + 1)
    have F : Fr h8 h14 sp (sp + 29) := (((((u3.wd (by omega) (by omega)).tr (w3.wd (by omega) (by omega))).tr (x3.wd (by omega) (by omega))).tr (y3.wd (by omega) (by omega))).tr (z3.wd (by omega) (by omega))).tr (t3.wd (by omega) (by omega))
    rw [g.2.1, Option.bind_some, if_neg (fun q => q rfl), gR_o l1.2.2.2.2.2.2.2.2.1.1 rfl, Option.bind_some, u1, Option.bind_some, gR_o u2.2.2.2.2.2.2.2.2.1.1 rfl, Option.bind_some, w1, Option.bind_some, gR_o w2.2.2.2.2.2.2.2.2.1.1 rfl, Option.bind_some, x1, Option.bind_some, gR_o x2.2.2.2.2.2.2.2.2.1.1 rfl, Option.bind_some, y1, Option.bind_some, gR_o y2.2.2.2.2.2.2.2.2.1.1 rfl, Option.bind_some, z1, Option.bind_some]
    rw [show gI h13 6 (some (sp + 16)) 0 = some (nI (nR B.2.2)) from gI_o z2.2.2.2.2.2.2.2.2.1.1 rfl, Option.bind_some, nI_s, t1, Option.bind_some]
    exact ⟨h14, rfl, j2.lw hs F (by omega) (by omega) t2 l2, FF.tr (F.q2 (by omega) (by omega))⟩
theorem cls_lh {lw p : Nat} {L : LawD} (l : LawC h lw L) (h5 : nQ L ≤ 5) (hp : p < 100) (hc : ∀ k, k < nQ L → cpe L k < 100) : Jvm.Pilot.CWaverTaxLaw_law_r8537_6f3a17.cl h 7 (some (lw + 22)) (f_Receipts_latestHour h (some (lw + 22)) (nI p)) = some (lhA L p (nQ L)) := by
  obtain ⟨r0, r1, r2, r3⟩ := l.2.2.2.2.2.2.2.2.2.1
  rw [cl_o r0]
  unfold f_Receipts_latestHour
  rw [pj_for' (fun k => (lhA L p k, nI k)) (lhA L p (nQ L)) (nQ L) (by rw [nI_0]; rfl) (by omega) ?_ ?_]
  · rfl
  · intro k hk
    have := hc k hk
    dsimp only
    rw [gI_o r0 rfl, Option.bind_some, if_neg (nI_nle' hk (by omega)), gR_o r0 rfl, Option.bind_some, r1.at (by omega) (by decide), Option.bind_some, nI_s]
    rw [show lhA L p (k + 1) = if cpe L k = p then cho L k else lhA L p k from rfl]
    by_cases z : cpe L k = p
    · rw [if_neg (by rw [z]; exact fun q => q rfl), if_pos z, gR_o r0 rfl, Option.bind_some, r3.at (by omega) (by decide), Option.bind_some]
    · rw [if_pos (fun q => z ((nI_eq (by omega) (by omega)).mp q)), if_neg z]
  · dsimp only
    rw [gI_o r0 rfl, Option.bind_some, if_pos (nI_le (Nat.le_refl _) (by omega))]
theorem ln_sho (e : CG h sp tx n N A) (hn : n ≤ 900) (hs : sp = 102 ∨ sp = 131) (I : LawI A.2.2 N A.2.1) (hf : nS A.2.2 < 6) : ∃ h1, Jvm.Pilot.CWaverTaxLaw_law_r8537_6f3a17.cl h 5 (some 160) (f_Reader_readShop h (some 160)) = some h1 ∧ CX h1 sp tx n (adN N (oFr tx n N (.inr A)).2 7 (nS A.2.2)) (oSho tx n N A) ∧ Fq h h1 sp := by
  have l0 := e.2.2.choose_spec.2.2.2
  obtain ⟨h1, a1, a2, a3⟩ := cg_nn e hn hs (s := 7) (num := nS A.2.2) (x := 7) rfl (by have := I.1; omega)
  obtain ⟨h2, b1, b2, b3⟩ := cx_kw a2 hn hs (i := 22) (by omega)
  obtain ⟨h3, c1, c2, c3⟩ := cx_wh b2 hn hs (lo := 0) (hi := 99) (x := 0) (y := 99) rfl rfl (by omega) (by omega)
  have c1 : Jvm.Pilot.CWaverTaxLaw_law_r8537_6f3a17.cl h2 5 (some 160) (f_Reader_whole h2 (some 160) 0 99) = some (nI (sho3 tx n N A).2, h3) := c1
  have c2 : CX h3 sp tx n (adN N (oFr tx n N (.inr A)).2 7 (nS A.2.2)) (sho3 tx n N A).1 := c2
  have FF := (a3.tr b3).tr c3
  rw [e.cl]
  unfold f_Reader_readShop oSho
  rw [e.g5.2.2.2.2.2, Option.bind_some, gR_o l0.1 rfl, Option.bind_some, gI_o l0.2.2.2.2.2.2.2.2.2.2.1 rfl, Option.bind_some, a1, Option.bind_some, b1, Option.bind_some, c1, Option.bind_some]
  dsimp only
  cases hr : (sho3 tx n N A).1 with
  | inl f =>
    rw [hr] at c2
    have g := CB.g7 (h := h3) c2
    rw [g.2.1, Option.bind_some, if_pos g.2.2.2.2.2]
    exact ⟨h3, rfl, c2, FF⟩
  | inr B =>
    rw [hr] at c2
    obtain ⟨A1, k1, k2, -⟩ := ((sb_fr.tr sb_kw).tr sb_wh) B hr
    cases k1
    have g := CG.g5 (h := h3) c2
    obtain ⟨L, l1, l2, l3⟩ := c2.law
    obtain rfl := l3 B rfl
    have hS : nS B.2.2 < 6 := by rw [← k2]; exact hf
    obtain ⟨h4, u1, u2, u3⟩ := l1.u_crd hS (nI (sho3 tx n N A).2)
    obtain ⟨h5, w1, w2, w3⟩ := u2.u_nS (nS B.2.2 + 1)
    have F : Fr h3 h5 sp (sp + 29) := (u3.wd (by omega) (by omega)).tr (w3.wd (by omega) (by omega))
    have r4 : gR h4 5 (some 160) 2 = some (some sp) := by rw [gR_c (u3.2 160 (by omega))]; exact g.2.2.2.2.2
    have t3 : gR h3 1 (some sp) 12 = some (some (sp + 26)) := gR_o l1.1 rfl
    have t4 : gR h4 1 (some sp) 12 = some (some (sp + 26)) := gR_o u2.1 rfl
    have q3 : gI h3 9 (some (sp + 26)) 0 = some (nI (nS B.2.2)) := gI_o l1.2.2.2.2.2.2.2.2.2.2.1 rfl
    have q4 : gI h4 9 (some (sp + 26)) 0 = some (nI (nS B.2.2)) := gI_o u2.2.2.2.2.2.2.2.2.2.2.1 rfl
    have v3 : gR h3 9 (some (sp + 26)) 2 = some (some (sp + 27)) := gR_o l1.2.2.2.2.2.2.2.2.2.2.1 rfl
    rw [g.2.1, Option.bind_some, if_neg (fun q => q rfl), g.2.2.2.2.2, Option.bind_some, t3, Option.bind_some, v3, Option.bind_some, Option.bind_some, t3, Option.bind_some, q3, Option.bind_some, u1, Option.bind_some, r4, Option.bind_some, t4, Option.bind_some, q4, Option.bind_some, nI_s, w1, Option.bind_some]
    exact ⟨h5, rfl, c2.lw hs F (by omega) (by omega) w2 l2, FF.tr (F.q2 (by omega) (by omega))⟩
theorem ln_lan (e : CG h sp tx n N A) (hn : n ≤ 900) (hs : sp = 102 ∨ sp = 131) (I : LawI A.2.2 N A.2.1) : ∃ h1, Jvm.Pilot.CWaverTaxLaw_law_r8537_6f3a17.cl h 5 (some 160) (f_Reader_readLane h (some 160)) = some h1 ∧ CX h1 sp tx n N (oLan tx n N A) ∧ Fq h h1 sp := by
  have e0 : CX h sp tx n N (.inr A) := e
  have l0 := e.2.2.choose_spec.2.2.2
  obtain ⟨h1, a1, a2, a3⟩ := cx_kn e0 hn hs (s := 7) (x := 7) rfl (by omega) I.n9
  obtain ⟨h2, b1, b2, b3⟩ := cx_kn a2 hn hs (s := 7) (x := 7) rfl (by omega) I.n9
  obtain ⟨st, s1, s2⟩ := a2.st
  have hb1 : (lan1 tx n N A).2 < 6 := (nw_b I (ko_v (tx := tx) (N := N) (s := 7) (r := .inr A))).2.2 rfl
  have hb2 : (lan2 tx n N A).2 < 6 := (nw_b I (ko_v (tx := tx) (N := N) (s := 7) (r := (lan1 tx n N A).1))).2.2 rfl
  have a1 : Jvm.Pilot.CWaverTaxLaw_law_r8537_6f3a17.cl h 5 (some 160) (f_Reader_known h (some 160) 7) = some (nI (lan1 tx n N A).2, h1) := a1
  have b1 : Jvm.Pilot.CWaverTaxLaw_law_r8537_6f3a17.cl h1 5 (some 160) (f_Reader_known h1 (some 160) 7) = some (nI (lan2 tx n N A).2, h2) := b1
  have b2 : CX h2 sp tx n N (oNext tx n (lan2 tx n N A).1) := b2
  have hst : ∀ B, (lan2 tx n N A).1 = .inr B → st = nI B.1.2.1 := fun B q => s2 B (ko_st q)
  obtain ⟨L2, l1, l2, l3⟩ := b2.law
  have lf : ∀ B, (lan2 tx n N A).1 = .inr B → L2 = B.2.2 := fun B q => l3 (nxT tx n B.1.2.2, B.2) (by rw [q]; rfl)
  obtain ⟨z0, -, z2⟩ := l1.2.2.2.2.2.2.2.2.2.2
  have mid : ∃ h3, (if nI (lan1 tx n N A).2 = nI (lan2 tx n N A).2 then ((Jvm.Pilot.CWaverTaxLaw_law_r8537_6f3a17.cl h2 5 (some 160) (f_Reader_fail h2 (some 160) (3 : Int32) st)).bind fun h7 => some h7) else ((gR h2 9 (some (sp + 26)) 3).bind fun v8 => (aI h2 v8 (nI (lan1 tx n N A).2)).bind fun v9 => if ¬ ((v9 >>> (nI (lan2 tx n N A).2 &&& 31)) &&& (1 : Int32)) = (1 : Int32) then (some h2) else ((Jvm.Pilot.CWaverTaxLaw_law_r8537_6f3a17.cl h2 5 (some 160) (f_Reader_fail h2 (some 160) (3 : Int32) st)).bind fun h10 => some h10)) : Option (PH)) = some h3 ∧ CX h3 sp tx n N (lan4 tx n N A) ∧ Fq h2 h3 sp := by
    by_cases z : (lan1 tx n N A).2 = (lan2 tx n N A).2
    · rw [if_pos (by rw [z]), show (3 : Int32) = nI 3 from rfl]
      exact cx_ck1 b2 hs (by omega) (by omega) hst (fun B q => by simp [z])
    · rw [if_neg (fun q => z ((nI_eq (by omega) (by omega)).mp q)), gR_o z0 rfl, Option.bind_some, z2.at hb1 (by decide), Option.bind_some]
      by_cases y : bitN (nea L2 (lan1 tx n N A).2) (lan2 tx n N A).2 = 1
      · rw [if_neg (fun q => q y), show (3 : Int32) = nI 3 from rfl]
        exact cx_ck1 b2 hs (by omega) (by omega) hst (fun B q => by rw [← lf B q]; simp [y])
      · rw [if_pos (show ¬ ((nea L2 (lan1 tx n N A).2 >>> (nI (lan2 tx n N A).2 &&& 31)) &&& (1 : Int32)) = (1 : Int32) from y)]
        exact ⟨h2, rfl, cx_ck0 b2 (fun B q => by rw [← lf B q]; simp [z, y]), Fq.rf⟩
  obtain ⟨h3, c1, c2, c3⟩ := mid
  obtain ⟨L5, m1, m2, m3⟩ := c2.law
  obtain ⟨h6, u1, u2, u3⟩ := m1.u_nea hb1 (nea L5 (lan1 tx n N A).2 ||| ((1 : Int32) <<< (nI (lan2 tx n N A).2 &&& 31)))
  obtain ⟨h7, w1, w2, w3⟩ := u2.u_nea hb2 (nea (sL1 L5 8 (lan1 tx n N A).2 (nea L5 (lan1 tx n N A).2 ||| ((1 : Int32) <<< (nI (lan2 tx n N A).2 &&& 31)))) (lan2 tx n N A).2 ||| ((1 : Int32) <<< (nI (lan1 tx n N A).2 &&& 31)))
  obtain ⟨h8, x1, x2, x3⟩ := w2.u_nL (nL L5 + 1)
  have F : Fr h3 h8 sp (sp + 29) := ((u3.wd (by omega) (by omega)).tr (w3.wd (by omega) (by omega))).tr (x3.wd (by omega) (by omega))
  have e8 := c2.lw hs F (by omega) (by omega) x2 m2
  refine ⟨h8, ?_, ?_, ((a3.tr b3).tr c3).tr (F.q2 (by omega) (by omega))⟩
  · obtain ⟨y0, -, y2⟩ := m1.2.2.2.2.2.2.2.2.2.2
    obtain ⟨k0, -, k2⟩ := u2.2.2.2.2.2.2.2.2.2.2
    have t7 : gI h7 9 (some (sp + 26)) 1 = some (nI (nL L5)) := gI_o w2.2.2.2.2.2.2.2.2.2.2.1 rfl
    rw [e.cl]
    unfold f_Reader_readLane
    rw [e.g5.2.2.2.2.2, Option.bind_some, gR_o l0.1 rfl, Option.bind_some, a1, Option.bind_some]
    dsimp only
    rw [s1, Option.bind_some, b1, Option.bind_some]
    dsimp only
    rw [c1, Option.bind_some, gR_o y0 rfl, Option.bind_some, y2.at hb1 (by decide), Option.bind_some, u1, Option.bind_some, gR_o k0 rfl, Option.bind_some, k2.at hb2 (by decide), Option.bind_some, w1, Option.bind_some, t7, Option.bind_some, nI_s, x1, Option.bind_some]
  · rw [show oLan tx n N A = fin (lan4 tx n N A) (fun B => upT B (lanL L5 (lan1 tx n N A).2 (lan2 tx n N A).2)) from fin_cg (fun B q => by rw [m3 B q])]
    exact e8
end V2
