/-! the class's lines -/
section V1
variable {h h1 : PH} {sp n : Nat} {tx : Nat → Int32} {N : NmD} {A : AsD} {r : RsD}
theorem CX.st (e : CX h sp tx n N r) : ∃ x, gI h 5 (some 160) 5 = some x ∧ ∀ B, r = .inr B → x = nI B.1.2.1 := by
  cases r with
  | inl f =>
    have e : CB h sp tx n f.1 f.2 := e
    obtain ⟨x, q⟩ := e.g7.1
    exact ⟨x, q, fun B w => by cases w⟩
  | inr A =>
    have e : CG h sp tx n N A := e
    exact ⟨_, e.g5.1, fun B w => by cases w; rfl⟩
theorem CX.g2 (e : CX h sp tx n N r) : gR h 5 (some 160) 2 = some (some sp) := by
  cases r with
  | inl f => exact CB.g7 (h := h) e |>.2.2.2.2.1
  | inr A => exact CG.g5 (h := h) e |>.2.2.2.2.2
theorem CX.cl {X : Type} (e : CX h sp tx n N r) (o : Option X) : cl h 5 (some 160) o = o := by
  cases r with
  | inl f => exact CB.cl (h := h) e o
  | inr A => exact CG.cl (h := h) e o
theorem CX.law (e : CX h sp tx n N r) : ∃ L, LawC h sp L ∧ nQ L ≤ 5 ∧ ∀ B, r = .inr B → L = B.2.2 := by
  cases r with
  | inl f =>
    have e : CB h sp tx n f.1 f.2 := e
    obtain ⟨-, -, v, L, -, -, -, l, q⟩ := e
    exact ⟨L, l, q, fun B w => by cases w⟩
  | inr A =>
    have e : CG h sp tx n N A := e
    obtain ⟨-, c1, v, -, -, -, l⟩ := e
    exact ⟨A.2.2, l, c1.2, fun B w => by cases w; rfl⟩
theorem CX.lw {lo hi : Nat} {L1 : LawD} (e : CX h sp tx n N r) (hs : sp = 102 ∨ sp = 131) (F : Fr h h1 lo hi) (a : sp ≤ lo) (b : hi ≤ sp + 29) (l : LawC h1 sp L1) (q : nQ L1 ≤ 5) : CX h1 sp tx n N (fin r fun B => upT B L1) := by
  cases r with
  | inl f =>
    have e : CB h sp tx n f.1 f.2 := e
    obtain ⟨c0, c1, v, L, d, e1, ⟨⟨f1, g1⟩, ⟨f2, g2⟩, ⟨f3, g3⟩, ⟨f4, g4⟩⟩, -, -⟩ := e
    exact ⟨c0, c1, v, L1, d.fr F (by omega) (by omega), e1, ⟨⟨_, g1.fr F (by omega)⟩, ⟨_, g2.fr F (by omega)⟩, ⟨_, g3.fr F (by omega)⟩, ⟨_, g4.fr F (by omega)⟩⟩, l, q⟩
  | inr A =>
    have e : CG h sp tx n N A := e
    obtain ⟨c0, c1, v, d, e1, g, -⟩ := e
    exact ⟨c0, ⟨c1.1, q⟩, v, d.fr F (by omega) (by omega), e1, g.fr F (by omega), l⟩
theorem fin_cg {r : RsD} {g g1 : AsD → AsD} (q : ∀ B, r = .inr B → g B = g1 B) : fin r g = fin r g1 := by
  cases r with
  | inl f => rfl
  | inr B => show Sum.inr (g B) = Sum.inr (g1 B); rw [q B rfl]
theorem fin_fin {r : RsD} {g g1 : AsD → AsD} : fin (fin r g) g1 = fin r (fun B => g1 (g B)) := by
  cases r <;> rfl
def dmr (d : Bool × LawD) (r : RsD) : RsD := fin r fun B => (B.1, d)
theorem kw_dm {i : Nat} {d : Bool × LawD} : oKw tx n i (dmr d r) = dmr d (oKw tx n i r) := by
  cases r with
  | inl f => rfl
  | inr B =>
    show oKw tx n i (.inr (B.1, d)) = _
    unfold oKw
    dsimp only
    by_cases z : B.1.1 = 1 ∧ wdA tx B = pkC i
    · rw [if_pos z, if_pos (show B.1.1 = 1 ∧ wdA tx (B.1, d) = pkC i from z)]; rfl
    · rw [if_neg z, if_neg (show ¬ (B.1.1 = 1 ∧ wdA tx (B.1, d) = pkC i) from z)]; rfl
theorem wh_dm {lo hi : Nat} {d : Bool × LawD} : (oWh tx n lo hi (dmr d r)).1 = dmr d (oWh tx n lo hi r).1 ∧ (oWh tx n lo hi (dmr d r)).2 = (oWh tx n lo hi r).2 := by
  cases r with
  | inl f => exact ⟨rfl, rfl⟩
  | inr B =>
    show (oWh tx n lo hi (.inr (B.1, d))).1 = _ ∧ (oWh tx n lo hi (.inr (B.1, d))).2 = _
    unfold oWh oBd
    dsimp only
    by_cases z : ¬ B.1.1 = 2
    · rw [if_pos z, if_pos z]; exact ⟨rfl, rfl⟩
    · rw [if_neg z, if_neg z]
      by_cases y : nuA tx B < lo ∨ hi < nuA tx B
      · rw [if_pos y, if_pos (show nuA tx (B.1, d) < lo ∨ hi < nuA tx (B.1, d) from y)]; exact ⟨rfl, rfl⟩
      · rw [if_neg y, if_neg (show ¬ (nuA tx (B.1, d) < lo ∨ hi < nuA tx (B.1, d)) from y)]; exact ⟨rfl, rfl⟩
theorem ln_tax (e : CG h sp tx n N A) (hn : n ≤ 900) (hs : sp = 102 ∨ sp = 131) : ∃ h1, Jvm.Pilot.CWaverTaxLaw_law_r8537_6f3a17.cl h 5 (some 160) (f_Reader_readTax h (some 160)) = some h1 ∧ CX h1 sp tx n N (oTax tx n A) ∧ Fq h h1 sp := by
  obtain ⟨c0, c1, v, a, ⟨v1, v3, v4, v5, v6, v7, v9⟩, b, d⟩ := id e
  obtain ⟨h1, x1, x2, x3⟩ := a.set (k := 3) (by omega) 1
  have e1 : CX h1 sp tx n N (dmr (true, A.2.2) (.inr A)) := (⟨c0, c1, _, x2, ⟨v1, rfl, v4, v5, v6, v7, v9⟩, b.fr x3 (by omega), x3.lc (LawC.lc _ _) (by omega) d⟩ : CG h1 sp tx n N (A.1, true, A.2.2))
  obtain ⟨h2, y1, y2, y3⟩ := cx_kw e1 hn hs (i := 9) (by omega)
  obtain ⟨h3, z1, z2, z3⟩ := cx_wh y2 hn hs (lo := 0) (hi := 9) (x := 0) (y := 9) rfl rfl (by omega) (by omega)
  rw [kw_dm] at z1 z2
  rw [wh_dm.1] at z2
  rw [wh_dm.2] at z1
  have z1 : Jvm.Pilot.CWaverTaxLaw_law_r8537_6f3a17.cl h2 5 (some 160) (f_Reader_whole h2 (some 160) 0 9) = some (nI (tax1 tx n A).2, h3) := z1
  have z2 : CX h3 sp tx n N (dmr (true, A.2.2) (tax1 tx n A).1) := z2
  obtain ⟨L3, l3, q3, w3⟩ := z2.law
  obtain ⟨h4, u1, u2, u3⟩ := l3.u_root (nI (tax1 tx n A).2)
  have e4 := z2.lw hs u3 (by omega) (by omega) u2 q3
  have sb : ∀ B, (tax1 tx n A).1 = .inr B → B.2 = A.2 := by
    intro B q
    obtain ⟨A1, k1, k2, -⟩ := (sb_kw.tr sb_wh) B q
    cases k1
    exact k2.symm
  have e4 : CX h4 sp tx n N (dmr (true, sL1 A.2.2 0 0 (nI (tax1 tx n A).2)) (tax1 tx n A).1) := by
    have : fin (dmr (true, A.2.2) (tax1 tx n A).1) (fun B => upT B (sL1 L3 0 0 (nI (tax1 tx n A).2))) = dmr (true, sL1 A.2.2 0 0 (nI (tax1 tx n A).2)) (tax1 tx n A).1 := by
      unfold dmr
      rw [fin_fin]
      apply fin_cg
      intro B q
      have := w3 (B.1, true, A.2.2) (by unfold dmr; rw [q]; rfl)
      show (B.1, true, sL1 L3 0 0 _) = (B.1, true, sL1 A.2.2 0 0 _)
      rw [this]
    rw [← this]
    exact e4
  obtain ⟨h5, f1, f2, f3⟩ := cx_kw e4 hn hs (i := 10) (by omega)
  obtain ⟨h6, g1, g2, g3⟩ := cx_wh f2 hn hs (lo := 1) (hi := 4) (x := 1) (y := 4) rfl rfl (by omega) (by omega)
  rw [kw_dm] at g1 g2
  rw [wh_dm.1] at g2
  rw [wh_dm.2] at g1
  have g1 : Jvm.Pilot.CWaverTaxLaw_law_r8537_6f3a17.cl h5 5 (some 160) (f_Reader_whole h5 (some 160) 1 4) = some (nI (tax2 tx n A).2, h6) := g1
  have g2 : CX h6 sp tx n N (dmr (true, sL1 A.2.2 0 0 (nI (tax1 tx n A).2)) (tax2 tx n A).1) := g2
  obtain ⟨L6, l6, q6, w6⟩ := g2.law
  obtain ⟨h7, t1, t2, t3⟩ := l6.u_third (nI (tax2 tx n A).2)
  have e7 := g2.lw hs t3 (by omega) (by omega) t2 q6
  refine ⟨h7, ?_, ?_, ((((((x3.q1 (by omega) (by omega)).tr y3).tr z3).tr (u3.q2 (by omega) (by omega))).tr f3).tr g3).tr (t3.q2 (by omega) (by omega))⟩
  · rw [e.cl]
    unfold f_Reader_readTax sZ
    rw [if_pos (Or.inr rfl), x1, Option.bind_some, y1, Option.bind_some, y2.g2, Option.bind_some, z1, Option.bind_some]
    dsimp only
    rw [u1, Option.bind_some, f1, Option.bind_some, f2.g2, Option.bind_some, g1, Option.bind_some]
    dsimp only
    rw [t1, Option.bind_some]
  · have : fin (dmr (true, sL1 A.2.2 0 0 (nI (tax1 tx n A).2)) (tax2 tx n A).1) (fun B => upT B (sL1 L6 0 1 (nI (tax2 tx n A).2))) = oTax tx n A := by
      unfold dmr oTax
      rw [fin_fin]
      apply fin_cg
      intro B q
      have := w6 (B.1, true, sL1 A.2.2 0 0 (nI (tax1 tx n A).2)) (by unfold dmr; rw [q]; rfl)
      obtain ⟨A1, k1, k2, -⟩ := (sb_kw.tr sb_wh) B q
      show (B.1, true, sL1 L6 0 1 _) = (B.1, true, sL1 (sL1 B.2.2 0 0 _) 0 1 _)
      rw [this, ← k2, sb A1 k1]
    rw [← this]
    exact e7
theorem ln_cho (e : CG h sp tx n N A) (hn : n ≤ 900) (hs : sp = 102 ∨ sp = 131) (I : LawI A.2.2 N A.2.1) (hf : nC A.2.2 < 5) : ∃ h1, Jvm.Pilot.CWaverTaxLaw_law_r8537_6f3a17.cl h 5 (some 160) (f_Reader_readChoice h (some 160)) = some h1 ∧ CX h1 sp tx n (adN N (oFr tx n N (.inr A)).2 1 (nC A.2.2)) (oCho tx n N A) ∧ Fq h h1 sp := by
  have l0 := e.2.2.choose_spec.2.2.2
  obtain ⟨h1, a1, a2, a3⟩ := cg_nn e hn hs (s := 1) (num := nC A.2.2) (x := 1) rfl (by have := I.1; omega)
  rw [e.cl]
  unfold f_Reader_readChoice oCho
  rw [e.g5.2.2.2.2.2, Option.bind_some, gI_o l0.1 rfl, Option.bind_some, a1, Option.bind_some]
  cases hr : (oFr tx n N (.inr A)).1 with
  | inl f =>
    rw [hr] at a2
    have g := CB.g7 (h := h1) a2
    rw [g.2.1, Option.bind_some, if_pos g.2.2.2.2.2]
    exact ⟨h1, rfl, a2, a3⟩
  | inr B =>
    rw [hr] at a2
    obtain ⟨A1, k1, k2, -⟩ := sb_fr B hr
    cases k1
    have g := CG.g5 (h := h1) a2
    obtain ⟨L, l1, l2, l3⟩ := a2.law
    obtain rfl := l3 B rfl
    obtain ⟨h2, u1, u2, u3⟩ := l1.u_nC (nC B.2.2 + 1)
    rw [g.2.1, Option.bind_some, if_neg (fun q => q rfl), g.2.2.2.2.2, Option.bind_some, gI_o l1.1 rfl, Option.bind_some, nI_s, u1, Option.bind_some]
    exact ⟨h2, rfl, a2.lw hs u3 (by omega) (by omega) u2 l2, a3.tr (u3.q2 (by omega) (by omega))⟩
theorem LawI.n9 (I : LawI A.2.2 N A.2.1) : ∀ k, k < N.1 → (N.2 k).2.1 < 100 := fun k hk => by
  have := (I.2.2.1 k hk).2.2.2
  omega
/-- a check of what the class has gone over already: it fails, or nothing happens -/
theorem cx_ck1 {k : Nat} {P : AsD → Bool} {st : Int32} (e : CX h sp tx n N (oNext tx n r)) (hs : sp = 102 ∨ sp = 131) (h0 : 0 < k) (h9 : k < 100) (hst : ∀ B, r = .inr B → st = nI B.1.2.1) (hc : ∀ B, r = .inr B → P B = true) : ∃ h1, ((Jvm.Pilot.CWaverTaxLaw_law_r8537_6f3a17.cl h 5 (some 160) (f_Reader_fail h (some 160) (nI k) st)).bind fun h5 => some h5) = some h1 ∧ CX h1 sp tx n N (oNext tx n (chk r k P)) ∧ Fq h h1 sp := by
  cases r with
  | inl f =>
    rw [cb_fail (h := h) e, Option.bind_some]
    exact ⟨h, rfl, e, Fq.rf⟩
  | inr B =>
    rw [hst B rfl]
    obtain ⟨h1, a1, a2, a3⟩ := cg_fail (h := h) e hs h0 h9 B.1.2.1
    rw [a1, Option.bind_some]
    refine ⟨h1, rfl, ?_, a3⟩
    unfold chk
    dsimp only
    rw [if_pos (hc B rfl)]
    exact a2
theorem cx_ck0 {k : Nat} {P : AsD → Bool} (e : CX h sp tx n N (oNext tx n r)) (hc : ∀ B, r = .inr B → ¬ P B = true) : CX h sp tx n N (oNext tx n (chk r k P)) := by
  cases r with
  | inl f => exact e
  | inr B =>
    unfold chk
    dsimp only
    rw [if_neg (hc B rfl)]
    exact e
theorem ln_far (e : CG h sp tx n N A) (hn : n ≤ 900) (hs : sp = 102 ∨ sp = 131) (I : LawI A.2.2 N A.2.1) : ∃ h1, Jvm.Pilot.CWaverTaxLaw_law_r8537_6f3a17.cl h 5 (some 160) (f_Reader_readFar h (some 160)) = some h1 ∧ CX h1 sp tx n N (oFar tx n N A) ∧ Fq h h1 sp := by
  have e0 : CX h sp tx n N (.inr A) := e
  obtain ⟨h1, a1, a2, a3⟩ := cx_kn e0 hn hs (s := 1) (x := 1) rfl (by omega) I.n9
  obtain ⟨h2, b1, b2, b3⟩ := cx_kn a2 hn hs (s := 1) (x := 1) rfl (by omega) I.n9
  obtain ⟨st, s1, s2⟩ := a2.st
  have hb1 : (far1 tx n N A).2 < 5 := (nw_b I (ko_v (tx := tx) (N := N) (s := 1) (r := .inr A))).1 rfl
  have hb2 : (far2 tx n N A).2 < 5 := (nw_b I (ko_v (tx := tx) (N := N) (s := 1) (r := (far1 tx n N A).1))).1 rfl
  have a1 : Jvm.Pilot.CWaverTaxLaw_law_r8537_6f3a17.cl h 5 (some 160) (f_Reader_known h (some 160) 1) = some (nI (far1 tx n N A).2, h1) := a1
  have b1 : Jvm.Pilot.CWaverTaxLaw_law_r8537_6f3a17.cl h1 5 (some 160) (f_Reader_known h1 (some 160) 1) = some (nI (far2 tx n N A).2, h2) := b1
  have b2 : CX h2 sp tx n N (oNext tx n (far2 tx n N A).1) := b2
  have hst : ∀ B, (far2 tx n N A).1 = .inr B → st = nI B.1.2.1 := by
    intro B q
    have : (far1 tx n N A).1 = .inr B := by
      have q' := q
      unfold far2 at q
      cases hr : (far1 tx n N A).1 with
      | inl f => rw [hr] at q; cases q
      | inr B1 =>
        rw [hr] at q
        unfold oKo at q
        dsimp only at q
        split at q
        · split at q
          · cases q
          · split at q
            · cases q; rfl
            · cases q
        · cases q
    exact s2 B this
  obtain ⟨L2, l1, l2, l3⟩ := b2.law
  have mid : ∃ h3, (if nI (far1 tx n N A).2 = nI (far2 tx n N A).2 then ((Jvm.Pilot.CWaverTaxLaw_law_r8537_6f3a17.cl h2 5 (some 160) (f_Reader_fail h2 (some 160) (3 : Int32) st)).bind fun h5 => some h5) else ((gR h2 5 (some 160) 2).bind fun v6 => (gR h2 1 v6 5).bind fun v7 => (aR h2 53 v7 (nI (far1 tx n N A).2)).bind fun v8 => (aI h2 v8 (nI (far2 tx n N A).2)).bind fun v9 => if v9 = 0 then (some h2) else ((Jvm.Pilot.CWaverTaxLaw_law_r8537_6f3a17.cl h2 5 (some 160) (f_Reader_fail h2 (some 160) (3 : Int32) st)).bind fun h10 => some h10)) : Option (PH)) = some h3 ∧ CX h3 sp tx n N (far4 tx n N A) ∧ Fq h2 h3 sp := by
    have lf : ∀ B, (far2 tx n N A).1 = .inr B → L2 = B.2.2 := by
      intro B q
      have := l3 (nxT tx n B.1.2.2, B.2) (by rw [q]; rfl)
      exact this
    by_cases z : (far1 tx n N A).2 = (far2 tx n N A).2
    · rw [if_pos (by rw [z]), show (3 : Int32) = nI 3 from rfl]
      exact cx_ck1 b2 hs (by omega) (by omega) hst (fun B q => by simp [z])
    · rw [if_neg (fun q => z ((nI_eq (by omega) (by omega)).mp q)), b2.g2, Option.bind_some, gR_o l1.1 rfl, Option.bind_some, aR_o l1.2.1 hb1 (by decide), Option.bind_some, show sp + 1 + 1 + (far1 tx n N A).2 = sp + 2 + (far1 tx n N A).2 by omega, (l1.2.2.1 _ hb1).at hb2 (by decide), Option.bind_some]
      by_cases y : far L2 (far1 tx n N A).2 (far2 tx n N A).2 = 0
      · rw [if_pos y]
        exact ⟨h2, rfl, cx_ck0 b2 (fun B q => by rw [← lf B q]; simp [z, y]), Fq.rf⟩
      · rw [if_neg y, show (3 : Int32) = nI 3 from rfl]
        exact cx_ck1 b2 hs (by omega) (by omega) hst (fun B q => by rw [← lf B q]; simp [y])
  obtain ⟨h3, c1, c2, c3⟩ := mid
  obtain ⟨h4, d1, d2, d3⟩ := cx_kw c2 hn hs (i := 11) (by omega)
  obtain ⟨h5, f1, f2, f3⟩ := cx_wh d2 hn hs (lo := 1) (hi := 9) (x := 1) (y := 9) rfl rfl (by omega) (by omega)
  have f1 : Jvm.Pilot.CWaverTaxLaw_law_r8537_6f3a17.cl h4 5 (some 160) (f_Reader_whole h4 (some 160) 1 9) = some (nI (far6 tx n N A).2, h5) := f1
  have f2 : CX h5 sp tx n N (far6 tx n N A).1 := f2
  obtain ⟨L5, m1, m2, m3⟩ := f2.law
  obtain ⟨h6, u1, u2, u3⟩ := m1.u_far hb1 hb2 (nI (far6 tx n N A).2)
  obtain ⟨h7, w1, w2, w3⟩ := u2.u_far hb2 hb1 (nI (far6 tx n N A).2)
  have F : Fr h5 h7 sp (sp + 29) := (u3.wd (by omega) (by omega)).tr (w3.wd (by omega) (by omega))
  have e7 := f2.lw hs F (by omega) (by omega) w2 m2
  refine ⟨h7, ?_, ?_, ((((a3.tr b3).tr c3).tr d3).tr f3).tr (F.q2 (by omega) (by omega))⟩
  · have r6 : gR h6 5 (some 160) 2 = some (some sp) := by rw [gR_c (u3.2 160 (by omega))]; exact f2.g2
    rw [e.cl]
    unfold f_Reader_readFar
    rw [a1, Option.bind_some]
    dsimp only
    rw [s1, Option.bind_some, b1, Option.bind_some]
    dsimp only
    rw [c1, Option.bind_some, d1, Option.bind_some, f1, Option.bind_some]
    dsimp only
    rw [f2.g2, Option.bind_some, gR_o m1.1 rfl, Option.bind_some, aR_o m1.2.1 hb1 (by decide), Option.bind_some, show sp + 1 + 1 + (far1 tx n N A).2 = sp + 2 + (far1 tx n N A).2 by omega, u1, Option.bind_some, r6, Option.bind_some, gR_o u2.1 rfl, Option.bind_some, aR_o u2.2.1 hb2 (by decide), Option.bind_some, show sp + 1 + 1 + (far2 tx n N A).2 = sp + 2 + (far2 tx n N A).2 by omega, w1, Option.bind_some]
  · have : fin (far6 tx n N A).1 (fun B => upT B (sL1 (sL1 L5 (10 + (far1 tx n N A).2) (far2 tx n N A).2 (nI (far6 tx n N A).2)) (10 + (far2 tx n N A).2) (far1 tx n N A).2 (nI (far6 tx n N A).2))) = oFar tx n N A := fin_cg (fun B q => by rw [m3 B q])
    rw [← this]
    exact e7
end V1
