/-! receipts: which one to ask for -/
section R3
variable {h : PH} {lw c p m : Nat} {S : StD} {T : NowD} {R : RwD} {lv : Nat → Int32} {rw : Nat → Nat} {ml : Option Nat}
theorem cls_weigh (e : RwS h lw S p T R lv rw m) (ok : LawOk (sL S)) (ro : RwOk (sL S) p R) (hp : p < nP (sL S)) (hR : R.1 ≤ 4000) : ∃ h1, Jvm.Pilot.CWaverTaxLaw_law_r8537_6f3a17.cl h 8 (some 177) (f_Rows_weigh h (some 177)) = some h1 ∧ RwS h1 lw S p T R (fun k => if k < nQ (sL S) ∧ cpe (sL S) k = p then nI (mxN R k (nC (sL S))) else lv k) rw m ∧ Fr h h1 179 180 := by
  have h4 := ok.2.2.2.2.1
  have h5 := ok.2.2.1
  have h6 := ok.2.1
  obtain ⟨g0, g1, g2, g3, g4, g5, g6⟩ := e.g
  obtain ⟨k5, k6, k7, k8⟩ := e.g5
  have hl := e.1.1
  obtain ⟨r0, r1, -, -⟩ := e.1.2.2.2.1.2.2.2.2.2.2.2.2.2.1
  obtain ⟨e0, e1, e2, e3, e4, e5⟩ := e.2.2.2
  have mb := mx_b ro
  rw [e.cl]
  unfold f_Rows_weigh
  obtain ⟨x, l1, l2, l3⟩ := pj_inv (step := fun s1 : Int32 × PH => (gR s1.2 8 (some 177) 0).bind fun v3 => (gR s1.2 1 v3 11).bind fun v4 => (gI s1.2 7 v4 0).bind fun v5 => if v5 ≤ s1.1 then (some (.inr s1.2) : Option ((Int32 × PH) ⊕ PH)) else ((gR s1.2 8 (some 177) 0).bind fun v6 => (gR s1.2 1 v6 11).bind fun v7 => (gR s1.2 7 v7 1).bind fun v8 => (aI s1.2 v8 s1.1).bind fun v9 => (gI s1.2 8 (some 177) 3).bind fun v10 => if ¬ v9 = v10 then (some (.inl ((s1.1 + (1 : Int32)), s1.2))) else ((gR s1.2 8 (some 177) 6).bind fun v11 => (sA s1.2 50 v11 s1.1 (.inl (0 : Int32))).bind fun h12 => (pj_it (X := PH) (fun s13 : Int32 × PH => (gR s13.2 8 (some 177) 0).bind fun v15 => (gI s13.2 1 v15 2).bind fun v16 => if v16 ≤ s13.1 then (some (.inr s13.2)) else ((gR s13.2 8 (some 177) 6).bind fun v17 => (gR s13.2 8 (some 177) 6).bind fun v18 => (aI s13.2 v18 s1.1).bind fun v19 => (gR s13.2 8 (some 177) 8).bind fun v20 => (aR s13.2 53 v20 s1.1).bind fun v21 => (aI s13.2 v21 s13.1).bind fun v22 => (sA s13.2 50 v17 s1.1 (.inl (if v19 < v22 then v22 else v19))).bind fun h23 => some (.inl ((s13.1 + (1 : Int32)), h23)))) FU ((0 : Int32), h12)).bind fun x14 => some (.inl ((s1.1 + (1 : Int32)), x14)))))
    (fun k s => s.1 = nI k ∧ Fu s.2 179 5 (fun q => if q < k ∧ cpe (sL S) q = p then nI (mxN R q (nC (sL S))) else lv q) ∧ Fr h s.2 179 180) (fun x => Fu x 179 5 (fun q => if q < nQ (sL S) ∧ cpe (sL S) q = p then nI (mxN R q (nC (sL S))) else lv q) ∧ Fr h x 179 180) (nQ (sL S)) (s0 := ((0 : Int32), h)) (by omega) ⟨rfl, e2.eq (fun q _ => by rw [if_neg (fun w => absurd w.1 (Nat.not_lt_zero q))]), Fr.rf⟩ (by
      rintro k ⟨s1, s2⟩ hk ⟨x1, x2, x3⟩
      dsimp only at x1 x2 x3 ⊢
      subst x1
      left
      have qc := ok.2.2.2.2.2.2.2.2 k hk
      have d0 : gR s2 8 (some 177) 0 = some (some lw) := by rw [gR_c (x3.2 177 (by omega))]; exact g0
      have d3 : gI s2 8 (some 177) 3 = some (nI p) := by rw [gI_c (x3.2 177 (by omega))]; exact g3
      have d6 : gR s2 8 (some 177) 6 = some (some 179) := by rw [gR_c (x3.2 177 (by omega))]; exact k6
      have d5 : gR s2 1 (some lw) 11 = some (some (lw + 22)) := by rw [gR_c (x3.2 lw (by omega))]; exact g5
      have u0 := (x3.2 (lw + 22) (by omega)).trans r0
      have u1 := r1.fr x3 (by omega)
      rw [d0, Option.bind_some, d5, Option.bind_some, gI_o u0 rfl, Option.bind_some, if_neg (nI_nle' hk (by omega)), Option.bind_some, d5, Option.bind_some, gR_o u0 rfl, Option.bind_some, u1.at (by omega) (by decide), Option.bind_some, d3, Option.bind_some, nI_s]
      by_cases z : cpe (sL S) k = p
      · obtain ⟨h2, b1, b2, b3⟩ := x2.set (p := k) (by omega) (by decide) 0
        rw [if_neg (by rw [z]; exact fun q => q rfl), d6, Option.bind_some, b1, Option.bind_some]
        obtain ⟨y, y1, y2, y3⟩ := pj_inv (step := fun s13 : Int32 × PH => (gR s13.2 8 (some 177) 0).bind fun v15 => (gI s13.2 1 v15 2).bind fun v16 => if v16 ≤ s13.1 then (some (.inr s13.2) : Option ((Int32 × PH) ⊕ PH)) else ((gR s13.2 8 (some 177) 6).bind fun v17 => (gR s13.2 8 (some 177) 6).bind fun v18 => (aI s13.2 v18 (nI k)).bind fun v19 => (gR s13.2 8 (some 177) 8).bind fun v20 => (aR s13.2 53 v20 (nI k)).bind fun v21 => (aI s13.2 v21 s13.1).bind fun v22 => (sA s13.2 50 v17 (nI k) (.inl (if v19 < v22 then v22 else v19))).bind fun h23 => some (.inl ((s13.1 + (1 : Int32)), h23))))
          (fun c s => s.1 = nI c ∧ Fu s.2 179 5 (fun q => if q = k then nI (mxN R k c) else if q < k ∧ cpe (sL S) q = p then nI (mxN R q (nC (sL S))) else lv q) ∧ Fr h s.2 179 180) (fun x => Fu x 179 5 (fun q => if q = k then nI (mxN R k (nC (sL S))) else if q < k ∧ cpe (sL S) q = p then nI (mxN R q (nC (sL S))) else lv q) ∧ Fr h x 179 180) (nC (sL S)) (s0 := ((0 : Int32), h2)) (by omega) ⟨rfl, b2, x3.tr b3⟩ (by
            rintro c ⟨t1, t2⟩ hc ⟨w1, w2, w3⟩
            dsimp only at w1 w2 w3 ⊢
            subst w1
            left
            have f0 : gR t2 8 (some 177) 0 = some (some lw) := by rw [gR_c (w3.2 177 (by omega))]; exact g0
            have f6 : gR t2 8 (some 177) 6 = some (some 179) := by rw [gR_c (w3.2 177 (by omega))]; exact k6
            have f8 : gR t2 8 (some 177) 8 = some (some 181) := by rw [gR_c (w3.2 177 (by omega))]; exact k8
            have f2 : gI t2 1 (some lw) 2 = some (nI (nC (sL S))) := by rw [gI_c (w3.2 lw (by omega))]; exact g6
            have bb := ro.2.2.1 k c
            have bm := mb k c
            rw [f0, Option.bind_some, f2, Option.bind_some, if_neg (nI_nle' hc (by omega)), f6, Option.bind_some, Option.bind_some, w2.at (by omega) (by decide), Option.bind_some, f8, Option.bind_some, (e4.fr w3 (by omega)).aR (k := k) (x := some (182 + k)) (by omega) (by decide) rfl, Option.bind_some, ((e5 k (by omega)).fr w3 (by omega)).at (by omega) (by decide), Option.bind_some, if_pos rfl]
            have em : (if nI (mxN R k c) < nI (R.2.1 k c) then nI (R.2.1 k c) else nI (mxN R k c)) = nI (mxN R k (c + 1)) := by
              show _ = nI (if mxN R k c < R.2.1 k c then R.2.1 k c else mxN R k c)
              by_cases v : mxN R k c < R.2.1 k c
              · rw [if_pos (nI_lt v (by omega)), if_pos v]
              · rw [if_neg (nI_nlt (by omega) (by omega)), if_neg v]
            rw [em]
            obtain ⟨h3, v1, v2, v3⟩ := w2.set (p := k) (by omega) (by decide) (nI (mxN R k (c + 1)))
            rw [v1, Option.bind_some, nI_s]
            refine ⟨_, rfl, rfl, v2.eq (fun q _ => ?_), w3.tr v3⟩
            unfold up1
            dsimp only
            by_cases u : q = k
            · rw [if_pos u, if_pos u]
            · rw [if_neg u, if_neg u, if_neg u]) (by
            rintro ⟨t1, t2⟩ ⟨w1, w2, w3⟩
            dsimp only at w1 w2 w3 ⊢
            subst w1
            have f0 : gR t2 8 (some 177) 0 = some (some lw) := by rw [gR_c (w3.2 177 (by omega))]; exact g0
            have f2 : gI t2 1 (some lw) 2 = some (nI (nC (sL S))) := by rw [gI_c (w3.2 lw (by omega))]; exact g6
            rw [f0, Option.bind_some, f2, Option.bind_some, if_pos (nI_le (Nat.le_refl _) (by omega))]
            exact ⟨_, rfl, w2, w3⟩)
        rw [y1, Option.bind_some]
        refine ⟨_, rfl, rfl, y2.eq (fun q _ => ?_), y3⟩
        by_cases u : q = k
        · rw [if_pos u, if_pos ⟨by omega, by rw [u]; exact z⟩, u]
        · rw [if_neg u]
          by_cases v : q < k
          · simp only [v, show q < k + 1 by omega, true_and]
          · rw [if_neg (fun w => v w.1), if_neg (fun w => by omega)]
      · rw [if_pos (fun q => z ((nI_eq (by omega) (by omega)).mp q))]
        refine ⟨_, rfl, rfl, x2.eq (fun q _ => ?_), x3⟩
        by_cases u : q = k
        · rw [u, if_neg (fun w => z w.2), if_neg (fun w => z w.2)]
        · by_cases v : q < k
          · simp only [v, show q < k + 1 by omega, true_and]
          · rw [if_neg (fun w => v w.1), if_neg (fun w => by omega)]) (by
      rintro ⟨s1, s2⟩ ⟨x1, x2, x3⟩
      dsimp only at x1 x2 x3 ⊢
      subst x1
      have d0 : gR s2 8 (some 177) 0 = some (some lw) := by rw [gR_c (x3.2 177 (by omega))]; exact g0
      have d5 : gR s2 1 (some lw) 11 = some (some (lw + 22)) := by rw [gR_c (x3.2 lw (by omega))]; exact g5
      have u0 := (x3.2 (lw + 22) (by omega)).trans r0
      rw [d0, Option.bind_some, d5, Option.bind_some, gI_o u0 rfl, Option.bind_some, if_pos (nI_le (Nat.le_refl _) (by omega))]
      exact ⟨_, rfl, x2, x3⟩)
  rw [l1, Option.bind_some]
  obtain ⟨fr, e1⟩ := e1
  obtain ⟨ra, e3⟩ := e3
  exact ⟨x, rfl, e.rp (l3.wd (by omega) (by omega)) ⟨e0.fr l3 (by omega), ⟨fr, e1.1.fr l3 (by omega), e1.2⟩, l2, ⟨ra, e3.1.fr l3 (by omega), e3.2⟩, e4.fr l3 (by omega), fun k hk => (e5 k hk).fr l3 (by omega)⟩, l3⟩
theorem cls_wall (e : CI h lw S) (o : SOk c S) (lf : sLf S = true) : ∃ h1, Jvm.Pilot.CWaverTaxLaw_law_r8537_6f3a17.cl h 8 (some 177) (f_Rows_weighAll h (some 177) (some lw)) = some h1 ∧ CI h1 lw S ∧ (∃ lv, Fu h1 179 5 lv ∧ ∀ k, k < nQ (sL S) → lv k = nI (lvS (sL S) k)) ∧ Fr h h1 100 285 := by
  have ok := o.ok lf
  have h4 := ok.2.2.2.2.1
  have h5 := ok.2.2.1
  have h6 := ok.2.1
  obtain ⟨lv0, hv0⟩ := e.lvx
  obtain ⟨-, -, -, F, r0, -⟩ := e.2.2.2.2.2.2.2.1
  rw [cl_o r0]
  unfold f_Rows_weighAll
  obtain ⟨x, l1, l2, l3, l4⟩ := pj_inv (step := fun s1 : Int32 × PH => (gI s1.2 1 (some lw) 3).bind fun v3 => if v3 ≤ s1.1 then (some (.inr s1.2) : Option ((Int32 × PH) ⊕ PH)) else ((gR s1.2 1 (some lw) 11).bind fun v4 => (cl s1.2 7 v4 (f_Receipts_has s1.2 v4 s1.1)).bind fun v5 => if v5 = 0 then (some (.inl ((s1.1 + (1 : Int32)), s1.2))) else ((cl s1.2 8 (some 177) (f_Rows_gather s1.2 (some 177) (some lw) s1.1)).bind fun h6 => (cl h6 8 (some 177) (f_Rows_weigh h6 (some 177))).bind fun h7 => some (.inl ((s1.1 + (1 : Int32)), h7)))))
    (fun p s => s.1 = nI p ∧ CI s.2 lw S ∧ (∃ lv, Fu s.2 179 5 lv ∧ ∀ k, k < nQ (sL S) → cpe (sL S) k < p → lv k = nI (lvS (sL S) k)) ∧ Fr h s.2 100 285) (fun x => CI x lw S ∧ (∃ lv, Fu x 179 5 lv ∧ ∀ k, k < nQ (sL S) → lv k = nI (lvS (sL S) k)) ∧ Fr h x 100 285) (nP (sL S)) (s0 := ((0 : Int32), h)) (by omega) ⟨rfl, e, ⟨lv0, hv0, fun k _ q => absurd q (Nat.not_lt_zero _)⟩, Fr.rf⟩ (by
      rintro p ⟨s1, s2⟩ hp ⟨x1, x2, ⟨lv, x3, x4⟩, x5⟩
      dsimp only at x1 x2 x3 x5 ⊢
      subst x1
      left
      have g11 : gR s2 1 (some lw) 11 = some (some (lw + 22)) := gR_o x2.2.2.2.1.1 rfl
      have g3 : gI s2 1 (some lw) 3 = some (nI (nP (sL S))) := gI_o x2.2.2.2.1.1 rfl
      have qn := qx_n (L := sL S) (p := p) (nQ (sL S)) (Nat.le_refl _)
      rw [g3, Option.bind_some, if_neg (nI_nle' hp (by omega)), g11, Option.bind_some, cls_has x2.2.2.2.1 ok hp, Option.bind_some, nI_s]
      by_cases z : qxN (sL S) p (nQ (sL S)) = nQ (sL S)
      · rw [if_pos z, if_pos rfl]
        refine ⟨_, rfl, rfl, x2, ⟨lv, x3, fun k hk hc => ?_⟩, x5⟩
        exact x4 k hk (by have := qn k (by omega) (by omega); omega)
      · rw [if_neg z, if_neg (by decide)]
        obtain ⟨h1, T1, a1, a2, a3⟩ := cls_gather x2 o hp x3
        obtain ⟨ro, rb⟩ := RS_ok (L := sL S) (p := p) ok.1 h6 h4
        obtain ⟨h2, b1, b2, b3⟩ := cls_weigh a2 ok ro hp (by omega)
        rw [a1, Option.bind_some, b1, Option.bind_some]
        refine ⟨_, rfl, rfl, b2.1, ⟨_, b2.2.2.2.2.2.1, fun k hk hc => ?_⟩, (x5.tr a3).tr (b3.wd (by omega) (by omega))⟩
        by_cases y : cpe (sL S) k = p
        · rw [if_pos ⟨hk, y⟩]
          unfold lvS
          rw [y, mx_5 ro h6]
        · rw [if_neg (fun q => y q.2)]
          exact x4 k hk (by omega)) (by
      rintro ⟨s1, s2⟩ ⟨x1, x2, ⟨lv, x3, x4⟩, x5⟩
      dsimp only at x1 x2 x3 x5 ⊢
      subst x1
      have g3 : gI s2 1 (some lw) 3 = some (nI (nP (sL S))) := gI_o x2.2.2.2.1.1 rfl
      rw [g3, Option.bind_some, if_pos (nI_le (Nat.le_refl _) (by omega))]
      exact ⟨_, rfl, x2, ⟨lv, x3, fun k hk => x4 k hk (ok.2.2.2.2.2.2.2.2 k hk)⟩, x5⟩)
  rw [l1, Option.bind_some]
  exact ⟨x, rfl, l2, l3, l4⟩
theorem lv_b (ok : LawOk (sL S)) {k : Nat} : lvS (sL S) k ≤ 3125 := by
  obtain ⟨ro, rb⟩ := RS_ok (L := sL S) (p := cpe (sL S) k) ok.1 ok.2.1 ok.2.2.2.2.1
  have := mx_b ro k 5
  unfold lvS
  omega
theorem bk_s {L : LawD} {k : Nat} : bkN L (k + 1) = if lvS L k = 0 then bkN L k else match bkN L k with
    | none => some k
    | some b => if lvS L k < lvS L b then some k else some b := rfl
theorem cls_bta (e : CI h lw S) (o : SOk c S) (lf : sLf S = true) : ∃ h1, Jvm.Pilot.CWaverTaxLaw_law_r8537_6f3a17.cl h 10 (some 100) (f_T_bestToAsk h (some 100)) = some (bkI (bkN (sL S) (nQ (sL S))), h1) ∧ CI h1 lw S ∧ (∃ lv, Fu h1 179 5 lv ∧ ∀ k, k < nQ (sL S) → lv k = nI (lvS (sL S) k)) ∧ Fr h h1 100 285 := by
  have ok := o.ok lf
  have h4 := ok.2.2.2.2.1
  have hb := fun k => lv_b (S := S) (k := k) ok
  obtain ⟨h1, a1, a2, ⟨lv, a3, a3'⟩, a4⟩ := cls_wall e o lf
  have g2 : gR h 10 (some 100) 2 = some (some lw) := gR_o e.2.1 rfl
  have g10 : gR h 10 (some 100) 10 = some (some 177) := gR_o e.2.1 rfl
  have q2 : gR h1 10 (some 100) 2 = some (some lw) := gR_o a2.2.1 rfl
  have q10 : gR h1 10 (some 100) 10 = some (some 177) := gR_o a2.2.1 rfl
  have q11 : gR h1 1 (some lw) 11 = some (some (lw + 22)) := gR_o a2.2.2.2.1.1 rfl
  obtain ⟨r0, -, -, -⟩ := a2.2.2.2.1.2.2.2.2.2.2.2.2.2.1
  have qc : gI h1 7 (some (lw + 22)) 0 = some (nI (nQ (sL S))) := gI_o r0 rfl
  obtain ⟨-, -, -, F, f0, -, -, -, f6, -⟩ := a2.2.2.2.2.2.2.2.1
  have q6 : gR h1 8 (some 177) 6 = some (some 179) := f0.gr (by omega) f6
  refine ⟨h1, ?_, a2, ⟨lv, a3, a3'⟩, a4⟩
  rw [e.cl]
  unfold f_T_bestToAsk
  rw [g10, Option.bind_some, g2, Option.bind_some, a1, Option.bind_some]
  rw [pj_for' (fun k => (bkI (bkN (sL S) k), nI k)) (bkI (bkN (sL S) (nQ (sL S)))) (nQ (sL S)) (by rw [nI_0]; rfl) (by omega) ?_ ?_]
  · rfl
  · intro k hk
    dsimp only
    rw [q2, Option.bind_some, q11, Option.bind_some, qc, Option.bind_some, if_neg (nI_nle' hk (by omega)), q10, Option.bind_some, q6, Option.bind_some, a3.at (by omega) (by decide), Option.bind_some, a3' k hk, nI_s, bk_s]
    have b1 := hb k
    by_cases z : lvS (sL S) k = 0
    · rw [if_pos (by rw [z]; decide), if_pos z]
    · rw [if_neg (nI_nle (by omega) (by omega)), if_neg z]
      cases hn : bkN (sL S) k with
      | none =>
        rw [if_pos (show bkI none < 0 by decide)]
        rfl
      | some b =>
        have bl := bk_lt k b hn
        have b2 := hb b
        rw [if_neg (show ¬ bkI (some b) < 0 from nI_pos (by omega)), Option.bind_some, q6, Option.bind_some, a3.at (p := k) (by omega) (by decide), Option.bind_some, Option.bind_some, q6, Option.bind_some, a3' k hk]
        rw [show aI h1 (some 179) (bkI (some b)) = some (nI (lvS (sL S) b)) from by rw [← a3' b (by omega)]; exact a3.at (by omega) (by decide), Option.bind_some]
        dsimp only
        by_cases y : lvS (sL S) k < lvS (sL S) b
        · rw [if_neg (nI_ge y (by omega)), if_pos y]
          rfl
        · rw [if_pos (nI_le (by omega) (by omega)), if_neg y]
  · dsimp only
    rw [q2, Option.bind_some, q11, Option.bind_some, qc, Option.bind_some, if_pos (nI_le (Nat.le_refl _) (by omega))]
/-- the reference -/
theorem mod_toask (e : Mst h ml S) (o : SOk c S) (lf : sLf S = true) : ∃ h1, Jvm.Pilot.CWaverTaxLaw_law_r8537_6f3a17.cl h 12 (some 285) (f_M_toAsk h (some 285)) = some (bkI (bkN (sL S) (nQ (sL S))), h1) ∧ Mst h1 ml S ∧ gI h1 12 (some 285) 29 = some (blI (sL S) (bkN (sL S) (nQ (sL S)))) ∧ Fr h h1 285 295 := by
  have ok := o.ok lf
  have h4 := ok.2.2.2.2.1
  have h6 := ok.2.1
  have hb := fun k => lv_b (S := S) (k := k) ok
  obtain ⟨i, rfl, -⟩ := e.ye lf
  obtain ⟨h1, a1, a2, a3, a4, -⟩ := e.sf (k := 29) (.inl (-2)) (by omega)
  rw [e.cl]
  unfold f_M_toAsk
  rw [a1, Option.bind_some]
  refine exB (f := fun h9 => (bkI (bkN (sL S) (nQ (sL S))), h9)) (fun x => x.1 = bkI (bkN (sL S) (nQ (sL S))) ∧ Mst x.2 (some i) S ∧ gI x.2 12 (some 285) 29 = some (blI (sL S) (bkN (sL S) (nQ (sL S)))) ∧ Fr h x.2 285 295) (pj_inv (fun k s => s.1 = bkI (bkN (sL S) k) ∧ s.2.1 = nI k ∧ Mst s.2.2 (some i) S ∧ gI s.2.2 12 (some 285) 29 = some (blI (sL S) (bkN (sL S) k)) ∧ Fr h s.2.2 285 295) _ (nQ (sL S)) (by omega) ⟨rfl, rfl, a2, gV_I a4, a3.wd (by omega) (by omega)⟩ ?_ ?_) ?_
  · rintro k ⟨s1, s2, s3⟩ hk ⟨x1, x2, x3, x4, x5⟩
    dsimp only at x1 x2 x3 x4 x5 ⊢
    subst x1 x2
    left
    have g6 : gI s3 11 (some i) 6 = some (nI (nQ (sL S))) := ((x3.ye' lf).2.v ok).1.2.2.2.2.2.2.1
    obtain ⟨h2, i1, rw9, b1, b2, b3, b4⟩ := mod_rk x3 o lf hk
    cases b2
    obtain ⟨ro, rb⟩ := RS_ok (L := sL S) (p := cpe (sL S) k) ok.1 h6 h4
    obtain ⟨c0, c1, ⟨c2, c2'⟩, c3, c4, ⟨ct, c5, c5'⟩⟩ := id b3
    have g27 := c0.g25.2.2
    rw [x3.lwR, Option.bind_some, g6, Option.bind_some, if_neg (nI_nle' hk (by omega))]
    rw [x3.lwR] at b1
    rw [bnd3, b1, Option.bind_some]
    have inner : pj_it (X := Int32) (fun s10 : Int32 × Int32 => if (5 : Int32) ≤ s10.2 then (some (.inr s10.1)) else ((gR h2 12 (some 285) 27).bind fun v12 => (aI h2 v12 (((5 : Int32) * nI k) + s10.2)).bind fun v13 => if v13 ≤ s10.1 then (some (.inl (s10.1, (s10.2 + (1 : Int32))))) else ((gR h2 12 (some 285) 27).bind fun v14 => (aI h2 v14 (((5 : Int32) * nI k) + s10.2)).bind fun v15 => some (.inl (v15, (s10.2 + (1 : Int32))))))) FU ((0 : Int32), (0 : Int32)) = some (nI (lvS (sL S) k)) := by
      refine pj_for' (fun c => (nI (mxN (RS (sL S) (cpe (sL S) k)) k c), nI c)) _ 5 (by rw [nI_0]; rfl) (by omega) ?_ ?_
      · intro c hc
        have m1 := mx_b ro k c
        have m2 := ro.2.2.1 k c
        dsimp only
        rw [if_neg (show ¬ (5 : Int32) ≤ nI c from nI_nle' (b := 5) hc (by omega)), g27, Option.bind_some, nI_5, c5.at (by omega) (by decide), Option.bind_some, c5' k c (by omega) hc, nI_s]
        rw [show mxN (RS (sL S) (cpe (sL S) k)) k (c + 1) = if mxN (RS (sL S) (cpe (sL S) k)) k c < (RS (sL S) (cpe (sL S) k)).2.1 k c then (RS (sL S) (cpe (sL S) k)).2.1 k c else mxN (RS (sL S) (cpe (sL S) k)) k c from rfl]
        by_cases v : mxN (RS (sL S) (cpe (sL S) k)) k c < (RS (sL S) (cpe (sL S) k)).2.1 k c
        · rw [if_neg (nI_ge v (by omega)), if_pos v, Option.bind_some, c5.at (by omega) (by decide), Option.bind_some, c5' k c (by omega) hc]
        · rw [if_pos (nI_le (by omega) (by omega)), if_neg v]
      · dsimp only
        rw [if_pos (show (5 : Int32) ≤ nI 5 by decide)]
        rfl
    rw [inner, Option.bind_some, c2, Option.bind_some, nI_s]
    have bk := bk_s (L := sL S) (k := k)
    have mz := mx_z ro hk rfl
    have mz : lvS (sL S) k = 0 ↔ (RS (sL S) (cpe (sL S) k)).1 = 0 := mz
    have b1 := hb k
    rw [x4] at c2'
    by_cases z : (RS (sL S) (cpe (sL S) k)).1 = 0
    · rw [if_pos (mz.mpr z)] at bk
      rw [if_pos (by rw [z]; rfl)]
      exact ⟨_, rfl, by rw [bk], rfl, c0, by rw [bk]; exact c2', x5.tr b4⟩
    · rw [if_neg (fun q => z (mz.mp q))] at bk
      rw [if_neg (fun q => z ((nI_e0 (by omega)).mp q))]
      obtain ⟨h3, d1, d2, d3, d4, -⟩ := c0.sf (k := 29) (.inl (nI (lvS (sL S) k))) (by omega)
      cases hn : bkN (sL S) k with
      | none =>
        rw [hn] at bk
        dsimp only at bk
        rw [if_pos (show bkI none = -2 from rfl), d1, Option.bind_some]
        exact ⟨_, rfl, by rw [bk]; rfl, rfl, d2, by rw [bk]; exact gV_I d4, (x5.tr b4).tr (d3.wd (by omega) (by omega))⟩
      | some b =>
        have bl := bk_lt k b hn
        have b2 := hb b
        rw [hn] at bk c2'
        dsimp only at bk
        rw [if_neg (show ¬ bkI (some b) = -2 from fun q => by
          have := nI_pos (n := b) (by omega)
          rw [show nI b = -2 from q] at this
          exact this (by decide)), c2', Option.bind_some]
        by_cases y : lvS (sL S) k < lvS (sL S) b
        · rw [if_pos y] at bk
          rw [if_pos (show nI (lvS (sL S) k) < blI (sL S) (some b) from nI_lt y (by omega)), d1, Option.bind_some]
          exact ⟨_, rfl, by rw [bk]; rfl, rfl, d2, by rw [bk]; exact gV_I d4, (x5.tr b4).tr (d3.wd (by omega) (by omega))⟩
        · rw [if_neg y] at bk
          rw [if_neg (show ¬ nI (lvS (sL S) k) < blI (sL S) (some b) from nI_nlt (by omega) (by omega))]
          exact ⟨_, rfl, by rw [bk], rfl, c0, by rw [bk]; exact c2', x5.tr b4⟩
  · rintro ⟨s1, s2, s3⟩ ⟨x1, x2, x3, x4, x5⟩
    dsimp only at x1 x2 x3 x4 x5 ⊢
    subst x1 x2
    have g6 : gI s3 11 (some i) 6 = some (nI (nQ (sL S))) := ((x3.ye' lf).2.v ok).1.2.2.2.2.2.2.1
    rw [x3.lwR, Option.bind_some, g6, Option.bind_some, if_pos (nI_le (Nat.le_refl _) (by omega))]
    exact ⟨_, rfl, rfl, x3, x4, x5⟩
  · rintro ⟨x1, x2⟩ ⟨y1, y2, y3, y4⟩
    dsimp only at y1 y2 y3 y4 ⊢
    subst y1
    exact ⟨x2, rfl, y2, y3, y4⟩
theorem op_ask (o : SOk c S) (hc : c < 600) : Op (fun h => f_T_ask h (some 100)) (fun h => f_M_ask h (some 285)) c S := by
  cases lf : sLf S with
  | false =>
    refine ⟨-1, trS S 1, fun h lw e => ?_, fun h ml e => ?_, o.tr _ (by omega) (by omega)⟩
    · obtain ⟨h1, lw1, r1, r2, r3⟩ := e.rf 1
      refine ⟨h1, lw1, ?_, r2, r3⟩
      show f_T_ask h (some 100) = _
      unfold f_T_ask
      rw [e.lf, lf, Option.bind_some, if_pos (by decide)]
      exact r1
    · obtain ⟨h1, s1, s2, s3⟩ := e.st
      obtain ⟨h2, ml2, r1, r2, r3⟩ := s2.rf 1 (by decide)
      refine ⟨h2, ml2, ?_, r2, s3.tr r3⟩
      show f_M_ask h (some 285) = _
      unfold f_M_ask
      rw [s1, Option.bind_some, s2.lwR, Option.bind_some, if_pos (s2.no lf)]
      exact r1
  | true =>
    refine ⟨bkI (bkN (sL S) (nQ (sL S))), trS S 0, fun h lw e => ?_, fun h ml e => ?_, o.tr _ (by omega) (by omega)⟩
    · obtain ⟨h1, a1, a2, a3, a4⟩ := cls_bta e o lf
      obtain ⟨h2, lw1, r1, r2, r3⟩ := a2.fn (bkI (bkN (sL S) (nQ (sL S))))
      refine ⟨h2, lw1, ?_, r2, a4.tr r3⟩
      show f_T_ask h (some 100) = _
      unfold f_T_ask
      rw [e.lf, lf, Option.bind_some, if_neg (by decide), a1, Option.bind_some]
      exact r1
    · obtain ⟨h1, s1, s2, s3⟩ := e.st
      obtain ⟨h2, a1, a2, a3, a4⟩ := mod_toask s2 o lf
      obtain ⟨h3, ml3, r1, r2, r3⟩ := a2.gd (bkI (bkN (sL S) (nQ (sL S))))
      refine ⟨h3, ml3, ?_, r2, (s3.tr a4).tr r3⟩
      obtain ⟨i, rfl, -⟩ := s2.ye lf
      show f_M_ask h (some 285) = _
      unfold f_M_ask
      rw [s1, Option.bind_some, s2.lwR, Option.bind_some, if_neg (by simp), a1, Option.bind_some]
      exact r1
theorem op_askLeaves (o : SOk c S) (hc : c < 600) : Op (fun h => f_T_askLeaves h (some 100)) (fun h => f_M_askLeaves h (some 285)) c S := by
  cases lf : sLf S with
  | false =>
    refine ⟨-1, trS S 1, fun h lw e => ?_, fun h ml e => ?_, o.tr _ (by omega) (by omega)⟩
    · obtain ⟨h1, lw1, r1, r2, r3⟩ := e.rf 1
      refine ⟨h1, lw1, ?_, r2, r3⟩
      show f_T_askLeaves h (some 100) = _
      unfold f_T_askLeaves
      rw [e.lf, lf, Option.bind_some, if_neg (by decide)]
      exact r1
    · obtain ⟨h1, s1, s2, s3⟩ := e.st
      obtain ⟨h2, ml2, r1, r2, r3⟩ := s2.rf 1 (by decide)
      refine ⟨h2, ml2, ?_, r2, s3.tr r3⟩
      show f_M_askLeaves h (some 285) = _
      unfold f_M_askLeaves
      rw [s1, Option.bind_some, s2.lwR, Option.bind_some, if_pos (s2.no lf)]
      exact r1
  | true =>
    have ok := o.ok lf
    have h4 := ok.2.2.2.2.1
    refine ⟨blI (sL S) (bkN (sL S) (nQ (sL S))), trS S 0, fun h lw e => ?_, fun h ml e => ?_, o.tr _ (by omega) (by omega)⟩
    · obtain ⟨h1, a1, a2, ⟨lv, a3, a3'⟩, a4⟩ := cls_bta e o lf
      obtain ⟨h2, lw1, r1, r2, r3⟩ := a2.fn (blI (sL S) (bkN (sL S) (nQ (sL S))))
      refine ⟨h2, lw1, ?_, r2, a4.tr r3⟩
      have q10 : gR h1 10 (some 100) 10 = some (some 177) := gR_o a2.2.1 rfl
      obtain ⟨-, -, -, F, f0, -, -, -, f6, -⟩ := a2.2.2.2.2.2.2.2.1
      have q6 : gR h1 8 (some 177) 6 = some (some 179) := f0.gr (by omega) f6
      have key : (if 0 ≤ bkI (bkN (sL S) (nQ (sL S))) then ((gR h1 10 (some 100) 10).bind fun v4 => (gR h1 8 v4 6).bind fun v5 => (aI h1 v5 (bkI (bkN (sL S) (nQ (sL S))))).bind fun v6 => some v6) else (some (-2 : Int32)) : Option (Int32)) = some (blI (sL S) (bkN (sL S) (nQ (sL S)))) := by
        cases hn : bkN (sL S) (nQ (sL S)) with
        | none => rw [if_neg (show ¬ 0 ≤ bkI none by decide)]; rfl
        | some b =>
          have bl := bk_lt _ b hn
          rw [if_pos (show 0 ≤ bkI (some b) from nI_pos' (by omega)), q10, Option.bind_some, q6, Option.bind_some]
          rw [show aI h1 (some 179) (bkI (some b)) = some (nI (lvS (sL S) b)) from by rw [← a3' b (by omega)]; exact a3.at (by omega) (by decide), Option.bind_some]
          rfl
      show f_T_askLeaves h (some 100) = _
      unfold f_T_askLeaves
      rw [e.lf, lf, Option.bind_some, if_pos (by decide), a1, Option.bind_some]
      dsimp only
      rw [key, Option.bind_some]
      exact r1
    · obtain ⟨h1, s1, s2, s3⟩ := e.st
      obtain ⟨h2, a1, a2, a3, a4⟩ := mod_toask s2 o lf
      obtain ⟨h3, ml3, r1, r2, r3⟩ := a2.gd (blI (sL S) (bkN (sL S) (nQ (sL S))))
      refine ⟨h3, ml3, ?_, r2, (s3.tr a4).tr r3⟩
      obtain ⟨i, rfl, -⟩ := s2.ye lf
      show f_M_askLeaves h (some 285) = _
      unfold f_M_askLeaves
      rw [s1, Option.bind_some, s2.lwR, Option.bind_some, if_neg (by simp), a1, Option.bind_some]
      dsimp only
      rw [a3, Option.bind_some]
      exact r1
end R3
