/-! receipts: the reference's rows -/
theorem bE {X Y : Type} {a : Option X} {x : X} {f : X → Option Y} {r : Option Y} (h : a = some x) (k : f x = r) : a.bind f = r := by rw [h]; exact k
theorem Mst.ye' {h : PH} {i : Nat} {S : StD} (e : Mst h (some i) S) (q : sLf S = true) : 296 ≤ i ∧ MLawC h i (sL S) := by
  obtain ⟨i1, w, a, b⟩ := e.ye q
  cases w
  exact ⟨a, b⟩
theorem Mst.g25 {h : PH} {ml : Option Nat} {S : StD} (e : Mst h ml S) : gR h 12 (some 285) 25 = some (some 292) ∧ gR h 12 (some 285) 26 = some (some 293) ∧ gR h 12 (some 285) 27 = some (some 294) := by
  obtain ⟨F, e0, e1, -⟩ := e
  obtain ⟨-, -, -, -, -, -, -, -, -, -, -, -, -, a, b, c⟩ := e1
  exact ⟨e0.gr (by omega) a, e0.gr (by omega) b, e0.gr (by omega) c.1⟩
theorem Mst.sc {h h1 : PH} {ml : Option Nat} {S : StD} (e : Mst h ml S) (f : Fr h h1 292 295) (s : (∃ f, Fu h1 292 5 f) ∧ (∃ f, Fu h1 293 5 f) ∧ ∃ f, Fu h1 294 25 f) : Mst h1 ml S := by
  obtain ⟨F, e0, e1, e2, ⟨⟨f1, a1⟩, ⟨f2, a2⟩, -, -, -⟩, e4⟩ := e
  exact ⟨F, e0.fr f (by omega), e1, f.lc (MRs.lc S) (by omega) e2, ⟨⟨f1, a1.fr f (by omega)⟩, ⟨f2, a2.fr f (by omega)⟩, s.1, s.2.1, s.2.2⟩, e4.lt (fun i p q => f.2 i (by omega))⟩
def RmS (al : Option Int32) (h : PH) (i : Nat) (S : StD) (R : RwD) (rw : Nat → Nat) : Prop := Mst h (some i) S ∧ ModV h 285 i (-1) (third (sL S)) ∧ (gI h 12 (some 285) 28 = some (nI R.1) ∧ gI h 12 (some 285) 29 = al) ∧ Fu h 292 5 (fun k => nI (rw k)) ∧ (∃ fr, Fu h 293 5 fr ∧ (0 < R.1 → ∀ k, k < 5 → fr k = nI (R.2.2 k))) ∧ ∃ ct, Fu h 294 25 ct ∧ ∀ k c, k < 5 → c < 5 → ct (5 * k + c) = nI (R.2.1 k c)
section Q6
variable {al : Option Int32} {h : PH} {i c p : Nat} {S : StD} {R : RwD} {rw : Nat → Nat}
theorem mod_fits (e : RmS al h i S R rw) (o : SOk c S) (hp : p < nP (sL S)) (hrw : ∀ k, rw k < nC (sL S)) : f_M_fits h (some 285) (nI p) = some (if ftB (sL S) p (nQ (sL S)) (frs (sL S) p) 0 (-2) rw = true then 1 else 0) := by
  have lf := o.lfP hp
  have ok := o.ok lf
  have lb := (o.2.1 lf).2.1
  have h4 := ok.2.2.2.2.1
  have h5 := ok.2.2.1
  have h6 := ok.2.1
  obtain ⟨e0, e1, e2, e3, -, -⟩ := e
  have m3 := (e0.ye' lf).2
  have g25 := e0.g25.1
  have q1 := e0.lwR
  have tx := fun (he : Nat) (hh : he < nC (sL S)) (d : Nat) (hd : d < nC (sL S)) (k ago : Int32) => mod_taxBy e1 (m3.v ok) ok hp hh hd k ago
  obtain ⟨⟨-, -, -, -, -, -, g6, -⟩, -, -, ⟨a12, ha12, hA12⟩, -, -, ⟨⟨a19, ha19, hA19⟩, ⟨a20, ha20, hA20⟩, ⟨a21, ha21, hA21⟩⟩, -⟩ := m3.v ok
  have f12 : aI h (some a12) (nI p) = some (nI (frs (sL S) p)) := hA12 p hp
  have f19 : ∀ k, k < nQ (sL S) → aI h (some a19) (nI k) = some (nI (cpe (sL S) k)) := hA19
  unfold f_M_fits
  refine bE q1 (bE ha12 (bE f12 ?_))
  obtain ⟨x, l1, l2⟩ := pj_inv (step := fun s4 : Int32 × Int32 × Int32 × Int32 => (gR h 12 (some 285) 3).bind fun v6 => (gI h 11 v6 6).bind fun v7 => if v7 ≤ s4.2.2.2 then (some (.inr (.inl ())) : Option ((Int32 × Int32 × Int32 × Int32) ⊕ (Unit ⊕ Unit))) else ((gR h 12 (some 285) 3).bind fun v8 => (gR h 11 v8 19).bind fun v9 => (aI h v9 s4.2.2.2).bind fun v10 => if v10 = nI p then ((gR h 12 (some 285) 25).bind fun v11 => (aI h v11 s4.2.2.2).bind fun v12 => if v12 = s4.1 then (some (.inr (.inr ()))) else ((gR h 12 (some 285) 25).bind fun v13 => (aI h v13 s4.2.2.2).bind fun v14 => (if ¬ s4.2.2.1 = (-1 : Int32) then ((gR h 12 (some 285) 3).bind fun v16 => (gR h 11 v16 21).bind fun v17 => (aI h v17 s4.2.2.2).bind fun v18 => some (v18 - s4.2.2.1)) else (some (-1 : Int32)) : Option (Int32)).bind fun j15 => (cl h 12 (some 285) (f_M_taxBy h (some 285) (nI p) s4.1 v14 s4.2.1 j15)).bind fun v19 => (gR h 12 (some 285) 3).bind fun v20 => (gR h 11 v20 20).bind fun v21 => (aI h v21 s4.2.2.2).bind fun v22 => if v19 = v22 then ((gR h 12 (some 285) 25).bind fun v23 => (aI h v23 s4.2.2.2).bind fun v24 => (gR h 12 (some 285) 3).bind fun v25 => (gR h 11 v25 21).bind fun v26 => (aI h v26 s4.2.2.2).bind fun v27 => some (.inl (v24, (s4.2.1 + (1 : Int32)), v27, (s4.2.2.2 + (1 : Int32))))) else (some (.inr (.inr ()))))) else (some (.inl (s4.1, s4.2.1, s4.2.2.1, (s4.2.2.2 + (1 : Int32)))))))
    (fun k s => s.2.2.2 = nI k ∧ ∃ he tu la, s.1 = nI he ∧ he < nC (sL S) ∧ s.2.1 = nI tu ∧ s.2.2.1 = (if la = -2 then -1 else la) ∧ (la = -2 ∨ ∃ j, j ≤ 99 ∧ la = nI j) ∧ ftB (sL S) p (nQ (sL S)) (frs (sL S) p) 0 (-2) rw = ftB (sL S) p (nQ (sL S) - k) he tu la rw)
    (fun x => (x = .inl () ∧ ftB (sL S) p (nQ (sL S)) (frs (sL S) p) 0 (-2) rw = true) ∨ (x = .inr () ∧ ftB (sL S) p (nQ (sL S)) (frs (sL S) p) 0 (-2) rw = false)) (nQ (sL S)) (s0 := (nI (frs (sL S) p), (0 : Int32), (-1 : Int32), (0 : Int32))) (by omega) ⟨rfl, frs (sL S) p, 0, -2, rfl, ok.2.2.2.2.2.2.1 p hp, rfl, rfl, Or.inl rfl, rfl⟩ (by
      rintro k ⟨s1, s2, s3, s4⟩ hk ⟨x1, he, tu, la, x2, x3, x4, x5, x6, x7⟩
      dsimp only at x1 x2 x4 x5 ⊢
      subst x1 x2 x4 x5
      obtain ⟨j, hj⟩ : ∃ j, nQ (sL S) - k = j + 1 := ⟨nQ (sL S) - k - 1, by omega⟩
      have ek : nQ (sL S) - (j + 1) = k := by omega
      have ej : nQ (sL S) - (k + 1) = j := by omega
      rw [hj] at x7
      have qc := ok.2.2.2.2.2.2.2.2 k hk
      obtain ⟨jk, jk1, jk2⟩ := lb.2.2.1 k hk
      rw [show ftB (sL S) p (j + 1) he tu la rw = if cpe (sL S) (nQ (sL S) - (j + 1)) = p then gdB (sL S) p he tu la (nQ (sL S) - (j + 1)) (rw (nQ (sL S) - (j + 1))) && ftB (sL S) p j (rw (nQ (sL S) - (j + 1))) (tu + 1) (cho (sL S) (nQ (sL S) - (j + 1))) rw else ftB (sL S) p j he tu la rw from rfl, ek] at x7
      have hr := hrw k
      rw [q1, Option.bind_some, g6, Option.bind_some, if_neg (nI_nle' hk (by omega)), Option.bind_some, ha19, Option.bind_some, f19 k hk, Option.bind_some]
      by_cases z : cpe (sL S) k = p
      · rw [if_pos z] at x7
        rw [if_pos (by rw [z]), g25, Option.bind_some, e3.at (by omega) (by decide), Option.bind_some]
        by_cases w1 : rw k = he
        · rw [if_pos (by rw [w1])]
          right
          refine ⟨_, rfl, Or.inr ⟨rfl, ?_⟩⟩
          rw [x7]
          unfold gdB
          simp [w1]
        · rw [if_neg (fun w => w1 ((nI_eq (by omega) (by omega)).mp w)), Option.bind_some, e3.at (by omega) (by decide), Option.bind_some]
          have ago : (if ¬ (if la = -2 then -1 else la) = (-1 : Int32) then ((some (some i)).bind fun v16 => (gR h 11 v16 21).bind fun v17 => (aI h v17 (nI k)).bind fun v18 => some (v18 - (if la = -2 then -1 else la))) else (some (-1 : Int32)) : Option (Int32)) = some (if la = -2 then -1 else cho (sL S) k - la) := by
            rcases x6 with y | ⟨j0, y1, y2⟩
            · rw [if_pos y, if_pos y, if_neg (fun w => w rfl)]
            · have n1 : ¬ la = -2 := by
                rw [y2]; intro w
                have := nI_pos (n := j0) (by omega)
                rw [w] at this
                exact this (by decide)
              have n2 : ¬ la = -1 := by
                rw [y2]; intro w
                have := nI_pos (n := j0) (by omega)
                rw [w] at this
                exact this (by decide)
              rw [if_neg n1, if_neg n1, if_pos n2, Option.bind_some, ha21, Option.bind_some, hA21 k hk, Option.bind_some]
          rw [ago, Option.bind_some, e0.cl, tx he x3 (rw k) hr, Option.bind_some, Option.bind_some, ha20, Option.bind_some, hA20 k hk, Option.bind_some, nI_s, nI_s, show taxS (sL S) (-1) (third (sL S)) p he (rw k) (nI tu) (if la = -2 then -1 else cho (sL S) k - la) = rtS (sL S) p he tu la k (rw k) from rfl]
          by_cases w2 : rtS (sL S) p he tu la k (rw k) = cam (sL S) k
          · rw [if_pos w2, Option.bind_some, e3.at (by omega) (by decide), Option.bind_some, Option.bind_some, ha21, Option.bind_some, hA21 k hk, Option.bind_some]
            left
            refine ⟨_, rfl, rfl, rw k, tu + 1, cho (sL S) k, rfl, hr, rfl, ?_, Or.inr ⟨jk, jk1, jk2⟩, ?_⟩
            · dsimp only
              rw [if_neg]
              rw [jk2]; intro w
              have := nI_pos (n := jk) (by omega)
              rw [w] at this
              exact this (by decide)
            · rw [x7, ej]
              unfold gdB
              simp [w1, w2]
          · rw [if_neg w2]
            right
            refine ⟨_, rfl, Or.inr ⟨rfl, ?_⟩⟩
            rw [x7]
            unfold gdB
            simp [w2]
      · rw [if_neg z] at x7
        rw [if_neg (fun w => z ((nI_eq (by omega) (by omega)).mp w)), nI_s]
        left
        exact ⟨_, rfl, rfl, he, tu, la, rfl, x3, rfl, rfl, x6, by rw [x7, ej]⟩) (by
      rintro ⟨s1, s2, s3, s4⟩ ⟨x1, he, tu, la, x2, x3, x4, x5, x6, x7⟩
      dsimp only at x1 x2 x4 x5 ⊢
      subst x1
      rw [q1, Option.bind_some, g6, Option.bind_some, if_pos (nI_le (Nat.le_refl _) (by omega))]
      refine ⟨_, rfl, Or.inl ⟨rfl, ?_⟩⟩
      rw [x7, Nat.sub_self]
      rfl)
  rw [l1, Option.bind_some]
  rcases l2 with ⟨rfl, l3⟩ | ⟨rfl, l3⟩
  · rw [if_pos l3]
  · rw [l3]
    rfl
end Q6
section Q7
variable {L : LawD} {p : Nat}
theorem nx_st {rw : Nat → Nat} {j : Nat} (h : (nxR L p j rw).1 = true) : ∀ d, nxR L p (j + d) rw = nxR L p j rw
  | 0 => rfl
  | d + 1 => by
    have ih := nx_st h d
    show (if (nxR L p (j + d) rw).1 = true then nxR L p (j + d) rw else _) = _
    rw [ih, if_pos h]
theorem nx_lt {rw : Nat → Nat} (h1 : 1 ≤ nC L) (h : ∀ k, rw k < nC L) : ∀ j k, (nxR L p j rw).2 k < nC L
  | 0, k => h k
  | j + 1, k => by
    have ih := nx_lt h1 h j
    show (if (nxR L p j rw).1 = true then nxR L p j rw else if cpe L (nQ L - (j + 1)) = p then (if (nxR L p j rw).2 (nQ L - (j + 1)) + 1 < nC L then (true, upN (nxR L p j rw).2 (nQ L - (j + 1)) ((nxR L p j rw).2 (nQ L - (j + 1)) + 1)) else (false, upN (nxR L p j rw).2 (nQ L - (j + 1)) 0)) else (false, (nxR L p j rw).2) : Bool × (Nat → Nat)).2 k < nC L
    split
    · exact ih k
    · split
      · split
        · rename_i w
          show upN _ _ _ k < _
          unfold upN
          split
          · exact w
          · exact ih k
        · show upN _ _ _ k < _
          unfold upN
          split
          · omega
          · exact ih k
      · exact ih k
end Q7
section Q8
variable {al : Option Int32} {h : PH} {i c p : Nat} {S : StD} {R : RwD} {rw : Nat → Nat}
theorem RmS.rwset {h1 : PH} {rw1 : Nat → Nat} (e : RmS al h i S R rw) (f : Fr h h1 292 293) (a : Fu h1 292 5 (fun k => nI (rw1 k))) : RmS al h1 i S R rw1 := by
  obtain ⟨e0, e1, e2, e3, ⟨fr, e4, e4'⟩, ⟨ct, e5, e5'⟩⟩ := e
  exact ⟨e0.sc (f.wd (by omega) (by omega)) ⟨⟨_, a⟩, ⟨_, e4.fr f (by omega)⟩, ⟨_, e5.fr f (by omega)⟩⟩, e1.fr (f.2 _ (by omega)), ⟨by rw [gI_c (f.2 _ (by omega))]; exact e2.1, by rw [gI_c (f.2 _ (by omega))]; exact e2.2⟩, a, ⟨fr, e4.fr f (by omega), e4'⟩, ⟨ct, e5.fr f (by omega), e5'⟩⟩
theorem mod_nxr (e : RmS al h i S R rw) (o : SOk c S) (hp : p < nP (sL S)) (hrw : ∀ k, rw k < nC (sL S)) : ∃ h1, f_M_nextRow h (some 285) (nI p) = some ((if (nxR (sL S) p (nQ (sL S)) rw).1 = true then 1 else 0), h1) ∧ RmS al h1 i S R (nxR (sL S) p (nQ (sL S)) rw).2 ∧ Fr h h1 292 293 := by
  have lf := o.lfP hp
  have ok := o.ok lf
  have h4 := ok.2.2.2.2.1
  have h5 := ok.2.2.1
  have h6 := ok.2.1
  have hlt := nx_lt (p := p) ok.1 hrw
  have q1 := e.1.lwR
  have m3 := (e.1.ye' lf).2
  obtain ⟨⟨-, -, -, -, -, -, g6, -⟩, -⟩ := m3.v ok
  unfold f_M_nextRow
  rw [q1, Option.bind_some, g6, Option.bind_some]
  refine exB (f := fun h9 => ((if (nxR (sL S) p (nQ (sL S)) rw).1 = true then (1 : Int32) else 0), h9)) (fun x => ∃ h9, ((x = .inl h9 ∧ (nxR (sL S) p (nQ (sL S)) rw).1 = false) ∨ (x = .inr h9 ∧ (nxR (sL S) p (nQ (sL S)) rw).1 = true)) ∧ RmS al h9 i S R (nxR (sL S) p (nQ (sL S)) rw).2 ∧ Fr h h9 292 293) (pj_inv (fun k s => s.1 = nI (nQ (sL S) - k) - 1 ∧ (nxR (sL S) p k rw).1 = false ∧ RmS al s.2 i S R (nxR (sL S) p k rw).2 ∧ Fr h s.2 292 293) _ (nQ (sL S)) (by omega) ⟨rfl, rfl, e, Fr.rf⟩ ?_ ?_) ?_
  · rintro k ⟨s1, s2⟩ hk ⟨x1, x2, x3, x4⟩
    dsimp only at x1 x3 x4 ⊢
    obtain ⟨j, hj⟩ : ∃ j, nQ (sL S) - k = j + 1 := ⟨nQ (sL S) - k - 1, by omega⟩
    have ek : nQ (sL S) - (k + 1) = j := by omega
    have hjq : j < nQ (sL S) := by omega
    rw [hj, nI_pred] at x1
    subst x1
    have qc := ok.2.2.2.2.2.2.2.2 j hjq
    have m3 := (x3.1.ye' lf).2
    have q1 := x3.1.lwR
    have g25 := x3.1.g25.1
    obtain ⟨⟨-, -, g2, -⟩, -, -, -, -, -, ⟨⟨a19, ha19, hA19⟩, -⟩, -⟩ := m3.v ok
    have f19 : aI s2 (some a19) (nI j) = some (nI (cpe (sL S) j)) := hA19 j hjq
    have en : nxR (sL S) p (k + 1) rw = if cpe (sL S) j = p then (if (nxR (sL S) p k rw).2 j + 1 < nC (sL S) then (true, upN (nxR (sL S) p k rw).2 j ((nxR (sL S) p k rw).2 j + 1)) else (false, upN (nxR (sL S) p k rw).2 j 0)) else (false, (nxR (sL S) p k rw).2) := by
      show (if (nxR (sL S) p k rw).1 = true then nxR (sL S) p k rw else if cpe (sL S) (nQ (sL S) - (k + 1)) = p then (if (nxR (sL S) p k rw).2 (nQ (sL S) - (k + 1)) + 1 < nC (sL S) then (true, upN (nxR (sL S) p k rw).2 (nQ (sL S) - (k + 1)) ((nxR (sL S) p k rw).2 (nQ (sL S) - (k + 1)) + 1)) else (false, upN (nxR (sL S) p k rw).2 (nQ (sL S) - (k + 1)) 0)) else (false, (nxR (sL S) p k rw).2)) = _
      rw [x2, if_neg (by decide), ek]
    have hl := hlt k j
    rw [if_neg (nI_pos (by omega)), q1, Option.bind_some, ha19, Option.bind_some, f19, Option.bind_some]
    have em : nI j + (-1 : Int32) = nI (nQ (sL S) - (k + 1)) - 1 := by rw [ek, Int32.sub_eq_add_neg]
    by_cases z : cpe (sL S) j = p
    · rw [if_pos (by rw [z]), g25, Option.bind_some, x3.2.2.2.1.at (by omega) (by decide), Option.bind_some, nI_s]
      obtain ⟨h2, b1, b2, b3⟩ := x3.2.2.2.1.set (p := j) (by omega) (by decide) (nI ((nxR (sL S) p k rw).2 j + 1))
      have b2' : Fu h2 292 5 (fun q => nI (upN (nxR (sL S) p k rw).2 j ((nxR (sL S) p k rw).2 j + 1) q)) := b2.eq (fun q _ => by unfold up1 upN; split <;> rfl)
      have y := x3.rwset b3 b2'
      have m4 := (y.1.ye' lf).2
      obtain ⟨⟨-, -, g2', -⟩, -⟩ := m4.v ok
      rw [b1, Option.bind_some, y.1.g25.1, Option.bind_some, b2.at (by omega) (by decide), Option.bind_some, y.1.lwR, Option.bind_some, g2', Option.bind_some]
      rw [show up1 (fun k_1 => nI ((nxR (sL S) p k rw).2 k_1)) j (nI ((nxR (sL S) p k rw).2 j + 1)) j = nI ((nxR (sL S) p k rw).2 j + 1) from if_pos rfl]
      rw [if_pos z] at en
      by_cases w : (nxR (sL S) p k rw).2 j + 1 < nC (sL S)
      · rw [if_neg (nI_nle' w (by omega))]
        rw [if_pos w] at en
        right
        have es := nx_st (L := sL S) (p := p) (rw := rw) (j := k + 1) (by rw [en]) (nQ (sL S) - (k + 1))
        rw [show k + 1 + (nQ (sL S) - (k + 1)) = nQ (sL S) by omega, en] at es
        refine ⟨_, rfl, h2, Or.inr ⟨rfl, by rw [es]⟩, ?_, x4.tr b3⟩
        rw [es]
        exact y
      · rw [if_pos (nI_le (by omega) (by omega)), Option.bind_some]
        rw [if_neg w] at en
        obtain ⟨h3, c1, c2, c3⟩ := b2'.set (p := j) (by omega) (by decide) (nI 0)
        rw [show (0 : Int32) = nI 0 from rfl, c1, Option.bind_some]
        left
        refine ⟨_, rfl, em, by rw [en], ?_, (x4.tr b3).tr c3⟩
        dsimp only
        rw [en]
        refine y.rwset c3 (c2.eq (fun q _ => ?_))
        unfold up1 upN
        dsimp only
        by_cases v : q = j
        · rw [if_pos v, if_pos v]
        · rw [if_neg v, if_neg v, if_neg v]
    · rw [if_neg (fun w => z ((nI_eq (by omega) (by omega)).mp w))]
      rw [if_neg z] at en
      left
      refine ⟨_, rfl, em, by rw [en], ?_, x4⟩
      dsimp only
      rw [en]
      exact x3
  · rintro ⟨s1, s2⟩ ⟨x1, x2, x3, x4⟩
    dsimp only at x1 x3 x4 ⊢
    rw [Nat.sub_self] at x1
    subst x1
    rw [if_pos (by decide)]
    exact ⟨_, rfl, s2, Or.inl ⟨rfl, x2⟩, x3, x4⟩
  · rintro x ⟨h9, y1, y2, y3⟩
    refine ⟨h9, ?_, y2, y3⟩
    rcases y1 with ⟨rfl, y⟩ | ⟨rfl, y⟩
    · rw [y]; rfl
    · rw [y]; rfl
/-- a row that fits is counted -/
theorem mod_count (e : RmS al h i S R rw) (o : SOk c S) (hp : p < nP (sL S)) (hrw : ∀ k, rw k < nC (sL S)) (hR : R.1 < 4000) : ∃ h1, ((gI h 12 (some 285) 28).bind fun v15 => (if ¬ v15 = 0 then (some h) else ((pj_it (X := PH) (fun s17 : Int32 × PH => if (5 : Int32) ≤ s17.1 then (some (.inr s17.2)) else ((gR s17.2 12 (some 285) 26).bind fun v19 => (gR s17.2 12 (some 285) 25).bind fun v20 => (aI s17.2 v20 s17.1).bind fun v21 => (sA s17.2 50 v19 s17.1 (.inl v21)).bind fun h22 => some (.inl ((s17.1 + (1 : Int32)), h22)))) FU ((0 : Int32), h)).bind fun x18 => some x18) : Option (PH)).bind fun j16 => (gI j16 12 (some 285) 28).bind fun v23 => (sF j16 12 (some 285) 28 (.inl (v23 + (1 : Int32)))).bind fun h24 => (pj_it (X := PH) (fun s25 : Int32 × PH => (gR s25.2 12 (some 285) 3).bind fun v27 => (gI s25.2 11 v27 6).bind fun v28 => if v28 ≤ s25.1 then (some (.inr s25.2)) else ((gR s25.2 12 (some 285) 3).bind fun v29 => (gR s25.2 11 v29 19).bind fun v30 => (aI s25.2 v30 s25.1).bind fun v31 => if ¬ v31 = nI p then (some (.inl ((s25.1 + (1 : Int32)), s25.2))) else ((gR s25.2 12 (some 285) 27).bind fun v32 => (gR s25.2 12 (some 285) 25).bind fun v33 => (aI s25.2 v33 s25.1).bind fun v34 => (aI s25.2 v32 (((5 : Int32) * s25.1) + v34)).bind fun v35 => (sA s25.2 50 v32 (((5 : Int32) * s25.1) + v34) (.inl (v35 + (1 : Int32)))).bind fun h36 => some (.inl ((s25.1 + (1 : Int32)), h36))))) FU ((0 : Int32), h24)).bind fun x26 => some x26) = some h1 ∧ RmS al h1 i S (vsR (sL S) p rw R) rw ∧ Fr h h1 285 295 := by
  have lf := o.lfP hp
  have ok := o.ok lf
  have h4 := ok.2.2.2.2.1
  have h5 := ok.2.2.1
  have h6 := ok.2.1
  obtain ⟨e0, e1, e2, e3, ⟨fr, e4, e4'⟩, ⟨ct, e5, e5'⟩⟩ := id e
  rw [e2.1, Option.bind_some]
  have first : ∃ x, (if ¬ nI R.1 = 0 then (some h) else ((pj_it (X := PH) (fun s17 : Int32 × PH => if (5 : Int32) ≤ s17.1 then (some (.inr s17.2)) else ((gR s17.2 12 (some 285) 26).bind fun v19 => (gR s17.2 12 (some 285) 25).bind fun v20 => (aI s17.2 v20 s17.1).bind fun v21 => (sA s17.2 50 v19 s17.1 (.inl v21)).bind fun h22 => some (.inl ((s17.1 + (1 : Int32)), h22)))) FU ((0 : Int32), h)).bind fun x18 => some x18) : Option (PH)) = some x ∧ (∃ fr1, Fu x 293 5 fr1 ∧ ∀ k, k < 5 → fr1 k = nI ((if R.1 = 0 then rw else R.2.2) k)) ∧ Fr h x 293 294 := by
    by_cases z : R.1 = 0
    · rw [if_neg (by rw [z]; exact fun q => q rfl), if_pos z]
      obtain ⟨x, l1, l2, l3⟩ := pj_inv (step := fun s17 : Int32 × PH => if (5 : Int32) ≤ s17.1 then (some (.inr s17.2) : Option ((Int32 × PH) ⊕ PH)) else ((gR s17.2 12 (some 285) 26).bind fun v19 => (gR s17.2 12 (some 285) 25).bind fun v20 => (aI s17.2 v20 s17.1).bind fun v21 => (sA s17.2 50 v19 s17.1 (.inl v21)).bind fun h22 => some (.inl ((s17.1 + (1 : Int32)), h22)))) (fun k s => s.1 = nI k ∧ (∃ fr1, Fu s.2 293 5 fr1 ∧ ∀ q, q < k → fr1 q = nI (rw q)) ∧ Fr h s.2 293 294) (fun x => (∃ fr1, Fu x 293 5 fr1 ∧ ∀ k, k < 5 → fr1 k = nI (rw k)) ∧ Fr h x 293 294) 5 (s0 := ((0 : Int32), h)) (by omega) ⟨rfl, ⟨fr, e4, fun q hq => absurd hq (Nat.not_lt_zero q)⟩, Fr.rf⟩ (by
          rintro k ⟨s1, s2⟩ hk ⟨x1, ⟨fr1, x2, x3⟩, x4⟩
          dsimp only at x1 x2 x4 ⊢
          subst x1
          left
          obtain ⟨h2, b1, b2, b3⟩ := x2.set (p := k) hk (by decide) (nI (rw k))
          rw [if_neg (show ¬ (5 : Int32) ≤ nI k from nI_nle' (b := 5) hk (by omega)), gR_c (x4.2 285 (by omega)), e0.g25.2.1, Option.bind_some, gR_c (x4.2 285 (by omega)), e0.g25.1, Option.bind_some, (e3.fr x4 (by omega)).at hk (by decide), Option.bind_some, b1, Option.bind_some, nI_s]
          refine ⟨_, rfl, rfl, ⟨_, b2, fun q hq => ?_⟩, x4.tr b3⟩
          unfold up1
          by_cases w : q = k
          · rw [if_pos w, w]
          · rw [if_neg w]; exact x3 q (by omega)) (by
          rintro ⟨s1, s2⟩ ⟨x1, x2, x4⟩
          dsimp only at x1 x2 x4 ⊢
          subst x1
          rw [if_pos (show (5 : Int32) ≤ nI 5 by decide)]
          exact ⟨_, rfl, x2, x4⟩)
      exact ⟨x, by rw [l1, Option.bind_some], l2, l3⟩
    · rw [if_pos (fun q => z ((nI_e0 (by omega)).mp q)), if_neg z]
      exact ⟨h, rfl, ⟨fr, e4, fun k hk => e4' (by omega) k hk⟩, Fr.rf⟩
  obtain ⟨x, f1, ⟨fr1, f2, f2'⟩, f3⟩ := first
  rw [f1, Option.bind_some]
  have ex : Mst x (some i) S := e0.sc (f3.wd (by omega) (by omega)) ⟨⟨_, e3.fr f3 (by omega)⟩, ⟨_, f2⟩, ⟨_, e5.fr f3 (by omega)⟩⟩
  obtain ⟨h2, s1, s2, s3, s4, s5⟩ := ex.sf (k := 28) (.inl (nI (R.1 + 1))) (by omega)
  rw [gI_c (f3.2 285 (by omega)), e2.1, Option.bind_some, nI_s, s1, Option.bind_some]
  have mv : ModV h2 285 i (-1) (third (sL S)) := (e1.fr (f3.2 285 (by omega))).fv s5 (by omega)
  have r292 := (e3.fr f3 (by omega)).fr s3 (by omega)
  have r293 := f2.fr s3 (by omega)
  have r294 := (e5.fr f3 (by omega)).fr s3 (by omega)
  obtain ⟨y, l1, l2, l3⟩ := pj_inv (step := fun s25 : Int32 × PH => (gR s25.2 12 (some 285) 3).bind fun v27 => (gI s25.2 11 v27 6).bind fun v28 => if v28 ≤ s25.1 then (some (.inr s25.2) : Option ((Int32 × PH) ⊕ PH)) else ((gR s25.2 12 (some 285) 3).bind fun v29 => (gR s25.2 11 v29 19).bind fun v30 => (aI s25.2 v30 s25.1).bind fun v31 => if ¬ v31 = nI p then (some (.inl ((s25.1 + (1 : Int32)), s25.2))) else ((gR s25.2 12 (some 285) 27).bind fun v32 => (gR s25.2 12 (some 285) 25).bind fun v33 => (aI s25.2 v33 s25.1).bind fun v34 => (aI s25.2 v32 (((5 : Int32) * s25.1) + v34)).bind fun v35 => (sA s25.2 50 v32 (((5 : Int32) * s25.1) + v34) (.inl (v35 + (1 : Int32)))).bind fun h36 => some (.inl ((s25.1 + (1 : Int32)), h36))))) (fun n s => s.1 = nI n ∧ (∃ ct1, Fu s.2 294 25 ct1 ∧ ∀ k c, k < 5 → c < 5 → ct1 (5 * k + c) = nI (if k < n ∧ cpe (sL S) k = p ∧ c = rw k then R.2.1 k c + 1 else R.2.1 k c)) ∧ Fr h2 s.2 294 295) (fun y => (∃ ct1, Fu y 294 25 ct1 ∧ ∀ k c, k < 5 → c < 5 → ct1 (5 * k + c) = nI (if k < nQ (sL S) ∧ cpe (sL S) k = p ∧ c = rw k then R.2.1 k c + 1 else R.2.1 k c)) ∧ Fr h2 y 294 295) (nQ (sL S)) (s0 := ((0 : Int32), h2)) (by omega) ⟨rfl, ⟨ct, r294, fun k c hk hc => by rw [if_neg (fun q => absurd q.1 (Nat.not_lt_zero k))]; exact e5' k c hk hc⟩, Fr.rf⟩ (by
      rintro n ⟨t1, t2⟩ hn ⟨x1, ⟨ct1, x2, x3⟩, x4⟩
      dsimp only at x1 x2 x4 ⊢
      subst x1
      left
      have et : Mst t2 (some i) S := s2.sc (x4.wd (by omega) (by omega)) ⟨⟨_, r292.fr x4 (by omega)⟩, ⟨_, r293.fr x4 (by omega)⟩, ⟨_, x2⟩⟩
      have qc := ok.2.2.2.2.2.2.2.2 n hn
      have m3 := (et.ye' lf).2
      obtain ⟨⟨-, -, -, -, -, -, g6, -⟩, -, -, -, -, -, ⟨⟨a19, ha19, hA19⟩, -⟩, -⟩ := m3.v ok
      have f19 : aI t2 (some a19) (nI n) = some (nI (cpe (sL S) n)) := hA19 n hn
      have hr := hrw n
      rw [et.lwR, Option.bind_some, g6, Option.bind_some, if_neg (nI_nle' hn (by omega)), Option.bind_some, ha19, Option.bind_some, f19, Option.bind_some, nI_s]
      by_cases z : cpe (sL S) n = p
      · rw [if_neg (by rw [z]; exact fun q => q rfl), et.g25.2.2, Option.bind_some, et.g25.1, Option.bind_some, (r292.fr x4 (by omega)).at (by omega) (by decide), Option.bind_some, nI_5, x2.at (by omega) (by decide), Option.bind_some, x3 n (rw n) (by omega) (by omega), if_neg (fun q => absurd q.1 (Nat.lt_irrefl n)), nI_s]
        obtain ⟨h3, b1, b2, b3⟩ := x2.set (p := 5 * n + rw n) (by omega) (by decide) (nI (R.2.1 n (rw n) + 1))
        rw [b1, Option.bind_some]
        refine ⟨_, rfl, rfl, ⟨_, b2, fun k c hk hc => ?_⟩, x4.tr b3⟩
        unfold up1
        by_cases w : 5 * k + c = 5 * n + rw n
        · have w1 : k = n := by omega
          have w2 : c = rw n := by omega
          rw [if_pos w, if_pos ⟨by omega, by rw [w1]; exact z, by rw [w2, w1]⟩, w1, w2]
        · rw [if_neg w, x3 k c hk hc]
          by_cases v : k = n
          · subst v
            rw [if_neg (fun q => absurd q.1 (Nat.lt_irrefl k)), if_neg (fun q => w (by rw [q.2.2]))]
          · by_cases v2 : k < n
            · simp only [v2, show k < n + 1 by omega, true_and]
            · rw [if_neg (fun q => v2 q.1), if_neg (fun q => by omega)]
      · rw [if_pos (fun w => z ((nI_eq (by omega) (by omega)).mp w))]
        refine ⟨_, rfl, rfl, ⟨ct1, x2, fun k c hk hc => ?_⟩, x4⟩
        rw [x3 k c hk hc]
        by_cases v : k = n
        · subst v
          rw [if_neg (fun q => z q.2.1), if_neg (fun q => z q.2.1)]
        · by_cases v2 : k < n
          · simp only [v2, show k < n + 1 by omega, true_and]
          · rw [if_neg (fun q => v2 q.1), if_neg (fun q => by omega)]) (by
      rintro ⟨t1, t2⟩ ⟨x1, x2, x4⟩
      dsimp only at x1 x2 x4 ⊢
      subst x1
      obtain ⟨ct1, x2, x3⟩ := x2
      have et : Mst t2 (some i) S := s2.sc (x4.wd (by omega) (by omega)) ⟨⟨_, r292.fr x4 (by omega)⟩, ⟨_, r293.fr x4 (by omega)⟩, ⟨_, x2⟩⟩
      have m3 := (et.ye' lf).2
      obtain ⟨⟨-, -, -, -, -, -, g6, -⟩, -⟩ := m3.v ok
      rw [et.lwR, Option.bind_some, g6, Option.bind_some, if_pos (nI_le (Nat.le_refl _) (by omega))]
      exact ⟨_, rfl, ⟨ct1, x2, x3⟩, x4⟩)
  rw [l1, Option.bind_some]
  obtain ⟨ct1, l2, l2'⟩ := l2
  refine ⟨y, rfl, ⟨s2.sc (l3.wd (by omega) (by omega)) ⟨⟨_, r292.fr l3 (by omega)⟩, ⟨_, r293.fr l3 (by omega)⟩, ⟨_, l2⟩⟩, mv.fr (l3.2 _ (by omega)), ⟨?_, ?_⟩, r292.fr l3 (by omega), ⟨fr1, r293.fr l3 (by omega), fun _ k hk => f2' k hk⟩, ⟨ct1, l2, l2'⟩⟩, ((f3.wd (by omega) (by omega)).tr (s3.wd (by omega) (by omega))).tr (l3.wd (by omega) (by omega))⟩
  · rw [gI_c (l3.2 _ (by omega))]
    exact gV_I s4
  · rw [gI_c (l3.2 _ (by omega)), gI_v (s5 29 (by omega)), gI_c (f3.2 285 (by omega))]
    exact e2.2
theorem pu_0 {L : LawD} : ∀ j (rw : Nat → Nat), puR L p j (fun _ => 0) 0 = fun _ => 0
  | 0, _ => rfl
  | j + 1, rw => by
    have ih := pu_0 (L := L) j rw
    show (if cpe L (nQ L - (j + 1)) = p then puR L p j (upN (fun _ => 0) (nQ L - (j + 1)) (0 / Mj L p j)) (0 % Mj L p j) else puR L p j (fun _ => 0) 0) = _
    rw [Nat.zero_div, Nat.zero_mod]
    have : upN (fun _ => 0) (nQ L - (j + 1)) 0 = fun _ => 0 := by
      funext q; unfold upN; split <;> rfl
    rw [this, ih]
    split <;> rfl
theorem Mst.to' {ml : Option Nat} (e : Mst h ml S) (lf : sLf S = true) : ∃ h1 i, Jvm.Pilot.CWaverTaxLaw_law_r8537_6f3a17.cl h 12 (some 285) (f_M_asTold h (some 285)) = some h1 ∧ Mst h1 ml S ∧ ml = some i ∧ ModV h1 285 i (-1) (third (sL S)) ∧ Fr h h1 285 286 ∧ ∀ j, j ≠ 21 → j ≠ 22 → gV h1 12 (some 285) j = gV h 12 (some 285) j := by
  obtain ⟨h1, a1, b1, f1, g1, g1'⟩ := e.sf (k := 21) (.inl (-1)) (by omega)
  obtain ⟨h2, a2, b2, f2, g2, g3⟩ := b1.sf (k := 22) (.inl (third (sL S))) (by omega)
  obtain ⟨i, q1, q2, q3⟩ := b2.ye lf
  obtain ⟨i1, p1, p2, G, p3, p4, -⟩ := b1.ye lf
  refine ⟨h2, i, ?_, b2, q1, ⟨by rw [b2.lwR, q1], gV_I (by rw [g3 21 (by omega), g1]), gV_I g2⟩, f1.tr f2, fun j x y => by rw [g3 j y, g1' j x]⟩
  rw [e.cl]
  unfold f_M_asTold
  rw [a1, Option.bind_some, b1.lwR, Option.bind_some, p1, p3.gi (by omega) p4.2.1, Option.bind_some, a2, Option.bind_some]
/-- a row of the reference is wiped -/
theorem mod_wipe {a n k : Nat} {f : Nat → Int32} {x : Int32} (hx : x = nI n) (hn : n < 1000) (ha : a ≠ 285) (g : gR h 12 (some 285) k = some (some a)) (e : Fu h a n f) : ∃ h1, pj_it (X := PH) (fun s3 : Int32 × PH => if x ≤ s3.1 then (some (.inr s3.2)) else ((gR s3.2 12 (some 285) k).bind fun v5 => (sA s3.2 50 v5 s3.1 (.inl (0 : Int32))).bind fun h6 => some (.inl ((s3.1 + (1 : Int32)), h6)))) FU ((0 : Int32), h) = some h1 ∧ Fu h1 a n (fun _ => 0) ∧ Fr h h1 a (a + 1) := by
  subst hx
  refine pj_inv (fun i s => s.1 = nI i ∧ (∃ g, Fu s.2 a n g ∧ ∀ q, q < i → g q = 0) ∧ Fr h s.2 a (a + 1)) (fun y => Fu y a n (fun _ => 0) ∧ Fr h y a (a + 1)) n (by omega) ⟨rfl, ⟨f, e, fun q hq => absurd hq (Nat.not_lt_zero q)⟩, Fr.rf⟩ ?_ ?_
  · rintro i ⟨s1, s2⟩ hi ⟨x1, ⟨g1, x2, x3⟩, x4⟩
    dsimp only at x1 x2 x4 ⊢
    subst x1
    left
    obtain ⟨h2, b1, b2, b3⟩ := x2.set hi (by omega) 0
    rw [if_neg (nI_ge hi (by omega)), gR_c (x4.2 285 (by omega)), g, Option.bind_some, b1, Option.bind_some, nI_s]
    refine ⟨_, rfl, rfl, ⟨_, b2, fun q hq => ?_⟩, x4.tr b3⟩
    unfold up1
    by_cases w : q = i
    · rw [if_pos w]
    · rw [if_neg w]; exact x3 q (by omega)
  · rintro ⟨s1, s2⟩ ⟨x1, ⟨g1, x2, x3⟩, x4⟩
    dsimp only at x1 x2 x4 ⊢
    subst x1
    rw [if_pos (nI_le (Nat.le_refl _) (by omega))]
    exact ⟨_, rfl, x2.eq x3, x4⟩
theorem mod_rows {ml : Option Nat} (e : Mst h ml S) (o : SOk c S) (hp : p < nP (sL S)) : ∃ h1, Jvm.Pilot.CWaverTaxLaw_law_r8537_6f3a17.cl h 12 (some 285) (f_M_rowsOf h (some 285) (nI p)) = some h1 ∧ ∃ i rw, ml = some i ∧ RmS (gI h 12 (some 285) 29) h1 i S (RS (sL S) p) rw ∧ Fr h h1 285 295 := by
  have lf := o.lfP hp
  have ok := o.ok lf
  have h4 := ok.2.2.2.2.1
  have h5 := ok.2.2.1
  have h6 := ok.2.1
  have hM0 := Mj_pos (p := p) ok.1 (nQ (sL S))
  have hM1 := Mj_le (p := p) h6 (nQ (sL S))
  have hM2 : 5 ^ nQ (sL S) ≤ 5 ^ 5 := Nat.pow_le_pow_right (by omega) h4
  obtain ⟨h1, i, a1, a2, rfl, a4, a5, a6⟩ := e.to' lf
  obtain ⟨h2, b1, b2, b3, b4, b5⟩ := a2.sf (k := 28) (.inl (0 : Int32)) (by omega)
  obtain ⟨F, -, -, -, ⟨-, -, ⟨f2, d2⟩, ⟨f3, d3⟩, ⟨f4, d4⟩⟩, -⟩ := id b2
  obtain ⟨h3, c1, c2, c3⟩ := mod_wipe (k := 27) (n := 25) (x := 25) rfl (by omega) (by omega) b2.g25.2.2 d4
  have e3 : Mst h3 (some i) S := b2.sc (c3.wd (by omega) (by omega)) ⟨⟨_, d2.fr c3 (by omega)⟩, ⟨_, d3.fr c3 (by omega)⟩, ⟨_, c2⟩⟩
  obtain ⟨h4', k1, k2, k3⟩ := mod_wipe (k := 25) (n := 5) (x := 5) rfl (by omega) (by omega) e3.g25.1 (d2.fr c3 (by omega))
  have e4 : Mst h4' (some i) S := e3.sc (k3.wd (by omega) (by omega)) ⟨⟨_, k2⟩, ⟨_, (d3.fr c3 (by omega)).fr k3 (by omega)⟩, ⟨_, c2.fr k3 (by omega)⟩⟩
  have q285 : h4'[285]? = h2[285]? := (k3.2 _ (by omega)).trans (c3.2 _ (by omega))
  have r0 : RmS (gI h 12 (some 285) 29) h4' i S R0 (fun _ => 0) := by
    refine ⟨e4, (a4.fv b5 (by omega)).fr q285, ⟨?_, ?_⟩, k2, ⟨f3, (d3.fr c3 (by omega)).fr k3 (by omega), fun q => absurd q (Nat.lt_irrefl 0)⟩, ⟨_, c2.fr k3 (by omega), fun _ _ _ _ => rfl⟩⟩
    · rw [gI_c q285]; exact gV_I b4
    · rw [gI_c q285, gI_v (b5 29 (by omega)), gI_v (a6 29 (by omega) (by omega))]
  unfold f_M_rowsOf
  rw [e.cl, a1, Option.bind_some, b1, Option.bind_some, c1, Option.bind_some, k1, Option.bind_some]
  have FA : Fr h h4' 285 295 := (((a5.wd (by omega) (by omega)).tr (b3.wd (by omega) (by omega))).tr (c3.wd (by omega) (by omega))).tr (k3.wd (by omega) (by omega))
  have pl := fun t ht => pu_lt (L := sL S) (p := p) ok.1 (nQ (sL S)) (fun _ => 0) t (fun _ => by have := ok.1; omega) ht
  refine exB (f := fun h9 => h9) (fun x => RmS (gI h 12 (some 285) 29) x i S (RS (sL S) p) (fun _ => 0) ∧ Fr h x 285 295) (pj_inv (fun t s => s.1 = (if t < Mj (sL S) p (nQ (sL S)) then 1 else 0) ∧ RmS (gI h 12 (some 285) 29) s.2 i S (foldN (vtR (sL S) p) t R0) (if t < Mj (sL S) p (nQ (sL S)) then puR (sL S) p (nQ (sL S)) (fun _ => 0) t else fun _ => 0) ∧ Fr h s.2 285 295) _ (Mj (sL S) p (nQ (sL S))) (by omega) ⟨by rw [if_pos hM0], by rw [if_pos hM0, pu_0 _ (fun _ => 0)]; exact r0, FA⟩ ?_ ?_) ?_
  · rintro t ⟨s1, s2⟩ ht ⟨x1, x2, x3⟩
    dsimp only at x1 x2 x3 ⊢
    rw [if_pos ht] at x1 x2
    subst x1
    left
    have hrw := pl t ht
    have hb := (vt_ok (p := p) ok.1 h6 t (by omega)).2
    rw [if_neg (by decide), x2.1.cl, mod_fits x2 o hp hrw, Option.bind_some]
    have mid : ∃ h9, (if (if ftB (sL S) p (nQ (sL S)) (frs (sL S) p) 0 (-2) (puR (sL S) p (nQ (sL S)) (fun _ => 0) t) = true then (1 : Int32) else 0) = 0 then (some s2) else ((gI s2 12 (some 285) 28).bind fun v15 => (if ¬ v15 = 0 then (some s2) else ((pj_it (X := PH) (fun s17 : Int32 × PH => if (5 : Int32) ≤ s17.1 then (some (.inr s17.2)) else ((gR s17.2 12 (some 285) 26).bind fun v19 => (gR s17.2 12 (some 285) 25).bind fun v20 => (aI s17.2 v20 s17.1).bind fun v21 => (sA s17.2 50 v19 s17.1 (.inl v21)).bind fun h22 => some (.inl ((s17.1 + (1 : Int32)), h22)))) FU ((0 : Int32), s2)).bind fun x18 => some x18) : Option (PH)).bind fun j16 => (gI j16 12 (some 285) 28).bind fun v23 => (sF j16 12 (some 285) 28 (.inl (v23 + (1 : Int32)))).bind fun h24 => (pj_it (X := PH) (fun s25 : Int32 × PH => (gR s25.2 12 (some 285) 3).bind fun v27 => (gI s25.2 11 v27 6).bind fun v28 => if v28 ≤ s25.1 then (some (.inr s25.2)) else ((gR s25.2 12 (some 285) 3).bind fun v29 => (gR s25.2 11 v29 19).bind fun v30 => (aI s25.2 v30 s25.1).bind fun v31 => if ¬ v31 = nI p then (some (.inl ((s25.1 + (1 : Int32)), s25.2))) else ((gR s25.2 12 (some 285) 27).bind fun v32 => (gR s25.2 12 (some 285) 25).bind fun v33 => (aI s25.2 v33 s25.1).bind fun v34 => (aI s25.2 v32 (((5 : Int32) * s25.1) + v34)).bind fun v35 => (sA s25.2 50 v32 (((5 : Int32) * s25.1) + v34) (.inl (v35 + (1 : Int32)))).bind fun h36 => some (.inl ((s25.1 + (1 : Int32)), h36))))) FU ((0 : Int32), h24)).bind fun x26 => some x26) : Option PH) = some h9 ∧ RmS (gI h 12 (some 285) 29) h9 i S (foldN (vtR (sL S) p) (t + 1) R0) (puR (sL S) p (nQ (sL S)) (fun _ => 0) t) ∧ Fr s2 h9 285 295 := by
      have ev : foldN (vtR (sL S) p) (t + 1) R0 = if ftB (sL S) p (nQ (sL S)) (frs (sL S) p) 0 (-2) (puR (sL S) p (nQ (sL S)) (fun _ => 0) t) = true then vsR (sL S) p (puR (sL S) p (nQ (sL S)) (fun _ => 0) t) (foldN (vtR (sL S) p) t R0) else foldN (vtR (sL S) p) t R0 := rfl
      by_cases z : ftB (sL S) p (nQ (sL S)) (frs (sL S) p) 0 (-2) (puR (sL S) p (nQ (sL S)) (fun _ => 0) t) = true
      · rw [if_pos z, if_neg (by decide), ev, if_pos z]
        exact mod_count x2 o hp hrw (by omega)
      · rw [if_neg z, if_pos rfl, ev, if_neg z]
        exact ⟨s2, rfl, x2, Fr.rf⟩
    obtain ⟨h9, y1, y2, y3⟩ := mid
    rw [y1, Option.bind_some]
    obtain ⟨h10, w1, w2, w3⟩ := mod_nxr y2 o hp hrw
    rw [y2.1.cl, w1, Option.bind_some]
    have np := nx_pu (L := sL S) (p := p) ok.1 (nQ (sL S)) (Nat.le_refl _) (fun _ => 0) t ht
    rw [np] at w2 ⊢
    refine ⟨_, rfl, ?_, ?_, (x3.tr y3).tr (w3.wd (by omega) (by omega))⟩
    · dsimp only
      by_cases z : t + 1 < Mj (sL S) p (nQ (sL S))
      · rw [if_pos z, if_pos z]; rfl
      · rw [if_neg z, if_neg z]; rfl
    · dsimp only
      by_cases z : t + 1 < Mj (sL S) p (nQ (sL S))
      · rw [if_pos z] at w2 ⊢; exact w2
      · rw [if_neg z] at w2 ⊢
        rw [← pu_0 (L := sL S) (p := p) (nQ (sL S)) (fun _ => 0)]
        exact w2
  · rintro ⟨s1, s2⟩ ⟨x1, x2, x3⟩
    dsimp only at x1 x2 x3 ⊢
    rw [if_neg (Nat.lt_irrefl _)] at x1 x2
    subst x1
    rw [if_pos rfl]
    refine ⟨_, rfl, ?_, x3⟩
    rw [RS_eq ok.1]
    exact x2
  · rintro x ⟨x1, x2⟩
    exact ⟨x, rfl, i, _, rfl, x1, x2⟩
end Q8
