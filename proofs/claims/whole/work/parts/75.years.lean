/-! years -/
def ypA (L : LawD) (s : NowD × Int32 × Int32) : Nat → NowD × Int32 × Int32
  | 0 => s
  | p + 1 => if chS L (ypA L s p).1 (-1) (third L) p = hel (ypA L s p).1 p then ypA L s p else (movN (ypA L s p).1 p (chS L (ypA L s p).1 (-1) (third L) p) (taxN L (ypA L s p).1 (-1) (third L) p (chS L (ypA L s p).1 (-1) (third L) p)), (ypA L s p).2.1 + taxN L (ypA L s p).1 (-1) (third L) p (chS L (ypA L s p).1 (-1) (third L) p), (ypA L s p).2.2 + 1)
def yrA (L : LawD) (s : NowD × Int32 × Int32) : Nat → NowD × Int32 × Int32
  | 0 => s
  | k + 1 => ((nhS L (ypA L (yrA L s k) (nP L)).1).2, (ypA L (yrA L s k) (nP L)).2)
def chgA (N : NowD) (n : Nat) : Int32 := foldN (fun p a => a + tur N p) n 0
section H1
variable {L : LawD} {N : NowD} {s : NowD × Int32 × Int32} {B c : Nat}
theorem yp_ok (g : NowG B c L s.1) (ok : LawOk L) (hB : B < 2000) (hc : c + 5 < 2000) : ∀ p, p ≤ nP L → NowG B (c + p) L (ypA L s p).1
  | 0, _ => g
  | p + 1, hp => by
    have ih := yp_ok g ok hB hc p (by omega)
    have h5 := ok.2.2.1
    unfold ypA
    split
    · exact ih.mono (Nat.le_refl _) (by omega)
    · exact mov_ok ih (by omega) (chS_lt ok (ih.ok (by omega) (by omega)) (by omega))
theorem yr_ok (g : NowG B c L s.1) (ok : LawOk L) (lb : LawB L) (hB : B + 60 < 2000) (hc : c + 305 < 2000) : ∀ k, k ≤ 60 → NowG (B + k) (c + 5 * k) L (yrA L s k).1
  | 0, _ => g
  | k + 1, hk => by
    have ih := yr_ok g ok lb hB hc k (by omega)
    have h5 := ok.2.2.1
    have y := yp_ok ih ok (by omega) (by omega) (nP L) (Nat.le_refl _)
    exact (nh_ok y lb (by omega) ok.2.2.2.1 (nR L) (Nat.le_refl _)).1.mono (by omega) (by omega)
theorem fold_up {f : Nat → Int32} {p : Nat} {t : Int32} : ∀ n, p < n → foldN (fun q a => a + (if q = p then f p + t else f q)) n (0 : Int32) = foldN (fun q a => a + f q) n 0 + t
  | 0, h => absurd h (Nat.not_lt_zero p)
  | n + 1, h => by
    show foldN _ n 0 + (if n = p then f p + t else f n) = foldN _ n 0 + f n + t
    by_cases z : n = p
    · subst z
      rw [if_pos rfl]
      have : ∀ m, m ≤ n → foldN (fun q a => a + (if q = n then f n + t else f q)) m (0 : Int32) = foldN (fun q a => a + f q) m 0 := by
        intro m
        induction m with
        | zero => intro _; rfl
        | succ m ih =>
          intro hm
          show foldN _ m 0 + (if m = n then f n + t else f m) = foldN _ m 0 + f m
          rw [if_neg (by omega), ih (by omega)]
      rw [this n (Nat.le_refl _), Int32.add_assoc]
    · rw [if_neg z, fold_up n (by omega)]
      generalize foldN (fun q a => a + f q) n (0 : Int32) = x1
      generalize f n = x2
      rw [Int32.add_assoc, Int32.add_assoc, Int32.add_comm t x2]
theorem sp_mov {p d : Nat} {t : Int32} (hp : p < 5) : spA (movN N p d t) 5 = spA N 5 + t := by
  unfold spA
  rw [← fold_up (f := spe N) (p := p) 5 hp]
  congr 1
  try (funext q a; simp [movN, spe, up1])
theorem ch_mov {p d : Nat} {t : Int32} (hp : p < 5) : chgA (movN N p d t) 5 = chgA N 5 + 1 := by
  unfold chgA
  rw [← fold_up (f := tur N) (p := p) 5 hp]
  congr 1
  try (funext q a; simp [movN, tur, up1])
theorem yp_sp (h5 : nP L ≤ 5) {x y : Int32} (e1 : spA s.1 5 = x + s.2.1) (e2 : chgA s.1 5 = y + s.2.2) : ∀ p, p ≤ nP L → spA (ypA L s p).1 5 = x + (ypA L s p).2.1 ∧ chgA (ypA L s p).1 5 = y + (ypA L s p).2.2
  | 0, _ => ⟨e1, e2⟩
  | p + 1, hp => by
    have ih := yp_sp h5 e1 e2 p (by omega)
    unfold ypA
    split
    · exact ih
    · dsimp only
      rw [sp_mov (by omega), ch_mov (by omega), ih.1, ih.2, Int32.add_assoc, Int32.add_assoc]
      exact ⟨rfl, rfl⟩
theorem yr_sp (g : NowG B c L s.1) (ok : LawOk L) (lb : LawB L) (hB : B + 60 < 2000) (hc : c + 305 < 2000) {x y : Int32} (e1 : spA s.1 5 = x + s.2.1) (e2 : chgA s.1 5 = y + s.2.2) : ∀ k, k ≤ 60 → spA (yrA L s k).1 5 = x + (yrA L s k).2.1 ∧ chgA (yrA L s k).1 5 = y + (yrA L s k).2.2
  | 0, _ => ⟨e1, e2⟩
  | k + 1, hk => by
    have ih := yr_sp g ok lb hB hc e1 e2 k (by omega)
    have h5 := ok.2.2.1
    have y1 := yp_sp (s := yrA L s k) h5 ih.1 ih.2 (nP L) (Nat.le_refl _)
    have y2 := yp_ok (yr_ok g ok lb hB hc k (by omega)) ok (by omega) (by omega) (nP L) (Nat.le_refl _)
    have y3 := (nh_ok y2 lb (by omega) ok.2.2.2.1 (nR L) (Nat.le_refl _)).2.2
    show spA (nhS L _).2 5 = x + (ypA L (yrA L s k) (nP L)).2.1 ∧ chgA (nhS L _).2 5 = y + (ypA L (yrA L s k) (nP L)).2.2
    unfold spA chgA nhS
    rw [y3.1, y3.2.1]
    exact y1
end H1
section H2
variable {h h1 : PH} {lw c : Nat} {S : StD} {ml : Option Nat} {N T : NowD}
theorem CI.tl (e : CI h lw S) (f : Fr h h1 170 175) (n : NowC h1 170 T) : CI h1 lw S := by
  obtain ⟨s1, ⟨a, b, x, y, d⟩, s3, s4⟩ := e.2.2.2.2.2.2.2.1
  exact e.sc (f.wd (by omega) (by omega)) ⟨⟨T, n⟩, ⟨a, b, x, y, (f.2 _ (by omega)).trans d⟩, f.lc PlC.lc (by omega) s3, f.lc RwC.lc (by omega) s4⟩
theorem DeskC.fr {lo hi : Nat} {a b : Option Nat} {x y : Int32} (d : DeskC h a b x y) (f : Fr h h1 lo hi) (q : 175 < lo ∨ hi ≤ 175) : DeskC h1 a b x y := (f.2 _ (by omega)).trans d
theorem cls_live (e : CI h lw S) (o : SOk c S) (lf : sLf S = true) {s n : Nat} (hs : s < 65537) (hn : n ≤ 60) : ∃ h1, cl h 10 (some 100) (f_T_live h (some 100) (nI s) (nI n)) = some h1 ∧ CI h1 lw S ∧ NowC h1 170 (yrA (sL S) (set0 (sNw S) 1 (nI s), 0, 0) n).1 ∧ Fr h h1 100 285 := by
  have ok := o.ok lf
  have lb := (o.2.1 lf).2.1
  have h5 := o.P5
  have h6 := o.C5
  have hc6 := o.2.2.2.2.2
  have hl := e.1
  have g0 : NowG 999 c (sL S) (set0 (sNw S) 1 (nI s)) := by
    obtain ⟨g1, g2, g3, g4, g5⟩ := (o.2.1 lf).2.2.1
    exact ⟨by rw [s0_h1]; exact g1, ⟨s, hs, s0_s1⟩, by rw [s0_c1, s0_h1]; exact g3, fun p hp => by rw [s0_t, s0_l, s0_h1, s0_e]; exact g4 p hp, fun p a b => by rw [s0_p]; exact g5 p a b⟩
  have YR := fun k (hk : k ≤ 60) => yr_ok (s := (set0 (sNw S) 1 (nI s), 0, 0)) g0 ok lb (by omega) (by omega) k hk
  obtain ⟨⟨T, tT⟩, ⟨da, db, dx, dy, dd⟩, -, -⟩ := e.2.2.2.2.2.2.2.1
  obtain ⟨h1, a1, a2, a3⟩ := cls_become tT e.2.2.2.2.2.2.1 (by omega)
  have e1 := e.tl a3 a2
  obtain ⟨h2, b1, b2, b3⟩ := a2.s0 (j := 1) (by omega) (nI s)
  have e2 := e1.tl (b3.wd (by omega) (by omega)) b2
  obtain ⟨h3, c1, c2, c3, c4⟩ := e2.lk 170
  obtain ⟨x, l1, l2, l3, l4, l5⟩ := pj_inv (step := fun s10 : Int32 × PH => if nI n ≤ s10.1 then (some (.inr s10.2) : Option ((Int32 × PH) ⊕ PH)) else ((pj_it (X := PH) (fun s12 : Int32 × PH => (gR s12.2 10 (some 100) 2).bind fun v14 => (gI s12.2 1 v14 3).bind fun v15 => if v15 ≤ s12.1 then (some (.inr s12.2)) else ((gR s12.2 10 (some 100) 8).bind fun v16 => (cl s12.2 0 v16 (f_Desk_choiceOf s12.2 v16 s12.1)).bind fun v17 => (gR s12.2 10 (some 100) 7).bind fun v18 => (gR s12.2 2 v18 3).bind fun v19 => (aI s12.2 v19 s12.1).bind fun v20 => if v17 = v20 then (some (.inl ((s12.1 + (1 : Int32)), s12.2))) else ((gR s12.2 10 (some 100) 7).bind fun v21 => (gR s12.2 10 (some 100) 8).bind fun v22 => (cl s12.2 0 v22 (f_Desk_taxOf s12.2 v22 s12.1 v17)).bind fun v23 => (cl s12.2 2 v21 (f_Now_move s12.2 v21 s12.1 v17 v23)).bind fun h24 => some (.inl ((s12.1 + (1 : Int32)), h24))))) FU ((0 : Int32), s10.2)).bind fun x13 => (gR x13 10 (some 100) 7).bind fun v25 => (gR x13 10 (some 100) 2).bind fun v26 => (gR x13 1 v26 10).bind fun v27 => (cl x13 2 v25 (f_Now_nextHour x13 v25 v27)).bind fun v28 => some (.inl ((s10.1 + (1 : Int32)), v28.2)))) (fun k t => t.1 = nI k ∧ CI t.2 lw S ∧ NowC t.2 170 (yrA (sL S) (set0 (sNw S) 1 (nI s), 0, 0) k).1 ∧ DeskC t.2 (some lw) (some 170) (-1) (third (sL S)) ∧ Fr h t.2 100 285) (fun x => CI x lw S ∧ NowC x 170 (yrA (sL S) (set0 (sNw S) 1 (nI s), 0, 0) n).1 ∧ DeskC x (some lw) (some 170) (-1) (third (sL S)) ∧ Fr h x 100 285) n (s0 := ((0 : Int32), h3)) (by omega) ⟨rfl, c2, c4.lc (NowC.lc _ _) (by omega) b2, c3, ((a3.wd (by omega) (by omega)).tr (b3.wd (by omega) (by omega))).tr (c4.wd (by omega) (by omega))⟩ (by
      rintro k ⟨t1, t2⟩ hk ⟨x1, x2, x3, x4, x5⟩
      dsimp only at x1 x2 x3 x4 x5 ⊢
      subst x1
      left
      have YK := YR k (by omega)
      have YP := yp_ok YK ok (by omega) (by omega)
      obtain ⟨y, m1, m2, m3, m4, m5⟩ := pj_inv (step := fun s12 : Int32 × PH => (gR s12.2 10 (some 100) 2).bind fun v14 => (gI s12.2 1 v14 3).bind fun v15 => if v15 ≤ s12.1 then (some (.inr s12.2) : Option ((Int32 × PH) ⊕ PH)) else ((gR s12.2 10 (some 100) 8).bind fun v16 => (cl s12.2 0 v16 (f_Desk_choiceOf s12.2 v16 s12.1)).bind fun v17 => (gR s12.2 10 (some 100) 7).bind fun v18 => (gR s12.2 2 v18 3).bind fun v19 => (aI s12.2 v19 s12.1).bind fun v20 => if v17 = v20 then (some (.inl ((s12.1 + (1 : Int32)), s12.2))) else ((gR s12.2 10 (some 100) 7).bind fun v21 => (gR s12.2 10 (some 100) 8).bind fun v22 => (cl s12.2 0 v22 (f_Desk_taxOf s12.2 v22 s12.1 v17)).bind fun v23 => (cl s12.2 2 v21 (f_Now_move s12.2 v21 s12.1 v17 v23)).bind fun h24 => some (.inl ((s12.1 + (1 : Int32)), h24))))) (fun p t => t.1 = nI p ∧ CI t.2 lw S ∧ NowC t.2 170 (ypA (sL S) (yrA (sL S) (set0 (sNw S) 1 (nI s), 0, 0) k) p).1 ∧ DeskC t.2 (some lw) (some 170) (-1) (third (sL S)) ∧ Fr h t.2 100 285) (fun x => CI x lw S ∧ NowC x 170 (ypA (sL S) (yrA (sL S) (set0 (sNw S) 1 (nI s), 0, 0) k) (nP (sL S))).1 ∧ DeskC x (some lw) (some 170) (-1) (third (sL S)) ∧ Fr h x 100 285) (nP (sL S)) (s0 := ((0 : Int32), t2)) (by omega) ⟨rfl, x2, x3, x4, x5⟩ (by
        rintro p ⟨u1, u2⟩ hp ⟨w1, w2, w3, w4, w5⟩
        dsimp only at w1 w2 w3 w4 w5 ⊢
        subst w1
        left
        have okM := (YP p (by omega)).ok (by omega) (by omega)
        generalize hT : ypA (sL S) (yrA (sL S) (set0 (sNw S) 1 (nI s), 0, 0) k) p = T9 at *
        have kc := chS_lt (tb := -1) (th := third (sL S)) ok okM hp
        have kh := (okM p hp).1
        rw [gR_o w2.2.1 rfl, Option.bind_some, gI_o w2.2.2.2.1.1 rfl, Option.bind_some, if_neg (nI_nle' hp (by omega)), gR_o w2.2.1 rfl, Option.bind_some, cl_o w4, cls_choice w4.v (w2.lv ok) ok (w3.v h5) okM hp, Option.bind_some, gR_o w2.2.1 rfl, Option.bind_some, gR_o w3.1 rfl, Option.bind_some, w3.2.1.at (by omega) (by decide), Option.bind_some, nI_s]
        have eq : (ypA (sL S) (yrA (sL S) (set0 (sNw S) 1 (nI s), 0, 0) k) (p + 1)).1 = if chS (sL S) T9.1 (-1) (third (sL S)) p = hel T9.1 p then T9.1 else movN T9.1 p (chS (sL S) T9.1 (-1) (third (sL S)) p) (taxN (sL S) T9.1 (-1) (third (sL S)) p (chS (sL S) T9.1 (-1) (third (sL S)) p)) := by
          rw [show ypA (sL S) (yrA (sL S) (set0 (sNw S) 1 (nI s), 0, 0) k) (p + 1) = if chS (sL S) (ypA (sL S) (yrA (sL S) (set0 (sNw S) 1 (nI s), 0, 0) k) p).1 (-1) (third (sL S)) p = hel (ypA (sL S) (yrA (sL S) (set0 (sNw S) 1 (nI s), 0, 0) k) p).1 p then ypA (sL S) (yrA (sL S) (set0 (sNw S) 1 (nI s), 0, 0) k) p else _ from rfl, hT]
          split <;> rfl
        rw [eq]
        by_cases z : chS (sL S) T9.1 (-1) (third (sL S)) p = hel T9.1 p
        · rw [if_pos (by rw [z]), if_pos z]
          exact ⟨_, rfl, rfl, w2, w3, w4, w5⟩
        · rw [if_neg (fun q => z ((nI_eq (by omega) (by omega)).mp q)), if_neg z]
          obtain ⟨h7, v1, v2, v3⟩ := cls_move (c := chS (sL S) T9.1 (-1) (third (sL S)) p) w3 (show p < 5 by omega) (taxN (sL S) T9.1 (-1) (third (sL S)) p (chS (sL S) T9.1 (-1) (third (sL S)) p))
          rw [Option.bind_some, Option.bind_some, cl_o w4, cls_tax w4.v (w2.lv ok) ok (w3.v h5) okM hp kc, Option.bind_some, cl_o w3.1, v1, Option.bind_some]
          exact ⟨_, rfl, rfl, w2.tl v3 v2, v2, w4.fr v3 (by omega), w5.tr (v3.wd (by omega) (by omega))⟩) (by
        rintro ⟨u1, u2⟩ ⟨w1, w2, w3, w4, w5⟩
        dsimp only at w1 w2 w3 w4 w5 ⊢
        subst w1
        rw [gR_o w2.2.1 rfl, Option.bind_some, gI_o w2.2.2.2.1.1 rfl, Option.bind_some, if_pos (nI_le (Nat.le_refl _) (by omega))]
        exact ⟨_, rfl, w2, w3, w4, w5⟩)
      rw [if_neg (nI_nle' hk (by omega)), m1, Option.bind_some]
      obtain ⟨h7, v1, v2, v3⟩ := cls_next m3 m2.2.2.2.1 (by omega) ok lb (YP (nP (sL S)) (Nat.le_refl _)) (by omega)
      rw [gR_o m2.2.1 rfl, Option.bind_some, gR_o m2.2.1 rfl, Option.bind_some, gR_o m2.2.2.2.1.1 rfl, Option.bind_some, cl_o m3.1, v1, Option.bind_some, nI_s]
      exact ⟨_, rfl, rfl, m2.tl v3 v2, v2, m4.fr v3 (by omega), m5.tr (v3.wd (by omega) (by omega))⟩) (by
      rintro ⟨t1, t2⟩ ⟨x1, x2, x3, x4, x5⟩
      dsimp only at x1 x2 x3 x4 x5 ⊢
      subst x1
      rw [if_pos (nI_le (Nat.le_refl _) (by omega))]
      exact ⟨_, rfl, x2, x3, x4, x5⟩)
  refine ⟨x, ?_, l2, l3, l5⟩
  rw [e.cl]
  unfold f_T_live
  rw [gR_o e.2.1 rfl, Option.bind_some, gR_o e.2.1 rfl, Option.bind_some, cl_o tT.1, a1, Option.bind_some, gR_o e1.2.1 rfl, Option.bind_some, b1, Option.bind_some, gR_o e2.2.1 rfl, Option.bind_some, gR_o e2.2.1 rfl, Option.bind_some, gR_o e2.2.1 rfl, Option.bind_some, cl_o (((dd.fr a3 (by omega)).fr b3 (by omega))), c1, Option.bind_some, l1, Option.bind_some]
theorem Mst.xr {f : Nat → Int32} (e : Mst h ml S) (g : Fr h h1 288 289) (a : Fu h1 288 23 f) : Mst h1 ml S := by
  obtain ⟨F, e0, e1, ⟨e2, ⟨f3, e3, e3'⟩, ⟨f4, e4, e4'⟩, ⟨f5, e5, e5'⟩⟩, ⟨e6, ⟨g7, e7⟩, ⟨g8, e8⟩, ⟨g9, e9⟩, ⟨g10, e10⟩⟩, e11⟩ := e
  exact ⟨F, e0.fr g (by omega), e1, ⟨e2.fr g (by omega), ⟨f3, e3.fr g (by omega), e3'⟩, ⟨f4, e4.fr g (by omega), e4'⟩, ⟨f5, e5.fr g (by omega), e5'⟩⟩, ⟨⟨f, a⟩, ⟨g7, e7.fr g (by omega)⟩, ⟨g8, e8.fr g (by omega)⟩, ⟨g9, e9.fr g (by omega)⟩, ⟨g10, e10.fr g (by omega)⟩⟩, e11.lt (fun i p q => g.2 i (by omega))⟩
theorem gI_v {t k : Nat} {a : Option Nat} (q : gV h1 t a k = gV h t a k) : gI h1 t a k = gI h t a k := by unfold gI; rw [q]
theorem gR_v {t k : Nat} {a : Option Nat} (q : gV h1 t a k = gV h t a k) : gR h1 t a k = gR h t a k := by unfold gR; rw [q]
theorem ModV.fr {i : Nat} {tb th : Int32} (m : ModV h 285 i tb th) (q : h1[285]? = h[285]?) : ModV h1 285 i tb th := ⟨by rw [gR_c q]; exact m.1, by rw [gI_c q]; exact m.2.1, by rw [gI_c q]; exact m.2.2⟩
theorem ModV.fv {i k : Nat} {tb th : Int32} (m : ModV h 285 i tb th) (q : ∀ j, j ≠ k → gV h1 12 (some 285) j = gV h 12 (some 285) j) (hk : k ≠ 3 ∧ k ≠ 21 ∧ k ≠ 22) : ModV h1 285 i tb th := ⟨by rw [gR_v (q 3 (by omega))]; exact m.1, by rw [gI_v (q 21 (by omega))]; exact m.2.1, by rw [gI_v (q 22 (by omega))]; exact m.2.2⟩
theorem Mst.tri (e : Mst h ml S) (lf : sLf S = true) (h5 : nP (sL S) ≤ 5) : ∃ h1 f, Jvm.Pilot.CWaverTaxLaw_law_r8537_6f3a17.cl h 12 (some 285) (f_M_tries h (some 285)) = some h1 ∧ Mst h1 ml S ∧ Fu h1 288 23 f ∧ MRw f (nP (sL S)) (sNw S) ∧ Fr h h1 288 289 := by
  obtain ⟨F, e0, e1, ⟨e2, ⟨f3, e3, e3'⟩, e4, e5⟩, ⟨⟨f6, e6⟩, e7⟩, e8⟩ := id e
  obtain ⟨x, l1, l2, l3⟩ := cpy (step := fun s1 : Int32 × PH => if (23 : Int32) ≤ s1.1 then (some (.inr s1.2) : Option ((Int32 × PH) ⊕ PH)) else ((gR s1.2 12 (some 285) 16).bind fun v3 => (gR s1.2 12 (some 285) 15).bind fun v4 => (aI s1.2 v4 s1.1).bind fun v5 => (sA s1.2 50 v3 s1.1 (.inl v5)).bind fun h6 => some (.inl ((s1.1 + (1 : Int32)), h6)))) (o := 0) (n := 23) (g := f3) e6 (by omega) (by decide) (by omega) (by
    intro j h2 hj x3
    dsimp only
    have r16 : gR h2 12 (some 285) 16 = some (some 288) := by rw [gR_c (x3.2 285 (by omega))]; exact e.fi.2.2.2.2
    have r15 : gR h2 12 (some 285) 15 = some (some 287) := by rw [gR_c (x3.2 285 (by omega))]; exact e.vr
    rw [if_neg (show ¬ (23 : Int32) ≤ nI j from nI_ge (b := 23) hj (by omega)), r16, Option.bind_some, r15, Option.bind_some, (e3.fr x3 (by omega)).at (by omega) (by decide), Option.bind_some, nI_s, Nat.zero_add]) (by
    intro h2
    dsimp only
    rw [if_pos (show (23 : Int32) ≤ nI 23 by decide)])
  refine ⟨x, _, ?_, e.xr l3 l2, l2, rd_row (fun k hk => ?_) h5 (e3' lf), l3⟩
  · rw [e.cl]
    unfold f_M_tries
    rw [l1, Option.bind_some]
  · unfold wrI
    rw [if_pos (by omega)]
    rfl
theorem mod_year (e : Mst h ml S) (o : SOk c S) (lf : sLf S = true) {s n : Nat} (hs : s < 65537) (hn : n ≤ 60) : ∃ h1 f, cl h 12 (some 285) (f_M_goesBy h (some 285) (nI s) (nI n)) = some h1 ∧ Mst h1 ml S ∧ Fu h1 288 23 f ∧ MRw f (nP (sL S)) (yrA (sL S) (set0 (sNw S) 1 (nI s), 0, 0) n).1 ∧ gI h1 12 (some 285) 30 = some (yrA (sL S) (set0 (sNw S) 1 (nI s), 0, 0) n).2.1 ∧ gI h1 12 (some 285) 31 = some (yrA (sL S) (set0 (sNw S) 1 (nI s), 0, 0) n).2.2 ∧ Fr h h1 285 295 := by
  have ok := o.ok lf
  have lb := (o.2.1 lf).2.1
  have h5 := o.P5
  have h6 := o.C5
  have hc6 := o.2.2.2.2.2
  have g0 : NowG 999 c (sL S) (set0 (sNw S) 1 (nI s)) := by
    obtain ⟨g1, g2, g3, g4, g5⟩ := (o.2.1 lf).2.2.1
    exact ⟨by rw [s0_h1]; exact g1, ⟨s, hs, s0_s1⟩, by rw [s0_c1, s0_h1]; exact g3, fun p hp => by rw [s0_t, s0_l, s0_h1, s0_e]; exact g4 p hp, fun p a b => by rw [s0_p]; exact g5 p a b⟩
  have YR := fun k (hk : k ≤ 60) => yr_ok (s := (set0 (sNw S) 1 (nI s), 0, 0)) g0 ok lb (by omega) (by omega) k hk
  obtain ⟨h1, i, t1, t2, t3, t4, t5, t6⟩ := e.to lf
  obtain ⟨h2, f2, u1, u2, u3, u4, u5⟩ := t2.tri lf h5
  obtain ⟨h3, v1, v2, v3⟩ := u3.set (p := 22) (by omega) (by decide) (nI s)
  have e3 := u2.xr v3 v2
  obtain ⟨h4, a1, a2, a3, a4, a5⟩ := e3.sf (k := 30) (.inl 0) (by omega)
  obtain ⟨h5', b1, b2, b3, b4, b5⟩ := a2.sf (k := 31) (.inl 0) (by omega)
  have hml : 296 ≤ i ∧ ∀ h9, Mst h9 ml S → MLawC h9 i (sL S) := by
    refine ⟨?_, fun h9 q => ?_⟩
    · obtain ⟨i1, m1, m2, m3⟩ := e.ye lf
      cases t3.symm.trans m1
      exact m2
    · obtain ⟨i1, m1, m2, m3⟩ := q.ye lf
      cases t3.symm.trans m1
      exact m3
  have mv : ModV h5' 285 i (-1) (third (sL S)) := (((t4.fr (u5.2 285 (by omega))).fr (v3.2 285 (by omega))).fv a5 (by omega)).fv b5 (by omega)
  obtain ⟨x, l1, l2, l3, ⟨f9, l4, l4'⟩, l5, l6, l7⟩ := pj_inv (step := fun s7 : Int32 × PH => if nI n ≤ s7.1 then (some (.inr s7.2) : Option ((Int32 × PH) ⊕ PH)) else ((pj_it (X := PH) (fun s9 : Int32 × PH => (gR s9.2 12 (some 285) 3).bind fun v11 => (gI s9.2 11 v11 3).bind fun v12 => if v12 ≤ s9.1 then (some (.inr s9.2)) else ((gR s9.2 12 (some 285) 16).bind fun v13 => (cl s9.2 12 (some 285) (f_M_choosesIn s9.2 (some 285) v13 s9.1)).bind fun v14 => (gR s9.2 12 (some 285) 16).bind fun v15 => (aI s9.2 v15 ((0 : Int32) + s9.1)).bind fun v16 => if ¬ v14 = v16 then ((gI s9.2 12 (some 285) 30).bind fun v17 => (gR s9.2 12 (some 285) 16).bind fun v18 => (cl s9.2 12 (some 285) (f_M_changesTo s9.2 (some 285) v18 s9.1 v14)).bind fun v19 => (sF v19.2 12 (some 285) 30 (.inl (v17 + v19.1))).bind fun h20 => (gI h20 12 (some 285) 31).bind fun v21 => (sF h20 12 (some 285) 31 (.inl (v21 + (1 : Int32)))).bind fun h22 => some (.inl ((s9.1 + (1 : Int32)), h22))) else (some (.inl ((s9.1 + (1 : Int32)), s9.2))))) FU ((0 : Int32), s7.2)).bind fun x10 => (gR x10 12 (some 285) 16).bind fun v23 => (cl x10 12 (some 285) (f_M_nextHour x10 (some 285) v23)).bind fun v24 => some (.inl ((s7.1 + (1 : Int32)), v24.2)))) (fun k t => t.1 = nI k ∧ Mst t.2 ml S ∧ ModV t.2 285 i (-1) (third (sL S)) ∧ (∃ f, Fu t.2 288 23 f ∧ MRw f (nP (sL S)) (yrA (sL S) (set0 (sNw S) 1 (nI s), 0, 0) k).1) ∧ gI t.2 12 (some 285) 30 = some (yrA (sL S) (set0 (sNw S) 1 (nI s), 0, 0) k).2.1 ∧ gI t.2 12 (some 285) 31 = some (yrA (sL S) (set0 (sNw S) 1 (nI s), 0, 0) k).2.2 ∧ Fr h t.2 285 295) (fun x => Mst x ml S ∧ ModV x 285 i (-1) (third (sL S)) ∧ (∃ f, Fu x 288 23 f ∧ MRw f (nP (sL S)) (yrA (sL S) (set0 (sNw S) 1 (nI s), 0, 0) n).1) ∧ gI x 12 (some 285) 30 = some (yrA (sL S) (set0 (sNw S) 1 (nI s), 0, 0) n).2.1 ∧ gI x 12 (some 285) 31 = some (yrA (sL S) (set0 (sNw S) 1 (nI s), 0, 0) n).2.2 ∧ Fr h x 285 295) n (s0 := ((0 : Int32), h5')) (by omega) ⟨rfl, b2, mv, ⟨_, (v2.fr a3 (by omega)).fr b3 (by omega), mrw_22 u4 h5⟩, by rw [gI_v (b5 30 (by omega))]; exact gV_I a4, gV_I b4, ((((t6.wd (by omega) (by omega)).tr (u5.wd (by omega) (by omega))).tr (v3.wd (by omega) (by omega))).tr (a3.wd (by omega) (by omega))).tr (b3.wd (by omega) (by omega))⟩ (by
      rintro k ⟨t1, t2⟩ hk ⟨x1, x2, x3, ⟨f3, x4, x4'⟩, x5, x6, x7⟩
      dsimp only at x1 x2 x3 x4 x5 x6 x7 ⊢
      subst x1
      left
      have YK := YR k (by omega)
      have YP := yp_ok YK ok (by omega) (by omega)
      obtain ⟨y, m1, m2, m3, ⟨f4, m4, m4'⟩, m5, m6, m7⟩ := pj_inv (step := fun s9 : Int32 × PH => (gR s9.2 12 (some 285) 3).bind fun v11 => (gI s9.2 11 v11 3).bind fun v12 => if v12 ≤ s9.1 then (some (.inr s9.2) : Option ((Int32 × PH) ⊕ PH)) else ((gR s9.2 12 (some 285) 16).bind fun v13 => (cl s9.2 12 (some 285) (f_M_choosesIn s9.2 (some 285) v13 s9.1)).bind fun v14 => (gR s9.2 12 (some 285) 16).bind fun v15 => (aI s9.2 v15 ((0 : Int32) + s9.1)).bind fun v16 => if ¬ v14 = v16 then ((gI s9.2 12 (some 285) 30).bind fun v17 => (gR s9.2 12 (some 285) 16).bind fun v18 => (cl s9.2 12 (some 285) (f_M_changesTo s9.2 (some 285) v18 s9.1 v14)).bind fun v19 => (sF v19.2 12 (some 285) 30 (.inl (v17 + v19.1))).bind fun h20 => (gI h20 12 (some 285) 31).bind fun v21 => (sF h20 12 (some 285) 31 (.inl (v21 + (1 : Int32)))).bind fun h22 => some (.inl ((s9.1 + (1 : Int32)), h22))) else (some (.inl ((s9.1 + (1 : Int32)), s9.2))))) (fun p t => t.1 = nI p ∧ Mst t.2 ml S ∧ ModV t.2 285 i (-1) (third (sL S)) ∧ (∃ f, Fu t.2 288 23 f ∧ MRw f (nP (sL S)) (ypA (sL S) (yrA (sL S) (set0 (sNw S) 1 (nI s), 0, 0) k) p).1) ∧ gI t.2 12 (some 285) 30 = some (ypA (sL S) (yrA (sL S) (set0 (sNw S) 1 (nI s), 0, 0) k) p).2.1 ∧ gI t.2 12 (some 285) 31 = some (ypA (sL S) (yrA (sL S) (set0 (sNw S) 1 (nI s), 0, 0) k) p).2.2 ∧ Fr h t.2 285 295) (fun x => Mst x ml S ∧ ModV x 285 i (-1) (third (sL S)) ∧ (∃ f, Fu x 288 23 f ∧ MRw f (nP (sL S)) (ypA (sL S) (yrA (sL S) (set0 (sNw S) 1 (nI s), 0, 0) k) (nP (sL S))).1) ∧ gI x 12 (some 285) 30 = some (ypA (sL S) (yrA (sL S) (set0 (sNw S) 1 (nI s), 0, 0) k) (nP (sL S))).2.1 ∧ gI x 12 (some 285) 31 = some (ypA (sL S) (yrA (sL S) (set0 (sNw S) 1 (nI s), 0, 0) k) (nP (sL S))).2.2 ∧ Fr h x 285 295) (nP (sL S)) (s0 := ((0 : Int32), t2)) (by omega) ⟨rfl, x2, x3, ⟨f3, x4, x4'⟩, x5, x6, x7⟩ (by
        rintro p ⟨u1, u2⟩ hp ⟨w1, w2, w3, ⟨f4, w4, w4'⟩, w5, w6, w7⟩
        dsimp only at w1 w2 w3 w4 w5 w6 w7 ⊢
        subst w1
        left
        have okM := (YP p (by omega)).ok (by omega) (by omega)
        generalize hT : ypA (sL S) (yrA (sL S) (set0 (sNw S) 1 (nI s), 0, 0) k) p = T9 at *
        have kc := chS_lt (tb := -1) (th := third (sL S)) ok okM hp
        have kh := (okM p hp).1
        have LC := hml.2 _ w2
        have r16 := w2.fi.2.2.2.2
        rw [w3.1, Option.bind_some, (LC.v ok).1.2.2.2.1, Option.bind_some, if_neg (nI_nle' hp (by omega)), r16, Option.bind_some, w2.cl, mod_chooses w3 (LC.v ok) ok okM (MRw.v w4 w4' h5) hp, Option.bind_some, Option.bind_some, nI_z, ((MRw.v w4 w4' h5).1 p hp).1, Option.bind_some, nI_s]
        have eq : ypA (sL S) (yrA (sL S) (set0 (sNw S) 1 (nI s), 0, 0) k) (p + 1) = if chS (sL S) T9.1 (-1) (third (sL S)) p = hel T9.1 p then T9 else (movN T9.1 p (chS (sL S) T9.1 (-1) (third (sL S)) p) (taxN (sL S) T9.1 (-1) (third (sL S)) p (chS (sL S) T9.1 (-1) (third (sL S)) p)), T9.2.1 + taxN (sL S) T9.1 (-1) (third (sL S)) p (chS (sL S) T9.1 (-1) (third (sL S)) p), T9.2.2 + 1) := by
          rw [show ypA (sL S) (yrA (sL S) (set0 (sNw S) 1 (nI s), 0, 0) k) (p + 1) = if chS (sL S) (ypA (sL S) (yrA (sL S) (set0 (sNw S) 1 (nI s), 0, 0) k) p).1 (-1) (third (sL S)) p = hel (ypA (sL S) (yrA (sL S) (set0 (sNw S) 1 (nI s), 0, 0) k) p).1 p then ypA (sL S) (yrA (sL S) (set0 (sNw S) 1 (nI s), 0, 0) k) p else _ from rfl, hT]
        rw [eq]
        by_cases z : chS (sL S) T9.1 (-1) (third (sL S)) p = hel T9.1 p
        · rw [if_neg (by rw [z]; exact fun q => q rfl), if_pos z]
          exact ⟨_, rfl, rfl, w2, w3, ⟨f4, w4, w4'⟩, w5, w6, w7⟩
        · rw [if_pos (fun q => z ((nI_eq (by omega) (by omega)).mp q)), if_neg z, w5, Option.bind_some, Option.bind_some, w2.cl]
          obtain ⟨h7, f5, c1, c2, c3, c4⟩ := mod_changes w3 LC ok okM w4 w4' hp kc
          rw [c1, Option.bind_some]
          have q1 := w2.xr c4 c2
          obtain ⟨h8, d1, d2, d3, d4, d5⟩ := q1.sf (k := 30) (.inl (T9.2.1 + taxN (sL S) T9.1 (-1) (third (sL S)) p (chS (sL S) T9.1 (-1) (third (sL S)) p))) (by omega)
          obtain ⟨h9, g1, g2, g3, g4, g5⟩ := d2.sf (k := 31) (.inl (T9.2.2 + 1)) (by omega)
          dsimp only
          rw [d1, Option.bind_some, show gI h8 12 (some 285) 31 = some T9.2.2 from by rw [gI_v (d5 31 (by omega)), gI_c (c4.2 285 (by omega))]; exact w6, Option.bind_some, g1, Option.bind_some]
          exact ⟨_, rfl, rfl, g2, ((w3.fr (c4.2 285 (by omega))).fv d5 (by omega)).fv g5 (by omega), ⟨f5, (c2.fr d3 (by omega)).fr g3 (by omega), c3⟩, by dsimp only; rw [gI_v (g5 30 (by omega))]; exact gV_I d4, gV_I g4, ((w7.tr (c4.wd (by omega) (by omega))).tr (d3.wd (by omega) (by omega))).tr (g3.wd (by omega) (by omega))⟩) (by
        rintro ⟨u1, u2⟩ ⟨w1, w2, w3, w4, w5⟩
        dsimp only at w1 w2 w3 w4 w5 ⊢
        subst w1
        rw [w3.1, Option.bind_some, ((hml.2 _ w2).v ok).1.2.2.2.1, Option.bind_some, if_pos (nI_le (Nat.le_refl _) (by omega))]
        exact ⟨_, rfl, w2, w3, w4, w5⟩)
      rw [if_neg (nI_nle' hk (by omega)), m1, Option.bind_some]
      obtain ⟨h7, f5, c1, c2, c3, c4⟩ := mod_next m3.1 (hml.2 _ m2) hml.1 (by omega) ok lb (YP (nP (sL S)) (Nat.le_refl _)) (by omega) m4 m4'
      rw [m2.fi.2.2.2.2, Option.bind_some, m2.cl, c1, Option.bind_some, nI_s]
      exact ⟨_, rfl, rfl, m2.xr c4 c2, m3.fr (c4.2 285 (by omega)), ⟨f5, c2, c3⟩, by dsimp only; rw [gI_c (c4.2 285 (by omega))]; exact m5, by dsimp only; rw [gI_c (c4.2 285 (by omega))]; exact m6, m7.tr (c4.wd (by omega) (by omega))⟩) (by
      rintro ⟨t1, t2⟩ ⟨x1, x2, x3, x4, x5⟩
      dsimp only at x1 x2 x3 x4 x5 ⊢
      subst x1
      rw [if_pos (nI_le (Nat.le_refl _) (by omega))]
      exact ⟨_, rfl, x2, x3, x4, x5⟩)
  refine ⟨x, f9, ?_, l2, l4, l4', l5, l6, l7⟩
  rw [e.cl]
  unfold f_M_goesBy
  rw [t1, Option.bind_some, u1, Option.bind_some, u2.fi.2.2.2.2, Option.bind_some, show (22 : Int32) = nI 22 from by decide, v1, Option.bind_some, a1, Option.bind_some, b1, Option.bind_some, l1, Option.bind_some]
end H2
