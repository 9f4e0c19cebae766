/-! what acts do: an hour becomes another, the next hour, what is kept -/
def set0 (N : NowD) (j : Nat) (x : Int32) : NowD := (fun k q => if k = 0 ∧ q = j then x else N.1 k q, N.2)
theorem Fu.gt {h : PH} {i n : Nat} {f g : Nat → Int32} (e : Fu h i n f) (q : g = f) : Fu h i n g := q ▸ e
section E1
variable {h : PH} {b b2 : Nat} {N N2 : NowD}
theorem NowC.s0 (e : NowC h b N) {j : Nat} (hj : j < 3) (x : Int32) : ∃ h1, sF h 2 (some b) j (.inl x) = some h1 ∧ NowC h1 b (set0 N j x) ∧ Fr h h1 b (b + 1) := by
  obtain ⟨e0, e1, e2, e3, e4⟩ := e
  refine ⟨_, sF_o e0 (by simp; omega), ⟨?_, e1.fr Fr.st (by omega), (e2.fr Fr.st (by omega)).gt ?_, (e3.fr Fr.st (by omega)).gt ?_, (e4.fr Fr.st (by omega)).gt ?_⟩, Fr.st⟩
  · rw [st_o e0]
    have : j = 0 ∨ j = 1 ∨ j = 2 := by omega
    rcases this with rfl | rfl | rfl <;> simp [set0, hou, sed, cme, tur, spe, lat]
  · funext q; simp [set0, hou, sed, cme, tur, spe, lat]
  · funext q; simp [set0, hou, sed, cme, tur, spe, lat]
  · funext q; simp [set0, hou, sed, cme, tur, spe, lat]
theorem Fu.aC {i j : Nat} {f g : Nat → Int32} (e : Fu h i 5 f) (e2 : Fu h j 5 g) : ∃ h1, aC h (some i) 0 (some j) 0 5 = some h1 ∧ Fu h1 j 5 f ∧ Fr h h1 j (j + 1) := by
  refine ⟨h.set j (50, (List.range 5).map fun p => .inl (f p)), ?_, st_o e2, Fr.st⟩
  unfold Jvm.Pilot.CWaverTaxLaw_law_r8537_6f3a17.aC
  rw [pj_at_o e, Option.bind_some, pj_at_o e2, Option.bind_some, show (5 : Int32).toNatClampNeg = 5 from rfl]
  rw [if_pos ⟨rfl, rfl, by decide, by simp, by simp, by rw [List.all_eq_true]; intro x hx; have := List.mem_of_mem_take hx; rw [List.mem_map] at this; obtain ⟨k, -, rfl⟩ := this; rfl⟩]
  dsimp only
  rw [List.take_of_length_le (by simp), List.drop_eq_nil_of_le (by simp), List.append_nil]
theorem cls_become (e : NowC h b N) (e2 : NowC h b2 N2) (dj : b + 5 ≤ b2 ∨ b2 + 5 ≤ b) : ∃ h1, f_Now_become h (some b) (some b2) = some h1 ∧ NowC h1 b N2 ∧ Fr h h1 b (b + 5) := by
  obtain ⟨h1, a1, n1, f1⟩ := e.s0 (j := 0) (by omega) (hou N2)
  have g1 := f1.lc (NowC.lc b2 N2) (by omega) e2
  obtain ⟨h2, a2, n2, f2⟩ := n1.s0 (j := 1) (by omega) (sed N2)
  have g2 := f2.lc (NowC.lc b2 N2) (by omega) g1
  obtain ⟨h3, a3, n3, f3⟩ := n2.s0 (j := 2) (by omega) (cme N2)
  have g3 := f3.lc (NowC.lc b2 N2) (by omega) g2
  obtain ⟨c0, c1, c2, c3, c4⟩ := id n3
  obtain ⟨d0, d1, d2, d3, d4⟩ := id g3
  obtain ⟨h4, a4, u1, f4⟩ := d1.aC c1
  obtain ⟨h5, a5, u2, f5⟩ := (d2.fr f4 (by omega)).aC (c2.fr f4 (by omega))
  obtain ⟨h6, a6, u3, f6⟩ := ((d3.fr f4 (by omega)).fr f5 (by omega)).aC ((c3.fr f4 (by omega)).fr f5 (by omega))
  obtain ⟨h7, a7, u4, f7⟩ := (((d4.fr f4 (by omega)).fr f5 (by omega)).fr f6 (by omega)).aC (((c4.fr f4 (by omega)).fr f5 (by omega)).fr f6 (by omega))
  have k4 := (f4.2 b (by omega)).trans c0
  have k5 := (f5.2 b (by omega)).trans k4
  have k6 := (f6.2 b (by omega)).trans k5
  have k7 := (f7.2 b (by omega)).trans k6
  have m4 := (f4.2 b2 (by omega)).trans d0
  have m5 := (f5.2 b2 (by omega)).trans m4
  have m6 := (f6.2 b2 (by omega)).trans m5
  refine ⟨h7, ?_, ⟨?_, ((u1.fr f5 (by omega)).fr f6 (by omega)).fr f7 (by omega), (u2.fr f6 (by omega)).fr f7 (by omega), u3.fr f7 (by omega), u4⟩, ?_⟩
  · unfold f_Now_become
    rw [gI_o e2.1 rfl, Option.bind_some, a1, Option.bind_some, gI_o g1.1 rfl, Option.bind_some, a2, Option.bind_some, gI_o g2.1 rfl, Option.bind_some, a3, Option.bind_some, gR_o d0 rfl, Option.bind_some, gR_o c0 rfl, Option.bind_some, a4, Option.bind_some, gR_o m4 rfl, Option.bind_some, gR_o k4 rfl, Option.bind_some, a5, Option.bind_some, gR_o m5 rfl, Option.bind_some, gR_o k5 rfl, Option.bind_some, a6, Option.bind_some, gR_o m6 rfl, Option.bind_some, gR_o k6 rfl, Option.bind_some, a7, Option.bind_some]
  · rw [k7]
    simp [set0, hou, sed, cme, tur, spe, lat]
  · exact (((((((f1.wd (Nat.le_refl b) (by omega)).tr (f2.wd (Nat.le_refl b) (by omega))).tr (f3.wd (Nat.le_refl b) (by omega))).tr (f4.wd (by omega) (by omega))).tr (f5.wd (by omega) (by omega))).tr (f6.wd (by omega) (by omega))).tr (f7.wd (by omega) (by omega)))
end E1
/-! the past -/
def roP (P : PaD) : PaD := ((15, mks P), (fun i => if i = 15 then kep P 0 else kep P (i + 1)), mkd P)
def k1P (P : PaD) (N : NowD) : PaD := ((und P + 1, mks P), (fun i => if i = und P then N else kep P i), mkd P)
def kpP (P : PaD) (N : NowD) : PaD := k1P (if und P = 16 then roP P else P) N
def paF (P : PaD) : Nat → PV := fun k => if k = 0 then .inr (.inr (some 188)) else if k = 1 then .inr (.inr (some 189)) else if k = 2 then .inl (nI (und P)) else .inl (nI (mks P))
theorem paF_2 {P : PaD} {x : Nat} : (fun k => upF (paF P) 2 (.inl (nI x)) k) = paF ((x, mks P), kep P, mkd P) := by
  funext k
  unfold upF paF
  by_cases z : k = 2
  · subst z; simp
  · rw [if_neg z]; simp [z]
theorem paF_3 {P : PaD} {x : Nat} : ∀ k, k < 4 → upF (paF P) 3 (.inl (nI x)) k = paF ((und P, x), kep P, mkd P) k := by
  intro k hk
  unfold upF paF
  have : k = 0 ∨ k = 1 ∨ k = 2 ∨ k = 3 := by omega
  rcases this with rfl | rfl | rfl | rfl <;> simp
theorem Fo.gt {h : PH} {i t n : Nat} {F G : Nat → PV} (e : Fo h i t n F) (q : ∀ k, k < n → F k = G k) : Fo h i t n G := by
  unfold Fo at e ⊢
  rw [e]
  congr 2
  apply List.map_congr_left
  intro p hp
  rw [q p (List.mem_range.mp hp)]
section E2
variable {h : PH} {P : PaD} {N : NowD} {nw : Nat}
/-- the oldest goes -/
theorem cls_rot (e : PaC h P) (hu : und P = 16) : ∃ h1, ((gR h 3 (some 187) 0).bind fun v3 => (aR h 54 v3 (0 : Int32)).bind fun v4 => (pj_it (X := PH) (fun s5 : Int32 × PH => if (16 : Int32) ≤ s5.1 then (some (.inr s5.2)) else ((gR s5.2 3 (some 187) 0).bind fun v7 => (gR s5.2 3 (some 187) 0).bind fun v8 => (aR s5.2 54 v8 s5.1).bind fun v9 => (sN s5.2 v7 (s5.1 - (1 : Int32)) v9).bind fun h10 => some (.inl ((s5.1 + (1 : Int32)), h10)))) FU ((1 : Int32), h)).bind fun x6 => (gR x6 3 (some 187) 0).bind fun v11 => (sN x6 v11 (15 : Int32) v4).bind fun h12 => (gI h12 3 (some 187) 2).bind fun v13 => (sF h12 3 (some 187) 2 (.inl (v13 - (1 : Int32)))).bind fun h14 => some h14) = some h1 ∧ PaC h1 (roP P) ∧ Fr h h1 187 285 := by
  obtain ⟨σ, p0, p1, p2, p3, p4, p5, p6⟩ := e
  have p0 : Fo h 187 3 4 (paF P) := p0
  obtain ⟨x, l1, l2, l3⟩ := pj_inv (step := fun s5 : Int32 × PH => if (16 : Int32) ≤ s5.1 then (some (.inr s5.2) : Option ((Int32 × PH) ⊕ PH)) else ((gR s5.2 3 (some 187) 0).bind fun v7 => (gR s5.2 3 (some 187) 0).bind fun v8 => (aR s5.2 54 v8 s5.1).bind fun v9 => (sN s5.2 v7 (s5.1 - (1 : Int32)) v9).bind fun h10 => some (.inl ((s5.1 + (1 : Int32)), h10)))) (fun i s => s.1 = nI (i + 1) ∧ Fo s.2 188 54 16 (fun j => .inr (.inr (some (190 + 5 * σ (if j < i then j + 1 else j))))) ∧ Fr h s.2 188 189) (fun x => Fo x 188 54 16 (fun j => .inr (.inr (some (190 + 5 * σ (if j < 15 then j + 1 else j))))) ∧ Fr h x 188 189) 15 (s0 := ((1 : Int32), h)) (by omega) ⟨rfl, by simpa using p1, Fr.rf⟩ (by
      rintro i ⟨s1, s2⟩ hi ⟨x1, x2, x3⟩
      dsimp only at x1 x2 x3 ⊢
      subst x1
      left
      have q0 := p0.fr x3 (by omega)
      have q5 := x3.lc (NowC.lc _ _) (by have := p3 (i + 1) (by omega); omega) (p5 (i + 1) (by omega))
      rw [if_neg (show ¬ (16 : Int32) ≤ nI (i + 1) from nI_nle' (b := 16) (by omega) (by omega)), q0.gr (by omega) rfl, Option.bind_some, Option.bind_some, x2.aR (k := i + 1) (by omega) (by decide) rfl, Option.bind_some]
      rw [if_neg (show ¬ (i + 1 < i) by omega), nI_pred]
      obtain ⟨h2, y1, y2, y3⟩ := x2.aset (k := i) (by omega) (by decide) (.inr (.inr (some (190 + 5 * σ (i + 1)))))
      unfold sN
      rw [pj_at_o q5.1, Option.bind_some, y1, Option.bind_some, nI_s]
      refine ⟨_, rfl, rfl, y2.gt (fun k hk => ?_), x3.tr y3⟩
      unfold upF
      by_cases z : k = i
      · subst z; simp
      · rw [if_neg z]
        dsimp only
        by_cases w : k < i
        · rw [if_pos w, if_pos (show k < i + 1 by omega)]
        · rw [if_neg w, if_neg (show ¬ k < i + 1 by omega)]) (by
      rintro ⟨s1, s2⟩ ⟨x1, x2, x3⟩
      dsimp only at x1 x2 x3 ⊢
      subst x1
      rw [if_pos (show (16 : Int32) ≤ nI (15 + 1) by decide)]
      exact ⟨_, rfl, x2, x3⟩)
  have q0 := p0.fr l3 (by omega)
  have q5 := l3.lc (NowC.lc _ _) (by have := p3 0 (by omega); omega) (p5 0 (by omega))
  obtain ⟨h2, y1, y2, y3⟩ := l2.aset (k := 15) (by omega) (by decide) (.inr (.inr (some (190 + 5 * σ 0))))
  have q1 := q0.fr y3 (by omega)
  obtain ⟨h3, z1, z2, z3⟩ := q1.set (k := 2) (by omega) (.inl (nI 15))
  have F := ((l3.wd (lo1 := 187) (hi1 := 189) (by omega) (by omega)).tr (y3.wd (by omega) (by omega))).tr (z3.wd (by omega) (by omega))
  refine ⟨h3, ?_, ⟨fun j => if j < 15 then σ (j + 1) else σ 0, ?_, ?_, ?_, ?_, ?_, ?_, ?_⟩, F.wd (by omega) (by omega)⟩
  · rw [p0.gr (by omega) rfl, Option.bind_some, show (0 : Int32) = nI 0 from rfl, p1.aR (k := 0) (by omega) (by decide) rfl, Option.bind_some, l1, Option.bind_some, q0.gr (by omega) rfl, Option.bind_some]
    unfold sN
    rw [pj_at_o q5.1, Option.bind_some, show (15 : Int32) = nI 15 from rfl, y1, Option.bind_some, q1.gi (x := nI (und P)) (by omega) rfl, Option.bind_some, hu, show nI 16 - (1 : Int32) = nI 15 from by decide, z1, Option.bind_some]
  · have := z2.gt (G := paF (roP P)) (fun k _ => congrFun (paF_2 (P := P) (x := 15)) k)
    exact this
  · refine (y2.fr z3 (by omega)).gt (fun k hk => ?_)
    unfold upF
    by_cases z : k = 15
    · subst z; simp
    · rw [if_neg z]
      dsimp only
      rw [if_pos (show k < 15 by omega), if_pos (show k < 15 by omega)]
  · exact F.lc (P := fun h => Fo h 189 54 3 _) (lo1 := 189) (hi1 := 190) (fun a b c d => (c _ (by omega) (by omega)).trans d) (by omega) p2
  · intro i hi
    dsimp only
    split
    · exact p3 _ (by omega)
    · exact p3 0 (by omega)
  · intro i j hi hj q
    dsimp only at q
    by_cases a : i < 15
    · by_cases b : j < 15
      · rw [if_pos a, if_pos b] at q
        have := p4 _ _ (by omega) (by omega) q
        omega
      · rw [if_pos a, if_neg b] at q
        have := p4 _ _ (by omega) (by omega) q
        omega
    · by_cases b : j < 15
      · rw [if_neg a, if_pos b] at q
        have := p4 _ _ (by omega) (by omega) q
        omega
      · omega
  · intro i hi
    have key : ∀ k, k < 16 → NowC h3 (190 + 5 * σ k) (kep P k) := fun k hk => F.lc (NowC.lc _ _) (by have := p3 k hk; omega) (p5 k hk)
    dsimp only
    by_cases a : i < 15
    · rw [if_pos a]
      show NowC h3 _ (if i = 15 then kep P 0 else kep P (i + 1))
      rw [if_neg (by omega)]
      exact key _ (by omega)
    · rw [if_neg a]
      show NowC h3 _ (if i = 15 then kep P 0 else kep P (i + 1))
      rw [if_pos (by omega)]
      exact key _ (by omega)
  · intro i hi
    exact F.lc (NowC.lc _ _) (by omega) (p6 i hi)
theorem cls_keep1 (e : PaC h P) (hu : und P < 16) (n : NowC h nw N) (hn : nw = 165) : ∃ h1, ((gR h 3 (some 187) 0).bind fun v15 => (gI h 3 (some 187) 2).bind fun v16 => (aR h 54 v15 v16).bind fun v17 => (cl h 2 v17 (f_Now_become h v17 (some nw))).bind fun h18 => (gI h18 3 (some 187) 2).bind fun v19 => (sF h18 3 (some 187) 2 (.inl (v19 + (1 : Int32)))).bind fun h20 => some h20) = some h1 ∧ PaC h1 (k1P P N) ∧ Fr h h1 187 285 := by
  subst hn
  obtain ⟨σ, p0, p1, p2, p3, p4, p5, p6⟩ := e
  have p0 : Fo h 187 3 4 (paF P) := p0
  have hs := p3 (und P) hu
  obtain ⟨h1, a1, a2, a3⟩ := cls_become (p5 (und P) hu) n (by omega)
  have q0 := p0.fr a3 (by omega)
  obtain ⟨h2, b1, b2, b3⟩ := q0.set (k := 2) (by omega) (.inl (nI (und P + 1)))
  refine ⟨h2, ?_, ⟨σ, ?_, (p1.fr a3 (by omega)).fr b3 (by omega), (p2.fr a3 (by omega)).fr b3 (by omega), p3, p4, fun i hi => ?_, fun i hi => ?_⟩, (a3.wd (by omega) (by omega)).tr (b3.wd (by omega) (by omega))⟩
  · rw [p0.gr (by omega) rfl, Option.bind_some, p0.gi (x := nI (und P)) (by omega) rfl, Option.bind_some, p1.aR hu (by decide) rfl, Option.bind_some, cl_o (p5 (und P) hu).1, a1, Option.bind_some, q0.gi (x := nI (und P)) (by omega) rfl, Option.bind_some, nI_s, b1, Option.bind_some]
  · exact b2.gt (G := paF (k1P P N)) (fun k _ => congrFun (paF_2 (P := P) (x := und P + 1)) k)
  · show NowC h2 _ (if i = und P then N else kep P i)
    have hsi := p3 i hi
    by_cases z : i = und P
    · rw [if_pos z, z]
      exact b3.lc (NowC.lc _ _) (by omega) a2
    · rw [if_neg z]
      have hne : σ i ≠ σ (und P) := fun q => z (p4 _ _ hi hu q)
      exact b3.lc (NowC.lc _ _) (by omega) (a3.lc (NowC.lc _ _) (by omega) (p5 i hi))
  · exact b3.lc (NowC.lc _ _) (by omega) (a3.lc (NowC.lc _ _) (by omega) (p6 i hi))
theorem cls_keep (e : PaC h P) (hu : und P ≤ 16) (n : NowC h 165 N) : ∃ h1, f_Past_keep h (some 187) (some 165) = some h1 ∧ PaC h1 (kpP P N) ∧ Fr h h1 187 285 := by
  have p0 : Fo h 187 3 4 (paF P) := e.choose_spec.1
  unfold f_Past_keep kpP
  rw [p0.gi (x := nI (und P)) (by omega) rfl, Option.bind_some]
  by_cases z : und P = 16
  · rw [if_neg (by rw [z]; exact fun q => q (by decide)), if_pos z]
    obtain ⟨h1, a1, a2, a3⟩ := cls_rot e z
    rw [a1, Option.bind_some]
    obtain ⟨h2, b1, b2, b3⟩ := cls_keep1 a2 (by show 15 < 16; omega) (a3.lc (NowC.lc 165 N) (by omega) n) rfl
    exact ⟨h2, b1, b2, a3.tr b3⟩
  · rw [if_pos (show ¬ nI (und P) = 16 from fun q => z ((nI_eq (b := 16) (by omega) (by omega)).mp q)), if_neg z, Option.bind_some]
    exact cls_keep1 e (by omega) n rfl
end E2
def nwS (S : StD) (N : NowD) : StD := (S.1, S.2.1, N, S.2.2.2)
def paS (S : StD) (P : PaD) : StD := (S.1, S.2.1, S.2.2.1, P, S.2.2.2.2)
section E3
variable {h h1 : PH} {lw c : Nat} {S : StD} {ml : Option Nat} {N : NowD} {P : PaD}
theorem CI.nw (e : CI h lw S) (f : Fr h h1 165 170) (n : NowC h1 165 N) : CI h1 lw (nwS S N) := by
  obtain ⟨hl, e0, e1, e2, ⟨L1, e3⟩, e4, e5, e6, e7⟩ := e
  exact ⟨hl, (f.2 _ (by omega)).trans e0, (f.2 _ (by omega)).trans e1, f.lc (LawC.lc _ _) (by omega) e2, ⟨L1, f.lc (LawC.lc _ _) (by omega) e3⟩, f.lc RdC.lc (by omega) e4, n, f.lc ScC.lc (by omega) e6, f.lc (PaC.lc _) (by omega) e7⟩
theorem CI.pa (e : CI h lw S) (f : Fr h h1 187 285) (n : PaC h1 P) : CI h1 lw (paS S P) := by
  obtain ⟨hl, e0, e1, e2, ⟨L1, e3⟩, e4, e5, e6, e7⟩ := e
  exact ⟨hl, (f.2 _ (by omega)).trans e0, (f.2 _ (by omega)).trans e1, f.lc (LawC.lc _ _) (by omega) e2, ⟨L1, f.lc (LawC.lc _ _) (by omega) e3⟩, f.lc RdC.lc (by omega) e4, f.lc (NowC.lc _ _) (by omega) e5, f.lc ScC.lc (by omega) e6, n⟩
theorem Mst.nw {f : Nat → Int32} (e : Mst h ml S) (g : Fr h h1 287 288) (a : Fu h1 287 23 f) (r : sLf S = true → MRw f (nP (sL S)) N) : Mst h1 ml (nwS S N) := by
  obtain ⟨F, e0, e1, ⟨e2, e3, ⟨f4, e4, e4'⟩, ⟨f5, e5, e5'⟩⟩, e6, e7⟩ := e
  exact ⟨F, e0.fr g (by omega), e1, ⟨e2.fr g (by omega), ⟨f, a, r⟩, ⟨f4, e4.fr g (by omega), e4'⟩, ⟨f5, e5.fr g (by omega), e5'⟩⟩, g.lc MSc.lc (by omega) e6, e7.lt (fun i p q => g.2 i (by omega))⟩
/-- the last rows of the reference: a row written at i -/
def wrF (f g : Nat → Int32) (i : Nat) : Nat → Int32 := fun k => if 23 * i ≤ k ∧ k < 23 * i + 23 then g (k - 23 * i) else f k
theorem rd_row {f g : Nat → Int32} {n : Nat} (q : ∀ k, k < 23 → g k = f k) (hn : n ≤ 5) (r : MRw f n N) : MRw g n N := by
  obtain ⟨r0, r1, r2, r3⟩ := r
  refine ⟨fun p hp => ?_, by rw [q 20 (by omega)]; exact r1, by rw [q 21 (by omega)]; exact r2, by rw [q 22 (by omega)]; exact r3⟩
  rw [q p (by omega), q (5 + p) (by omega), q (10 + p) (by omega), q (15 + p) (by omega)]
  exact r0 p hp
theorem wr_row {f g : Nat → Int32} {i n : Nat} (r : MRw g n N) (hn : n ≤ 5) : MRw (fun k => wrF f g i (23 * i + k)) n N :=
  rd_row (fun k hk => by unfold wrF; rw [if_pos (by omega)]; congr 1; omega) hn r
theorem wr_oth {f g : Nat → Int32} {i j n : Nat} (hij : i ≠ j) (r : MRw (fun k => f (23 * j + k)) n N) (hn : n ≤ 5) : MRw (fun k => wrF f g i (23 * j + k)) n N :=
  rd_row (fun k hk => by unfold wrF; rw [if_neg (by omega)]) hn r
end E3
