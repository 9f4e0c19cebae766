/-! the next hour; change, hours -/
def sdN (x : Int32) : Int32 := nI ((75 * x.toNatClampNeg + 74) % 65537)
def nhA (L : LawD) (N : NowD) : Nat → Int32 × NowD
  | 0 => (0, set0 N 0 (hou N + 1))
  | k + 1 => if rho L k = hou (nhA L N k).2 then (if nI ((sdN (sed (nhA L N k).2)).toNatClampNeg % 100) < rod L k then ((nhA L N k).1 + 1, set0 (set0 (nhA L N k).2 1 (sdN (sed (nhA L N k).2))) 2 (cme (nhA L N k).2 ||| ((1 : Int32) <<< (nI k &&& 31)))) else ((nhA L N k).1, set0 (nhA L N k).2 1 (sdN (sed (nhA L N k).2)))) else nhA L N k
def nhS (L : LawD) (N : NowD) : Int32 × NowD := nhA L N (nR L)
section G1
variable {L : LawD} {N : NowD} {x : Int32} {j k : Nat}
theorem s0_h0 : hou (set0 N 0 x) = x := by simp [set0, hou]
theorem s0_h1 : hou (set0 N 1 x) = hou N := by simp [set0, hou]
theorem s0_h2 : hou (set0 N 2 x) = hou N := by simp [set0, hou]
theorem s0_s0 : sed (set0 N 0 x) = sed N := by simp [set0, sed]
theorem s0_s1 : sed (set0 N 1 x) = x := by simp [set0, sed]
theorem s0_s2 : sed (set0 N 2 x) = sed N := by simp [set0, sed]
theorem s0_c0 : cme (set0 N 0 x) = cme N := by simp [set0, cme]
theorem s0_c1 : cme (set0 N 1 x) = cme N := by simp [set0, cme]
theorem s0_c2 : cme (set0 N 2 x) = x := by simp [set0, cme]
theorem s0_t : tur (set0 N j x) = tur N := by funext q; simp [set0, tur]
theorem s0_p : spe (set0 N j x) = spe N := by funext q; simp [set0, spe]
theorem s0_l : lat (set0 N j x) = lat N := by funext q; simp [set0, lat]
theorem s0_e : hel (set0 N j x) = hel N := rfl
theorem sd_lt {s : Nat} (hs : s < 65537) : ∃ s1, s1 < 65537 ∧ sdN (nI s) = nI s1 := ⟨_, Nat.mod_lt _ (by omega), rfl⟩
theorem sd_T {s : Nat} (hs : s < 65537) : (((75 : Int32) * nI s) + (74 : Int32)) - (((75 : Int32) * nI s) + (74 : Int32)) / (65537 : Int32) * (65537 : Int32) = sdN (nI s) := by
  unfold sdN
  rw [nI_clamp (by omega), show (75 : Int32) = nI 75 from by decide, show (74 : Int32) = nI 74 from by decide, show (65537 : Int32) = nI 65537 from by decide, pk_mul, nI_add, pk_rem (by omega) (by omega) (by omega)]
theorem sd_M {s : Nat} (hs : s < 65537) : Int64.toInt32 ((((75 : Int64) * (Int32.toInt64 (nI s))) + (74 : Int64)) - (((75 : Int64) * (Int32.toInt64 (nI s))) + (74 : Int64)) / (65537 : Int64) * (65537 : Int64)) = sdN (nI s) := by
  unfold sdN
  rw [nI_clamp (by omega), nI_l (by omega), show (75 : Int64) = lN 75 from by decide, show (74 : Int64) = lN 74 from by decide, show (65537 : Int64) = lN 65537 from by decide, lN_mul, lN_add, pk_lRem (by omega) (by omega) (by omega), lN_i]
theorem rm_100 {s : Nat} (hs : s < 65537) : nI s - nI s / (100 : Int32) * (100 : Int32) = nI ((nI s).toNatClampNeg % 100) := by
  rw [nI_clamp (by omega), show (100 : Int32) = nI 100 from by decide, pk_rem (by omega) (by omega) (by omega)]
/-- the next hour keeps all as it must -/
theorem nh_ok {B c : Nat} (g : NowG B c L N) (b : LawB L) (hB : B < 2000) (h4 : nR L ≤ 4) : ∀ k, k ≤ nR L → NowG (B + 1) c L (nhA L N k).2 ∧ hou (nhA L N k).2 = hou N + 1 ∧ spe (nhA L N k).2 = spe N ∧ tur (nhA L N k).2 = tur N ∧ hel (nhA L N k).2 = hel N := by
  obtain ⟨⟨j, hj, ej⟩, g2, ⟨bb, b1, b2, b3⟩, g4, g5⟩ := g
  have e1 : hou N + 1 = nI (j + 1) := by rw [ej, nI_s]
  intro k
  induction k with
  | zero =>
    intro _
    refine ⟨⟨⟨j + 1, by omega, by show hou (set0 N 0 _) = _; rw [s0_h0, e1]⟩, by show ∃ s, s < 65537 ∧ sed (set0 N 0 _) = _; rw [s0_s0]; exact g2, ⟨bb, b1, by show cme (set0 N 0 _) = _; rw [s0_c0, b2], fun k hk => ?_⟩, fun p hp => ?_, fun p h1 h2 => by show spe (set0 N 0 _) p = _; rw [s0_p]; exact g5 p h1 h2⟩, s0_h0, s0_p, s0_t, rfl⟩
    · show _ ≤ hou (set0 N 0 _)
      rw [s0_h0, e1]
      have := b3 k hk
      rw [ej] at this
      exact Int32.le_trans this (nI_le (by omega) (by omega))
    · obtain ⟨x, y⟩ := g4 p hp
      refine ⟨x, ?_⟩
      show (tur (set0 N 0 _) p = 0 ∧ lat (set0 N 0 _) p = -2) ∨ _
      rw [s0_t, s0_l]
      rcases y with y | ⟨t, j0, j1, t1, t2, y1, y2, y3, y4, y5⟩
      · exact Or.inl y
      · right
        refine ⟨t, j0, j + 1, t1, t2, by show tur (set0 N 0 _) p = _; rw [s0_t]; exact y1, by show lat (set0 N 0 _) p = _; rw [s0_l]; exact y2, by show hou (set0 N 0 _) = _; rw [s0_h0, e1], ?_, by omega⟩
        have : j1 = j := (nI_eq (by omega) (by omega)).mp (y3.symm.trans ej)
        omega
  | succ k ih =>
    intro hk
    obtain ⟨⟨⟨i1, i2, i3⟩, ⟨s, hs, es⟩, ⟨b0, c1, c2, c3⟩, i4, i5⟩, i6, i7, i8, i9⟩ := ih (by omega)
    show NowG (B + 1) c L (if rho L k = hou (nhA L N k).2 then (if nI ((sdN (sed (nhA L N k).2)).toNatClampNeg % 100) < rod L k then ((nhA L N k).1 + 1, set0 (set0 (nhA L N k).2 1 (sdN (sed (nhA L N k).2))) 2 (cme (nhA L N k).2 ||| ((1 : Int32) <<< (nI k &&& 31)))) else ((nhA L N k).1, set0 (nhA L N k).2 1 (sdN (sed (nhA L N k).2)))) else nhA L N k).2 ∧ hou (if rho L k = hou (nhA L N k).2 then (if nI ((sdN (sed (nhA L N k).2)).toNatClampNeg % 100) < rod L k then ((nhA L N k).1 + 1, set0 (set0 (nhA L N k).2 1 (sdN (sed (nhA L N k).2))) 2 (cme (nhA L N k).2 ||| ((1 : Int32) <<< (nI k &&& 31)))) else ((nhA L N k).1, set0 (nhA L N k).2 1 (sdN (sed (nhA L N k).2)))) else nhA L N k).2 = hou N + 1 ∧ spe (if rho L k = hou (nhA L N k).2 then (if nI ((sdN (sed (nhA L N k).2)).toNatClampNeg % 100) < rod L k then ((nhA L N k).1 + 1, set0 (set0 (nhA L N k).2 1 (sdN (sed (nhA L N k).2))) 2 (cme (nhA L N k).2 ||| ((1 : Int32) <<< (nI k &&& 31)))) else ((nhA L N k).1, set0 (nhA L N k).2 1 (sdN (sed (nhA L N k).2)))) else nhA L N k).2 = spe N ∧ tur (if rho L k = hou (nhA L N k).2 then (if nI ((sdN (sed (nhA L N k).2)).toNatClampNeg % 100) < rod L k then ((nhA L N k).1 + 1, set0 (set0 (nhA L N k).2 1 (sdN (sed (nhA L N k).2))) 2 (cme (nhA L N k).2 ||| ((1 : Int32) <<< (nI k &&& 31)))) else ((nhA L N k).1, set0 (nhA L N k).2 1 (sdN (sed (nhA L N k).2)))) else nhA L N k).2 = tur N ∧ hel (if rho L k = hou (nhA L N k).2 then (if nI ((sdN (sed (nhA L N k).2)).toNatClampNeg % 100) < rod L k then ((nhA L N k).1 + 1, set0 (set0 (nhA L N k).2 1 (sdN (sed (nhA L N k).2))) 2 (cme (nhA L N k).2 ||| ((1 : Int32) <<< (nI k &&& 31)))) else ((nhA L N k).1, set0 (nhA L N k).2 1 (sdN (sed (nhA L N k).2)))) else nhA L N k).2 = hel N
    have M1 : NowG (B + 1) c L (set0 (nhA L N k).2 1 (sdN (sed (nhA L N k).2))) := by
      refine ⟨⟨i1, i2, by rw [s0_h1]; exact i3⟩, ?_, ⟨b0, c1, by rw [s0_c1]; exact c2, fun q hq => by rw [s0_h1]; exact c3 q hq⟩, fun p hp => ?_, fun p h1 h2 => by rw [s0_p]; exact i5 p h1 h2⟩
      · rw [s0_s1, es]; exact sd_lt hs
      · rw [s0_t, s0_l, s0_h1, s0_e]; exact i4 p hp
    by_cases z : rho L k = hou (nhA L N k).2
    · rw [if_pos z]
      by_cases y : nI ((sdN (sed (nhA L N k).2)).toNatClampNeg % 100) < rod L k
      · rw [if_pos y]
        refine ⟨?_, by dsimp only; rw [s0_h2, s0_h1]; exact i6, by dsimp only; rw [s0_p, s0_p]; exact i7, by dsimp only; rw [s0_t, s0_t]; exact i8, i9⟩
        obtain ⟨m1, m2, m3, m4, m5⟩ := M1
        dsimp only
        refine ⟨by rw [s0_h2]; exact m1, by rw [s0_s2]; exact m2, ⟨b0 ||| 2 ^ k, ?_, ?_, fun q hq => ?_⟩, fun p hp => ?_, fun p h1 h2 => by rw [s0_p]; exact m5 p h1 h2⟩
        · exact Nat.or_lt_two_pow c1 (Nat.pow_lt_pow_right (by omega) (by omega))
        · rw [s0_c2, c2, sh1 k (by omega), nI_or]
        · rw [s0_h2, s0_h1]
          rw [Nat.testBit_or, Bool.or_eq_true] at hq
          rcases hq with hq | hq
          · exact c3 q hq
          · rw [Nat.testBit_two_pow] at hq
            have : k = q := by simpa using hq
            subst this
            rw [z]
            exact Int32.le_refl _
        · rw [s0_t, s0_l, s0_h2, s0_e]; exact m4 p hp
      · rw [if_neg y]
        exact ⟨M1, by dsimp only; rw [s0_h1]; exact i6, by dsimp only; rw [s0_p]; exact i7, by dsimp only; rw [s0_t]; exact i8, i9⟩
    · rw [if_neg z]
      exact ⟨⟨⟨i1, i2, i3⟩, ⟨s, hs, es⟩, ⟨b0, c1, c2, c3⟩, i4, i5⟩, i6, i7, i8, i9⟩
end G1
section G2
variable {h : PH} {b lw a ml : Nat} {L : LawD} {N : NowD}
theorem cls_next {B c : Nat} (e : NowC h b N) (l : LawC h lw L) (dj : b + 5 ≤ lw ∨ lw + 29 ≤ b) (ok : LawOk L) (lb : LawB L) (g : NowG B c L N) (hB : B < 2000) : ∃ h1, f_Now_nextHour h (some b) (some (lw + 16)) = some ((nhS L N).1, h1) ∧ NowC h1 b (nhS L N).2 ∧ Fr h h1 b (b + 5) := by
  have h4 := ok.2.2.2.1
  have G := nh_ok g lb hB h4
  obtain ⟨h1, a1, a2, a3⟩ := e.s0 (j := 0) (by omega) (hou N + 1)
  obtain ⟨x, l1, l2, l3, l4⟩ := pj_inv (step := fun s3 : Int32 × Int32 × PH => (gI s3.2.2 6 (some (lw + 16)) 0).bind fun v5 => if v5 ≤ s3.2.1 then (some (.inr (s3.1, s3.2.2)) : Option ((Int32 × Int32 × PH) ⊕ (Int32 × PH))) else ((gR s3.2.2 6 (some (lw + 16)) 3).bind fun v6 => (aI s3.2.2 v6 s3.2.1).bind fun v7 => (gI s3.2.2 2 (some b) 0).bind fun v8 => if ¬ v7 = v8 then (some (.inl (s3.1, (s3.2.1 + (1 : Int32)), s3.2.2))) else ((gI s3.2.2 2 (some b) 1).bind fun v9 => if (65537 : Int32) = 0 then none else ((sF s3.2.2 2 (some b) 1 (.inl ((((75 : Int32) * v9) + (74 : Int32)) - (((75 : Int32) * v9) + (74 : Int32)) / (65537 : Int32) * (65537 : Int32)))).bind fun h10 => (gI h10 2 (some b) 1).bind fun v11 => if (100 : Int32) = 0 then none else ((gR h10 6 (some (lw + 16)) 4).bind fun v12 => (aI h10 v12 s3.2.1).bind fun v13 => if v13 ≤ (v11 - v11 / (100 : Int32) * (100 : Int32)) then (some (.inl (s3.1, (s3.2.1 + (1 : Int32)), h10))) else ((gI h10 2 (some b) 2).bind fun v14 => (sF h10 2 (some b) 2 (.inl (v14 ||| ((1 : Int32) <<< (s3.2.1 &&& 31))))).bind fun h15 => some (.inl ((s3.1 + (1 : Int32)), (s3.2.1 + (1 : Int32)), h15)))))))) (fun i s => s.1 = (nhA L N i).1 ∧ s.2.1 = nI i ∧ NowC s.2.2 b (nhA L N i).2 ∧ Fr h s.2.2 b (b + 5)) (fun x => x.1 = (nhS L N).1 ∧ NowC x.2 b (nhS L N).2 ∧ Fr h x.2 b (b + 5)) (nR L) (s0 := ((0 : Int32), (0 : Int32), h1)) (by omega) ⟨rfl, rfl, a2, a3.wd (by omega) (by omega)⟩ (by
      rintro i ⟨s1, s2, s3⟩ hi ⟨x1, x2, x3, x4⟩
      dsimp only at x1 x2 x3 x4 ⊢
      subst x1 x2
      left
      obtain ⟨⟨-, ⟨s, hs, es⟩, -⟩, -⟩ := G i (by omega)
      have LC := x4.lc (LawC.lc lw L) (by omega) l
      obtain ⟨⟨r0, -, -, r3, r4, -⟩, -⟩ := LC.2.2.2.2.2.2.2.2
      rw [gI_o r0 rfl, Option.bind_some, if_neg (nI_nle' hi (by omega)), gR_o r0 rfl, Option.bind_some, r3.at (by omega) (by decide), Option.bind_some, gI_o x3.1 rfl, Option.bind_some, nI_s]
      show ∃ s1 : Int32 × Int32 × PH, _ ∧ s1.1 = (if rho L i = hou (nhA L N i).2 then (if nI ((sdN (sed (nhA L N i).2)).toNatClampNeg % 100) < rod L i then ((nhA L N i).1 + 1, set0 (set0 (nhA L N i).2 1 (sdN (sed (nhA L N i).2))) 2 (cme (nhA L N i).2 ||| ((1 : Int32) <<< (nI i &&& 31)))) else ((nhA L N i).1, set0 (nhA L N i).2 1 (sdN (sed (nhA L N i).2)))) else nhA L N i).1 ∧ _ ∧ NowC s1.2.2 b (if rho L i = hou (nhA L N i).2 then (if nI ((sdN (sed (nhA L N i).2)).toNatClampNeg % 100) < rod L i then ((nhA L N i).1 + 1, set0 (set0 (nhA L N i).2 1 (sdN (sed (nhA L N i).2))) 2 (cme (nhA L N i).2 ||| ((1 : Int32) <<< (nI i &&& 31)))) else ((nhA L N i).1, set0 (nhA L N i).2 1 (sdN (sed (nhA L N i).2)))) else nhA L N i).2 ∧ _
      by_cases z : rho L i = hou (nhA L N i).2
      · rw [if_neg (fun q => q z), gI_o x3.1 rfl, Option.bind_some, if_neg (by decide), if_pos z, es, sd_T hs]
        obtain ⟨h2, y1, y2, y3⟩ := x3.s0 (j := 1) (by omega) (sdN (nI s))
        obtain ⟨s1, hs1, es1⟩ := sd_lt hs
        have LC2 := y3.lc (LawC.lc lw L) (by omega) LC
        obtain ⟨⟨q0, -, -, -, q4, -⟩, -⟩ := LC2.2.2.2.2.2.2.2.2
        rw [y1, Option.bind_some, gI_o y2.1 rfl, Option.bind_some, if_neg (by decide), gR_o q0 rfl, Option.bind_some, q4.at (by omega) (by decide), Option.bind_some, s0_s1, es1, rm_100 hs1]
        by_cases y : nI ((nI s1).toNatClampNeg % 100) < rod L i
        · rw [if_neg (Int32.not_le.mpr y), if_pos y, gI_o y2.1 rfl, Option.bind_some, s0_c1]
          obtain ⟨h3, w1, w2, w3⟩ := y2.s0 (j := 2) (by omega) (cme (nhA L N i).2 ||| ((1 : Int32) <<< (nI i &&& 31)))
          rw [w1, Option.bind_some]
          exact ⟨_, rfl, rfl, rfl, by rw [es1] at w2; exact w2, (x4.tr (y3.wd (by omega) (by omega))).tr (w3.wd (by omega) (by omega))⟩
        · rw [if_pos (Int32.not_lt.mp y), if_neg y]
          exact ⟨_, rfl, rfl, rfl, by rw [es1] at y2; exact y2, x4.tr (y3.wd (by omega) (by omega))⟩
      · rw [if_pos z, if_neg z]
        exact ⟨_, rfl, rfl, rfl, x3, x4⟩) (by
      rintro ⟨s1, s2, s3⟩ ⟨x1, x2, x3, x4⟩
      dsimp only at x1 x2 x3 x4 ⊢
      subst x1 x2
      have LC := x4.lc (LawC.lc lw L) (by omega) l
      obtain ⟨⟨r0, -⟩, -⟩ := LC.2.2.2.2.2.2.2.2
      rw [gI_o r0 rfl, Option.bind_some, if_pos (nI_le (Nat.le_refl _) (by omega))]
      exact ⟨_, rfl, rfl, x3, x4⟩)
  refine ⟨x.2, ?_, l3, l4⟩
  unfold f_Now_nextHour
  rw [gI_o e.1 rfl, Option.bind_some, a1, Option.bind_some, l1, Option.bind_some, l2]
/-- a place of a row -/
theorem mrw_20 {f : Nat → Int32} {n : Nat} {x : Int32} (r : MRw f n N) (hn : n ≤ 5) : MRw (up1 f 20 x) n (set0 N 2 x) := by
  obtain ⟨r0, r1, r2, r3⟩ := r
  refine ⟨fun p hp => ?_, by unfold up1; rw [if_pos rfl, s0_c2], by unfold up1; rw [if_neg (by omega), s0_h2]; exact r2, by unfold up1; rw [if_neg (by omega), s0_s2]; exact r3⟩
  unfold up1
  rw [if_neg (by omega), if_neg (by omega), if_neg (by omega), if_neg (by omega), s0_t, s0_p, s0_l]
  exact r0 p hp
theorem mrw_21 {f : Nat → Int32} {n : Nat} {x : Int32} (r : MRw f n N) (hn : n ≤ 5) : MRw (up1 f 21 x) n (set0 N 0 x) := by
  obtain ⟨r0, r1, r2, r3⟩ := r
  refine ⟨fun p hp => ?_, by unfold up1; rw [if_neg (by omega), s0_c0]; exact r1, by unfold up1; rw [if_pos rfl, s0_h0], by unfold up1; rw [if_neg (by omega), s0_s0]; exact r3⟩
  unfold up1
  rw [if_neg (by omega), if_neg (by omega), if_neg (by omega), if_neg (by omega), s0_t, s0_p, s0_l]
  exact r0 p hp
theorem mrw_22 {f : Nat → Int32} {n : Nat} {x : Int32} (r : MRw f n N) (hn : n ≤ 5) : MRw (up1 f 22 x) n (set0 N 1 x) := by
  obtain ⟨r0, r1, r2, r3⟩ := r
  refine ⟨fun p hp => ?_, by unfold up1; rw [if_neg (by omega), s0_c1]; exact r1, by unfold up1; rw [if_neg (by omega), s0_h1]; exact r2, by unfold up1; rw [if_pos rfl, s0_s1]⟩
  unfold up1
  rw [if_neg (by omega), if_neg (by omega), if_neg (by omega), if_neg (by omega), s0_t, s0_p, s0_l]
  exact r0 p hp
theorem mod_next {B c : Nat} {f : Nat → Int32} (m1 : gR h 12 (some 285) 3 = some (some ml)) (l : MLawC h ml L) (hml : 296 ≤ ml) (ha : 285 < a ∧ a < 295) (ok : LawOk L) (lb : LawB L) (g : NowG B c L N) (hB : B < 2000) (e : Fu h a 23 f) (r : MRw f (nP L) N) : ∃ h1 f1, f_M_nextHour h (some 285) (some a) = some ((nhS L N).1, h1) ∧ Fu h1 a 23 f1 ∧ MRw f1 (nP L) (nhS L N).2 ∧ Fr h h1 a (a + 1) := by
  have h4 := ok.2.2.2.1
  have h5 := ok.2.2.1
  have G := nh_ok g lb hB h4
  obtain ⟨h1, a1, a2, a3⟩ := e.set (p := 21) (by omega) (by decide) (hou N + 1)
  obtain ⟨x, l1, l2, ⟨f1, l3, l3'⟩, l4⟩ := pj_inv (step := fun s3 : Int32 × Int32 × PH => (gR s3.2.2 12 (some 285) 3).bind fun v5 => (gI s3.2.2 11 v5 5).bind fun v6 => if v6 ≤ s3.2.1 then (some (.inr (s3.1, s3.2.2)) : Option ((Int32 × Int32 × PH) ⊕ (Int32 × PH))) else ((gR s3.2.2 12 (some 285) 3).bind fun v7 => (gR s3.2.2 11 v7 16).bind fun v8 => (aI s3.2.2 v8 s3.2.1).bind fun v9 => (aI s3.2.2 (some a) (21 : Int32)).bind fun v10 => if v9 = v10 then ((aI s3.2.2 (some a) (22 : Int32)).bind fun v11 => if (65537 : Int64) = 0 then none else ((sA s3.2.2 50 (some a) (22 : Int32) (.inl (Int64.toInt32 ((((75 : Int64) * (Int32.toInt64 v11)) + (74 : Int64)) - (((75 : Int64) * (Int32.toInt64 v11)) + (74 : Int64)) / (65537 : Int64) * (65537 : Int64))))).bind fun h12 => (aI h12 (some a) (22 : Int32)).bind fun v13 => if (100 : Int32) = 0 then none else ((gR h12 12 (some 285) 3).bind fun v14 => (gR h12 11 v14 17).bind fun v15 => (aI h12 v15 s3.2.1).bind fun v16 => if (v13 - v13 / (100 : Int32) * (100 : Int32)) < v16 then ((aI h12 (some a) (20 : Int32)).bind fun v17 => (sA h12 50 (some a) (20 : Int32) (.inl (v17 ||| ((1 : Int32) <<< (s3.2.1 &&& 31))))).bind fun h18 => some (.inl ((s3.1 + (1 : Int32)), (s3.2.1 + (1 : Int32)), h18))) else (some (.inl (s3.1, (s3.2.1 + (1 : Int32)), h12)))))) else (some (.inl (s3.1, (s3.2.1 + (1 : Int32)), s3.2.2))))) (fun i s => s.1 = (nhA L N i).1 ∧ s.2.1 = nI i ∧ (∃ f1, Fu s.2.2 a 23 f1 ∧ MRw f1 (nP L) (nhA L N i).2) ∧ Fr h s.2.2 a (a + 1)) (fun x => x.1 = (nhS L N).1 ∧ (∃ f1, Fu x.2 a 23 f1 ∧ MRw f1 (nP L) (nhS L N).2) ∧ Fr h x.2 a (a + 1)) (nR L) (s0 := ((0 : Int32), (0 : Int32), h1)) (by omega) ⟨rfl, rfl, ⟨_, a2, mrw_21 r h5⟩, a3⟩ (by
      rintro i ⟨s1, s2, s3⟩ hi ⟨x1, x2, ⟨f1, x3, x3'⟩, x4⟩
      dsimp only at x1 x2 x3 x4 ⊢
      subst x1 x2
      left
      obtain ⟨⟨-, ⟨s, hs, es⟩, -⟩, -⟩ := G i (by omega)
      have LC := x4.lc (MLawC.lc ml L) (by omega) l
      have m2 : gR s3 12 (some 285) 3 = some (some ml) := by rw [gR_c (x4.2 285 (by omega))]; exact m1
      obtain ⟨⟨-, -, -, -, -, g5, -⟩, -, -, -, -, ⟨-, -, ⟨b3, hb3, hB3⟩, -, -⟩, -⟩ := LC.v ok
      rw [m2, Option.bind_some, g5, Option.bind_some, if_neg (nI_nle' hi (by omega)), Option.bind_some, hb3, Option.bind_some, hB3 i hi, Option.bind_some, show (21 : Int32) = nI 21 from by decide, x3.at (by omega) (by decide), Option.bind_some, x3'.2.2.1, nI_s]
      show ∃ s1 : Int32 × Int32 × PH, _ ∧ s1.1 = (if rho L i = hou (nhA L N i).2 then (if nI ((sdN (sed (nhA L N i).2)).toNatClampNeg % 100) < rod L i then ((nhA L N i).1 + 1, set0 (set0 (nhA L N i).2 1 (sdN (sed (nhA L N i).2))) 2 (cme (nhA L N i).2 ||| ((1 : Int32) <<< (nI i &&& 31)))) else ((nhA L N i).1, set0 (nhA L N i).2 1 (sdN (sed (nhA L N i).2)))) else nhA L N i).1 ∧ _ ∧ (∃ f1, Fu s1.2.2 a 23 f1 ∧ MRw f1 (nP L) (if rho L i = hou (nhA L N i).2 then (if nI ((sdN (sed (nhA L N i).2)).toNatClampNeg % 100) < rod L i then ((nhA L N i).1 + 1, set0 (set0 (nhA L N i).2 1 (sdN (sed (nhA L N i).2))) 2 (cme (nhA L N i).2 ||| ((1 : Int32) <<< (nI i &&& 31)))) else ((nhA L N i).1, set0 (nhA L N i).2 1 (sdN (sed (nhA L N i).2)))) else nhA L N i).2) ∧ _
      by_cases z : rho L i = hou (nhA L N i).2
      · rw [if_pos z, show (22 : Int32) = nI 22 from by decide, x3.at (by omega) (by decide), Option.bind_some, if_neg (by decide), if_pos z, x3'.2.2.2, es, sd_M hs]
        obtain ⟨h2, y1, y2, y3⟩ := x3.set (p := 22) (by omega) (by decide) (sdN (nI s))
        obtain ⟨s1, hs1, es1⟩ := sd_lt hs
        have LC2 := y3.lc (MLawC.lc ml L) (by omega) LC
        have m3 : gR h2 12 (some 285) 3 = some (some ml) := by rw [gR_c (y3.2 285 (by omega))]; exact m2
        obtain ⟨-, -, -, -, -, ⟨-, -, -, ⟨b4, hb4, hB4⟩, -⟩, -⟩ := LC2.v ok
        rw [y1, Option.bind_some, y2.at (by omega) (by decide), Option.bind_some, if_neg (by decide), m3, Option.bind_some, hb4, Option.bind_some, hB4 i hi, Option.bind_some, show up1 f1 22 (sdN (nI s)) 22 = sdN (nI s) from if_pos rfl, es1, rm_100 hs1]
        have y4 := mrw_22 (x := sdN (nI s)) x3' h5
        by_cases y : nI ((nI s1).toNatClampNeg % 100) < rod L i
        · rw [if_pos y, if_pos y, show (20 : Int32) = nI 20 from by decide, y2.at (by omega) (by decide), Option.bind_some, show up1 f1 22 (sdN (nI s)) 20 = cme (nhA L N i).2 from by rw [y4.2.1, s0_c1]]
          obtain ⟨h3, w1, w2, w3⟩ := y2.set (p := 20) (by omega) (by decide) (cme (nhA L N i).2 ||| ((1 : Int32) <<< (nI i &&& 31)))
          rw [w1, Option.bind_some]
          exact ⟨_, rfl, rfl, rfl, ⟨_, w2, by rw [← es1]; exact mrw_20 y4 h5⟩, (x4.tr y3).tr w3⟩
        · rw [if_neg y, if_neg y]
          exact ⟨_, rfl, rfl, rfl, ⟨_, y2, by rw [← es1]; exact y4⟩, x4.tr y3⟩
      · rw [if_neg z, if_neg z]
        exact ⟨_, rfl, rfl, rfl, ⟨f1, x3, x3'⟩, x4⟩) (by
      rintro ⟨s1, s2, s3⟩ ⟨x1, x2, x3, x4⟩
      dsimp only at x1 x2 x3 x4 ⊢
      subst x1 x2
      have LC := x4.lc (MLawC.lc ml L) (by omega) l
      have m2 : gR s3 12 (some 285) 3 = some (some ml) := by rw [gR_c (x4.2 285 (by omega))]; exact m1
      rw [m2, Option.bind_some, (LC.v ok).1.2.2.2.2.2.1, Option.bind_some, if_pos (nI_le (Nat.le_refl _) (by omega))]
      exact ⟨_, rfl, rfl, x3, x4⟩)
  refine ⟨x.2, f1, ?_, l3, l3', l4⟩
  unfold f_M_nextHour
  rw [show (21 : Int32) = nI 21 from by decide, e.at (by omega) (by decide), Option.bind_some, r.2.2.1, a1, Option.bind_some]
  rw [show nI 21 = (21 : Int32) from by decide, l1, Option.bind_some, l2]
/-- the reference's change -/
theorem mrw_mov {f : Nat → Int32} {n p d : Nat} {t : Int32} (r : MRw f n N) (hn : n ≤ 5) (hp : p < n) : MRw (up1 (up1 (up1 (up1 f (10 + p) (spe N p + t)) p (nI d)) (5 + p) (tur N p + 1)) (15 + p) (hou N)) n (movN N p d t) := by
  obtain ⟨r0, r1, r2, r3⟩ := r
  refine ⟨fun q hq => ?_, ?_, ?_, ?_⟩
  · obtain ⟨a1, a2, a3, a4⟩ := r0 q hq
    have e1 : hel (movN N p d t) q = if q = p then d else hel N q := rfl
    have e2 : tur (movN N p d t) q = if q = p then tur N p + 1 else tur N q := by simp [movN, tur, up1]
    have e3 : spe (movN N p d t) q = if q = p then spe N p + t else spe N q := by simp [movN, spe, up1]
    have e4 : lat (movN N p d t) q = if q = p then hou N else lat N q := by simp [movN, lat, up1]
    rw [e1, e2, e3, e4]
    unfold up1
    by_cases z : q = p
    · subst z
      refine ⟨?_, ?_, ?_, ?_⟩
      · rw [if_neg (by omega), if_neg (by omega), if_pos rfl, if_pos rfl]
      · rw [if_neg (by omega), if_pos rfl, if_pos rfl]
      · rw [if_neg (by omega), if_neg (by omega), if_neg (by omega), if_pos rfl, if_pos rfl]
      · rw [if_pos rfl, if_pos rfl]
    · refine ⟨?_, ?_, ?_, ?_⟩
      · rw [if_neg (by omega), if_neg (by omega), if_neg (by omega), if_neg (by omega), if_neg z]; exact a1
      · rw [if_neg (by omega), if_neg (by omega), if_neg (by omega), if_neg (by omega), if_neg z]; exact a2
      · rw [if_neg (by omega), if_neg (by omega), if_neg (by omega), if_neg (by omega), if_neg z]; exact a3
      · rw [if_neg (by omega), if_neg (by omega), if_neg (by omega), if_neg (by omega), if_neg z]; exact a4
  · rw [show cme (movN N p d t) = cme N by simp [movN, cme]]
    unfold up1; rw [if_neg (by omega), if_neg (by omega), if_neg (by omega), if_neg (by omega)]; exact r1
  · rw [show hou (movN N p d t) = hou N by simp [movN, hou]]
    unfold up1; rw [if_neg (by omega), if_neg (by omega), if_neg (by omega), if_neg (by omega)]; exact r2
  · rw [show sed (movN N p d t) = sed N by simp [movN, sed]]
    unfold up1; rw [if_neg (by omega), if_neg (by omega), if_neg (by omega), if_neg (by omega)]; exact r3
theorem mod_changes {f : Nat → Int32} {p d : Nat} {tb th : Int32} (hM : ModV h 285 ml tb th) (l : MLawC h ml L) (ok : LawOk L) (okN : NowOk L N) (e : Fu h a 23 f) (r : MRw f (nP L) N) (hp : p < nP L) (hd : d < nC L) : ∃ h1 f1, f_M_changesTo h (some 285) (some a) (nI p) (nI d) = some (taxN L N tb th p d, h1) ∧ Fu h1 a 23 f1 ∧ MRw f1 (nP L) (movN N p d (taxN L N tb th p d)) ∧ Fr h h1 a (a + 1) := by
  have h5 := ok.2.2.1
  have tx := mod_taxIn hM (l.v ok) ok (MRw.v e r h5) hp (okN p hp).1 hd
  obtain ⟨h1, a1, a2, a3⟩ := e.set (p := 10 + p) (by omega) (by decide) (spe N p + taxN L N tb th p d)
  obtain ⟨h2, b1, b2, b3⟩ := a2.set (p := p) (by omega) (by decide) (nI d)
  obtain ⟨h3, c1, c2, c3⟩ := b2.set (p := 5 + p) (by omega) (by decide) (tur N p + 1)
  obtain ⟨h4, d1, d2, d3⟩ := c2.set (p := 15 + p) (by omega) (by decide) (hou N)
  refine ⟨h4, _, ?_, d2, mrw_mov r h5 hp, ((a3.tr b3).tr c3).tr d3⟩
  obtain ⟨r1, r2, r3, r4⟩ := r.1 p hp
  unfold f_M_changesTo
  rw [cl_gI hM.2.1, tx, Option.bind_some, nI_10p, e.at (by omega) (by decide), Option.bind_some, r3, a1, Option.bind_some, nI_z, b1, Option.bind_some, nI_5p, b2.at (by omega) (by decide), Option.bind_some]
  rw [show up1 (up1 f (10 + p) (spe N p + taxN L N tb th p d)) p (nI d) (5 + p) = tur N p from by unfold up1; rw [if_neg (by omega), if_neg (by omega)]; exact r2, c1, Option.bind_some, show (21 : Int32) = nI 21 from by decide, c2.at (by omega) (by decide), Option.bind_some, nI_15p]
  rw [show up1 (up1 (up1 f (10 + p) (spe N p + taxN L N tb th p d)) p (nI d)) (5 + p) (tur N p + 1) 21 = hou N from by unfold up1; rw [if_neg (by omega), if_neg (by omega), if_neg (by omega)]; exact r.2.2.1, d1, Option.bind_some]
theorem mov_ok {B c p d : Nat} {t : Int32} (g : NowG B c L N) (hp : p < nP L) (hd : d < nC L) : NowG B (c + 1) L (movN N p d t) := by
  obtain ⟨⟨j, hj, ej⟩, g2, g3, g4, g5⟩ := g
  have eh : hou (movN N p d t) = hou N := by simp [movN, hou]
  have es : sed (movN N p d t) = sed N := by simp [movN, sed]
  have ec : cme (movN N p d t) = cme N := by simp [movN, cme]
  refine ⟨⟨j, hj, by rw [eh]; exact ej⟩, by rw [es]; exact g2, by rw [ec, eh]; exact g3, fun q hq => ?_, fun q h1 h2 => ?_⟩
  · have e1 : hel (movN N p d t) q = if q = p then d else hel N q := rfl
    have e2 : tur (movN N p d t) q = if q = p then tur N p + 1 else tur N q := by simp [movN, tur, up1]
    have e4 : lat (movN N p d t) q = if q = p then hou N else lat N q := by simp [movN, lat, up1]
    rw [e1, e2, e4, eh]
    by_cases z : q = p
    · subst z
      rw [if_pos rfl, if_pos rfl, if_pos rfl]
      refine ⟨hd, Or.inr ?_⟩
      rcases (g4 q hq).2 with ⟨y1, y2⟩ | ⟨t0, j0, j1, t1, t2, y1, y2, y3, y4, y5⟩
      · exact ⟨1, j, j, by omega, by omega, by rw [y1]; rfl, ej, ej, Nat.le_refl _, hj⟩
      · exact ⟨t0 + 1, j, j, by omega, by omega, by rw [y1, nI_s], ej, ej, Nat.le_refl _, hj⟩
    · rw [if_neg z, if_neg z, if_neg z]
      refine ⟨(g4 q hq).1, ?_⟩
      rcases (g4 q hq).2 with y | ⟨t0, j0, j1, t1, t2, y⟩
      · exact Or.inl y
      · exact Or.inr ⟨t0, j0, j1, t1, by omega, y⟩
  · have e3 : spe (movN N p d t) q = if q = p then spe N p + t else spe N q := by simp [movN, spe, up1]
    rw [e3, if_neg (by omega)]
    exact g5 q h1 h2
end G2
section G3
variable {h h1 : PH} {lw c : Nat} {S : StD} {ml : Option Nat} {N : NowD} {P : PaD}
theorem SOk.kp (o : SOk c S) (lf : sLf S = true) : SOk c (paS S (kpP (sP S) (sNw S))) := by
  have g := (o.2.1 lf).2.2
  have hu := o.2.2.2.1
  unfold kpP
  by_cases z : und (sP S) = 16
  · rw [if_pos z]
    refine o.pa lf (fun i hi => ?_) g.2.2 (by show 15 + 1 ≤ 16; omega) o.2.2.2.2.1
    have hi : i < 16 := hi
    show NowG 999 c (sL S) (if i = 15 then sNw S else if i = 15 then kep (sP S) 0 else kep (sP S) (i + 1))
    by_cases y : i = 15
    · rw [if_pos y]; exact g.1
    · rw [if_neg y, if_neg y]; exact g.2.1 _ (by omega)
  · rw [if_neg z]
    refine o.pa lf (fun i hi => ?_) g.2.2 (by show und (sP S) + 1 ≤ 16; omega) o.2.2.2.2.1
    have hi : i < und (sP S) + 1 := hi
    show NowG 999 c (sL S) (if i = und (sP S) then sNw S else kep (sP S) i)
    by_cases y : i = und (sP S)
    · rw [if_pos y]; exact g.1
    · rw [if_neg y]; exact g.2.1 _ (by omega)
theorem SOk.c1 (o : SOk c S) (hc : c < 600) : SOk (c + 1) S := o.up hc
theorem op_change (o : SOk c S) (hc : c < 600) (a b : Int32) : Op (fun h => f_T_change h (some 100) a b) (fun h => f_M_change h (some 285) a b) c S := by
  have h5 := o.P5
  have h6 := o.C5
  rcases arg_c a (nP (sL S)) (by omega) with ⟨p, hp, rfl⟩ | ha
  · have lf := o.lfP hp
    have ok := o.ok lf
    have okN := o.nk lf
    have hh := (okN p hp).1
    rcases arg_c b (nC (sL S)) (by omega) with ⟨d, hd, rfl⟩ | hb
    · by_cases z : hel (sNw S) p = d
      · refine ⟨-1, trS S 5, fun h lw e => ?_, fun h ml e => ?_, o.tr _ (by omega) (by omega)⟩
        · obtain ⟨h1, lw1, r1, r2, r3⟩ := e.rf 5
          refine ⟨h1, lw1, ?_, r2, r3⟩
          show f_T_change h (some 100) (nI p) (nI d) = _
          unfold f_T_change
          rw [e.isP1 hp h5, Option.bind_some, if_neg (by decide), e.isC1 hd h6, Option.bind_some, if_pos (by decide), gR_o e.2.1 rfl, Option.bind_some, gR_o e.2.2.2.2.2.2.1.1 rfl, Option.bind_some, e.2.2.2.2.2.2.1.2.1.at (by omega) (by decide), Option.bind_some, z, if_neg (fun q => q rfl)]
          exact r1
        · obtain ⟨h1, s1, s2, s3⟩ := e.st
          obtain ⟨h2, ml2, r1, r2, r3⟩ := s2.rf 5 (by decide)
          refine ⟨h2, ml2, ?_, r2, s3.tr r3⟩
          show f_M_change h (some 285) (nI p) (nI d) = _
          unfold f_M_change
          rw [s1, Option.bind_some, s2.isP1 lf hp h5, Option.bind_some, if_neg (by decide), s2.isC1 lf hd h6, Option.bind_some, if_pos (by decide), s2.vr, Option.bind_some, nI_z, ((s2.row lf h5).1 p hp).1, Option.bind_some, z, if_neg (fun q => q rfl)]
          exact r1
      · refine ⟨taxN (sL S) (sNw S) (-1) (third (sL S)) p d, trS (nwS (paS S (kpP (sP S) (sNw S))) (movN (sNw S) p d (taxN (sL S) (sNw S) (-1) (third (sL S)) p d))) 0, fun h lw e => ?_, fun h ml e => ?_, ?_⟩
        · obtain ⟨h1, a1, a2, a3⟩ := cls_keep e.2.2.2.2.2.2.2.2 o.2.2.2.1 e.2.2.2.2.2.2.1
          have e1 := e.pa a3 a2
          obtain ⟨h2, q1, q2, q3, q4⟩ := e1.pr
          obtain ⟨h3, b1, b2, b3⟩ := cls_move (c := d) q2.2.2.2.2.2.2.1 (show p < 5 by omega) (taxN (sL S) (sNw S) (-1) (third (sL S)) p d)
          have e3 := q2.nw b3 b2
          obtain ⟨h4, lw4, r1, r2, r3⟩ := e3.fn (taxN (sL S) (sNw S) (-1) (third (sL S)) p d)
          refine ⟨h4, lw4, ?_, r2, (((a3.wd (by omega) (by omega)).tr q4).tr (b3.wd (by omega) (by omega))).tr r3⟩
          have p0 : Fo h 187 3 4 (paF (sP S)) := e.2.2.2.2.2.2.2.2.choose_spec.1
          show f_T_change h (some 100) (nI p) (nI d) = _
          unfold f_T_change
          rw [e.isP1 hp h5, Option.bind_some, if_neg (by decide), e.isC1 hd h6, Option.bind_some, if_pos (by decide), gR_o e.2.1 rfl, Option.bind_some, gR_o e.2.2.2.2.2.2.1.1 rfl, Option.bind_some, e.2.2.2.2.2.2.1.2.1.at (by omega) (by decide), Option.bind_some, if_pos (fun q => z ((nI_eq (by omega) (by omega)).mp q)), gR_o e.2.1 rfl, Option.bind_some, Option.bind_some, cl_o p0, a1, Option.bind_some, q1, Option.bind_some]
          dsimp only
          rw [cl_o q3, cls_tax (L := sL S) (N := sNw S) q3.v (q2.lv ok) ok (q2.nv h5) okN hp hd, Option.bind_some, gR_o q2.2.1 rfl, Option.bind_some, cl_o q2.2.2.2.2.2.2.1.1]
          rw [show third (sL (paS S (kpP (sP S) (sNw S)))) = third (sL S) from rfl, b1, Option.bind_some]
          exact r1
        · obtain ⟨h1, s1, s2, s3⟩ := e.st
          obtain ⟨h2, i, t1, t2, t3, t4, t5, t6⟩ := s2.to lf
          obtain ⟨h3, k1, k2, k3, k4⟩ := mod_keep t2 lf o.2.2.2.1 h5
          obtain ⟨i1, m1, m2, m3⟩ := k2.ye lf
          cases t3.symm.trans m1
          obtain ⟨F, e0, e1, ⟨e2, ⟨f3, e3, e3'⟩, e4⟩, -⟩ := id k2
          have mv : ModV h3 285 i (-1) (third (sL S)) := ⟨by rw [k2.lwR, m1], by have := t4.2.1; unfold gI at this ⊢; rw [k4 21 (by omega)]; exact this, by have := t4.2.2; unfold gI at this ⊢; rw [k4 22 (by omega)]; exact this⟩
          obtain ⟨h4, f4, c1, c2, c3, c4⟩ := mod_changes (N := sNw S) mv m3 ok okN e3 (e3' lf) hp hd
          have e5 := k2.nw c4 c2 (fun _ => c3)
          obtain ⟨h5', ml5, r1, r2, r3⟩ := e5.gd (taxN (sL S) (sNw S) (-1) (third (sL S)) p d)
          refine ⟨h5', ml5, ?_, r2, ((((s3.tr (t6.wd (by omega) (by omega))).tr (k3.wd (by omega) (by omega))).tr (c4.wd (by omega) (by omega))).tr r3)⟩
          show f_M_change h (some 285) (nI p) (nI d) = _
          unfold f_M_change
          rw [s1, Option.bind_some, s2.isP1 lf hp h5, Option.bind_some, if_neg (by decide), s2.isC1 lf hd h6, Option.bind_some, if_pos (by decide), s2.vr, Option.bind_some, nI_z, ((s2.row lf h5).1 p hp).1, Option.bind_some, if_pos (fun q => z ((nI_eq (by omega) (by omega)).mp q)), t1, Option.bind_some, t2.cl, k1, Option.bind_some, k2.vr, Option.bind_some, k2.cl]
          rw [show f_M_changesTo h3 (some 285) (some 287) (nI p) (nI d) = some (taxN (sL S) (sNw S) (-1) (third (sL S)) p d, h4) from c1, Option.bind_some]
          exact r1
        · refine SOk.tr (c := c + 1) (SOk.nw ((o.kp lf).up hc) (fun q => mov_ok (o.2.1 lf).2.2.1 hp hd) (fun q => absurd (lf.symm.trans q) (by decide))) 0 (by omega) (by omega)
    · refine ⟨-1, trS S 1, fun h lw e => ?_, fun h ml e => ?_, o.tr _ (by omega) (by omega)⟩
      · obtain ⟨h1, lw1, r1, r2, r3⟩ := e.rf 1
        refine ⟨h1, lw1, ?_, r2, r3⟩
        show f_T_change h (some 100) (nI p) b = _
        unfold f_T_change
        rw [e.isP1 hp h5, Option.bind_some, if_neg (by decide), e.isC0 hb, Option.bind_some, if_neg (fun q => q rfl)]
        exact r1
      · obtain ⟨h1, s1, s2, s3⟩ := e.st
        obtain ⟨h2, ml2, r1, r2, r3⟩ := s2.rf 1 (by decide)
        refine ⟨h2, ml2, ?_, r2, s3.tr r3⟩
        show f_M_change h (some 285) (nI p) b = _
        unfold f_M_change
        rw [s1, Option.bind_some, s2.isP1 lf hp h5, Option.bind_some, if_neg (by decide), s2.isC0 hb, Option.bind_some, if_neg (fun q => q rfl)]
        exact r1
  · refine ⟨-1, trS S 1, fun h lw e => ?_, fun h ml e => ?_, o.tr _ (by omega) (by omega)⟩
    · obtain ⟨h1, lw1, r1, r2, r3⟩ := e.rf 1
      refine ⟨h1, lw1, ?_, r2, r3⟩
      show f_T_change h (some 100) a b = _
      unfold f_T_change
      rw [e.isP0 ha, Option.bind_some, if_pos rfl]
      exact r1
    · obtain ⟨h1, s1, s2, s3⟩ := e.st
      obtain ⟨h2, ml2, r1, r2, r3⟩ := s2.rf 1 (by decide)
      refine ⟨h2, ml2, ?_, r2, s3.tr r3⟩
      show f_M_change h (some 285) a b = _
      unfold f_M_change
      rw [s1, Option.bind_some, s2.isP0 ha, Option.bind_some, if_pos rfl]
      exact r1
/-- n hours go by -/
def hrA (L : LawD) (N : NowD) : Nat → Int32 × NowD
  | 0 => (0, N)
  | k + 1 => ((hrA L N k).1 + (nhS L (hrA L N k).2).1, (nhS L (hrA L N k).2).2)
theorem hr_ok {L : LawD} {B : Nat} (g : NowG B c L N) (b : LawB L) (h4 : nR L ≤ 4) : ∀ k, B + k < 2000 → NowG (B + k) c L (hrA L N k).2
  | 0, _ => g
  | k + 1, hk => (nh_ok (hr_ok g b h4 k (by omega)) b (by omega) h4 (nR L) (Nat.le_refl _)).1
theorem hr_le {L : LawD} {B B1 : Nat} (g : NowG B c L N) {j : Nat} (hj : hou N = nI j) (h1 : j ≤ B1) (hB : B < 2000) (hj2 : j < 2000) : NowG B1 c L N := by
  obtain ⟨⟨j0, hj0, ej⟩, g2, g3, g4, g5⟩ := g
  refine ⟨⟨j, h1, hj⟩, g2, g3, fun p hp => ?_, g5⟩
  refine ⟨(g4 p hp).1, ?_⟩
  rcases (g4 p hp).2 with y | ⟨t, j2, j1, t1, t2, y1, y2, y3, y4, y5⟩
  · exact Or.inl y
  · have : j1 = j := (nI_eq (by omega) (by omega)).mp (y3.symm.trans hj)
    exact Or.inr ⟨t, j2, j1, t1, t2, y1, y2, y3, y4, by omega⟩
theorem op_hours (o : SOk c S) (hc : c < 600) (a : Int32) : Op (fun h => f_T_hours h (some 100) a) (fun h => f_M_hours h (some 285) a) c S := by
  have h5 := o.P5
  cases lf : sLf S with
  | false =>
    refine ⟨-1, trS S 1, fun h lw e => ?_, fun h ml e => ?_, o.tr _ (by omega) (by omega)⟩
    · obtain ⟨h1, lw1, r1, r2, r3⟩ := e.rf 1
      refine ⟨h1, lw1, ?_, r2, r3⟩
      show f_T_hours h (some 100) a = _
      unfold f_T_hours
      rw [e.bd, show bdS S a 1 24 = 1 from if_pos lf, Option.bind_some, if_neg (by decide)]
      exact r1
    · obtain ⟨h1, s1, s2, s3⟩ := e.st
      obtain ⟨h2, ml2, r1, r2, r3⟩ := s2.rf 1 (by decide)
      refine ⟨h2, ml2, ?_, r2, s3.tr r3⟩
      show f_M_hours h (some 285) a = _
      unfold f_M_hours
      rw [s1, Option.bind_some, s2.lwR, Option.bind_some, if_pos (s2.no lf)]
      exact r1
  | true =>
    have ok := o.ok lf
    have lb := (o.2.1 lf).2.1
    have ng := (o.2.1 lf).2.2.1
    have h4 := ok.2.2.2.1
    by_cases z : a < 1 ∨ 24 < a
    · refine ⟨-1, trS S 2, fun h lw e => ?_, fun h ml e => ?_, o.tr _ (by omega) (by omega)⟩
      · obtain ⟨h1, lw1, r1, r2, r3⟩ := e.rf 2
        refine ⟨h1, lw1, ?_, r2, r3⟩
        show f_T_hours h (some 100) a = _
        unfold f_T_hours
        rw [e.bd, show bdS S a 1 24 = 2 from by unfold bdS; rw [if_neg (by rw [lf]; decide), if_pos z], Option.bind_some, if_neg (by decide)]
        exact r1
      · obtain ⟨h1, s1, s2, s3⟩ := e.st
        obtain ⟨i0, m1, -⟩ := s2.ye lf
        obtain ⟨h2, ml2, r1, r2, r3⟩ := s2.rf 2 (by decide)
        refine ⟨h2, ml2, ?_, r2, s3.tr r3⟩
        show f_M_hours h (some 285) a = _
        unfold f_M_hours f_M_in
        rw [s1, Option.bind_some, s2.lwR, Option.bind_some, if_neg (by rw [m1]; simp)]
        by_cases y : a < 1
        · rw [if_pos y, Option.bind_some, if_neg (fun q => q rfl)]; exact r1
        · rw [if_neg y, if_pos (z.resolve_left y), Option.bind_some, if_neg (fun q => q rfl)]; exact r1
    · have z1 : ¬ a < 1 := fun q => z (Or.inl q)
      have z2 : ¬ 24 < a := fun q => z (Or.inr q)
      obtain ⟨n, hn1, hn2, rfl⟩ : ∃ n, 1 ≤ n ∧ n ≤ 24 ∧ a = nI n := by
        obtain ⟨j, hj, rfl⟩ := nI_of (x := a) (fun q => z1 (Int32.lt_trans q (by decide)))
        refine ⟨j, ?_, ?_, rfl⟩
        · rw [show (1 : Int32) = nI 1 from rfl, nI_ltI hj (by omega)] at z1; omega
        · rw [show (24 : Int32) = nI 24 from by decide, nI_ltI (by omega) hj] at z2; omega
      obtain ⟨j, hj, ej⟩ := ng.1
      by_cases y : j + n ≤ 999
      · have HR := hr_ok ng lb h4
        have hh : ∀ k, k ≤ n → hou (hrA (sL S) (sNw S) k).2 = nI (j + k) := by
          intro k
          induction k with
          | zero => intro _; exact ej
          | succ k ih =>
            intro hk
            have := (nh_ok (HR k (by omega)) lb (by omega) h4 (nR (sL S)) (Nat.le_refl _)).2.1
            show hou (nhS (sL S) (hrA (sL S) (sNw S) k).2).2 = _
            unfold nhS
            rw [this, ih (by omega), nI_s]
            rfl
        have HR2 : ∀ k, k ≤ n → NowG 999 c (sL S) (hrA (sL S) (sNw S) k).2 := fun k hk => hr_le (HR k (by omega)) (hh k hk) (by omega) (by omega) (by omega)
        refine ⟨(hrA (sL S) (sNw S) n).1, trS (nwS (paS S (kpP (sP S) (sNw S))) (hrA (sL S) (sNw S) n).2) 0, fun h lw e => ?_, fun h ml e => ?_, ?_⟩
        · obtain ⟨h1, a1, a2, a3⟩ := cls_keep e.2.2.2.2.2.2.2.2 o.2.2.2.1 e.2.2.2.2.2.2.1
          have e1 := e.pa a3 a2
          obtain ⟨x, l1, l2, l3, l4⟩ := pj_inv (step := fun s7 : Int32 × Int32 × PH => if nI n ≤ s7.2.1 then (some (.inr (s7.1, s7.2.2)) : Option ((Int32 × Int32 × PH) ⊕ (Int32 × PH))) else ((gR s7.2.2 10 (some 100) 6).bind fun v9 => (gR s7.2.2 10 (some 100) 2).bind fun v10 => (gR s7.2.2 1 v10 10).bind fun v11 => (cl s7.2.2 2 v9 (f_Now_nextHour s7.2.2 v9 v11)).bind fun v12 => some (.inl ((s7.1 + v12.1), (s7.2.1 + (1 : Int32)), v12.2)))) (fun i s => s.1 = (hrA (sL S) (sNw S) i).1 ∧ s.2.1 = nI i ∧ CI s.2.2 lw (nwS (paS S (kpP (sP S) (sNw S))) (hrA (sL S) (sNw S) i).2) ∧ Fr h s.2.2 100 285) (fun x => x.1 = (hrA (sL S) (sNw S) n).1 ∧ CI x.2 lw (nwS (paS S (kpP (sP S) (sNw S))) (hrA (sL S) (sNw S) n).2) ∧ Fr h x.2 100 285) n (s0 := ((0 : Int32), (0 : Int32), h1)) (by omega) ⟨rfl, rfl, e1, a3.wd (by omega) (by omega)⟩ (by
              rintro i ⟨s1, s2, s3⟩ hi ⟨x1, x2, x3, x4⟩
              dsimp only at x1 x2 x3 x4 ⊢
              subst x1 x2
              left
              have hl := x3.1
              obtain ⟨h2, y1, y2, y3⟩ := cls_next (N := (hrA (sL S) (sNw S) i).2) (L := sL S) x3.2.2.2.2.2.2.1 x3.2.2.2.1 (by omega) ok lb (HR2 i (by omega)) (by omega)
              rw [if_neg (nI_nle' hi (by omega)), gR_o x3.2.1 rfl, Option.bind_some, gR_o x3.2.1 rfl, Option.bind_some, gR_o x3.2.2.2.1.1 rfl, Option.bind_some, cl_o x3.2.2.2.2.2.2.1.1, y1, Option.bind_some, nI_s]
              exact ⟨_, rfl, rfl, rfl, x3.nw y3 y2, x4.tr (y3.wd (by omega) (by omega))⟩) (by
              rintro ⟨s1, s2, s3⟩ ⟨x1, x2, x3, x4⟩
              dsimp only at x1 x2 x3 x4 ⊢
              subst x1 x2
              rw [if_pos (nI_le (Nat.le_refl _) (by omega))]
              exact ⟨_, rfl, rfl, x3, x4⟩)
          obtain ⟨h4', lw4, r1, r2, r3⟩ := l3.fn (hrA (sL S) (sNw S) n).1
          refine ⟨h4', lw4, ?_, r2, l4.tr r3⟩
          have p0 : Fo h 187 3 4 (paF (sP S)) := e.2.2.2.2.2.2.2.2.choose_spec.1
          show f_T_hours h (some 100) (nI n) = _
          unfold f_T_hours
          rw [e.bd, show bdS S (nI n) 1 24 = 0 from by unfold bdS; rw [if_neg (by rw [lf]; decide), if_neg z], Option.bind_some, if_pos rfl, gR_o e.2.1 rfl, Option.bind_some, gI_o e.2.2.2.2.2.2.1.1 rfl, Option.bind_some, ej, nI_add, if_pos (show nI (j + n) ≤ 999 from nI_le (b := 999) y (by omega)), gR_o e.2.1 rfl, Option.bind_some, Option.bind_some, cl_o p0, a1, Option.bind_some, l1, Option.bind_some, l2]
          exact r1
        · obtain ⟨h1, s1, s2, s3⟩ := e.st
          obtain ⟨i0, m1, -⟩ := s2.ye lf
          obtain ⟨h3, k1, k2, k3, k4⟩ := mod_keep s2 lf o.2.2.2.1 h5
          obtain ⟨x, l1, l2, l3, l4⟩ := pj_inv (step := fun s7 : Int32 × Int32 × PH => if nI n ≤ s7.2.1 then (some (.inr (s7.1, s7.2.2)) : Option ((Int32 × Int32 × PH) ⊕ (Int32 × PH))) else ((gR s7.2.2 12 (some 285) 15).bind fun v9 => (cl s7.2.2 12 (some 285) (f_M_nextHour s7.2.2 (some 285) v9)).bind fun v10 => some (.inl ((s7.1 + v10.1), (s7.2.1 + (1 : Int32)), v10.2)))) (fun i s => s.1 = (hrA (sL S) (sNw S) i).1 ∧ s.2.1 = nI i ∧ Mst s.2.2 ml (nwS (paS S (kpP (sP S) (sNw S))) (hrA (sL S) (sNw S) i).2) ∧ Fr h s.2.2 285 295) (fun x => x.1 = (hrA (sL S) (sNw S) n).1 ∧ Mst x.2 ml (nwS (paS S (kpP (sP S) (sNw S))) (hrA (sL S) (sNw S) n).2) ∧ Fr h x.2 285 295) n (s0 := ((0 : Int32), (0 : Int32), h3)) (by omega) ⟨rfl, rfl, k2, s3.tr (k3.wd (by omega) (by omega))⟩ (by
              rintro i ⟨s1, s2, s3⟩ hi ⟨x1, x2, x3, x4⟩
              dsimp only at x1 x2 x3 x4 ⊢
              subst x1 x2
              left
              obtain ⟨i1, m1, m2, m3⟩ := x3.ye lf
              obtain ⟨F, e0, e1, ⟨e2, ⟨f3, e3, e3'⟩, e4⟩, -⟩ := id x3
              obtain ⟨h2, f2, y1, y2, y3, y4⟩ := mod_next (N := (hrA (sL S) (sNw S) i).2) (L := sL S) (by rw [x3.lwR, m1]) m3 m2 (by omega) ok lb (HR2 i (by omega)) (by omega) e3 (e3' lf)
              rw [if_neg (nI_nle' hi (by omega)), x3.vr, Option.bind_some, x3.cl, y1, Option.bind_some, nI_s]
              exact ⟨_, rfl, rfl, rfl, x3.nw y4 y2 (fun _ => y3), x4.tr (y4.wd (by omega) (by omega))⟩) (by
              rintro ⟨s1, s2, s3⟩ ⟨x1, x2, x3, x4⟩
              dsimp only at x1 x2 x3 x4 ⊢
              subst x1 x2
              rw [if_pos (nI_le (Nat.le_refl _) (by omega))]
              exact ⟨_, rfl, rfl, x3, x4⟩)
          obtain ⟨h4', ml4, r1, r2, r3⟩ := l3.gd (hrA (sL S) (sNw S) n).1
          refine ⟨h4', ml4, ?_, r2, l4.tr r3⟩
          show f_M_hours h (some 285) (nI n) = _
          unfold f_M_hours f_M_in
          rw [s1, Option.bind_some, s2.lwR, Option.bind_some, if_neg (by rw [m1]; simp), if_neg z1, if_neg z2, Option.bind_some, if_pos (by decide), s2.vr, Option.bind_some, (s2.row lf h5).2.2.1, Option.bind_some, ej, show (999 : Int32) - nI n = nI (999 - n) from pk_sub (a := 999) (by omega), if_pos (nI_le (by omega) (by omega)), s2.cl, k1, Option.bind_some, l1, Option.bind_some, l2]
          exact r1
        · exact SOk.tr (c := c) (SOk.nw (o.kp lf) (fun q => HR2 n (Nat.le_refl _)) (fun q => absurd (lf.symm.trans q) (by decide))) 0 (by omega) (by omega)
      · refine ⟨-1, trS S 3, fun h lw e => ?_, fun h ml e => ?_, o.tr _ (by omega) (by omega)⟩
        · obtain ⟨h1, lw1, r1, r2, r3⟩ := e.rf 3
          refine ⟨h1, lw1, ?_, r2, r3⟩
          show f_T_hours h (some 100) (nI n) = _
          unfold f_T_hours
          rw [e.bd, show bdS S (nI n) 1 24 = 0 from by unfold bdS; rw [if_neg (by rw [lf]; decide), if_neg z], Option.bind_some, if_pos rfl, gR_o e.2.1 rfl, Option.bind_some, gI_o e.2.2.2.2.2.2.1.1 rfl, Option.bind_some, ej, nI_add, if_neg (show ¬ nI (j + n) ≤ 999 from nI_ge (a := 999) (by omega) (by omega))]
          exact r1
        · obtain ⟨h1, s1, s2, s3⟩ := e.st
          obtain ⟨i0, m1, -⟩ := s2.ye lf
          obtain ⟨h2, ml2, r1, r2, r3⟩ := s2.rf 3 (by decide)
          refine ⟨h2, ml2, ?_, r2, s3.tr r3⟩
          show f_M_hours h (some 285) (nI n) = _
          unfold f_M_hours f_M_in
          rw [s1, Option.bind_some, s2.lwR, Option.bind_some, if_neg (by rw [m1]; simp), if_neg z1, if_neg z2, Option.bind_some, if_pos (by decide), s2.vr, Option.bind_some, (s2.row lf h5).2.2.1, Option.bind_some, ej, show (999 : Int32) - nI n = nI (999 - n) from pk_sub (a := 999) (by omega), if_neg (nI_ge (by omega) (by omega))]
          exact r1
end G3
