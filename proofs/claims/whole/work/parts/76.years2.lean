/-! year, yearHeld, yearChanges -/
def ytS (S : StD) (a b : Int32) : Int32 := if sLf S = false then 1 else if (a < 0 ∨ 65536 < a) ∨ (b < 0 ∨ 60 < b) then 2 else 0
section I1
variable {h : PH} {lw c : Nat} {S : StD} {ml : Option Nat} {N : NowD}
theorem CI.yt (e : CI h lw S) (a b : Int32) : Jvm.Pilot.CWaverTaxLaw_law_r8537_6f3a17.cl h 10 (some 100) (f_T_yearTrouble h (some 100) a b) = some (ytS S a b) := by
  rw [e.cl]
  unfold f_T_yearTrouble
  rw [e.bd, Option.bind_some, e.bd, Option.bind_some]
  unfold bdS ytS
  by_cases lf : sLf S = false
  · rw [if_pos lf, if_pos lf, if_pos lf, if_pos (by decide)]
  · rw [if_neg lf, if_neg lf, if_neg lf]
    by_cases z : a < 0 ∨ 65536 < a
    · rw [if_pos z, if_pos (Or.inl z), if_pos (by decide)]
    · rw [if_neg z, if_neg (fun q => q rfl)]
      by_cases y : b < 0 ∨ 60 < b
      · rw [if_pos y, if_pos (Or.inr y)]
      · rw [if_neg y, if_neg (fun q => q.elim z y)]
theorem Mst.yt (e : Mst h ml S) (a b : Int32) : Jvm.Pilot.CWaverTaxLaw_law_r8537_6f3a17.cl h 12 (some 285) (f_M_refusesYear h (some 285) (bI (sLf S)) a b) = some (ytS S a b) := by
  rw [e.cl]
  unfold f_M_refusesYear f_M_in ytS
  cases lf : sLf S with
  | false => rw [if_neg (show ¬ ¬ bI false = 0 from fun q => q rfl), if_pos rfl]
  | true =>
    rw [if_pos (show ¬ bI true = 0 by decide), if_neg (show ¬ true = false by decide)]
    by_cases z1 : a < 0
    · rw [if_pos z1, Option.bind_some, if_pos rfl, if_pos (Or.inl (Or.inl z1))]
    · rw [if_neg z1]
      by_cases z2 : 65536 < a
      · rw [if_pos z2, Option.bind_some, if_pos rfl, if_pos (Or.inl (Or.inr z2))]
      · rw [if_neg z2, Option.bind_some, if_neg (by decide)]
        by_cases z3 : b < 0
        · rw [if_pos z3, Option.bind_some, if_pos rfl, if_pos (Or.inr (Or.inl z3))]
        · rw [if_neg z3]
          by_cases z4 : 60 < b
          · rw [if_pos z4, Option.bind_some, if_pos rfl, if_pos (Or.inr (Or.inr z4))]
          · rw [if_neg z4, Option.bind_some, if_neg (by decide), if_neg]
            rintro ((q | q) | (q | q))
            · exact z1 q
            · exact z2 q
            · exact z3 q
            · exact z4 q
theorem yt_c (S : StD) (a b : Int32) : (ytS S a b = 0 ∧ sLf S = true ∧ ∃ s n, s < 65537 ∧ n ≤ 60 ∧ a = nI s ∧ b = nI n) ∨ ((ytS S a b = 1 ∨ ytS S a b = 2) ∧ ¬ ytS S a b = 0) := by
  unfold ytS
  by_cases lf : sLf S = false
  · rw [if_pos lf]; right; exact ⟨Or.inl rfl, by decide⟩
  · rw [if_neg lf]
    by_cases z : (a < 0 ∨ 65536 < a) ∨ (b < 0 ∨ 60 < b)
    · rw [if_pos z]; right; exact ⟨Or.inr rfl, by decide⟩
    · rw [if_neg z]
      left
      refine ⟨rfl, by cases q : sLf S; exact absurd q lf; rfl, ?_⟩
      obtain ⟨j, hj, rfl⟩ := nI_of (x := a) (fun q => z (Or.inl (Or.inl q)))
      obtain ⟨k, hk, rfl⟩ := nI_of (x := b) (fun q => z (Or.inr (Or.inl q)))
      refine ⟨j, k, ?_, ?_, rfl, rfl⟩
      · have : ¬ (65536 : Int32) < nI j := fun q => z (Or.inl (Or.inr q))
        rw [show (65536 : Int32) = nI 65536 from by decide, nI_ltI (by omega) hj] at this
        omega
      · have : ¬ (60 : Int32) < nI k := fun q => z (Or.inr (Or.inr q))
        rw [show (60 : Int32) = nI 60 from by decide, nI_ltI (by omega) hk] at this
        omega
theorem cls_chg {nw : Nat} (hN : NowV h nw 5 N) : f_Now_allChanges h (some nw) = some (chgA N 5) := by
  obtain ⟨-, -, ⟨b, hb, hB⟩, -⟩ := hN
  unfold f_Now_allChanges
  rw [pj_fold0 (fun p a => a + tur N p) id 5 (by omega) ?_ ?_]
  · rfl
  · intro i a hi
    dsimp only
    rw [show (5 : Int32) = nI 5 from by decide, if_neg (nI_nle' hi (by omega)), hb, Option.bind_some, hB i hi, Option.bind_some, nI_s]
  · intro a
    rfl
theorem lfI (e : Mst h ml S) : (if ml = none then (some (0 : Int32)) else (some (1 : Int32)) : Option Int32) = some (bI (sLf S)) := by
  cases lf : sLf S with
  | false => rw [if_pos (e.no lf)]; rfl
  | true =>
    obtain ⟨i, m1, -⟩ := e.ye lf
    rw [if_neg (by rw [m1]; simp)]; rfl
theorem yr_ans (o : SOk c S) (lf : sLf S = true) {s n : Nat} (hs : s < 65537) (hn : n ≤ 60) : spA (yrA (sL S) (set0 (sNw S) 1 (nI s), 0, 0) n).1 5 - spA (sNw S) 5 = (yrA (sL S) (set0 (sNw S) 1 (nI s), 0, 0) n).2.1 ∧ chgA (yrA (sL S) (set0 (sNw S) 1 (nI s), 0, 0) n).1 5 - chgA (sNw S) 5 = (yrA (sL S) (set0 (sNw S) 1 (nI s), 0, 0) n).2.2 := by
  have hc6 := o.2.2.2.2.2
  have g0 : NowG 999 c (sL S) (set0 (sNw S) 1 (nI s)) := by
    obtain ⟨g1, g2, g3, g4, g5⟩ := (o.2.1 lf).2.2.1
    exact ⟨by rw [s0_h1]; exact g1, ⟨s, hs, s0_s1⟩, by rw [s0_c1, s0_h1]; exact g3, fun p hp => by rw [s0_t, s0_l, s0_h1, s0_e]; exact g4 p hp, fun p a b => by rw [s0_p]; exact g5 p a b⟩
  have e1 : spA (set0 (sNw S) 1 (nI s)) 5 = spA (sNw S) 5 + 0 := by unfold spA; rw [s0_p, Int32.add_zero]
  have e2 : chgA (set0 (sNw S) 1 (nI s)) 5 = chgA (sNw S) 5 + 0 := by unfold chgA; rw [s0_t, Int32.add_zero]
  obtain ⟨y1, y2⟩ := yr_sp (s := (set0 (sNw S) 1 (nI s), 0, 0)) g0 (o.ok lf) (o.2.1 lf).2.1 (by omega) (by omega) e1 e2 n hn
  rw [y1, y2]
  generalize spA (sNw S) 5 = x1
  generalize chgA (sNw S) 5 = x2
  generalize (yrA (sL S) (set0 (sNw S) 1 (nI s), 0, 0) n).2.1 = x3
  generalize (yrA (sL S) (set0 (sNw S) 1 (nI s), 0, 0) n).2.2 = x4
  constructor <;> grind
theorem op_year (o : SOk c S) (hc : c < 600) (a b : Int32) : Op (fun h => f_T_year h (some 100) a b) (fun h => f_M_year h (some 285) a b) c S := by
  rcases yt_c S a b with ⟨z, lf, s, n, hs, hn, rfl, rfl⟩ | ⟨hv, z⟩
  · refine ⟨(yrA (sL S) (set0 (sNw S) 1 (nI s), 0, 0) n).2.1, trS S 0, fun h lw e => ?_, fun h ml e => ?_, o.tr _ (by omega) (by omega)⟩
    · obtain ⟨h1, l1, l2, l3, l4⟩ := cls_live e o lf hs hn
      obtain ⟨h2, lw2, r1, r2, r3⟩ := l2.fn ((yrA (sL S) (set0 (sNw S) 1 (nI s), 0, 0) n).2.1)
      refine ⟨h2, lw2, ?_, r2, l4.tr r3⟩
      show f_T_year h (some 100) (nI s) (nI n) = _
      unfold f_T_year
      rw [e.yt, z, Option.bind_some, if_pos rfl, l1, Option.bind_some, gR_o l2.2.1 rfl, Option.bind_some, cl_o l3.1, cls_spent (l3.v (Nat.le_refl _)), Option.bind_some, gR_o l2.2.1 rfl, Option.bind_some, cl_o l2.2.2.2.2.2.2.1.1, cls_spent (l2.nv (Nat.le_refl _)), Option.bind_some, (yr_ans o lf hs hn).1]
      exact r1
    · obtain ⟨h1, s1, s2, s3⟩ := e.st
      obtain ⟨h2, f2, l1, l2, l3, l4, l5, l6, l7⟩ := mod_year s2 o lf hs hn
      obtain ⟨h3, ml3, r1, r2, r3⟩ := l2.gd ((yrA (sL S) (set0 (sNw S) 1 (nI s), 0, 0) n).2.1)
      refine ⟨h3, ml3, ?_, r2, (s3.tr l7).tr r3⟩
      show f_M_year h (some 285) (nI s) (nI n) = _
      unfold f_M_year
      rw [s1, Option.bind_some, s2.lwR, Option.bind_some, lfI s2, Option.bind_some, s2.yt, z, Option.bind_some, if_pos (by decide), l1, Option.bind_some, l5, Option.bind_some]
      exact r1
  · refine ⟨-1, trS S (ytS S a b), fun h lw e => ?_, fun h ml e => ?_, o.tr _ (by omega) (by omega)⟩
    · obtain ⟨h1, lw1, r1, r2, r3⟩ := e.rf (ytS S a b)
      refine ⟨h1, lw1, ?_, r2, r3⟩
      show f_T_year h (some 100) a b = _
      unfold f_T_year
      rw [e.yt, Option.bind_some, if_neg z]
      exact r1
    · obtain ⟨h1, s1, s2, s3⟩ := e.st
      obtain ⟨h2, ml2, r1, r2, r3⟩ := s2.rf (ytS S a b) (by rcases hv with q | q <;> rw [q] <;> decide)
      refine ⟨h2, ml2, ?_, r2, s3.tr r3⟩
      show f_M_year h (some 285) a b = _
      unfold f_M_year
      rw [s1, Option.bind_some, s2.lwR, Option.bind_some, lfI s2, Option.bind_some, s2.yt, Option.bind_some, if_neg (by rcases hv with q | q <;> rw [q] <;> decide)]
      exact r1
theorem op_yearChanges (o : SOk c S) (hc : c < 600) (a b : Int32) : Op (fun h => f_T_yearChanges h (some 100) a b) (fun h => f_M_yearChanges h (some 285) a b) c S := by
  rcases yt_c S a b with ⟨z, lf, s, n, hs, hn, rfl, rfl⟩ | ⟨hv, z⟩
  · refine ⟨(yrA (sL S) (set0 (sNw S) 1 (nI s), 0, 0) n).2.2, trS S 0, fun h lw e => ?_, fun h ml e => ?_, o.tr _ (by omega) (by omega)⟩
    · obtain ⟨h1, l1, l2, l3, l4⟩ := cls_live e o lf hs hn
      obtain ⟨h2, lw2, r1, r2, r3⟩ := l2.fn ((yrA (sL S) (set0 (sNw S) 1 (nI s), 0, 0) n).2.2)
      refine ⟨h2, lw2, ?_, r2, l4.tr r3⟩
      show f_T_yearChanges h (some 100) (nI s) (nI n) = _
      unfold f_T_yearChanges
      rw [e.yt, z, Option.bind_some, if_pos rfl, l1, Option.bind_some, gR_o l2.2.1 rfl, Option.bind_some, cl_o l3.1, cls_chg (l3.v (Nat.le_refl _)), Option.bind_some, gR_o l2.2.1 rfl, Option.bind_some, cl_o l2.2.2.2.2.2.2.1.1, cls_chg (l2.nv (Nat.le_refl _)), Option.bind_some, (yr_ans o lf hs hn).2]
      exact r1
    · obtain ⟨h1, s1, s2, s3⟩ := e.st
      obtain ⟨h2, f2, l1, l2, l3, l4, l5, l6, l7⟩ := mod_year s2 o lf hs hn
      obtain ⟨h3, ml3, r1, r2, r3⟩ := l2.gd ((yrA (sL S) (set0 (sNw S) 1 (nI s), 0, 0) n).2.2)
      refine ⟨h3, ml3, ?_, r2, (s3.tr l7).tr r3⟩
      show f_M_yearChanges h (some 285) (nI s) (nI n) = _
      unfold f_M_yearChanges
      rw [s1, Option.bind_some, s2.lwR, Option.bind_some, lfI s2, Option.bind_some, s2.yt, z, Option.bind_some, if_pos (by decide), l1, Option.bind_some, l6, Option.bind_some]
      exact r1
  · refine ⟨-1, trS S (ytS S a b), fun h lw e => ?_, fun h ml e => ?_, o.tr _ (by omega) (by omega)⟩
    · obtain ⟨h1, lw1, r1, r2, r3⟩ := e.rf (ytS S a b)
      refine ⟨h1, lw1, ?_, r2, r3⟩
      show f_T_yearChanges h (some 100) a b = _
      unfold f_T_yearChanges
      rw [e.yt, Option.bind_some, if_neg z]
      exact r1
    · obtain ⟨h1, s1, s2, s3⟩ := e.st
      obtain ⟨h2, ml2, r1, r2, r3⟩ := s2.rf (ytS S a b) (by rcases hv with q | q <;> rw [q] <;> decide)
      refine ⟨h2, ml2, ?_, r2, s3.tr r3⟩
      show f_M_yearChanges h (some 285) a b = _
      unfold f_M_yearChanges
      rw [s1, Option.bind_some, s2.lwR, Option.bind_some, lfI s2, Option.bind_some, s2.yt, Option.bind_some, if_neg (by rcases hv with q | q <;> rw [q] <;> decide)]
      exact r1
theorem op_yearHeld (o : SOk c S) (hc : c < 600) (x a b : Int32) : Op (fun h => f_T_yearHeld h (some 100) x a b) (fun h => f_M_yearHeld h (some 285) x a b) c S := by
  have h5 := o.P5
  rcases arg_c x (nP (sL S)) (by omega) with ⟨p, hp, rfl⟩ | ha
  · have lf0 := o.lfP hp
    rcases yt_c S a b with ⟨z, lf, s, n, hs, hn, rfl, rfl⟩ | ⟨hv, z⟩
    · refine ⟨nI (hel (yrA (sL S) (set0 (sNw S) 1 (nI s), 0, 0) n).1 p), trS S 0, fun h lw e => ?_, fun h ml e => ?_, o.tr _ (by omega) (by omega)⟩
      · obtain ⟨h1, l1, l2, l3, l4⟩ := cls_live e o lf hs hn
        obtain ⟨h2, lw2, r1, r2, r3⟩ := l2.fn (nI (hel (yrA (sL S) (set0 (sNw S) 1 (nI s), 0, 0) n).1 p))
        refine ⟨h2, lw2, ?_, r2, l4.tr r3⟩
        show f_T_yearHeld h (some 100) (nI p) (nI s) (nI n) = _
        unfold f_T_yearHeld
        rw [e.isP1 hp h5, Option.bind_some, if_neg (by decide), e.yt, z, Option.bind_some, Option.bind_some, if_pos rfl, l1, Option.bind_some, gR_o l2.2.1 rfl, Option.bind_some, gR_o l3.1 rfl, Option.bind_some, l3.2.1.at (by omega) (by decide), Option.bind_some]
        exact r1
      · obtain ⟨h1, s1, s2, s3⟩ := e.st
        obtain ⟨h2, f2, l1, l2, l3, l4, l5, l6, l7⟩ := mod_year s2 o lf hs hn
        obtain ⟨h3, ml3, r1, r2, r3⟩ := l2.gd (nI (hel (yrA (sL S) (set0 (sNw S) 1 (nI s), 0, 0) n).1 p))
        refine ⟨h3, ml3, ?_, r2, (s3.tr l7).tr r3⟩
        show f_M_yearHeld h (some 285) (nI p) (nI s) (nI n) = _
        unfold f_M_yearHeld
        have yt := s2.yt (nI s) (nI n)
        rw [bI_t lf] at yt
        rw [s1, Option.bind_some, s2.isP1 lf hp h5, Option.bind_some, yt, z, Option.bind_some, if_pos (by decide), l1, Option.bind_some, l2.fi.2.2.2.2, Option.bind_some, nI_z, ((MRw.v l3 l4 h5).1 p hp).1, Option.bind_some]
        exact r1
    · refine ⟨-1, trS S (ytS S a b), fun h lw e => ?_, fun h ml e => ?_, o.tr _ (by omega) (by omega)⟩
      · obtain ⟨h1, lw1, r1, r2, r3⟩ := e.rf (ytS S a b)
        refine ⟨h1, lw1, ?_, r2, r3⟩
        show f_T_yearHeld h (some 100) (nI p) a b = _
        unfold f_T_yearHeld
        rw [e.isP1 hp h5, Option.bind_some, if_neg (by decide), e.yt, Option.bind_some, Option.bind_some, if_neg z]
        exact r1
      · obtain ⟨h1, s1, s2, s3⟩ := e.st
        obtain ⟨h2, ml2, r1, r2, r3⟩ := s2.rf (ytS S a b) (by rcases hv with q | q <;> rw [q] <;> decide)
        refine ⟨h2, ml2, ?_, r2, s3.tr r3⟩
        show f_M_yearHeld h (some 285) (nI p) a b = _
        unfold f_M_yearHeld
        have yt := s2.yt a b
        rw [bI_t lf0] at yt
        rw [s1, Option.bind_some, s2.isP1 lf0 hp h5, Option.bind_some, yt, Option.bind_some, if_neg (by rcases hv with q | q <;> rw [q] <;> decide)]
        exact r1
  · refine ⟨-1, trS S 1, fun h lw e => ?_, fun h ml e => ?_, o.tr _ (by omega) (by omega)⟩
    · obtain ⟨h1, lw1, r1, r2, r3⟩ := e.rf 1
      refine ⟨h1, lw1, ?_, r2, r3⟩
      show f_T_yearHeld h (some 100) x a b = _
      unfold f_T_yearHeld
      rw [e.isP0 ha, Option.bind_some, if_pos rfl, Option.bind_some, if_neg (by decide)]
      exact r1
    · obtain ⟨h1, s1, s2, s3⟩ := e.st
      obtain ⟨h2, ml2, r1, r2, r3⟩ := s2.rf 1 (by decide)
      refine ⟨h2, ml2, ?_, r2, s3.tr r3⟩
      show f_M_yearHeld h (some 285) x a b = _
      unfold f_M_yearHeld f_M_refusesYear
      rw [s1, Option.bind_some, s2.isP0 ha, Option.bind_some, if_neg (fun q => q rfl), s2.cl, Option.bind_some, if_neg (by decide)]
      exact r1
end I1
