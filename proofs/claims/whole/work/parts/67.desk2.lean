/-! the questions: what the desk reckons of all; worth, tax, chooses, .. -/
def wavS (L : LawD) (N : NowD) (tb th : Int32) : Int32 := foldN (fun p a => if chS L N tb th p = hel N p then a else a ||| ((1 : Int32) <<< (nI p &&& 31))) (nP L) 0
def raiS (L : LawD) (N : NowD) (tb th : Int32) : Int32 := foldN (fun p a => a + taxN L N tb th p (chS L N tb th p)) (nP L) 0
def gwS (L : LawD) (came : Int32) (p : Nat) : Int32 := foldN (fun c a => if a < worS L came p c then worS L came p c else a) (nC L) 0
def harS (L : LawD) (N : NowD) (tb th : Int32) : Int32 := foldN (fun p a => a + (gwS L (cme N) p - lefS L N tb th p (chS L N tb th p))) (nP L) 0
theorem chS_lt {L : LawD} {N : NowD} {tb th : Int32} {p : Nat} (ok : LawOk L) (okN : NowOk L N) (hp : p < nP L) : chS L N tb th p < nC L := chA_lt ok okN hp _ (Nat.le_refl _)
section D7
variable {h : PH} {lw nw d m ml a : Nat} {L : LawD} {N : NowD} {tb th : Int32} {p c : Nat}
theorem cls_wav (hD : DeskV h d lw nw tb th) (hL : LawV h lw L) (ok : LawOk L) (hN : NowV h nw (nP L) N) (okN : NowOk L N) : f_Desk_wavering h (some d) = some (wavS L N tb th) := by
  have hch := fun p (hp : p < nP L) => cls_choice (p := p) hD hL ok hN okN hp
  obtain ⟨d1, d2, d3, d4⟩ := id hD
  obtain ⟨⟨g0, g1, g2, g3, g4⟩, -⟩ := hL
  obtain ⟨-, ⟨b3, hb3, hB3⟩, -⟩ := hN
  have h5 := ok.2.2.1
  have hC := ok.2.1
  unfold f_Desk_wavering
  rw [pj_fold0 (fun p a => if chS L N tb th p = hel N p then a else a ||| ((1 : Int32) <<< (nI p &&& 31))) id (nP L) (by omega) ?_ ?_]
  · rfl
  · intro i a hi
    have k1 := chS_lt (tb := tb) (th := th) ok okN hi
    have k2 := (okN i hi).1
    have f3 : aI h (some b3) (nI i) = some (nI (hel N i)) := hB3 i hi
    dsimp only
    rw [d1, Option.bind_some, g3, Option.bind_some, if_neg (nI_nle' hi (by omega)), cl_gI d3, hch i hi, Option.bind_some, d2, Option.bind_some, hb3, Option.bind_some, f3, Option.bind_some, nI_s]
    by_cases z : chS L N tb th i = hel N i
    · rw [if_pos (by rw [z]), if_pos z]
    · rw [if_neg (fun q => z ((nI_eq (by omega) (by omega)).mp q)), if_neg z]
  · intro a
    dsimp only
    rw [d1, Option.bind_some, g3, Option.bind_some, if_pos (nI_le (Nat.le_refl _) (by omega))]
    rfl
theorem cls_rai (hD : DeskV h d lw nw tb th) (hL : LawV h lw L) (ok : LawOk L) (hN : NowV h nw (nP L) N) (okN : NowOk L N) : f_Desk_raisedOfAll h (some d) = some (raiS L N tb th) := by
  have hch := fun p (hp : p < nP L) => cls_choice (p := p) hD hL ok hN okN hp
  have htx := fun p (hp : p < nP L) => cls_tax (p := p) (c := chS L N tb th p) hD hL ok hN okN hp (chS_lt ok okN hp)
  obtain ⟨d1, d2, d3, d4⟩ := id hD
  obtain ⟨⟨g0, g1, g2, g3, g4⟩, -⟩ := hL
  have h5 := ok.2.2.1
  unfold f_Desk_raisedOfAll
  rw [pj_fold0 (fun p a => a + taxN L N tb th p (chS L N tb th p)) id (nP L) (by omega) ?_ ?_]
  · rfl
  · intro i a hi
    dsimp only
    rw [d1, Option.bind_some, g3, Option.bind_some, if_neg (nI_nle' hi (by omega)), cl_gI d3, hch i hi, Option.bind_some, cl_gI d3, htx i hi, Option.bind_some, nI_s]
  · intro a
    dsimp only
    rw [d1, Option.bind_some, g3, Option.bind_some, if_pos (nI_le (Nat.le_refl _) (by omega))]
    rfl
theorem cls_gw (hD : DeskV h d lw nw tb th) (hL : LawV h lw L) (ok : LawOk L) (hN : NowV h nw (nP L) N) (hp : p < nP L) : f_Desk_greatestWorth h (some d) (nI p) = some (gwS L (cme N) p) := by
  have hw := fun c (hc : c < nC L) => cls_worth (p := p) (c := c) hD hL ok hN hp hc
  obtain ⟨d1, d2, d3, d4⟩ := id hD
  obtain ⟨⟨g0, g1, g2, g3, g4⟩, -⟩ := hL
  have h5 := ok.2.1
  unfold f_Desk_greatestWorth
  rw [pj_fold0 (fun c a => if a < worS L (cme N) p c then worS L (cme N) p c else a) id (nC L) (by omega) ?_ ?_]
  · rfl
  · intro i a hi
    dsimp only
    rw [d1, Option.bind_some, g2, Option.bind_some, if_neg (nI_nle' hi (by omega)), cl_gI d3, hw i hi, Option.bind_some, nI_s]
  · intro a
    dsimp only
    rw [d1, Option.bind_some, g2, Option.bind_some, if_pos (nI_le (Nat.le_refl _) (by omega))]
    rfl
theorem cls_har (hD : DeskV h d lw nw tb th) (hL : LawV h lw L) (ok : LawOk L) (hN : NowV h nw (nP L) N) (okN : NowOk L N) : f_Desk_harmOfAll h (some d) = some (harS L N tb th) := by
  have hch := fun p (hp : p < nP L) => cls_choice (p := p) hD hL ok hN okN hp
  have hlf := fun p (hp : p < nP L) => cls_left (p := p) (c := chS L N tb th p) hD hL ok hN okN hp (chS_lt ok okN hp)
  have hgw := fun p (hp : p < nP L) => cls_gw (p := p) hD hL ok hN hp
  obtain ⟨d1, d2, d3, d4⟩ := id hD
  obtain ⟨⟨g0, g1, g2, g3, g4⟩, -⟩ := hL
  have h5 := ok.2.2.1
  unfold f_Desk_harmOfAll
  rw [pj_fold0 (fun p a => a + (gwS L (cme N) p - lefS L N tb th p (chS L N tb th p))) id (nP L) (by omega) ?_ ?_]
  · rfl
  · intro i a hi
    dsimp only
    rw [d1, Option.bind_some, g3, Option.bind_some, if_neg (nI_nle' hi (by omega)), cl_gI d3, hgw i hi, Option.bind_some, cl_gI d3, hch i hi, Option.bind_some, cl_gI d3, hlf i hi, Option.bind_some, nI_s]
  · intro a
    dsimp only
    rw [d1, Option.bind_some, g3, Option.bind_some, if_pos (nI_le (Nat.le_refl _) (by omega))]
    rfl
/-! the reference's -/
theorem mod_wav (hM : ModV h m ml tb th) (hL : MLawV h ml L) (ok : LawOk L) (okN : NowOk L N) (hR : MRow h a (nP L) N) (hv : gR h 12 (some m) 15 = some (some a)) : f_M_wavering h (some m) = some (wavS L N tb th) := by
  have hch := fun p (hp : p < nP L) => mod_chooses (p := p) hM hL ok okN hR hp
  obtain ⟨m1, m2, m3⟩ := id hM
  obtain ⟨⟨g0, g1, g2, g3, -⟩, -⟩ := hL
  have h5 := ok.2.2.1
  have hC := ok.2.1
  unfold f_M_wavering
  rw [pj_fold0 (fun p a => if chS L N tb th p = hel N p then a else a ||| ((1 : Int32) <<< (nI p &&& 31))) id (nP L) (by omega) ?_ ?_]
  · rfl
  · intro i x hi
    have k1 := chS_lt (tb := tb) (th := th) ok okN hi
    have k2 := (okN i hi).1
    dsimp only
    rw [m1, Option.bind_some, g3, Option.bind_some, if_neg (nI_nle' hi (by omega)), hv, Option.bind_some, cl_gI m2, hch i hi, Option.bind_some, Option.bind_some, nI_z, (hR.1 i hi).1, Option.bind_some, nI_s]
    by_cases z : chS L N tb th i = hel N i
    · rw [if_pos (by rw [z]), if_pos z, Option.bind_some, Int32.or_zero]
    · rw [if_neg (fun q => z ((nI_eq (by omega) (by omega)).mp q)), if_neg z, Option.bind_some]
  · intro x
    dsimp only
    rw [m1, Option.bind_some, g3, Option.bind_some, if_pos (nI_le (Nat.le_refl _) (by omega))]
    rfl
theorem mod_rai (hM : ModV h m ml tb th) (hL : MLawV h ml L) (ok : LawOk L) (okN : NowOk L N) (hR : MRow h a (nP L) N) (hv : gR h 12 (some m) 15 = some (some a)) : f_M_raising h (some m) = some (raiS L N tb th) := by
  have hch := fun p (hp : p < nP L) => mod_chooses (p := p) hM hL ok okN hR hp
  have htx := fun p (hp : p < nP L) => mod_taxIn (p := p) (c := chS L N tb th p) hM hL ok hR hp (okN p hp).1 (chS_lt ok okN hp)
  obtain ⟨m1, m2, m3⟩ := id hM
  obtain ⟨⟨g0, g1, g2, g3, -⟩, -⟩ := hL
  have h5 := ok.2.2.1
  unfold f_M_raising
  rw [pj_fold0 (fun p a => a + taxN L N tb th p (chS L N tb th p)) id (nP L) (by omega) ?_ ?_]
  · rfl
  · intro i x hi
    dsimp only
    rw [m1, Option.bind_some, g3, Option.bind_some, if_neg (nI_nle' hi (by omega)), hv, Option.bind_some, Option.bind_some, cl_gI m2, hch i hi, Option.bind_some, cl_gI m2, htx i hi, Option.bind_some, nI_s]
  · intro x
    dsimp only
    rw [m1, Option.bind_some, g3, Option.bind_some, if_pos (nI_le (Nat.le_refl _) (by omega))]
    rfl
theorem mod_har (hM : ModV h m ml tb th) (hL : MLawV h ml L) (ok : LawOk L) (okN : NowOk L N) (hR : MRow h a (nP L) N) (hv : gR h 12 (some m) 15 = some (some a)) : f_M_harming h (some m) = some (harS L N tb th) := by
  have hch := fun p (hp : p < nP L) => mod_chooses (p := p) hM hL ok okN hR hp
  have htx := fun p (hp : p < nP L) => mod_taxIn (p := p) (c := chS L N tb th p) hM hL ok hR hp (okN p hp).1 (chS_lt ok okN hp)
  have hw := fun p c (hp : p < nP L) (hc : c < nC L) => mod_worth (p := p) (c := c) hM hL ok (cme N) hp hc
  obtain ⟨m1, m2, m3⟩ := id hM
  obtain ⟨⟨g0, g1, g2, g3, -⟩, -⟩ := hL
  have h5 := ok.2.2.1
  have h6 := ok.2.1
  unfold f_M_harming
  rw [pj_fold0 (fun p a => a + (gwS L (cme N) p - lefS L N tb th p (chS L N tb th p))) id (nP L) (by omega) ?_ ?_]
  · rfl
  · intro i x hi
    dsimp only
    rw [m1, Option.bind_some, g3, Option.bind_some, if_neg (nI_nle' hi (by omega))]
    rw [pj_fold0 (fun c a => if a < worS L (cme N) i c then worS L (cme N) i c else a) id (nC L) (by omega) ?_ ?_]
    · rw [Option.bind_some, hv, Option.bind_some, cl_gI m2, hch i hi, Option.bind_some, Option.bind_some, hR.2.1, Option.bind_some, cl_gI m2, hw i _ hi (chS_lt ok okN hi), Option.bind_some, Option.bind_some, cl_gI m2, htx i hi, Option.bind_some, nI_s]
      show some (Sum.inl (x + ((gwS L (cme N) i - worS L (cme N) i (chS L N tb th i)) + taxN L N tb th i (chS L N tb th i)), nI (i + 1))) = _
      rw [show gwS L (cme N) i - worS L (cme N) i (chS L N tb th i) + taxN L N tb th i (chS L N tb th i) = gwS L (cme N) i - lefS L N tb th i (chS L N tb th i) from by unfold lefS; generalize gwS L (cme N) i = x1; generalize worS L (cme N) i (chS L N tb th i) = x2; generalize taxN L N tb th i (chS L N tb th i) = x3; grind]
    · intro j y hj
      dsimp only
      rw [Option.bind_some, g2, Option.bind_some, if_neg (nI_nle' hj (by omega)), hv, Option.bind_some, hR.2.1, Option.bind_some, cl_gI m2, hw i j hi hj, Option.bind_some, nI_s]
      by_cases z : y < worS L (cme N) i j
      · rw [if_neg (Int32.not_le.mpr z), if_pos z, Option.bind_some, hR.2.1, Option.bind_some, cl_gI m2, hw i j hi hj, Option.bind_some]
      · rw [if_pos (Int32.not_lt.mp z), if_neg z]
    · intro y
      dsimp only
      rw [Option.bind_some, g2, Option.bind_some, if_pos (nI_le (Nat.le_refl _) (by omega))]
      rfl
  · intro x
    dsimp only
    rw [m1, Option.bind_some, g3, Option.bind_some, if_pos (nI_le (Nat.le_refl _) (by omega))]
    rfl
end D7
theorem bI_t {S : StD} (lf : sLf S = true) : bI (sLf S) = 1 := by rw [lf]; rfl
theorem bI_f {S : StD} (lf : sLf S = false) : bI (sLf S) = 0 := by rw [lf]; rfl
section D8
variable {c : Nat} {S : StD}
theorem mod_worthR {h : PH} {m ml p c : Nat} {L : LawD} (m1 : gR h 12 (some m) 3 = some (some ml)) (hL : MLawV h ml L) (ok : LawOk L) (came : Int32) (hp : p < nP L) (hc : c < nC L) : f_M_worthBy h (some m) (nI p) (nI c) came = some (worS L came p c) := by
  have hlk := mod_likes hL hp hc
  obtain ⟨⟨g0, g1, g2, g3, g4, g5, -⟩, -, -, -, -, ⟨⟨a1, ha1, hA1⟩, ⟨a2, ha2, hA2⟩, -, -, ⟨a5, ha5, hA5⟩⟩, -⟩ := hL
  have h5 := ok.2.1
  have h6 := ok.2.2.1
  have h4 := ok.2.2.2.1
  unfold f_M_worthBy
  simp only [m1, cl_gI g0, hlk, Option.bind_some]
  rw [pj_for' (fun i => (worA L came p c i, nI i)) (worS L came p c) (nR L) (by rw [nI_0]; rfl) (by omega) ?_ ?_]
  · rfl
  · intro i hi
    obtain ⟨q1, q2⟩ := ok.2.2.2.2.2.2.2.1 i hi
    have f1 : aI h (some a1) (nI i) = some (nI (rpe L i)) := hA1 i hi
    have f2 : aI h (some a2) (nI i) = some (nI (rch L i)) := hA2 i hi
    dsimp only
    rw [g5, Option.bind_some, if_neg (nI_nle' hi (by omega)), mod_bit, Option.bind_some]
    by_cases z3 : ((came >>> (nI i &&& 31)) &&& (1 : Int32)) = 1
    · rw [if_pos z3, if_neg (by decide), ha1, Option.bind_some, f1, Option.bind_some]
      by_cases z1 : rpe L i = p
      · rw [z1, if_neg (fun q => q rfl), ha2, Option.bind_some, f2, Option.bind_some]
        by_cases z2 : rch L i = c
        · rw [z2, if_neg (fun q => q rfl), ha5, Option.bind_some, hA5 i hi, Option.bind_some, nI_s]
          rw [show worA L came p c (i + 1) = worA L came p c i + rmo L i from if_pos ⟨z1, z2, z3⟩]
        · rw [if_pos (fun q => z2 ((nI_eq (by omega) (by omega)).mp q)), nI_s]
          rw [show worA L came p c (i + 1) = worA L came p c i from if_neg (fun q => z2 q.2.1)]
      · rw [if_pos (fun q => z1 ((nI_eq (by omega) (by omega)).mp q)), nI_s]
        rw [show worA L came p c (i + 1) = worA L came p c i from if_neg (fun q => z1 q.1)]
    · rw [if_neg z3, if_pos rfl, nI_s]
      rw [show worA L came p c (i + 1) = worA L came p c i from if_neg (fun q => z3 q.2.2)]
  · dsimp only
    rw [g5, Option.bind_some, if_pos (nI_le (Nat.le_refl _) (by omega))]
    rfl
theorem op_worth (o : SOk c S) (hc : c < 600) (a b : Int32) : Op (fun h => f_T_worth h (some 100) a b) (fun h => f_M_worth h (some 285) a b) c S := by
  rcases arg_c a (nP (sL S)) (by have := o.P5; omega) with ⟨p, hp, rfl⟩ | ha
  · have lf := o.lfP hp
    have ok := o.ok lf
    have okN := o.nk lf
    rcases arg_c b (nC (sL S)) (by have := o.C5; omega) with ⟨d, hd, rfl⟩ | hb
    · refine ⟨worS (sL S) (cme (sNw S)) p d, trS S 0, fun h lw e => ?_, fun h ml e => ?_, o.tr _ (by omega) (by omega)⟩
      · obtain ⟨h1, q1, q2, q3, q4⟩ := e.pr
        obtain ⟨h2, lw2, r1, r2, r3⟩ := q2.fn (worS (sL S) (cme (sNw S)) p d)
        refine ⟨h2, lw2, ?_, r2, q4.tr r3⟩
        show f_T_worth h (some 100) (nI p) (nI d) = _
        unfold f_T_worth
        rw [e.isP1 hp o.P5, Option.bind_some, if_neg (by decide), e.isC1 hd o.C5, Option.bind_some, if_pos (by decide), q1, Option.bind_some]
        dsimp only
        rw [cl_o q3, cls_worth q3.v (q2.lv ok) ok (q2.nv o.P5) hp hd, Option.bind_some]
        exact r1
      · obtain ⟨h1, s1, s2, s3⟩ := e.st
        obtain ⟨i, m1, m2, m3⟩ := s2.ye lf
        obtain ⟨h2, ml2, r1, r2, r3⟩ := s2.gd (worS (sL S) (cme (sNw S)) p d)
        refine ⟨h2, ml2, ?_, r2, s3.tr r3⟩
        show f_M_worth h (some 285) (nI p) (nI d) = _
        unfold f_M_worth
        rw [s1, Option.bind_some, s2.isP1 lf hp o.P5, Option.bind_some, if_neg (by decide), s2.isC1 lf hd o.C5, Option.bind_some, if_neg (by decide)]
        rw [s2.vr, Option.bind_some, (s2.row lf o.P5).2.1, Option.bind_some, s2.cl, mod_worthR (by rw [s2.lwR, m1]) (m3.v ok) ok _ hp hd, Option.bind_some]
        exact r1
    · refine ⟨-1, trS S 1, fun h lw e => ?_, fun h ml e => ?_, o.tr _ (by omega) (by omega)⟩
      · obtain ⟨h1, lw1, r1, r2, r3⟩ := e.rf 1
        refine ⟨h1, lw1, ?_, r2, r3⟩
        show f_T_worth h (some 100) (nI p) b = _
        unfold f_T_worth
        rw [e.isP1 hp o.P5, Option.bind_some, if_neg (by decide), e.isC0 hb, Option.bind_some, if_neg (fun q => q rfl)]
        exact r1
      · obtain ⟨h1, s1, s2, s3⟩ := e.st
        obtain ⟨h2, ml2, r1, r2, r3⟩ := s2.rf 1 (by decide)
        refine ⟨h2, ml2, ?_, r2, s3.tr r3⟩
        show f_M_worth h (some 285) (nI p) b = _
        unfold f_M_worth
        rw [s1, Option.bind_some, s2.isP1 lf hp o.P5, Option.bind_some, if_neg (by decide), s2.isC0 hb, Option.bind_some, if_pos rfl]
        exact r1
  · refine ⟨-1, trS S 1, fun h lw e => ?_, fun h ml e => ?_, o.tr _ (by omega) (by omega)⟩
    · obtain ⟨h1, lw1, r1, r2, r3⟩ := e.rf 1
      refine ⟨h1, lw1, ?_, r2, r3⟩
      show f_T_worth h (some 100) a b = _
      unfold f_T_worth
      rw [e.isP0 ha, Option.bind_some, if_pos rfl]
      exact r1
    · obtain ⟨h1, s1, s2, s3⟩ := e.st
      obtain ⟨h2, ml2, r1, r2, r3⟩ := s2.rf 1 (by decide)
      refine ⟨h2, ml2, ?_, r2, s3.tr r3⟩
      show f_M_worth h (some 285) a b = _
      unfold f_M_worth
      rw [s1, Option.bind_some, s2.isP0 ha, Option.bind_some, if_pos rfl]
      exact r1
theorem op_tax (o : SOk c S) (hc : c < 600) (a b : Int32) : Op (fun h => f_T_tax h (some 100) a b) (fun h => f_M_tax h (some 285) a b) c S := by
  rcases arg_c a (nP (sL S)) (by have := o.P5; omega) with ⟨p, hp, rfl⟩ | ha
  · have lf := o.lfP hp
    have ok := o.ok lf
    have okN := o.nk lf
    rcases arg_c b (nC (sL S)) (by have := o.C5; omega) with ⟨d, hd, rfl⟩ | hb
    · refine ⟨taxN (sL S) (sNw S) (-1) (third (sL S)) p d, trS S 0, fun h lw e => ?_, fun h ml e => ?_, o.tr _ (by omega) (by omega)⟩
      · obtain ⟨h1, q1, q2, q3, q4⟩ := e.pr
        obtain ⟨h2, lw2, r1, r2, r3⟩ := q2.fn (taxN (sL S) (sNw S) (-1) (third (sL S)) p d)
        refine ⟨h2, lw2, ?_, r2, q4.tr r3⟩
        show f_T_tax h (some 100) (nI p) (nI d) = _
        unfold f_T_tax
        rw [e.isP1 hp o.P5, Option.bind_some, if_neg (by decide), e.isC1 hd o.C5, Option.bind_some, if_pos (by decide), q1, Option.bind_some]
        dsimp only
        rw [cl_o q3, cls_tax q3.v (q2.lv ok) ok (q2.nv o.P5) okN hp hd, Option.bind_some]
        exact r1
      · obtain ⟨h1, s1, s2, s3⟩ := e.st
        obtain ⟨h2, i, t1, t2, t3, t4, t5, t6⟩ := s2.to lf
        obtain ⟨h3, ml3, r1, r2, r3⟩ := t2.gd (taxN (sL S) (sNw S) (-1) (third (sL S)) p d)
        refine ⟨h3, ml3, ?_, r2, (s3.tr (t6.wd (by omega) (by omega))).tr r3⟩
        show f_M_tax h (some 285) (nI p) (nI d) = _
        unfold f_M_tax
        rw [s1, Option.bind_some, s2.isP1 lf hp o.P5, Option.bind_some, if_neg (by decide), s2.isC1 lf hd o.C5, Option.bind_some, if_pos (by decide)]
        rw [t1, Option.bind_some, t2.vr, Option.bind_some, t2.cl, mod_taxIn t4 (t5.v ok) ok (t2.row lf o.P5) hp (okN p hp).1 hd, Option.bind_some]
        exact r1
    · refine ⟨-1, trS S 1, fun h lw e => ?_, fun h ml e => ?_, o.tr _ (by omega) (by omega)⟩
      · obtain ⟨h1, lw1, r1, r2, r3⟩ := e.rf 1
        refine ⟨h1, lw1, ?_, r2, r3⟩
        show f_T_tax h (some 100) (nI p) b = _
        unfold f_T_tax
        rw [e.isP1 hp o.P5, Option.bind_some, if_neg (by decide), e.isC0 hb, Option.bind_some, if_neg (fun q => q rfl)]
        exact r1
      · obtain ⟨h1, s1, s2, s3⟩ := e.st
        obtain ⟨h2, ml2, r1, r2, r3⟩ := s2.rf 1 (by decide)
        refine ⟨h2, ml2, ?_, r2, s3.tr r3⟩
        show f_M_tax h (some 285) (nI p) b = _
        unfold f_M_tax
        rw [s1, Option.bind_some, s2.isP1 lf hp o.P5, Option.bind_some, if_neg (by decide), s2.isC0 hb, Option.bind_some, if_neg (fun q => q rfl)]
        exact r1
  · refine ⟨-1, trS S 1, fun h lw e => ?_, fun h ml e => ?_, o.tr _ (by omega) (by omega)⟩
    · obtain ⟨h1, lw1, r1, r2, r3⟩ := e.rf 1
      refine ⟨h1, lw1, ?_, r2, r3⟩
      show f_T_tax h (some 100) a b = _
      unfold f_T_tax
      rw [e.isP0 ha, Option.bind_some, if_pos rfl]
      exact r1
    · obtain ⟨h1, s1, s2, s3⟩ := e.st
      obtain ⟨h2, ml2, r1, r2, r3⟩ := s2.rf 1 (by decide)
      refine ⟨h2, ml2, ?_, r2, s3.tr r3⟩
      show f_M_tax h (some 285) a b = _
      unfold f_M_tax
      rw [s1, Option.bind_some, s2.isP0 ha, Option.bind_some, if_pos rfl]
      exact r1
theorem op_chooses (o : SOk c S) (hc : c < 600) (a : Int32) : Op (fun h => f_T_chooses h (some 100) a) (fun h => f_M_chooses h (some 285) a) c S := by
  rcases arg_c a (nP (sL S)) (by have := o.P5; omega) with ⟨p, hp, rfl⟩ | ha
  · have lf := o.lfP hp
    have ok := o.ok lf
    have okN := o.nk lf
    refine ⟨nI (chS (sL S) (sNw S) (-1) (third (sL S)) p), trS S 0, fun h lw e => ?_, fun h ml e => ?_, o.tr _ (by omega) (by omega)⟩
    · obtain ⟨h1, q1, q2, q3, q4⟩ := e.pr
      obtain ⟨h2, lw2, r1, r2, r3⟩ := q2.fn (nI (chS (sL S) (sNw S) (-1) (third (sL S)) p))
      refine ⟨h2, lw2, ?_, r2, q4.tr r3⟩
      show f_T_chooses h (some 100) (nI p) = _
      unfold f_T_chooses
      rw [e.isP1 hp o.P5, Option.bind_some, if_pos (by decide), q1, Option.bind_some]
      dsimp only
      rw [cl_o q3, cls_choice q3.v (q2.lv ok) ok (q2.nv o.P5) okN hp, Option.bind_some]
      exact r1
    · obtain ⟨h1, s1, s2, s3⟩ := e.st
      obtain ⟨h2, i, t1, t2, t3, t4, t5, t6⟩ := s2.to lf
      obtain ⟨h3, ml3, r1, r2, r3⟩ := t2.gd (nI (chS (sL S) (sNw S) (-1) (third (sL S)) p))
      refine ⟨h3, ml3, ?_, r2, (s3.tr (t6.wd (by omega) (by omega))).tr r3⟩
      show f_M_chooses h (some 285) (nI p) = _
      unfold f_M_chooses
      rw [s1, Option.bind_some, s2.isP1 lf hp o.P5, Option.bind_some, if_pos (by decide), t1, Option.bind_some, t2.vr, Option.bind_some, t2.cl, mod_chooses t4 (t5.v ok) ok okN (t2.row lf o.P5) hp, Option.bind_some]
      exact r1
  · refine ⟨-1, trS S 1, fun h lw e => ?_, fun h ml e => ?_, o.tr _ (by omega) (by omega)⟩
    · obtain ⟨h1, lw1, r1, r2, r3⟩ := e.rf 1
      refine ⟨h1, lw1, ?_, r2, r3⟩
      show f_T_chooses h (some 100) a = _
      unfold f_T_chooses
      rw [e.isP0 ha, Option.bind_some, if_neg (fun q => q rfl)]
      exact r1
    · obtain ⟨h1, s1, s2, s3⟩ := e.st
      obtain ⟨h2, ml2, r1, r2, r3⟩ := s2.rf 1 (by decide)
      refine ⟨h2, ml2, ?_, r2, s3.tr r3⟩
      show f_M_chooses h (some 285) a = _
      unfold f_M_chooses
      rw [s1, Option.bind_some, s2.isP0 ha, Option.bind_some, if_neg (fun q => q rfl)]
      exact r1
theorem op_waverers (o : SOk c S) (hc : c < 600) : Op (fun h => f_T_waverers h (some 100)) (fun h => f_M_waverers h (some 285)) c S := by
  cases lf : sLf S with
  | true =>
    have ok := o.ok lf
    have okN := o.nk lf
    refine ⟨wavS (sL S) (sNw S) (-1) (third (sL S)), trS S 0, fun h lw e => ?_, fun h ml e => ?_, o.tr _ (by omega) (by omega)⟩
    · obtain ⟨h1, q1, q2, q3, q4⟩ := e.pr
      obtain ⟨h2, lw2, r1, r2, r3⟩ := q2.fn (wavS (sL S) (sNw S) (-1) (third (sL S)))
      refine ⟨h2, lw2, ?_, r2, q4.tr r3⟩
      show f_T_waverers h (some 100) = _
      unfold f_T_waverers
      rw [e.lf, bI_t lf, Option.bind_some, if_neg (by decide), q1, Option.bind_some]
      dsimp only
      rw [cl_o q3, cls_wav q3.v (q2.lv ok) ok (q2.nv o.P5) okN, Option.bind_some]
      exact r1
    · obtain ⟨h1, s1, s2, s3⟩ := e.st
      obtain ⟨h2, i, t1, t2, t3, t4, t5, t6⟩ := s2.to lf
      obtain ⟨h3, ml3, r1, r2, r3⟩ := t2.gd (wavS (sL S) (sNw S) (-1) (third (sL S)))
      refine ⟨h3, ml3, ?_, r2, (s3.tr (t6.wd (by omega) (by omega))).tr r3⟩
      show f_M_waverers h (some 285) = _
      unfold f_M_waverers
      rw [s1, Option.bind_some, s2.lwR, Option.bind_some, if_neg (by rw [t3]; simp), t1, Option.bind_some, t2.cl, mod_wav t4 (t5.v ok) ok okN (t2.row lf o.P5) t2.vr, Option.bind_some]
      exact r1
  | false =>
    refine ⟨-1, trS S 1, fun h lw e => ?_, fun h ml e => ?_, o.tr _ (by omega) (by omega)⟩
    · obtain ⟨h1, lw1, r1, r2, r3⟩ := e.rf 1
      refine ⟨h1, lw1, ?_, r2, r3⟩
      show f_T_waverers h (some 100) = _
      unfold f_T_waverers
      rw [e.lf, bI_f lf, Option.bind_some, if_pos rfl]
      exact r1
    · obtain ⟨h1, s1, s2, s3⟩ := e.st
      obtain ⟨h2, ml2, r1, r2, r3⟩ := s2.rf 1 (by decide)
      refine ⟨h2, ml2, ?_, r2, s3.tr r3⟩
      show f_M_waverers h (some 285) = _
      unfold f_M_waverers
      rw [s1, Option.bind_some, s2.lwR, Option.bind_some, if_pos (s2.no lf)]
      exact r1
theorem op_raised (o : SOk c S) (hc : c < 600) : Op (fun h => f_T_raised h (some 100)) (fun h => f_M_raised h (some 285)) c S := by
  cases lf : sLf S with
  | true =>
    have ok := o.ok lf
    have okN := o.nk lf
    refine ⟨raiS (sL S) (sNw S) (-1) (third (sL S)), trS S 0, fun h lw e => ?_, fun h ml e => ?_, o.tr _ (by omega) (by omega)⟩
    · obtain ⟨h1, q1, q2, q3, q4⟩ := e.pr
      obtain ⟨h2, lw2, r1, r2, r3⟩ := q2.fn (raiS (sL S) (sNw S) (-1) (third (sL S)))
      refine ⟨h2, lw2, ?_, r2, q4.tr r3⟩
      show f_T_raised h (some 100) = _
      unfold f_T_raised
      rw [e.lf, bI_t lf, Option.bind_some, if_neg (by decide), q1, Option.bind_some]
      dsimp only
      rw [cl_o q3, cls_rai q3.v (q2.lv ok) ok (q2.nv o.P5) okN, Option.bind_some]
      exact r1
    · obtain ⟨h1, s1, s2, s3⟩ := e.st
      obtain ⟨h2, i, t1, t2, t3, t4, t5, t6⟩ := s2.to lf
      obtain ⟨h3, ml3, r1, r2, r3⟩ := t2.gd (raiS (sL S) (sNw S) (-1) (third (sL S)))
      refine ⟨h3, ml3, ?_, r2, (s3.tr (t6.wd (by omega) (by omega))).tr r3⟩
      show f_M_raised h (some 285) = _
      unfold f_M_raised
      rw [s1, Option.bind_some, s2.lwR, Option.bind_some, if_neg (by rw [t3]; simp), t1, Option.bind_some, t2.cl, mod_rai t4 (t5.v ok) ok okN (t2.row lf o.P5) t2.vr, Option.bind_some]
      exact r1
  | false =>
    refine ⟨-1, trS S 1, fun h lw e => ?_, fun h ml e => ?_, o.tr _ (by omega) (by omega)⟩
    · obtain ⟨h1, lw1, r1, r2, r3⟩ := e.rf 1
      refine ⟨h1, lw1, ?_, r2, r3⟩
      show f_T_raised h (some 100) = _
      unfold f_T_raised
      rw [e.lf, bI_f lf, Option.bind_some, if_pos rfl]
      exact r1
    · obtain ⟨h1, s1, s2, s3⟩ := e.st
      obtain ⟨h2, ml2, r1, r2, r3⟩ := s2.rf 1 (by decide)
      refine ⟨h2, ml2, ?_, r2, s3.tr r3⟩
      show f_M_raised h (some 285) = _
      unfold f_M_raised
      rw [s1, Option.bind_some, s2.lwR, Option.bind_some, if_pos (s2.no lf)]
      exact r1
theorem op_harm (o : SOk c S) (hc : c < 600) : Op (fun h => f_T_harm h (some 100)) (fun h => f_M_harm h (some 285)) c S := by
  cases lf : sLf S with
  | true =>
    have ok := o.ok lf
    have okN := o.nk lf
    refine ⟨harS (sL S) (sNw S) (-1) (third (sL S)), trS S 0, fun h lw e => ?_, fun h ml e => ?_, o.tr _ (by omega) (by omega)⟩
    · obtain ⟨h1, q1, q2, q3, q4⟩ := e.pr
      obtain ⟨h2, lw2, r1, r2, r3⟩ := q2.fn (harS (sL S) (sNw S) (-1) (third (sL S)))
      refine ⟨h2, lw2, ?_, r2, q4.tr r3⟩
      show f_T_harm h (some 100) = _
      unfold f_T_harm
      rw [e.lf, bI_t lf, Option.bind_some, if_neg (by decide), q1, Option.bind_some]
      dsimp only
      rw [cl_o q3, cls_har q3.v (q2.lv ok) ok (q2.nv o.P5) okN, Option.bind_some]
      exact r1
    · obtain ⟨h1, s1, s2, s3⟩ := e.st
      obtain ⟨h2, i, t1, t2, t3, t4, t5, t6⟩ := s2.to lf
      obtain ⟨h3, ml3, r1, r2, r3⟩ := t2.gd (harS (sL S) (sNw S) (-1) (third (sL S)))
      refine ⟨h3, ml3, ?_, r2, (s3.tr (t6.wd (by omega) (by omega))).tr r3⟩
      show f_M_harm h (some 285) = _
      unfold f_M_harm
      rw [s1, Option.bind_some, s2.lwR, Option.bind_some, if_neg (by rw [t3]; simp), t1, Option.bind_some, t2.cl, mod_har t4 (t5.v ok) ok okN (t2.row lf o.P5) t2.vr, Option.bind_some]
      exact r1
  | false =>
    refine ⟨-1, trS S 1, fun h lw e => ?_, fun h ml e => ?_, o.tr _ (by omega) (by omega)⟩
    · obtain ⟨h1, lw1, r1, r2, r3⟩ := e.rf 1
      refine ⟨h1, lw1, ?_, r2, r3⟩
      show f_T_harm h (some 100) = _
      unfold f_T_harm
      rw [e.lf, bI_f lf, Option.bind_some, if_pos rfl]
      exact r1
    · obtain ⟨h1, s1, s2, s3⟩ := e.st
      obtain ⟨h2, ml2, r1, r2, r3⟩ := s2.rf 1 (by decide)
      refine ⟨h2, ml2, ?_, r2, s3.tr r3⟩
      show f_M_harm h (some 285) = _
      unfold f_M_harm
      rw [s1, Option.bind_some, s2.lwR, Option.bind_some, if_pos (s2.no lf)]
      exact r1
theorem op_raisedBy (o : SOk c S) (hc : c < 600) (a : Int32) : Op (fun h => f_T_raisedBy h (some 100) a) (fun h => f_M_raisedBy h (some 285) a) c S := by
  have hM : ∀ h ml, Mst h ml S → cl h 12 (some 285) (f_M_refusesTable h (some 285) a) = some (bdS S a 0 9) := by
    intro h ml e
    rw [e.cl]
    unfold f_M_refusesTable bdS f_M_in
    rw [e.lwR, Option.bind_some]
    cases lf : sLf S with
    | false => rw [if_pos (e.no lf), if_pos rfl]
    | true =>
      obtain ⟨i, m1, -⟩ := e.ye lf
      rw [if_neg (by rw [m1]; simp), if_neg (show ¬ (true = false) by decide)]
      by_cases z : a < 0
      · rw [if_pos z, if_pos (Or.inl z)]; rfl
      · rw [if_neg z]
        by_cases y : 9 < a
        · rw [if_pos y, if_pos (Or.inr y)]; rfl
        · rw [if_neg y, if_neg (fun q => q.elim z y)]; rfl
  have hv : bdS S a 0 9 = 0 ∨ bdS S a 0 9 = 1 ∨ bdS S a 0 9 = 2 := by
    unfold bdS
    split
    · simp
    · split <;> simp
  by_cases z : bdS S a 0 9 = 0
  · have lf : sLf S = true := by
      cases lf : sLf S with
      | true => rfl
      | false => unfold bdS at z; rw [if_pos lf] at z; exact absurd z (by decide)
    have ok := o.ok lf
    have okN := o.nk lf
    refine ⟨raiS (sL S) (sNw S) a (third (sL S)), trS S 0, fun h lw e => ?_, fun h ml e => ?_, o.tr _ (by omega) (by omega)⟩
    · obtain ⟨h1, q1, q2, q3, q4⟩ := e.bt a
      obtain ⟨h2, lw2, r1, r2, r3⟩ := q2.fn (raiS (sL S) (sNw S) a (third (sL S)))
      refine ⟨h2, lw2, ?_, r2, q4.tr r3⟩
      show f_T_raisedBy h (some 100) a = _
      unfold f_T_raisedBy
      rw [e.bd, z, Option.bind_some, if_neg (fun q => q rfl), q1, Option.bind_some]
      dsimp only
      rw [cl_o q3, cls_rai q3.v (q2.lv ok) ok (q2.nv o.P5) okN, Option.bind_some]
      exact r1
    · obtain ⟨h1, s1, s2, s3⟩ := e.st
      obtain ⟨h2, i, t1, t2, t3, t4, t5, t6⟩ := s2.bt lf a
      obtain ⟨h3, ml3, r1, r2, r3⟩ := t2.gd (raiS (sL S) (sNw S) a (third (sL S)))
      refine ⟨h3, ml3, ?_, r2, (s3.tr t6).tr r3⟩
      show f_M_raisedBy h (some 285) a = _
      unfold f_M_raisedBy
      rw [s1, Option.bind_some, hM _ _ s2, z, Option.bind_some, if_pos (by decide), t1, Option.bind_some, t2.cl, mod_rai t4 (t5.v ok) ok okN (t2.row lf o.P5) t2.vr, Option.bind_some]
      exact r1
  · refine ⟨-1, trS S (bdS S a 0 9), fun h lw e => ?_, fun h ml e => ?_, o.tr _ (by omega) (by omega)⟩
    · obtain ⟨h1, lw1, r1, r2, r3⟩ := e.rf (bdS S a 0 9)
      refine ⟨h1, lw1, ?_, r2, r3⟩
      show f_T_raisedBy h (some 100) a = _
      unfold f_T_raisedBy
      rw [e.bd, Option.bind_some, if_pos z]
      exact r1
    · obtain ⟨h1, s1, s2, s3⟩ := e.st
      obtain ⟨h2, ml2, r1, r2, r3⟩ := s2.rf (bdS S a 0 9) (by rcases hv with q | q | q <;> rw [q] <;> decide)
      refine ⟨h2, ml2, ?_, r2, s3.tr r3⟩
      show f_M_raisedBy h (some 285) a = _
      unfold f_M_raisedBy
      rw [s1, Option.bind_some, hM _ _ s2, Option.bind_some, if_neg (by rcases hv with q | q | q; exact absurd q z; rw [q]; decide; rw [q]; decide)]
      exact r1
theorem op_harmBy (o : SOk c S) (hc : c < 600) (a : Int32) : Op (fun h => f_T_harmBy h (some 100) a) (fun h => f_M_harmBy h (some 285) a) c S := by
  have hM : ∀ h ml, Mst h ml S → cl h 12 (some 285) (f_M_refusesTable h (some 285) a) = some (bdS S a 0 9) := by
    intro h ml e
    rw [e.cl]
    unfold f_M_refusesTable bdS f_M_in
    rw [e.lwR, Option.bind_some]
    cases lf : sLf S with
    | false => rw [if_pos (e.no lf), if_pos rfl]
    | true =>
      obtain ⟨i, m1, -⟩ := e.ye lf
      rw [if_neg (by rw [m1]; simp), if_neg (show ¬ (true = false) by decide)]
      by_cases z : a < 0
      · rw [if_pos z, if_pos (Or.inl z)]; rfl
      · rw [if_neg z]
        by_cases y : 9 < a
        · rw [if_pos y, if_pos (Or.inr y)]; rfl
        · rw [if_neg y, if_neg (fun q => q.elim z y)]; rfl
  have hv : bdS S a 0 9 = 0 ∨ bdS S a 0 9 = 1 ∨ bdS S a 0 9 = 2 := by
    unfold bdS
    split
    · simp
    · split <;> simp
  by_cases z : bdS S a 0 9 = 0
  · have lf : sLf S = true := by
      cases lf : sLf S with
      | true => rfl
      | false => unfold bdS at z; rw [if_pos lf] at z; exact absurd z (by decide)
    have ok := o.ok lf
    have okN := o.nk lf
    refine ⟨harS (sL S) (sNw S) a (third (sL S)), trS S 0, fun h lw e => ?_, fun h ml e => ?_, o.tr _ (by omega) (by omega)⟩
    · obtain ⟨h1, q1, q2, q3, q4⟩ := e.bt a
      obtain ⟨h2, lw2, r1, r2, r3⟩ := q2.fn (harS (sL S) (sNw S) a (third (sL S)))
      refine ⟨h2, lw2, ?_, r2, q4.tr r3⟩
      show f_T_harmBy h (some 100) a = _
      unfold f_T_harmBy
      rw [e.bd, z, Option.bind_some, if_neg (fun q => q rfl), q1, Option.bind_some]
      dsimp only
      rw [cl_o q3, cls_har q3.v (q2.lv ok) ok (q2.nv o.P5) okN, Option.bind_some]
      exact r1
    · obtain ⟨h1, s1, s2, s3⟩ := e.st
      obtain ⟨h2, i, t1, t2, t3, t4, t5, t6⟩ := s2.bt lf a
      obtain ⟨h3, ml3, r1, r2, r3⟩ := t2.gd (harS (sL S) (sNw S) a (third (sL S)))
      refine ⟨h3, ml3, ?_, r2, (s3.tr t6).tr r3⟩
      show f_M_harmBy h (some 285) a = _
      unfold f_M_harmBy
      rw [s1, Option.bind_some, hM _ _ s2, z, Option.bind_some, if_pos (by decide), t1, Option.bind_some, t2.cl, mod_har t4 (t5.v ok) ok okN (t2.row lf o.P5) t2.vr, Option.bind_some]
      exact r1
  · refine ⟨-1, trS S (bdS S a 0 9), fun h lw e => ?_, fun h ml e => ?_, o.tr _ (by omega) (by omega)⟩
    · obtain ⟨h1, lw1, r1, r2, r3⟩ := e.rf (bdS S a 0 9)
      refine ⟨h1, lw1, ?_, r2, r3⟩
      show f_T_harmBy h (some 100) a = _
      unfold f_T_harmBy
      rw [e.bd, Option.bind_some, if_pos z]
      exact r1
    · obtain ⟨h1, s1, s2, s3⟩ := e.st
      obtain ⟨h2, ml2, r1, r2, r3⟩ := s2.rf (bdS S a 0 9) (by rcases hv with q | q | q <;> rw [q] <;> decide)
      refine ⟨h2, ml2, ?_, r2, s3.tr r3⟩
      show f_M_harmBy h (some 285) a = _
      unfold f_M_harmBy
      rw [s1, Option.bind_some, hM _ _ s2, Option.bind_some, if_neg (by rcases hv with q | q | q; exact absurd q z; rw [q]; decide; rw [q]; decide)]
      exact r1
theorem op_raisedThird (o : SOk c S) (hc : c < 600) (a : Int32) : Op (fun h => f_T_raisedThird h (some 100) a) (fun h => f_M_raisedThird h (some 285) a) c S := by
  have hM : ∀ h ml, Mst h ml S → cl h 12 (some 285) (f_M_refusesThird h (some 285) a) = some (bdS S a 1 4) := by
    intro h ml e
    rw [e.cl]
    unfold f_M_refusesThird bdS f_M_in
    rw [e.lwR, Option.bind_some]
    cases lf : sLf S with
    | false => rw [if_pos (e.no lf), if_pos rfl]
    | true =>
      obtain ⟨i, m1, -⟩ := e.ye lf
      rw [if_neg (by rw [m1]; simp), if_neg (show ¬ (true = false) by decide)]
      by_cases z : a < 1
      · rw [if_pos z, if_pos (Or.inl z)]; rfl
      · rw [if_neg z]
        by_cases y : 4 < a
        · rw [if_pos y, if_pos (Or.inr y)]; rfl
        · rw [if_neg y, if_neg (fun q => q.elim z y)]; rfl
  have hv : bdS S a 1 4 = 0 ∨ bdS S a 1 4 = 1 ∨ bdS S a 1 4 = 2 := by
    unfold bdS
    split
    · simp
    · split <;> simp
  by_cases z : bdS S a 1 4 = 0
  · have lf : sLf S = true := by
      cases lf : sLf S with
      | true => rfl
      | false => unfold bdS at z; rw [if_pos lf] at z; exact absurd z (by decide)
    have ok := o.ok lf
    have okN := o.nk lf
    refine ⟨raiS (sL S) (sNw S) (-1) a, trS S 0, fun h lw e => ?_, fun h ml e => ?_, o.tr _ (by omega) (by omega)⟩
    · obtain ⟨h1, q1, q2, q3, q4⟩ := e.b3 a
      obtain ⟨h2, lw2, r1, r2, r3⟩ := q2.fn (raiS (sL S) (sNw S) (-1) a)
      refine ⟨h2, lw2, ?_, r2, q4.tr r3⟩
      show f_T_raisedThird h (some 100) a = _
      unfold f_T_raisedThird
      rw [e.bd, z, Option.bind_some, if_neg (fun q => q rfl), q1, Option.bind_some]
      dsimp only
      rw [cl_o q3, cls_rai q3.v (q2.lv ok) ok (q2.nv o.P5) okN, Option.bind_some]
      exact r1
    · obtain ⟨h1, s1, s2, s3⟩ := e.st
      obtain ⟨h2, i, t1, t2, t3, t4, t5, t6⟩ := s2.b3 lf a
      obtain ⟨h3, ml3, r1, r2, r3⟩ := t2.gd (raiS (sL S) (sNw S) (-1) a)
      refine ⟨h3, ml3, ?_, r2, (s3.tr t6).tr r3⟩
      show f_M_raisedThird h (some 285) a = _
      unfold f_M_raisedThird
      rw [s1, Option.bind_some, hM _ _ s2, z, Option.bind_some, if_pos (by decide), t1, Option.bind_some, t2.cl, mod_rai t4 (t5.v ok) ok okN (t2.row lf o.P5) t2.vr, Option.bind_some]
      exact r1
  · refine ⟨-1, trS S (bdS S a 1 4), fun h lw e => ?_, fun h ml e => ?_, o.tr _ (by omega) (by omega)⟩
    · obtain ⟨h1, lw1, r1, r2, r3⟩ := e.rf (bdS S a 1 4)
      refine ⟨h1, lw1, ?_, r2, r3⟩
      show f_T_raisedThird h (some 100) a = _
      unfold f_T_raisedThird
      rw [e.bd, Option.bind_some, if_pos z]
      exact r1
    · obtain ⟨h1, s1, s2, s3⟩ := e.st
      obtain ⟨h2, ml2, r1, r2, r3⟩ := s2.rf (bdS S a 1 4) (by rcases hv with q | q | q <;> rw [q] <;> decide)
      refine ⟨h2, ml2, ?_, r2, s3.tr r3⟩
      show f_M_raisedThird h (some 285) a = _
      unfold f_M_raisedThird
      rw [s1, Option.bind_some, hM _ _ s2, Option.bind_some, if_neg (by rcases hv with q | q | q; exact absurd q z; rw [q]; decide; rw [q]; decide)]
      exact r1
theorem op_harmThird (o : SOk c S) (hc : c < 600) (a : Int32) : Op (fun h => f_T_harmThird h (some 100) a) (fun h => f_M_harmThird h (some 285) a) c S := by
  have hM : ∀ h ml, Mst h ml S → cl h 12 (some 285) (f_M_refusesThird h (some 285) a) = some (bdS S a 1 4) := by
    intro h ml e
    rw [e.cl]
    unfold f_M_refusesThird bdS f_M_in
    rw [e.lwR, Option.bind_some]
    cases lf : sLf S with
    | false => rw [if_pos (e.no lf), if_pos rfl]
    | true =>
      obtain ⟨i, m1, -⟩ := e.ye lf
      rw [if_neg (by rw [m1]; simp), if_neg (show ¬ (true = false) by decide)]
      by_cases z : a < 1
      · rw [if_pos z, if_pos (Or.inl z)]; rfl
      · rw [if_neg z]
        by_cases y : 4 < a
        · rw [if_pos y, if_pos (Or.inr y)]; rfl
        · rw [if_neg y, if_neg (fun q => q.elim z y)]; rfl
  have hv : bdS S a 1 4 = 0 ∨ bdS S a 1 4 = 1 ∨ bdS S a 1 4 = 2 := by
    unfold bdS
    split
    · simp
    · split <;> simp
  by_cases z : bdS S a 1 4 = 0
  · have lf : sLf S = true := by
      cases lf : sLf S with
      | true => rfl
      | false => unfold bdS at z; rw [if_pos lf] at z; exact absurd z (by decide)
    have ok := o.ok lf
    have okN := o.nk lf
    refine ⟨harS (sL S) (sNw S) (-1) a, trS S 0, fun h lw e => ?_, fun h ml e => ?_, o.tr _ (by omega) (by omega)⟩
    · obtain ⟨h1, q1, q2, q3, q4⟩ := e.b3 a
      obtain ⟨h2, lw2, r1, r2, r3⟩ := q2.fn (harS (sL S) (sNw S) (-1) a)
      refine ⟨h2, lw2, ?_, r2, q4.tr r3⟩
      show f_T_harmThird h (some 100) a = _
      unfold f_T_harmThird
      rw [e.bd, z, Option.bind_some, if_neg (fun q => q rfl), q1, Option.bind_some]
      dsimp only
      rw [cl_o q3, cls_har q3.v (q2.lv ok) ok (q2.nv o.P5) okN, Option.bind_some]
      exact r1
    · obtain ⟨h1, s1, s2, s3⟩ := e.st
      obtain ⟨h2, i, t1, t2, t3, t4, t5, t6⟩ := s2.b3 lf a
      obtain ⟨h3, ml3, r1, r2, r3⟩ := t2.gd (harS (sL S) (sNw S) (-1) a)
      refine ⟨h3, ml3, ?_, r2, (s3.tr t6).tr r3⟩
      show f_M_harmThird h (some 285) a = _
      unfold f_M_harmThird
      rw [s1, Option.bind_some, hM _ _ s2, z, Option.bind_some, if_pos (by decide), t1, Option.bind_some, t2.cl, mod_har t4 (t5.v ok) ok okN (t2.row lf o.P5) t2.vr, Option.bind_some]
      exact r1
  · refine ⟨-1, trS S (bdS S a 1 4), fun h lw e => ?_, fun h ml e => ?_, o.tr _ (by omega) (by omega)⟩
    · obtain ⟨h1, lw1, r1, r2, r3⟩ := e.rf (bdS S a 1 4)
      refine ⟨h1, lw1, ?_, r2, r3⟩
      show f_T_harmThird h (some 100) a = _
      unfold f_T_harmThird
      rw [e.bd, Option.bind_some, if_pos z]
      exact r1
    · obtain ⟨h1, s1, s2, s3⟩ := e.st
      obtain ⟨h2, ml2, r1, r2, r3⟩ := s2.rf (bdS S a 1 4) (by rcases hv with q | q | q <;> rw [q] <;> decide)
      refine ⟨h2, ml2, ?_, r2, s3.tr r3⟩
      show f_M_harmThird h (some 285) a = _
      unfold f_M_harmThird
      rw [s1, Option.bind_some, hM _ _ s2, Option.bind_some, if_neg (by rcases hv with q | q | q; exact absurd q z; rw [q]; decide; rw [q]; decide)]
      exact r1
end D8
