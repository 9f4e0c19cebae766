/-! the best table, the still one -/
/-- the first table from k on by which nobody wavers -/
def stS (L : LawD) (N : NowD) : Nat → Nat → Int32
  | 0, _ => -2
  | f + 1, k => if wavS L N (nI k) (third L) = 0 then nI k else stS L N f (k + 1)
section D14
variable {c lw : Nat} {S : StD} {h : PH} {ml : Option Nat}
theorem op_stillTable (o : SOk c S) (hc : c < 600) : Op (fun h => f_T_stillTable h (some 100)) (fun h => f_M_stillTable h (some 285)) c S := by
  cases lf : sLf S with
  | true =>
    have ok := o.ok lf
    have okN := o.nk lf
    refine ⟨stS (sL S) (sNw S) 10 0, trS S 0, fun h lw e => ?_, fun h ml e => ?_, o.tr _ (by omega) (by omega)⟩
    · obtain ⟨x, l1, l2⟩ := pj_inv (step := fun s2 : Int32 × PH => if (9 : Int32) < s2.1 then (some (.inr (.inl s2.2)) : Option ((Int32 × PH) ⊕ (PH ⊕ (Int32 × PH)))) else ((cl s2.2 10 (some 100) (f_T_byTable s2.2 (some 100) s2.1)).bind fun v4 => (cl v4.2 0 v4.1 (f_Desk_wavering v4.2 v4.1)).bind fun v5 => if ¬ v5 = 0 then (some (.inl ((s2.1 + (1 : Int32)), v4.2))) else (some (.inr (.inr (s2.1, v4.2)))))) (fun i s => stS (sL S) (sNw S) 10 0 = stS (sL S) (sNw S) (10 - i) i ∧ s.1 = nI i ∧ CI s.2 lw S ∧ Fr h s.2 100 285) (fun x => (∃ y, x = .inl y ∧ stS (sL S) (sNw S) 10 0 = -2 ∧ CI y lw S ∧ Fr h y 100 285) ∨ ∃ y, x = .inr (stS (sL S) (sNw S) 10 0, y) ∧ CI y lw S ∧ Fr h y 100 285) 10 (s0 := ((0 : Int32), h)) (by omega) ⟨rfl, rfl, e, Fr.rf⟩ (by
          rintro i ⟨s1, s3⟩ hi ⟨x1, x2, x3, x4⟩
          dsimp only at x1 x2 x3 x4 ⊢
          subst x2
          obtain ⟨h2, y1, y2, y3, y4⟩ := x3.bt (nI i)
          rw [if_neg (show ¬ (9 : Int32) < nI i from nI_nlt (b := i) (a := 9) (by omega) (by omega)), y1, Option.bind_some, nI_s]
          dsimp only
          rw [cl_o y3, cls_wav y3.v (y2.lv ok) ok (y2.nv o.P5) okN, Option.bind_some]
          rw [show 10 - i = (10 - (i + 1)) + 1 by omega] at x1
          have x1 : stS (sL S) (sNw S) 10 0 = if wavS (sL S) (sNw S) (nI i) (third (sL S)) = 0 then nI i else stS (sL S) (sNw S) (10 - (i + 1)) (i + 1) := x1
          by_cases z : wavS (sL S) (sNw S) (nI i) (third (sL S)) = 0
          · rw [if_pos z] at x1
            rw [if_neg (fun q => q z)]
            exact Or.inr ⟨_, rfl, Or.inr ⟨h2, by rw [x1], y2, x4.tr y4⟩⟩
          · rw [if_neg z] at x1
            rw [if_pos z]
            exact Or.inl ⟨_, rfl, x1, rfl, y2, x4.tr y4⟩) (by
          rintro ⟨s1, s3⟩ ⟨x1, x2, x3, x4⟩
          dsimp only at x1 x2 x3 x4 ⊢
          subst x2
          rw [if_pos (show (9 : Int32) < nI 10 by decide)]
          exact ⟨_, rfl, Or.inl ⟨s3, rfl, x1, x3, x4⟩⟩)
      have main : ∀ y, CI y lw S → Fr h y 100 285 → ∃ h1 lw1, ((cl y 10 (some 100) (f_T_fine y (some 100) (stS (sL S) (sNw S) 10 0))).bind fun v => some (v.1, v.2)) = some (stS (sL S) (sNw S) 10 0, h1) ∧ CI h1 lw1 (trS S 0) ∧ Fr h h1 100 285 := by
        intro y c1 f1
        obtain ⟨h2, lw2, r1, r2, r3⟩ := c1.fn (stS (sL S) (sNw S) 10 0)
        exact ⟨h2, lw2, r1, r2, f1.tr r3⟩
      rcases l2 with ⟨y, rfl, l3, l4, l5⟩ | ⟨y, rfl, l4, l5⟩
      · obtain ⟨h2, lw2, r1, r2, r3⟩ := main y l4 l5
        refine ⟨h2, lw2, ?_, r2, r3⟩
        show f_T_stillTable h (some 100) = _
        unfold f_T_stillTable
        rw [e.lf, bI_t lf, Option.bind_some, if_pos (by decide), l1, Option.bind_some]
        dsimp only
        rw [l3] at r1 ⊢
        exact r1
      · obtain ⟨h2, lw2, r1, r2, r3⟩ := main y l4 l5
        refine ⟨h2, lw2, ?_, r2, r3⟩
        show f_T_stillTable h (some 100) = _
        unfold f_T_stillTable
        rw [e.lf, bI_t lf, Option.bind_some, if_pos (by decide), l1, Option.bind_some]
        exact r1
    · obtain ⟨h1, s1, s2, s3⟩ := e.st
      obtain ⟨i0, m1, -⟩ := s2.ye lf
      obtain ⟨x, l1, l2⟩ := pj_inv (step := fun s3 : Int32 × PH => if (9 : Int32) < s3.1 then (some (.inr (.inl s3.2)) : Option ((Int32 × PH) ⊕ (PH ⊕ (Int32 × PH)))) else ((cl s3.2 12 (some 285) (f_M_byTable s3.2 (some 285) s3.1)).bind fun h5 => (cl h5 12 (some 285) (f_M_wavering h5 (some 285))).bind fun v6 => if ¬ v6 = 0 then (some (.inl ((s3.1 + (1 : Int32)), h5))) else (some (.inr (.inr (s3.1, h5)))))) (fun i s => stS (sL S) (sNw S) 10 0 = stS (sL S) (sNw S) (10 - i) i ∧ s.1 = nI i ∧ Mst s.2 ml S ∧ Fr h s.2 285 295) (fun x => (∃ y, x = .inl y ∧ stS (sL S) (sNw S) 10 0 = -2 ∧ Mst y ml S ∧ Fr h y 285 295) ∨ ∃ y, x = .inr (stS (sL S) (sNw S) 10 0, y) ∧ Mst y ml S ∧ Fr h y 285 295) 10 (s0 := ((0 : Int32), h1)) (by omega) ⟨rfl, rfl, s2, s3⟩ (by
          rintro i ⟨s1, s3⟩ hi ⟨x1, x2, x3, x4⟩
          dsimp only at x1 x2 x3 x4 ⊢
          subst x2
          obtain ⟨h2, i1, y1, y2, y3, y4, y5, y6⟩ := x3.bt lf (nI i)
          rw [if_neg (show ¬ (9 : Int32) < nI i from nI_nlt (b := i) (a := 9) (by omega) (by omega)), y1, Option.bind_some, nI_s]
          rw [y2.cl, mod_wav y4 (y5.v ok) ok okN (y2.row lf o.P5) y2.vr, Option.bind_some]
          rw [show 10 - i = (10 - (i + 1)) + 1 by omega] at x1
          have x1 : stS (sL S) (sNw S) 10 0 = if wavS (sL S) (sNw S) (nI i) (third (sL S)) = 0 then nI i else stS (sL S) (sNw S) (10 - (i + 1)) (i + 1) := x1
          by_cases z : wavS (sL S) (sNw S) (nI i) (third (sL S)) = 0
          · rw [if_pos z] at x1
            rw [if_neg (fun q => q z)]
            exact Or.inr ⟨_, rfl, Or.inr ⟨h2, by rw [x1], y2, x4.tr y6⟩⟩
          · rw [if_neg z] at x1
            rw [if_pos z]
            exact Or.inl ⟨_, rfl, x1, rfl, y2, x4.tr y6⟩) (by
          rintro ⟨s1, s3⟩ ⟨x1, x2, x3, x4⟩
          dsimp only at x1 x2 x3 x4 ⊢
          subst x2
          rw [if_pos (show (9 : Int32) < nI 10 by decide)]
          exact ⟨_, rfl, Or.inl ⟨s3, rfl, x1, x3, x4⟩⟩)
      rcases l2 with ⟨y, rfl, l3, l4, l5⟩ | ⟨y, rfl, l4, l5⟩
      · obtain ⟨h2, ml2, r1, r2, r3⟩ := l4.gd (stS (sL S) (sNw S) 10 0)
        refine ⟨h2, ml2, ?_, r2, l5.tr r3⟩
        show f_M_stillTable h (some 285) = _
        unfold f_M_stillTable
        rw [s1, Option.bind_some, s2.lwR, Option.bind_some, if_neg (by rw [m1]; simp), l1, Option.bind_some]
        dsimp only
        rw [l3] at r1 ⊢
        exact r1
      · obtain ⟨h2, ml2, r1, r2, r3⟩ := l4.gd (stS (sL S) (sNw S) 10 0)
        refine ⟨h2, ml2, ?_, r2, l5.tr r3⟩
        show f_M_stillTable h (some 285) = _
        unfold f_M_stillTable
        rw [s1, Option.bind_some, s2.lwR, Option.bind_some, if_neg (by rw [m1]; simp), l1, Option.bind_some]
        exact r1
  | false =>
    refine ⟨-1, trS S 1, fun h lw e => ?_, fun h ml e => ?_, o.tr _ (by omega) (by omega)⟩
    · obtain ⟨h1, lw1, r1, r2, r3⟩ := e.rf 1
      refine ⟨h1, lw1, ?_, r2, r3⟩
      show f_T_stillTable h (some 100) = _
      unfold f_T_stillTable
      rw [e.lf, bI_f lf, Option.bind_some, if_neg (fun q => q rfl)]
      exact r1
    · obtain ⟨h1, s1, s2, s3⟩ := e.st
      obtain ⟨h2, ml2, r1, r2, r3⟩ := s2.rf 1 (by decide)
      refine ⟨h2, ml2, ?_, r2, s3.tr r3⟩
      show f_M_stillTable h (some 285) = _
      unfold f_M_stillTable
      rw [s1, Option.bind_some, s2.lwR, Option.bind_some, if_pos (s2.no lf)]
      exact r1
theorem bt_step {L : LawD} {N : NowD} {k : Nat} {X : Type} {f : Int32 × Int32 × Int32 → X} : (if (btA L N k).2.1 < raiS L N (nI (k + 1)) (third L) then f (nI (k + 1), raiS L N (nI (k + 1)) (third L), harS L N (nI (k + 1)) (third L)) else if ¬ raiS L N (nI (k + 1)) (third L) = (btA L N k).2.1 then f (btA L N k) else if (btA L N k).2.2 ≤ harS L N (nI (k + 1)) (third L) then f (btA L N k) else f (nI (k + 1), raiS L N (nI (k + 1)) (third L), harS L N (nI (k + 1)) (third L))) = f (btA L N (k + 1)) := by
  rw [show btA L N (k + 1) = if (btA L N k).2.1 < raiS L N (nI (k + 1)) (third L) ∨ (raiS L N (nI (k + 1)) (third L) = (btA L N k).2.1 ∧ harS L N (nI (k + 1)) (third L) < (btA L N k).2.2) then (nI (k + 1), raiS L N (nI (k + 1)) (third L), harS L N (nI (k + 1)) (third L)) else btA L N k from rfl]
  by_cases z : (btA L N k).2.1 < raiS L N (nI (k + 1)) (third L)
  · rw [if_pos z, if_pos (Or.inl z)]
  · rw [if_neg z]
    by_cases y : raiS L N (nI (k + 1)) (third L) = (btA L N k).2.1
    · rw [if_neg (fun q => q y)]
      by_cases w : (btA L N k).2.2 ≤ harS L N (nI (k + 1)) (third L)
      · rw [if_pos w, if_neg (fun q => q.elim z (fun q => absurd q.2 (Int32.not_lt.mpr w)))]
      · rw [if_neg w, if_pos (Or.inr ⟨y, Int32.not_le.mp w⟩)]
    · rw [if_pos y, if_neg (fun q => q.elim z (fun q => y q.1))]
theorem bt_stepM {L : LawD} {N : NowD} {k : Nat} {X : Type} {f : Int32 × Int32 × Int32 → X} : (if raiS L N (nI (k + 1)) (third L) < (btA L N k).2.1 then f (btA L N k) else if ¬ raiS L N (nI (k + 1)) (third L) = (btA L N k).2.1 then f (nI (k + 1), raiS L N (nI (k + 1)) (third L), harS L N (nI (k + 1)) (third L)) else if harS L N (nI (k + 1)) (third L) < (btA L N k).2.2 then f (nI (k + 1), raiS L N (nI (k + 1)) (third L), harS L N (nI (k + 1)) (third L)) else f (btA L N k)) = f (btA L N (k + 1)) := by
  rw [show btA L N (k + 1) = if (btA L N k).2.1 < raiS L N (nI (k + 1)) (third L) ∨ (raiS L N (nI (k + 1)) (third L) = (btA L N k).2.1 ∧ harS L N (nI (k + 1)) (third L) < (btA L N k).2.2) then (nI (k + 1), raiS L N (nI (k + 1)) (third L), harS L N (nI (k + 1)) (third L)) else btA L N k from rfl]
  by_cases z : raiS L N (nI (k + 1)) (third L) < (btA L N k).2.1
  · rw [if_pos z, if_neg]
    rintro (q | q)
    · exact Int32.lt_irrefl (Int32.lt_trans q z)
    · rw [q.1] at z; exact Int32.lt_irrefl z
  · rw [if_neg z]
    by_cases y : raiS L N (nI (k + 1)) (third L) = (btA L N k).2.1
    · rw [if_neg (fun q => q y)]
      by_cases w : harS L N (nI (k + 1)) (third L) < (btA L N k).2.2
      · rw [if_pos w, if_pos (Or.inr ⟨y, w⟩)]
      · rw [if_neg w, if_neg]
        rintro (q | q)
        · rw [y] at q; exact Int32.lt_irrefl q
        · exact w q.2
    · rw [if_pos y, if_pos]
      left
      rcases Int32.lt_or_eq_of_le (Int32.not_lt.mp z) with q | q
      · exact q
      · exact absurd q.symm y
theorem op_bestTable (o : SOk c S) (hc : c < 600) : Op (fun h => f_T_bestTable h (some 100)) (fun h => f_M_bestTable h (some 285)) c S := by
  cases lf : sLf S with
  | true =>
    have ok := o.ok lf
    have okN := o.nk lf
    refine ⟨(btA (sL S) (sNw S) 9).1, trS S 0, fun h lw e => ?_, fun h ml e => ?_, o.tr _ (by omega) (by omega)⟩
    · obtain ⟨h1, a1, a2, a3, a4⟩ := e.bt 0
      obtain ⟨h2, b1, b2, b3, b4⟩ := a2.bt 0
      obtain ⟨x, l1, l2, l3, l4⟩ := pj_inv (step := fun s6 : Int32 × Int32 × Int32 × Int32 × PH => if (9 : Int32) < s6.2.2.2.1 then (some (.inr (s6.1, s6.2.2.2.2)) : Option ((Int32 × Int32 × Int32 × Int32 × PH) ⊕ (Int32 × PH))) else ((cl s6.2.2.2.2 10 (some 100) (f_T_byTable s6.2.2.2.2 (some 100) s6.2.2.2.1)).bind fun v8 => (cl v8.2 0 v8.1 (f_Desk_raisedOfAll v8.2 v8.1)).bind fun v9 => (cl v8.2 10 (some 100) (f_T_byTable v8.2 (some 100) s6.2.2.2.1)).bind fun v10 => (cl v10.2 0 v10.1 (f_Desk_harmOfAll v10.2 v10.1)).bind fun v11 => if s6.2.1 < v9 then (some (.inl (s6.2.2.2.1, v9, v11, (s6.2.2.2.1 + (1 : Int32)), v10.2))) else (if ¬ v9 = s6.2.1 then (some (.inl (s6.1, s6.2.1, s6.2.2.1, (s6.2.2.2.1 + (1 : Int32)), v10.2))) else (if s6.2.2.1 ≤ v11 then (some (.inl (s6.1, s6.2.1, s6.2.2.1, (s6.2.2.2.1 + (1 : Int32)), v10.2))) else (some (.inl (s6.2.2.2.1, v9, v11, (s6.2.2.2.1 + (1 : Int32)), v10.2))))))) (fun i s => s.1 = (btA (sL S) (sNw S) i).1 ∧ s.2.1 = (btA (sL S) (sNw S) i).2.1 ∧ s.2.2.1 = (btA (sL S) (sNw S) i).2.2 ∧ s.2.2.2.1 = nI (i + 1) ∧ CI s.2.2.2.2 lw S ∧ Fr h s.2.2.2.2 100 285) (fun x => x.1 = (btA (sL S) (sNw S) 9).1 ∧ CI x.2 lw S ∧ Fr h x.2 100 285) 9 (s0 := ((0 : Int32), raiS (sL S) (sNw S) 0 (third (sL S)), harS (sL S) (sNw S) 0 (third (sL S)), (1 : Int32), h2)) (by omega) ⟨rfl, rfl, rfl, rfl, b2, a4.tr b4⟩ (by
          rintro i ⟨s1, s2, s3, s4, s5⟩ hi ⟨x1, x2, x3, x4, x5, x6⟩
          dsimp only at x1 x2 x3 x4 x5 x6 ⊢
          subst x1 x2 x3 x4
          left
          obtain ⟨h3, y1, y2, y3, y4⟩ := x5.bt (nI (i + 1))
          obtain ⟨h4, z1, z2, z3, z4⟩ := y2.bt (nI (i + 1))
          rw [if_neg (show ¬ (9 : Int32) < nI (i + 1) from nI_nlt (b := i + 1) (a := 9) (by omega) (by omega)), y1, Option.bind_some, nI_s]
          dsimp only
          rw [cl_o y3, cls_rai y3.v (y2.lv ok) ok (y2.nv o.P5) okN, Option.bind_some, z1, Option.bind_some]
          dsimp only
          rw [cl_o z3, cls_har z3.v (z2.lv ok) ok (z2.nv o.P5) okN, Option.bind_some]
          refine ⟨((btA (sL S) (sNw S) (i + 1)).1, (btA (sL S) (sNw S) (i + 1)).2.1, (btA (sL S) (sNw S) (i + 1)).2.2, nI (i + 1 + 1), h4), ?_, rfl, rfl, rfl, rfl, z2, (x6.tr y4).tr z4⟩
          exact bt_step (f := fun t => some (Sum.inl (t.1, t.2.1, t.2.2, nI (i + 1 + 1), h4)))) (by
          rintro ⟨s1, s2, s3, s4, s5⟩ ⟨x1, x2, x3, x4, x5, x6⟩
          dsimp only at x1 x2 x3 x4 x5 x6 ⊢
          subst x1 x2 x3 x4
          rw [if_pos (show (9 : Int32) < nI (9 + 1) by decide)]
          exact ⟨_, rfl, rfl, x5, x6⟩)
      obtain ⟨h3, lw3, r1, r2, r3⟩ := l3.fn (btA (sL S) (sNw S) 9).1
      refine ⟨h3, lw3, ?_, r2, l4.tr r3⟩
      show f_T_bestTable h (some 100) = _
      unfold f_T_bestTable
      rw [e.lf, bI_t lf, Option.bind_some, if_pos (by decide), a1, Option.bind_some]
      dsimp only
      rw [cl_o a3, cls_rai a3.v (a2.lv ok) ok (a2.nv o.P5) okN, Option.bind_some, b1, Option.bind_some]
      dsimp only
      rw [cl_o b3, cls_har b3.v (b2.lv ok) ok (b2.nv o.P5) okN, Option.bind_some, l1, Option.bind_some, l2]
      exact r1
    · obtain ⟨h1, s1, s2, s3⟩ := e.st
      obtain ⟨i0, m1, -⟩ := s2.ye lf
      obtain ⟨x, l1, l2, l3, l4⟩ := pj_inv (step := fun s3 : Int32 × Int32 × Int32 × Int32 × PH => if (9 : Int32) < s3.2.2.2.1 then (some (.inr (s3.1, s3.2.2.2.2)) : Option ((Int32 × Int32 × Int32 × Int32 × PH) ⊕ (Int32 × PH))) else ((cl s3.2.2.2.2 12 (some 285) (f_M_byTable s3.2.2.2.2 (some 285) s3.2.2.2.1)).bind fun h5 => (cl h5 12 (some 285) (f_M_raising h5 (some 285))).bind fun v6 => (cl h5 12 (some 285) (f_M_harming h5 (some 285))).bind fun v7 => if v6 < s3.2.1 then (some (.inl (s3.1, s3.2.1, s3.2.2.1, (s3.2.2.2.1 + (1 : Int32)), h5))) else (if ¬ v6 = s3.2.1 then (some (.inl (s3.2.2.2.1, v6, v7, (s3.2.2.2.1 + (1 : Int32)), h5))) else (if v7 < s3.2.2.1 then (some (.inl (s3.2.2.2.1, v6, v7, (s3.2.2.2.1 + (1 : Int32)), h5))) else (some (.inl (s3.1, s3.2.1, s3.2.2.1, (s3.2.2.2.1 + (1 : Int32)), h5))))))) (fun i s => (match i with | 0 => s.1 = 0 ∧ s.2.1 = -1 ∧ s.2.2.1 = 0 | k + 1 => s.1 = (btA (sL S) (sNw S) k).1 ∧ s.2.1 = (btA (sL S) (sNw S) k).2.1 ∧ s.2.2.1 = (btA (sL S) (sNw S) k).2.2) ∧ s.2.2.2.1 = nI i ∧ Mst s.2.2.2.2 ml S ∧ Fr h s.2.2.2.2 285 295) (fun x => x.1 = (btA (sL S) (sNw S) 9).1 ∧ Mst x.2 ml S ∧ Fr h x.2 285 295) 10 (s0 := ((0 : Int32), (-1 : Int32), (0 : Int32), (0 : Int32), h1)) (by omega) ⟨⟨rfl, rfl, rfl⟩, rfl, s2, s3⟩ (by
          rintro i ⟨s1, s2, s3, s4, s5⟩ hi ⟨x1, x4, x5, x6⟩
          dsimp only at x1 x4 x5 x6 ⊢
          subst x4
          left
          obtain ⟨h2, i1, y1, y2, y3, y4, y5, y6⟩ := x5.bt lf (nI i)
          rw [if_neg (show ¬ (9 : Int32) < nI i from nI_nlt (b := i) (a := 9) (by omega) (by omega)), y1, Option.bind_some, nI_s]
          rw [y2.cl, mod_rai y4 (y5.v ok) ok okN (y2.row lf o.P5) y2.vr, Option.bind_some, y2.cl, mod_har y4 (y5.v ok) ok okN (y2.row lf o.P5) y2.vr, Option.bind_some]
          cases i with
          | zero =>
            obtain ⟨w1, w2, w3⟩ := x1
            subst w1 w2 w3
            rw [nI_0, raiS_0]
            rw [if_neg (by decide), if_pos (by decide)]
            exact ⟨_, rfl, ⟨rfl, by show _ = raiS _ _ _ _; rw [raiS_0], rfl⟩, rfl, y2, x6.tr y6⟩
          | succ k =>
            obtain ⟨w1, w2, w3⟩ := x1
            subst w1 w2 w3
            refine ⟨((btA (sL S) (sNw S) (k + 1)).1, (btA (sL S) (sNw S) (k + 1)).2.1, (btA (sL S) (sNw S) (k + 1)).2.2, nI (k + 1 + 1), h2), ?_, ⟨rfl, rfl, rfl⟩, rfl, y2, x6.tr y6⟩
            exact bt_stepM (f := fun t => some (Sum.inl (t.1, t.2.1, t.2.2, nI (k + 1 + 1), h2)))) (by
          rintro ⟨s1, s2, s3, s4, s5⟩ ⟨⟨x1, x2, x3⟩, x4, x5, x6⟩
          dsimp only at x1 x2 x3 x4 x5 x6 ⊢
          subst x1 x2 x3 x4
          rw [if_pos (show (9 : Int32) < nI 10 by decide)]
          exact ⟨_, rfl, rfl, x5, x6⟩)
      obtain ⟨h2, ml2, r1, r2, r3⟩ := l3.gd (btA (sL S) (sNw S) 9).1
      refine ⟨h2, ml2, ?_, r2, l4.tr r3⟩
      show f_M_bestTable h (some 285) = _
      unfold f_M_bestTable
      rw [s1, Option.bind_some, s2.lwR, Option.bind_some, if_neg (by rw [m1]; simp), l1, Option.bind_some, l2]
      exact r1
  | false =>
    refine ⟨-1, trS S 1, fun h lw e => ?_, fun h ml e => ?_, o.tr _ (by omega) (by omega)⟩
    · obtain ⟨h1, lw1, r1, r2, r3⟩ := e.rf 1
      refine ⟨h1, lw1, ?_, r2, r3⟩
      show f_T_bestTable h (some 100) = _
      unfold f_T_bestTable
      rw [e.lf, bI_f lf, Option.bind_some, if_neg (fun q => q rfl)]
      exact r1
    · obtain ⟨h1, s1, s2, s3⟩ := e.st
      obtain ⟨h2, ml2, r1, r2, r3⟩ := s2.rf 1 (by decide)
      refine ⟨h2, ml2, ?_, r2, s3.tr r3⟩
      show f_M_bestTable h (some 285) = _
      unfold f_M_bestTable
      rw [s1, Option.bind_some, s2.lwR, Option.bind_some, if_pos (s2.no lf)]
      exact r1
end D14
