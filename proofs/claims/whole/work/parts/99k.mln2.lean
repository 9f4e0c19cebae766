/-! the reference's lines: far, person, likes -/
section U4
variable (tx : Nat → Int32) (n : Nat) (N : NmD) (r : RsD)
def qfar1 : RsD × Nat := oKn tx n N 1 r
def qfar2 : RsD × Nat := oKo tx N 1 (qfar1 tx n N r).1
def qfarC : RsD := chk (qfar2 tx n N r).1 3 fun B => decide ((qfar1 tx n N r).2 = (qfar2 tx n N r).2) || decide (¬ far B.2.2 (qfar1 tx n N r).2 (qfar2 tx n N r).2 = 0)
def qfar6 : RsD × Nat := oWh tx n 1 9 (oKw tx n 11 (oNext tx n (qfarC tx n N r)))
def qFar : RsD := fin (qfar6 tx n N r).1 fun B => upT B (sL1 (sL1 B.2.2 (10 + (qfar1 tx n N r).2) (qfar2 tx n N r).2 (nI (qfar6 tx n N r).2)) (10 + (qfar2 tx n N r).2) (qfar1 tx n N r).2 (nI (qfar6 tx n N r).2))
def qper2 : RsD × Nat := oPs tx n (oFr tx n N r).1
def qper4 : RsD × Nat := oKn tx n N 1 (oKw tx n 16 (qper2 tx n N r).1)
def qPer : RsD := fin (qper4 tx n N r).1 fun B => upT B (sL2 (sL2 (sL1 B.2.2 1 (nP B.2.2) (nI (qper2 tx n N r).2)) 1 (nP B.2.2) (qper4 tx n N r).2) 0 1 (nP B.2.2 + 1))
def qlik1 : RsD × Nat := oKn tx n N 3 r
def qlik2 : RsD × Nat := oKo tx N 1 (qlik1 tx n N r).1
def qlikC : RsD := chk (qlik2 tx n N r).1 3 fun B => decide (bitN (B.2.2.1 9 (qlik1 tx n N r).2) (qlik2 tx n N r).2 = 1)
def qlik6 : RsD × Nat := oWh tx n 0 99 (oKw tx n 17 (oNext tx n (qlikC tx n N r)))
def qLik : RsD := fin (qlik6 tx n N r).1 fun B => upT B (sL2 (sL1 (sL1 B.2.2 (20 + (qlik1 tx n N r).2) (qlik2 tx n N r).2 (nI (qlik6 tx n N r).2)) 9 (qlik1 tx n N r).2 (B.2.2.1 9 (qlik1 tx n N r).2 ||| ((1 : Int32) <<< (nI (qlik2 tx n N r).2 &&& 31)))) 0 2 (nK B.2.2 + 1))
end U4
section Z5
variable {h h1 : PH} {F0 : Nat → PV} {i n : Nat} {tx : Nat → Int32} {N : NmD} {r r1 : RsD} {A B : AsD}
theorem ml_far (e : MX h F0 i tx n N (.inr A)) (hA : A.1.1 = 1) (I : LawI A.2.2 N A.2.1) : ∃ h9, cl h 12 (some 285) (f_M_readFar h (some 285)) = some h9 ∧ MX h9 F0 i tx n (oLn tx n N A 2).2 (oLn tx n N A 2).1 ∧ Fm h h9 i := by
  rw [oLn_r (by omega), e.cl]
  unfold f_M_readFar
  obtain ⟨h1, s1, m1, F1⟩ := mx_lb e hA I (a := 0) (b := 1) (fl := false) (by decide)
  obtain ⟨lI, lB⟩ := LiR.lb (tx := tx) (n := n) (fl := false) I
  rw [s1, Option.bind_some, show fulB A.2.2 2 = false from rfl]
  generalize oLb tx n false A = r at m1 lI lB ⊢
  have conv : ∀ h9, MX h9 F0 i tx n N (qFar tx n N r) → MX h9 F0 i tx n (lnR tx n N 2 r).2 (lnR tx n N 2 r).1 := by
    intro h9 q
    cases r with
    | inl f => exact q
    | inr A' => exact q
  obtain ⟨h2, s2, m2, F2⟩ := mx_kn m1 (s := 1) (x := 0) (by omega) rfl
  obtain ⟨h3, s3, m3, F3⟩ := mx_ko m2 (s := 1) (x := 0) (by omega) rfl
  have bc : (qfar1 tx n N r).2 < 5 := (ko_5 (tx := tx) lI 1).1 rfl
  have l2 : LiR N (qfar1 tx n N r).1 := lI.sb sb_kn
  have bd : (qfar2 tx n N r).2 < 5 := (ko_5 (tx := tx) l2 1).1 rfl
  have l3 : LiR N (qfar2 tx n N r).1 := l2.sb (sb_ko (n := n))
  have k1 : ∀ B, (qfar2 tx n N r).1 = .inr B → B.1.1 = 1 := fun B q => ko_1 q
  have s2 : cl h1 12 (some 285) (f_M_readKnown h1 (some 285) 0) = some (nI (qfar1 tx n N r).2, h2) := s2
  have s3 : cl h2 12 (some 285) (f_M_knownOne h2 (some 285) 0) = some (nI (qfar2 tx n N r).2, h3) := s3
  have m3 : MX h3 F0 i tx n N (qfar2 tx n N r).1 := m3
  rw [s2, Option.bind_some]
  dsimp only
  rw [s3, Option.bind_some]
  dsimp only
  rw [m3.so, Option.bind_some]
  refine exB (f := fun h9 => h9) (fun x => MX x F0 i tx n N (qfarC tx n N r) ∧ Fm h3 x i) ?_ ?_
  · unfold qfarC
    generalize (qfar2 tx n N r).1 = re at m3 l3
    generalize (qfar1 tx n N r).2 = c at bc
    generalize (qfar2 tx n N r).2 = d at bd
    cases re with
    | inl f => rw [if_pos (show soR (.inl f) = 5 from rfl)]; exact ⟨h3, rfl, m3, Fm.rf⟩
    | inr B =>
      obtain ⟨i9, hN, cu, G, g, W, ce, de⟩ := m3.rl
      obtain ⟨h6, x1, x2, x3⟩ := mx_flaw m3 3
      rw [if_neg (soR_r m3)]
      unfold chk
      dsimp only
      by_cases z : c = d
      · rw [if_pos (by rw [z]), show (3 : Int32) = nI 3 from rfl, x1, Option.bind_some, if_pos (show (decide (c = d) || decide (¬ far B.2.2 c d = 0)) = true by simp [z])]
        exact ⟨h6, rfl, x2, x3⟩
      · obtain ⟨j, j9, hj⟩ := (l3 B rfl).2.2.2.2.1 c d bc bd
        rw [if_neg (fun q => z ((nI_eq (by omega) (by omega)).mp q)), m3.g4, Option.bind_some, ce.gr (j := 0) (by omega) rfl, Option.bind_some, nI_5, ce.ai (j := 1) (k := 5 * c + d) (by omega) (by omega) (by omega) (by omega) (by unfold szR; simp; omega), Option.bind_some, de.2.2.1 c d bc bd]
        by_cases y : far B.2.2 c d = 0
        · rw [if_pos (by rw [y]; decide), if_neg (show ¬ (decide (c = d) || decide (¬ far B.2.2 c d = 0)) = true by simp [z, y])]
          exact ⟨h3, rfl, m3, Fm.rf⟩
        · rw [if_neg (show ¬ far B.2.2 c d ≤ 0 from fun q => y (by
            rw [hj] at q ⊢
            have : j = 0 := Classical.byContradiction (fun w => nI_nle (n := j) (by omega) (by omega) q)
            rw [this]; rfl)), show (3 : Int32) = nI 3 from rfl, x1, Option.bind_some, if_pos (show (decide (c = d) || decide (¬ far B.2.2 c d = 0)) = true by simp [y])]
          exact ⟨h6, rfl, x2, x3⟩
  · rintro j5 ⟨m5, F5⟩
    have k5 : ∀ B, qfarC tx n N r = .inr B → ¬ B.1.1 = 4 := fun B q => by have := k1 B (chk_i q).1; omega
    obtain ⟨h11, s11, m11, F11⟩ := mx_next m5 k5
    obtain ⟨h12, s12, m12, F12⟩ := mx_part m11 (j := 11) (lo := 1) (hi := 9) (x := 1) (y := 9) (by omega) rfl rfl (by omega) (by omega)
    have s12 : cl h11 12 (some 285) (f_M_readPart h11 (some 285) (some 11) 1 9) = some (nI (qfar6 tx n N r).2, h12) := s12
    have m12 : MX h12 F0 i tx n N (qfar6 tx n N r).1 := m12
    rw [s11, Option.bind_some, s12, Option.bind_some]
    dsimp only
    rw [m12.so, Option.bind_some]
    have FF := ((((F1.tr F2).tr F3).tr F5).tr F11).tr F12
    have en : ∀ h9, MX h9 F0 i tx n N (qFar tx n N r) ∧ Fm h12 h9 i → MX h9 F0 i tx n (lnR tx n N 2 r).2 (lnR tx n N 2 r).1 ∧ Fm h h9 i := fun h9 q => ⟨conv h9 q.1, FF.tr q.2⟩
    unfold qFar at en
    generalize (qfar6 tx n N r).1 = re at m12 en ⊢
    generalize nI (qfar6 tx n N r).2 = x at en ⊢
    generalize (qfar1 tx n N r).2 = c at bc en ⊢
    generalize (qfar2 tx n N r).2 = d at bd en ⊢
    cases re with
    | inl f => rw [if_neg soR_l]; exact ⟨h12, rfl, en _ ⟨m12, Fm.rf⟩⟩
    | inr B =>
      obtain ⟨i9, hN, cu, G, g, W, ce, de⟩ := m12.rl
      obtain ⟨k1, a1, b1, f1⟩ := ce.sa (a := i + 1 + 0) (j := 1) (k := 5 * c + d) (by omega) (by omega) (by omega) (by omega) (by unfold szR; simp; omega) x
      obtain ⟨k2, a2, b2, f2⟩ := b1.sa (a := i + 1 + 0) (j := 1) (k := 5 * d + c) (by omega) (by omega) (by omega) (by omega) (by unfold szR; simp; omega) x
      rw [if_pos (soR_r m12), m12.g4, Option.bind_some, ce.gr (j := 0) (by omega) rfl, Option.bind_some, nI_5, a1, Option.bind_some, m12.k4 f1, Option.bind_some, b1.gr (j := 0) (by omega) rfl, Option.bind_some, nI_5, a2, Option.bind_some]
      exact ⟨k2, rfl, en _ ⟨mx_up m12 (f1.tr f2) ⟨_, _, _, b2, re_far de bc bd x⟩ hN, (f1.tr f2).m2⟩⟩
theorem ps_if (b0 b1 b2 b3 : Bool) : (if (if b0 = true then (1 : Int32) else 0) = 0 then (if (if b1 = true then (1 : Int32) else 0) = 0 then (if (if b2 = true then (1 : Int32) else 0) = 0 then (if (if b3 = true then (1 : Int32) else 0) = 0 then (some (-1 : Int32)) else (some (3 : Int32))) else (some (2 : Int32))) else (some (1 : Int32))) else (some (0 : Int32)) : Option Int32) = some (lsI (if b0 = true then some 0 else if b1 = true then some 1 else if b2 = true then some 2 else if b3 = true then some 3 else none)) := by
  cases b0 <;> cases b1 <;> cases b2 <;> cases b3 <;> rfl
def psB (tx : Nat → Int32) (r : RsD) : Option Nat := if isW tx r 12 = true then some 0 else if isW tx r 13 = true then some 1 else if isW tx r 14 = true then some 2 else if isW tx r 15 = true then some 3 else none
theorem psB_r {A : AsD} : psB tx (.inr A) = psA tx A := by
  unfold psB psA isW
  simp only [decide_eq_true_eq]
theorem psB_n {k : Nat} (q : psB tx r = some k) : k < 4 := by
  unfold psB at q
  split at q
  · cases q; omega
  · split at q
    · cases q; omega
    · split at q
      · cases q; omega
      · split at q
        · cases q; omega
        · cases q
/-- behind the sort of a person -/
theorem mx_ps (e : MX h F0 i tx n N r) : ∃ j10 h12, (if ¬ lsI (psB tx r) = (-1 : Int32) then (some h) else ((cl h 12 (some 285) (f_M_flaw h (some 285) (1 : Int32))).bind fun h11 => some h11) : Option (PH)) = some j10 ∧ cl j10 12 (some 285) (f_M_goesOn j10 (some 285)) = some h12 ∧ MX h12 F0 i tx n N (oPs tx n r).1 ∧ Fm h h12 i ∧ ∀ B, (oPs tx n r).1 = .inr B → lsI (psB tx r) = nI (oPs tx n r).2 := by
  obtain ⟨h6, x1, x2, x3⟩ := mx_flaw e 1
  cases r with
  | inl f =>
    have x2 : MX h6 F0 i tx n N (.inl f) := x2
    rw [show psB tx (.inl f) = none from rfl, if_neg (show ¬ ¬ lsI none = -1 from fun q => q rfl), show (1 : Int32) = nI 1 from rfl, x1, Option.bind_some]
    exact ⟨h6, h6, rfl, mx_over x2, x2, x3, fun B q => by cases q⟩
  | inr A =>
    rw [psB_r]
    unfold oPs
    dsimp only
    cases hp : psA tx A with
    | none =>
      have x2 : MX h6 F0 i tx n N (.inl (1, A.1.2.1)) := x2
      rw [if_neg (show ¬ ¬ lsI none = -1 from fun q => q rfl), show (1 : Int32) = nI 1 from rfl, x1, Option.bind_some]
      exact ⟨h6, h6, rfl, mx_over x2, x2, x3, fun B q => by cases q⟩
    | some k =>
      have k4 := psB_n (tx := tx) (r := .inr A) (k := k) (psB_r.trans hp)
      have tk : A.1.1 = 1 := by
        unfold psA at hp
        split at hp
        · rename_i w; exact w.1
        · split at hp
          · rename_i w; exact w.1
          · split at hp
            · rename_i w; exact w.1
            · split at hp
              · rename_i w; exact w.1
              · cases hp
      obtain ⟨h7, y1, y2, y3⟩ := mx_next e (fun B q => by cases q; omega)
      rw [if_pos (show ¬ lsI (some k) = -1 from fun q => by
        have := (lsI_n (some k) (fun j hj => by cases hj; omega)).mp q
        cases this)]
      exact ⟨h, h7, rfl, y1, y2, y3, fun B q => rfl⟩
theorem ml_per (e : MX h F0 i tx n N (.inr A)) (hA : A.1.1 = 1) (I : LawI A.2.2 N A.2.1) : ∃ h9, cl h 12 (some 285) (f_M_readPerson h (some 285)) = some h9 ∧ MX h9 F0 i tx n (oLn tx n N A 3).2 (oLn tx n N A 3).1 ∧ Fm h h9 i := by
  rw [oLn_r (by omega), e.cl]
  unfold f_M_readPerson
  obtain ⟨-, -, -, G, g, W, c, d⟩ := e.rl
  have n5 := I.1.2.1
  obtain ⟨h3, s3, m3, F3⟩ := mx_lb e hA I (a := nI (nP A.2.2)) (b := 5) (fl := decide (nP A.2.2 = 5)) (eq_n rfl (by omega) (by omega))
  obtain ⟨lI, lB⟩ := LiR.lb (tx := tx) (n := n) (fl := decide (nP A.2.2 = 5)) I
  rw [e.g4, Option.bind_some, c.gi (by omega) d.2.1.2.1, Option.bind_some, s3, Option.bind_some]
  rw [show fulB A.2.2 3 = decide (nP A.2.2 = 5) from rfl]
  generalize oLb tx n (decide (nP A.2.2 = 5)) A = r at m3 lI lB ⊢
  obtain ⟨h4, y, s4, m4, F4, w4⟩ := mx_fresh m3
  obtain ⟨j10, h12, s10, s12, m12, F12, w12⟩ := mx_ps m4
  obtain ⟨h13, s13, m13, F13⟩ := mx_needs m12 (j := 16) (by omega)
  obtain ⟨h14, s14, m14, F14⟩ := mx_kn m13 (s := 1) (x := 0) (by omega) rfl
  have s14 : cl h13 12 (some 285) (f_M_readKnown h13 (some 285) 0) = some (nI (qper4 tx n N r).2, h14) := s14
  have m14 : MX h14 F0 i tx n N (qper4 tx n N r).1 := m14
  rw [s4, Option.bind_some]
  dsimp only
  rw [mx_is m4 (by omega), Option.bind_some, mx_is m4 (by omega), Option.bind_some, mx_is m4 (by omega), Option.bind_some, mx_is m4 (by omega), Option.bind_some, ps_if, Option.bind_some]
  rw [show (if isW tx (oFr tx n N r).1 12 = true then some 0 else if isW tx (oFr tx n N r).1 13 = true then some 1 else if isW tx (oFr tx n N r).1 14 = true then some 2 else if isW tx (oFr tx n N r).1 15 = true then some 3 else none) = psB tx (oFr tx n N r).1 from rfl]
  rw [s10, Option.bind_some, s12, Option.bind_some, s13, Option.bind_some, s14, Option.bind_some]
  dsimp only
  rw [m14.so, Option.bind_some]
  have FF := (((F3.tr F4).tr F12).tr F13).tr F14
  have S2 : Sub tx n (oFr tx n N r).1 (oPs tx n (oFr tx n N r).1).1 := sb_ps
  have S4 : Sub tx n (oPs tx n (oFr tx n N r).1).1 (qper4 tx n N r).1 := sb_kw.tr sb_kn
  have S1 : Sub tx n r (oFr tx n N r).1 := sb_fr
  have en : ∀ h9, MX h9 F0 i tx n (adR (qPer tx n N r) N (adN N (oFr tx n N r).2 3 (nP A.2.2))) (qPer tx n N r) ∧ Fm h14 h9 i → MX h9 F0 i tx n (lnR tx n N 3 r).2 (lnR tx n N 3 r).1 ∧ Fm h h9 i := by
    intro h9 q
    refine ⟨?_, FF.tr q.2⟩
    cases r with
    | inl f => exact q.1
    | inr A' =>
      have := (lB A' rfl).2.2
      rw [← this] at q
      exact q.1
  unfold qPer at en
  cases hre : (qper4 tx n N r).1 with
  | inl f =>
    rw [hre] at m14 en
    rw [if_neg soR_l]
    exact ⟨h14, rfl, en _ ⟨m14, Fm.rf⟩⟩
  | inr B =>
    rw [hre] at m14 en
    obtain ⟨A3, q3, q3b, -⟩ := S4 B hre
    obtain ⟨A2, q2, q2b, -⟩ := S2 A3 q3
    obtain ⟨A1, q1, q1b, -⟩ := S1 A2 q2
    obtain ⟨rfl, wl⟩ := w4 A2 q2
    have w12 := w12 A3 q3
    obtain ⟨b1, b2, b3⟩ := lB A1 q1
    have b1 : ¬ nP A.2.2 = 5 := by simpa using b1
    have eB : B.2 = A.2 := q3b.symm.trans (q2b.symm.trans (q1b.symm.trans b3))
    have I2 : LawI B.2.2 N B.2.1 := by rw [eB]; exact I
    have cB : nP A.2.2 = nP B.2.2 := by rw [eB]
    have p5 : nP B.2.2 < 5 := by rw [eB]; omega
    have hN : N.1 < 16 := by have := I2.1; omega
    rw [w12]
    rw [cB] at en
    have en : ∀ h9, MX h9 F0 i tx n (adN N (oFr tx n N r).2 3 (nP B.2.2)) (.inr (upT B (sL2 (sL2 (sL1 B.2.2 1 (nP B.2.2) (nI (qper2 tx n N r).2)) 1 (nP B.2.2) (qper4 tx n N r).2) 0 1 (nP B.2.2 + 1)))) ∧ Fm h14 h9 i → MX h9 F0 i tx n (lnR tx n N 3 r).2 (lnR tx n N 3 r).1 ∧ Fm h h9 i := en
    rw [show (oPs tx n (oFr tx n N r).1).2 = (qper2 tx n N r).2 from rfl]
    generalize (oFr tx n N r).2 = w at wl en ⊢
    generalize nI (qper2 tx n N r).2 = so at en ⊢
    generalize (qper4 tx n N r).2 = c at en ⊢
    obtain ⟨i9, -, cu, G, g, W, ce, de⟩ := m14.rl
    obtain ⟨k1, a1, q1, f1⟩ := mx_names (N := N) m14.k4 ce de hN (lN w) 1 (nI (nP B.2.2))
    have d1 := re_nm de (w := w) (s := 3) (k := nP B.2.2) wl (Or.inr (Or.inl rfl))
    have q1 : MCl k1 i (upF G 9 (.inl (nI (N.1 + 1)))) (upR (upR g 16 N.1 (nI (snN 3))) 17 N.1 (nI (nP B.2.2))) (upF W N.1 (.inr (.inl (lN w)))) := q1
    obtain ⟨k2, a2, q2, f2⟩ := q1.sa (a := i + 1 + 1) (j := 2) (k := nP B.2.2) (by omega) (by omega) (by omega) (by omega) p5 so
    obtain ⟨k3, a3, q3, f3⟩ := q2.sa (a := i + 1 + 2) (j := 3) (k := nP B.2.2) (by omega) (by omega) (by omega) (by omega) p5 (nI c)
    obtain ⟨k4, a4, q4, f4⟩ := q3.sf (k := 3) (by omega) (.inl (nI (nP B.2.2 + 1)))
    have g12 := f1.tr f2
    have g123 := g12.tr f3
    have G4 := g123.tr f4
    rw [if_pos (soR_r m14), m14.g4, Option.bind_some, ce.gi (by omega) de.2.1.2.1, Option.bind_some, m14.cl, a1, Option.bind_some, m14.k4 f1, Option.bind_some, q1.gr (j := 1) (by omega) rfl, Option.bind_some, a2, Option.bind_some, m14.k4 g12, Option.bind_some, q2.gr (j := 2) (by omega) rfl, Option.bind_some, a3, Option.bind_some, m14.k4 g123, Option.bind_some, q3.gi (by omega) d1.2.1.2.1, Option.bind_some, nI_s, a4, Option.bind_some]
    exact ⟨k4, rfl, en _ ⟨mx_up m14 G4 ⟨_, _, _, q4, re_per d1 so c⟩ (by show N.1 + 1 ≤ 16; omega), G4.m2⟩⟩
theorem ml_lik (e : MX h F0 i tx n N (.inr A)) (hA : A.1.1 = 1) (I : LawI A.2.2 N A.2.1) : ∃ h9, cl h 12 (some 285) (f_M_readLikes h (some 285)) = some h9 ∧ MX h9 F0 i tx n (oLn tx n N A 4).2 (oLn tx n N A 4).1 ∧ Fm h h9 i := by
  rw [oLn_r (by omega), e.cl]
  unfold f_M_readLikes
  obtain ⟨-, -, -, G, g, W, c, d⟩ := e.rl
  have n5 := I.1.2.2.2.2.2.1
  obtain ⟨h1, s1, m1, F1⟩ := mx_lb e hA I (a := nI (nK A.2.2)) (b := 12) (fl := decide (nK A.2.2 = 12)) (eq_n rfl (by omega) (by omega))
  obtain ⟨lI, lB⟩ := LiR.lb (tx := tx) (n := n) (fl := decide (nK A.2.2 = 12)) I
  rw [e.g4, Option.bind_some, c.gi (by omega) d.2.1.2.2.1, Option.bind_some, s1, Option.bind_some, show fulB A.2.2 4 = decide (nK A.2.2 = 12) from rfl]
  generalize oLb tx n (decide (nK A.2.2 = 12)) A = r at m1 lI lB ⊢
  have conv : ∀ h9, MX h9 F0 i tx n N (qLik tx n N r) → MX h9 F0 i tx n (lnR tx n N 4 r).2 (lnR tx n N 4 r).1 := by
    intro h9 q
    cases r with
    | inl f => exact q
    | inr A' => exact q
  obtain ⟨h2, s2, m2, F2⟩ := mx_kn m1 (s := 3) (x := 1) (by omega) rfl
  obtain ⟨h3, s3, m3, F3⟩ := mx_ko m2 (s := 1) (x := 0) (by omega) rfl
  have bc : (qlik1 tx n N r).2 < 5 := (ko_5 (tx := tx) lI 3).2.1 rfl
  have l2 : LiR N (qlik1 tx n N r).1 := lI.sb sb_kn
  have bd : (qlik2 tx n N r).2 < 5 := (ko_5 (tx := tx) l2 1).1 rfl
  have l3 : LiR N (qlik2 tx n N r).1 := l2.sb (sb_ko (n := n))
  have k1 : ∀ B, (qlik2 tx n N r).1 = .inr B → B.1.1 = 1 := fun B q => ko_1 q
  have s2 : cl h1 12 (some 285) (f_M_readKnown h1 (some 285) 1) = some (nI (qlik1 tx n N r).2, h2) := s2
  have s3 : cl h2 12 (some 285) (f_M_knownOne h2 (some 285) 0) = some (nI (qlik2 tx n N r).2, h3) := s3
  have m3 : MX h3 F0 i tx n N (qlik2 tx n N r).1 := m3
  rw [s2, Option.bind_some]
  dsimp only
  rw [s3, Option.bind_some]
  dsimp only
  rw [m3.so, Option.bind_some]
  refine exB (f := fun h9 => h9) (fun x => MX x F0 i tx n N (qlikC tx n N r) ∧ Fm h3 x i) ?_ ?_
  · unfold qlikC
    generalize (qlik2 tx n N r).1 = re at m3 l3
    generalize (qlik1 tx n N r).2 = c at bc
    generalize (qlik2 tx n N r).2 = d at bd
    cases re with
    | inl f => rw [if_pos (show soR (.inl f) = 5 from rfl)]; exact ⟨h3, rfl, m3, Fm.rf⟩
    | inr B =>
      obtain ⟨i9, hN, cu, G, g, W, ce, de⟩ := m3.rl
      obtain ⟨h6, x1, x2, x3⟩ := mx_flaw m3 3
      obtain ⟨j, j9, hj⟩ := (l3 B rfl).2.2.2.2.2.1 c d bc bd
      rw [if_neg (soR_r m3), m3.g4, Option.bind_some, ce.gr (j := 3) (by omega) rfl, Option.bind_some, nI_5, ce.ai (j := 4) (k := 5 * c + d) (by omega) (by omega) (by omega) (by omega) (by unfold szR; simp; omega), Option.bind_some, de.2.2.2.2.1 c d bc bd]
      unfold chk
      dsimp only
      by_cases z : bitN (B.2.2.1 9 c) d = 1
      · rw [if_pos z, if_neg (show ¬ wor B.2.2 c d = -1 from fun q => by
          rw [hj] at q
          have := nI_pos (n := j) (by omega)
          rw [q] at this
          exact this (by decide)), show (3 : Int32) = nI 3 from rfl, x1, Option.bind_some, if_pos (decide_eq_true z)]
        exact ⟨h6, rfl, x2, x3⟩
      · rw [if_neg z, if_pos rfl, if_neg (fun q => z (of_decide_eq_true q))]
        exact ⟨h3, rfl, m3, Fm.rf⟩
  · rintro j5 ⟨m5, F5⟩
    have k5 : ∀ B, qlikC tx n N r = .inr B → ¬ B.1.1 = 4 := fun B q => by have := k1 B (chk_i q).1; omega
    obtain ⟨h11, s11, m11, F11⟩ := mx_next m5 k5
    obtain ⟨h12, s12, m12, F12⟩ := mx_part m11 (j := 17) (lo := 0) (hi := 99) (x := 0) (y := 99) (by omega) rfl rfl (by omega) (by omega)
    have s12 : cl h11 12 (some 285) (f_M_readPart h11 (some 285) (some 17) 0 99) = some (nI (qlik6 tx n N r).2, h12) := s12
    have m12 : MX h12 F0 i tx n N (qlik6 tx n N r).1 := m12
    have l12 : LiR N (qlik6 tx n N r).1 := ((l3.sb (tx := tx) (n := n) sb_ck).sb sb_nx).sb (sb_kw.tr sb_wh)
    rw [s11, Option.bind_some, s12, Option.bind_some]
    dsimp only
    rw [m12.so, Option.bind_some]
    have FF := ((((F1.tr F2).tr F3).tr F5).tr F11).tr F12
    have en : ∀ h9, MX h9 F0 i tx n N (qLik tx n N r) ∧ Fm h12 h9 i → MX h9 F0 i tx n (lnR tx n N 4 r).2 (lnR tx n N 4 r).1 ∧ Fm h h9 i := fun h9 q => ⟨conv h9 q.1, FF.tr q.2⟩
    unfold qLik at en
    generalize (qlik6 tx n N r).1 = re at m12 en l12 ⊢
    generalize nI (qlik6 tx n N r).2 = x at en ⊢
    generalize (qlik1 tx n N r).2 = c at bc en ⊢
    generalize (qlik2 tx n N r).2 = d at bd en ⊢
    cases re with
    | inl f => rw [if_neg soR_l]; exact ⟨h12, rfl, en _ ⟨m12, Fm.rf⟩⟩
    | inr B =>
      obtain ⟨i9, hN, cu, G, g, W, ce, de⟩ := m12.rl
      obtain ⟨b, b32, hb, -⟩ := (l12 B rfl).2.2.2.2.2.2.1 c bc
      obtain ⟨k1, a1, b1, f1⟩ := ce.sa (a := i + 1 + 3) (j := 4) (k := 5 * c + d) (by omega) (by omega) (by omega) (by omega) (by unfold szR; simp; omega) x
      obtain ⟨k2, a2, b2, f2⟩ := b1.sf (k := 4) (by omega) (.inl (nI (nK B.2.2 + 1)))
      rw [if_pos (soR_r m12), m12.g4, Option.bind_some, ce.gr (j := 3) (by omega) rfl, Option.bind_some, nI_5, a1, Option.bind_some, m12.k4 f1, Option.bind_some, b1.gi (by omega) de.2.1.2.2.1, Option.bind_some, nI_s, a2, Option.bind_some]
      exact ⟨k2, rfl, en _ ⟨mx_up m12 (f1.tr f2) ⟨_, _, _, b2, re_lik de bc bd hb b32 x⟩ hN, (f1.tr f2).m2⟩⟩
end Z5
