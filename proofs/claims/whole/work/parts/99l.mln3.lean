/-! the reference's lines: reason, paid, shop, lane -/
section U5
variable (tx : Nat → Int32) (n : Nat) (N : NmD) (r : RsD)
def qrea1 : RsD × Nat := oKn tx n N 3 r
def qrea2 : RsD × Nat := oKn tx n N 1 (qrea1 tx n N r).1
def qrea4 : RsD × Nat := oWh tx n 1 12 (oKw tx n 18 (qrea2 tx n N r).1)
def qrea6 : RsD × Nat := oWh tx n 0 100 (oKw tx n 19 (qrea4 tx n N r).1)
def qrea8 : RsD × Nat := oWh tx n 1 50 (oKw tx n 20 (qrea6 tx n N r).1)
def qRea : RsD := fin (qrea8 tx n N r).1 fun B => upT B (reaL B.2.2 (qrea1 tx n N r).2 (qrea2 tx n N r).2 (qrea4 tx n N r).2 (qrea6 tx n N r).2 (qrea8 tx n N r).2)
def qpai1 : RsD × Nat := oKn tx n N 3 r
def qpai2 : RsD × Nat := oWh tx n 0 999 (qpai1 tx n N r).1
def qpai4 : RsD × Nat := oBd tx 0 99 (oKw tx n 21 (qpai2 tx n N r).1)
def qpaiC : RsD := chk (qpai4 tx n N r).1 4 fun B => decide (nI (qpai4 tx n N r).2 ≤ lhA B.2.2 (qpai1 tx n N r).2 (nQ B.2.2))
def qPai : RsD := fin (oNext tx n (qpaiC tx n N r)) fun B => upT B (paiL B.2.2 (qpai1 tx n N r).2 (qpai2 tx n N r).2 (qpai4 tx n N r).2)
def qsho3 : RsD × Nat := oWh tx n 0 99 (oKw tx n 22 (oFr tx n N r).1)
def qSho : RsD := fin (qsho3 tx n N r).1 fun B => upT B (sL2 (sL1 B.2.2 7 (nS B.2.2) (nI (qsho3 tx n N r).2)) 0 5 (nS B.2.2 + 1))
def qlan1 : RsD × Nat := oKn tx n N 7 r
def qlan2 : RsD × Nat := oKo tx N 7 (qlan1 tx n N r).1
def qlanC : RsD := chk (qlan2 tx n N r).1 3 fun B => decide ((qlan1 tx n N r).2 = (qlan2 tx n N r).2) || decide (bitN (nea B.2.2 (qlan1 tx n N r).2) (qlan2 tx n N r).2 = 1)
def qLan : RsD := fin (oNext tx n (qlanC tx n N r)) fun B => upT B (lanL B.2.2 (qlan1 tx n N r).2 (qlan2 tx n N r).2)
end U5
section Z6
variable {h h1 : PH} {F0 : Nat → PV} {i n : Nat} {tx : Nat → Int32} {N : NmD} {r r1 : RsD} {A B : AsD}
theorem ml_rea (e : MX h F0 i tx n N (.inr A)) (hA : A.1.1 = 1) (I : LawI A.2.2 N A.2.1) : ∃ h9, cl h 12 (some 285) (f_M_readReason h (some 285)) = some h9 ∧ MX h9 F0 i tx n (oLn tx n N A 5).2 (oLn tx n N A 5).1 ∧ Fm h h9 i := by
  rw [oLn_r (by omega), e.cl]
  unfold f_M_readReason
  obtain ⟨-, -, -, G, g, W, c, d⟩ := e.rl
  have n5 := I.1.2.2.1
  obtain ⟨h1, s1, m1, F1⟩ := mx_lb e hA I (a := nI (nR A.2.2)) (b := 4) (fl := decide (nR A.2.2 = 4)) (eq_n rfl (by omega) (by omega))
  obtain ⟨lI, lB⟩ := LiR.lb (tx := tx) (n := n) (fl := decide (nR A.2.2 = 4)) I
  rw [e.g4, Option.bind_some, c.gi (by omega) d.2.1.2.2.2.1, Option.bind_some, s1, Option.bind_some, show fulB A.2.2 5 = decide (nR A.2.2 = 4) from rfl]
  generalize oLb tx n (decide (nR A.2.2 = 4)) A = r at m1 lI lB ⊢
  have conv : ∀ h9, MX h9 F0 i tx n N (qRea tx n N r) → MX h9 F0 i tx n (lnR tx n N 5 r).2 (lnR tx n N 5 r).1 := by
    intro h9 q
    cases r with
    | inl f => exact q
    | inr A' => exact q
  obtain ⟨h2, s2, m2, F2⟩ := mx_kn m1 (s := 3) (x := 1) (by omega) rfl
  obtain ⟨h3, s3, m3, F3⟩ := mx_kn m2 (s := 1) (x := 0) (by omega) rfl
  obtain ⟨h4, s4, m4, F4⟩ := mx_part m3 (j := 18) (lo := 1) (hi := 12) (x := 1) (y := 12) (by omega) rfl rfl (by omega) (by omega)
  obtain ⟨h5, s5, m5, F5⟩ := mx_part m4 (j := 19) (lo := 0) (hi := 100) (x := 0) (y := 100) (by omega) rfl rfl (by omega) (by omega)
  obtain ⟨h6, s6, m6, F6⟩ := mx_part m5 (j := 20) (lo := 1) (hi := 50) (x := 1) (y := 50) (by omega) rfl rfl (by omega) (by omega)
  have s2 : cl h1 12 (some 285) (f_M_readKnown h1 (some 285) 1) = some (nI (qrea1 tx n N r).2, h2) := s2
  have s3 : cl h2 12 (some 285) (f_M_readKnown h2 (some 285) 0) = some (nI (qrea2 tx n N r).2, h3) := s3
  have s4 : cl h3 12 (some 285) (f_M_readPart h3 (some 285) (some 18) 1 12) = some (nI (qrea4 tx n N r).2, h4) := s4
  have s5 : cl h4 12 (some 285) (f_M_readPart h4 (some 285) (some 19) 0 100) = some (nI (qrea6 tx n N r).2, h5) := s5
  have s6 : cl h5 12 (some 285) (f_M_readPart h5 (some 285) (some 20) 1 50) = some (nI (qrea8 tx n N r).2, h6) := s6
  have m6 : MX h6 F0 i tx n N (qrea8 tx n N r).1 := m6
  have S : Sub tx n r (qrea8 tx n N r).1 := (((sb_kn.tr sb_kn).tr (sb_kw.tr sb_wh)).tr (sb_kw.tr sb_wh)).tr (sb_kw.tr sb_wh)
  rw [s2, Option.bind_some]
  dsimp only
  rw [s3, Option.bind_some]
  dsimp only
  rw [s4, Option.bind_some]
  dsimp only
  rw [s5, Option.bind_some]
  dsimp only
  rw [s6, Option.bind_some]
  dsimp only
  rw [m6.so, Option.bind_some]
  have FF := ((((F1.tr F2).tr F3).tr F4).tr F5).tr F6
  have en : ∀ h9, MX h9 F0 i tx n N (qRea tx n N r) ∧ Fm h6 h9 i → MX h9 F0 i tx n (lnR tx n N 5 r).2 (lnR tx n N 5 r).1 ∧ Fm h h9 i := fun h9 q => ⟨conv h9 q.1, FF.tr q.2⟩
  unfold qRea at en
  generalize (qrea8 tx n N r).1 = re at m6 en S ⊢
  generalize (qrea1 tx n N r).2 = x1 at en ⊢
  generalize (qrea2 tx n N r).2 = x2 at en ⊢
  generalize (qrea4 tx n N r).2 = x3 at en ⊢
  generalize (qrea6 tx n N r).2 = x4 at en ⊢
  generalize (qrea8 tx n N r).2 = x5 at en ⊢
  cases re with
  | inl f => rw [if_neg soR_l]; exact ⟨h6, rfl, en _ ⟨m6, Fm.rf⟩⟩
  | inr B =>
    obtain ⟨A1, y1, y2, -⟩ := S B rfl
    obtain ⟨b1, b2, b3⟩ := lB A1 y1
    have b1 : ¬ nR A.2.2 = 4 := by simpa using b1
    have eB : B.2 = A.2 := y2.symm.trans b3
    have p4 : nR B.2.2 < 4 := by rw [eB]; omega
    obtain ⟨i9, hN, cu, G, g, W, ce, de⟩ := m6.rl
    obtain ⟨k1, a1, q1, f1⟩ := ce.sa (a := i + 1 + 4) (j := 5) (k := nR B.2.2) (by omega) (by omega) (by omega) (by omega) p4 (nI x1)
    obtain ⟨k2, a2, q2, f2⟩ := q1.sa (a := i + 1 + 5) (j := 6) (k := nR B.2.2) (by omega) (by omega) (by omega) (by omega) p4 (nI x2)
    obtain ⟨k3, a3, q3, f3⟩ := q2.sa (a := i + 1 + 6) (j := 7) (k := nR B.2.2) (by omega) (by omega) (by omega) (by omega) p4 (nI x3)
    obtain ⟨k4, a4, q4, f4⟩ := q3.sa (a := i + 1 + 7) (j := 8) (k := nR B.2.2) (by omega) (by omega) (by omega) (by omega) p4 (nI x4)
    obtain ⟨k5, a5, q5, f5⟩ := q4.sa (a := i + 1 + 8) (j := 9) (k := nR B.2.2) (by omega) (by omega) (by omega) (by omega) p4 (nI x5)
    obtain ⟨k6, a6, q6, f6⟩ := q5.sf (k := 5) (by omega) (.inl (nI (nR B.2.2 + 1)))
    have g2 := f1.tr f2
    have g3 := g2.tr f3
    have g4 := g3.tr f4
    have g5 := g4.tr f5
    have g6 := g5.tr f6
    rw [if_pos (soR_r m6), m6.g4, Option.bind_some, ce.gi (by omega) de.2.1.2.2.2.1, Option.bind_some, Option.bind_some, ce.gr (j := 4) (by omega) rfl, Option.bind_some, a1, Option.bind_some, m6.k4 f1, Option.bind_some, q1.gr (j := 5) (by omega) rfl, Option.bind_some, a2, Option.bind_some, m6.k4 g2, Option.bind_some, q2.gr (j := 6) (by omega) rfl, Option.bind_some, a3, Option.bind_some, m6.k4 g3, Option.bind_some, q3.gr (j := 7) (by omega) rfl, Option.bind_some, a4, Option.bind_some, m6.k4 g4, Option.bind_some, q4.gr (j := 8) (by omega) rfl, Option.bind_some, a5, Option.bind_some, m6.k4 g5, Option.bind_some, q5.gi (by omega) de.2.1.2.2.2.1, Option.bind_some, nI_s, a6, Option.bind_some]
    exact ⟨k6, rfl, en _ ⟨mx_up m6 g6 ⟨_, _, _, q6, re_rea de x1 x2 x3 x4 x5⟩ hN, g6.m2⟩⟩
/-- the latest hour of one's receipts -/
theorem ml_latest {G W : Nat → PV} {f : Nat → Nat → Int32} {t : Bool} {L : LawD} (e : MCl h i G f W) (d : RelL G f W t L N) (h5 : nQ L ≤ 5) {p : Nat} (hp : p < 100) (hc : ∀ k, k < nQ L → cpe L k < 100) : cl h 11 (some i) (f_ML_latest h (some i) (nI p)) = some (lhA L p (nQ L)) := by
  have g6 := d.2.1.2.2.2.2.1
  have rq := d.2.2.2.2.2.2.1
  rw [e.cl]
  unfold f_ML_latest
  have key : pj_it (X := Int32) (fun s1 : Int32 × Int32 => (gI h 11 (some i) 6).bind fun v3 => if v3 ≤ s1.2 then (some (.inr s1.1)) else ((gR h 11 (some i) 19).bind fun v4 => (aI h v4 s1.2).bind fun v5 => if ¬ v5 = nI p then (some (.inl (s1.1, (s1.2 + (1 : Int32))))) else ((gR h 11 (some i) 21).bind fun v6 => (aI h v6 s1.2).bind fun v7 => some (.inl (v7, (s1.2 + (1 : Int32))))))) FU ((-1 : Int32), (0 : Int32)) = some (lhA L p (nQ L)) := by
    refine pj_for' (fun k => (lhA L p k, nI k)) _ (nQ L) rfl (by omega) ?_ ?_
    · intro k hk
      obtain ⟨q1, q2, q3⟩ := rq k hk
      dsimp only
      rw [e.gi (by omega) g6, Option.bind_some, if_neg (nI_ge hk (by omega)), e.gr (j := 9) (by omega) rfl, Option.bind_some, e.ai (j := 10) (by omega) (by omega) (by omega) (by omega) (by unfold szR; simp; omega), Option.bind_some, q1, e.gr (j := 11) (by omega) rfl, Option.bind_some, e.ai (j := 12) (by omega) (by omega) (by omega) (by omega) (by unfold szR; simp; omega), Option.bind_some, q3, nI_s]
      show _ = some (Sum.inl (if cpe L k = p then cho L k else lhA L p k, nI (k + 1)))
      by_cases z : cpe L k = p
      · rw [if_neg (fun q => q (by rw [z])), if_pos z]
      · rw [if_pos (fun q => z ((nI_eq (by have := hc k hk; omega) (by omega)).mp q)), if_neg z]
    · dsimp only
      rw [e.gi (by omega) g6, Option.bind_some, if_pos (nI_le (Nat.le_refl _) (by omega))]
  rw [key, Option.bind_some]
theorem ml_pai (e : MX h F0 i tx n N (.inr A)) (hA : A.1.1 = 1) (I : LawI A.2.2 N A.2.1) : ∃ h9, cl h 12 (some 285) (f_M_readPaid h (some 285)) = some h9 ∧ MX h9 F0 i tx n (oLn tx n N A 6).2 (oLn tx n N A 6).1 ∧ Fm h h9 i := by
  rw [oLn_r (by omega), e.cl]
  unfold f_M_readPaid
  obtain ⟨-, -, -, G, g, W, c, d⟩ := e.rl
  have n5 := I.1.2.2.2.1
  obtain ⟨h1, s1, m1, F1⟩ := mx_lb e hA I (a := nI (nQ A.2.2)) (b := 5) (fl := decide (nQ A.2.2 = 5)) (eq_n rfl (by omega) (by omega))
  obtain ⟨lI, lB⟩ := LiR.lb (tx := tx) (n := n) (fl := decide (nQ A.2.2 = 5)) I
  rw [e.g4, Option.bind_some, c.gi (by omega) d.2.1.2.2.2.2.1, Option.bind_some, s1, Option.bind_some, show fulB A.2.2 6 = decide (nQ A.2.2 = 5) from rfl]
  generalize oLb tx n (decide (nQ A.2.2 = 5)) A = r at m1 lI lB ⊢
  have conv : ∀ h9, MX h9 F0 i tx n N (qPai tx n N r) → MX h9 F0 i tx n (lnR tx n N 6 r).2 (lnR tx n N 6 r).1 := by
    intro h9 q
    cases r with
    | inl f => exact q
    | inr A' => exact q
  obtain ⟨h2, s2, m2, F2⟩ := mx_kn m1 (s := 3) (x := 1) (by omega) rfl
  obtain ⟨h3, s3, m3, F3⟩ := mx_wh m2 (lo := 0) (hi := 999) (x := 0) (y := 999) rfl rfl (by omega) (by omega)
  obtain ⟨h4, s4, m4, F4⟩ := mx_needs m3 (j := 21) (by omega)
  obtain ⟨h5, s5, m5, F5⟩ := mx_bd m4 (lo := 0) (hi := 99) (x := 0) (y := 99) rfl rfl (by omega) (by omega)
  have s2 : cl h1 12 (some 285) (f_M_readKnown h1 (some 285) 1) = some (nI (qpai1 tx n N r).2, h2) := s2
  have s3 : cl h2 12 (some 285) (f_M_readWhole h2 (some 285) 0 999) = some (nI (qpai2 tx n N r).2, h3) := s3
  have s5 : cl h4 12 (some 285) (f_M_bounded h4 (some 285) 0 99) = some (nI (qpai4 tx n N r).2, h5) := s5
  have m5 : MX h5 F0 i tx n N (qpai4 tx n N r).1 := m5
  have bp : (qpai1 tx n N r).2 < 5 := (ko_5 (tx := tx) lI 3).2.1 rfl
  have S : Sub tx n r (qpai4 tx n N r).1 := (sb_kn.tr sb_wh).tr (sb_kw.tr sb_bd)
  have l5 : LiR N (qpai4 tx n N r).1 := lI.sb S
  have k1 : ∀ B, (qpai4 tx n N r).1 = .inr B → B.1.1 = 2 := fun B q => bd_2 q
  rw [s2, Option.bind_some]
  dsimp only
  rw [s3, Option.bind_some]
  dsimp only
  rw [s4, Option.bind_some, s5, Option.bind_some]
  dsimp only
  rw [m5.so, Option.bind_some]
  refine exB (f := fun h9 => h9) (fun x => MX x F0 i tx n N (qpaiC tx n N r) ∧ Fm h5 x i) ?_ ?_
  · unfold qpaiC
    generalize (qpai4 tx n N r).1 = re at m5 l5
    generalize (qpai1 tx n N r).2 = p at bp
    generalize (qpai4 tx n N r).2 = ho
    cases re with
    | inl f => rw [if_pos (show soR (.inl f) = 5 from rfl)]; exact ⟨h5, rfl, m5, Fm.rf⟩
    | inr B =>
      obtain ⟨i9, hN, cu, G, g, W, ce, de⟩ := m5.rl
      obtain ⟨h6, x1, x2, x3⟩ := mx_flaw m5 4
      have IB := l5 B rfl
      rw [if_neg (soR_r m5), m5.g4, Option.bind_some, ml_latest ce de IB.1.2.2.2.1 (by omega) (fun k hk => by have := IB.2.1.2.2 k hk; have := IB.1.2.1; omega), Option.bind_some]
      unfold chk
      dsimp only
      by_cases z : nI ho ≤ lhA B.2.2 p (nQ B.2.2)
      · rw [if_neg (Int32.not_lt.mpr z), show (4 : Int32) = nI 4 from rfl, x1, Option.bind_some, if_pos (decide_eq_true z)]
        exact ⟨h6, rfl, x2, x3⟩
      · rw [if_pos (Int32.not_le.mp z), if_neg (fun q => z (of_decide_eq_true q))]
        exact ⟨h5, rfl, m5, Fm.rf⟩
  · rintro j5 ⟨m6, F6⟩
    have k5 : ∀ B, qpaiC tx n N r = .inr B → ¬ B.1.1 = 4 := fun B q => by have := k1 B (chk_i q).1; omega
    obtain ⟨h13, s13, m13, F13⟩ := mx_next m6 k5
    rw [s13, Option.bind_some, m13.so, Option.bind_some]
    have S2 : Sub tx n r (oNext tx n (qpaiC tx n N r)) := (S.tr sb_ck).tr sb_nx
    have FF := (((((F1.tr F2).tr F3).tr F4).tr F5).tr F6).tr F13
    have en : ∀ h9, MX h9 F0 i tx n N (qPai tx n N r) ∧ Fm h13 h9 i → MX h9 F0 i tx n (lnR tx n N 6 r).2 (lnR tx n N 6 r).1 ∧ Fm h h9 i := fun h9 q => ⟨conv h9 q.1, FF.tr q.2⟩
    unfold qPai at en
    generalize oNext tx n (qpaiC tx n N r) = re at m13 en S2 ⊢
    generalize (qpai1 tx n N r).2 = x1 at en ⊢
    generalize (qpai2 tx n N r).2 = x2 at en ⊢
    generalize (qpai4 tx n N r).2 = x3 at en ⊢
    cases re with
    | inl f => rw [if_neg soR_l]; exact ⟨h13, rfl, en _ ⟨m13, Fm.rf⟩⟩
    | inr B =>
      obtain ⟨A1, y1, y2, -⟩ := S2 B rfl
      obtain ⟨b1, b2, b3⟩ := lB A1 y1
      have b1 : ¬ nQ A.2.2 = 5 := by simpa using b1
      have eB : B.2 = A.2 := y2.symm.trans b3
      have p4 : nQ B.2.2 < 5 := by rw [eB]; omega
      obtain ⟨i9, hN, cu, G, g, W, ce, de⟩ := m13.rl
      obtain ⟨k1, a1, q1, f1⟩ := ce.sa (a := i + 1 + 9) (j := 10) (k := nQ B.2.2) (by omega) (by omega) (by omega) (by omega) p4 (nI x1)
      obtain ⟨k2, a2, q2, f2⟩ := q1.sa (a := i + 1 + 10) (j := 11) (k := nQ B.2.2) (by omega) (by omega) (by omega) (by omega) p4 (nI x2)
      obtain ⟨k3, a3, q3, f3⟩ := q2.sa (a := i + 1 + 11) (j := 12) (k := nQ B.2.2) (by omega) (by omega) (by omega) (by omega) p4 (nI x3)
      obtain ⟨k6, a6, q6, f6⟩ := q3.sf (k := 6) (by omega) (.inl (nI (nQ B.2.2 + 1)))
      have g2 := f1.tr f2
      have g3 := g2.tr f3
      have g6 := g3.tr f6
      have n6 := de.2.1.2.2.2.2.1
      rw [if_pos (soR_r m13), m13.g4, Option.bind_some, ce.gr (j := 9) (by omega) rfl, Option.bind_some, Option.bind_some, ce.gi (by omega) n6, Option.bind_some, a1, Option.bind_some, m13.k4 f1, Option.bind_some, q1.gr (j := 10) (by omega) rfl, Option.bind_some, Option.bind_some, q1.gi (by omega) n6, Option.bind_some, a2, Option.bind_some, m13.k4 g2, Option.bind_some, q2.gr (j := 11) (by omega) rfl, Option.bind_some, Option.bind_some, q2.gi (by omega) n6, Option.bind_some, a3, Option.bind_some, m13.k4 g3, Option.bind_some, q3.gi (by omega) n6, Option.bind_some, nI_s, a6, Option.bind_some]
      exact ⟨k6, rfl, en _ ⟨mx_up m13 g6 ⟨_, _, _, q6, re_pai de x1 x2 x3⟩ hN, g6.m2⟩⟩
theorem ml_sho (e : MX h F0 i tx n N (.inr A)) (hA : A.1.1 = 1) (I : LawI A.2.2 N A.2.1) : ∃ h9, cl h 12 (some 285) (f_M_readShop h (some 285)) = some h9 ∧ MX h9 F0 i tx n (oLn tx n N A 7).2 (oLn tx n N A 7).1 ∧ Fm h h9 i := by
  rw [oLn_r (by omega), e.cl]
  unfold f_M_readShop
  obtain ⟨-, -, -, G, g, W, c, d⟩ := e.rl
  have n5 := I.1.2.2.2.2.1
  obtain ⟨h3, s3, m3, F3⟩ := mx_lb e hA I (a := nI (nS A.2.2)) (b := 6) (fl := decide (nS A.2.2 = 6)) (eq_n rfl (by omega) (by omega))
  obtain ⟨lI, lB⟩ := LiR.lb (tx := tx) (n := n) (fl := decide (nS A.2.2 = 6)) I
  rw [e.g4, Option.bind_some, c.gi (by omega) d.2.1.2.2.2.2.2.1, Option.bind_some, s3, Option.bind_some]
  rw [show fulB A.2.2 7 = decide (nS A.2.2 = 6) from rfl]
  generalize oLb tx n (decide (nS A.2.2 = 6)) A = r at m3 lI lB ⊢
  obtain ⟨h4, y, s4, m4, F4, w4⟩ := mx_fresh m3
  obtain ⟨h5, s5, m5, F5⟩ := mx_part m4 (j := 22) (lo := 0) (hi := 99) (x := 0) (y := 99) (by omega) rfl rfl (by omega) (by omega)
  have s5 : cl h4 12 (some 285) (f_M_readPart h4 (some 285) (some 22) 0 99) = some (nI (qsho3 tx n N r).2, h5) := s5
  have m5 : MX h5 F0 i tx n N (qsho3 tx n N r).1 := m5
  rw [s4, Option.bind_some]
  dsimp only
  rw [s5, Option.bind_some]
  dsimp only
  rw [m5.so, Option.bind_some]
  have FF := (F3.tr F4).tr F5
  have S2 : Sub tx n (oFr tx n N r).1 (qsho3 tx n N r).1 := sb_kw.tr sb_wh
  have S1 : Sub tx n r (oFr tx n N r).1 := sb_fr
  have en : ∀ h9, MX h9 F0 i tx n (adR (qSho tx n N r) N (adN N (oFr tx n N r).2 7 (nS A.2.2))) (qSho tx n N r) ∧ Fm h5 h9 i → MX h9 F0 i tx n (lnR tx n N 7 r).2 (lnR tx n N 7 r).1 ∧ Fm h h9 i := by
    intro h9 q
    refine ⟨?_, FF.tr q.2⟩
    cases r with
    | inl f => exact q.1
    | inr A' =>
      have := (lB A' rfl).2.2
      rw [← this] at q
      exact q.1
  unfold qSho at en
  cases hre : (qsho3 tx n N r).1 with
  | inl f =>
    rw [hre] at m5 en
    rw [if_neg soR_l]
    exact ⟨h5, rfl, en _ ⟨m5, Fm.rf⟩⟩
  | inr B =>
    rw [hre] at m5 en
    obtain ⟨A2, q2, q2b, -⟩ := S2 B hre
    obtain ⟨A1, q1, q1b, -⟩ := S1 A2 q2
    obtain ⟨rfl, wl⟩ := w4 A2 q2
    obtain ⟨b1, b2, b3⟩ := lB A1 q1
    have b1 : ¬ nS A.2.2 = 6 := by simpa using b1
    have eB : B.2 = A.2 := q2b.symm.trans (q1b.symm.trans b3)
    have I2 : LawI B.2.2 N B.2.1 := by rw [eB]; exact I
    have cB : nS A.2.2 = nS B.2.2 := by rw [eB]
    have p5 : nS B.2.2 < 6 := by rw [eB]; omega
    have hN : N.1 < 16 := by have := I2.1; omega
    rw [cB] at en
    have en : ∀ h9, MX h9 F0 i tx n (adN N (oFr tx n N r).2 7 (nS B.2.2)) (.inr (upT B (sL2 (sL1 B.2.2 7 (nS B.2.2) (nI (qsho3 tx n N r).2)) 0 5 (nS B.2.2 + 1)))) ∧ Fm h5 h9 i → MX h9 F0 i tx n (lnR tx n N 7 r).2 (lnR tx n N 7 r).1 ∧ Fm h h9 i := en
    generalize (oFr tx n N r).2 = w at wl en ⊢
    generalize (qsho3 tx n N r).2 = so at en ⊢
    obtain ⟨i9, -, cu, G, g, W, ce, de⟩ := m5.rl
    obtain ⟨k1, a1, q1, f1⟩ := mx_names (N := N) m5.k4 ce de hN (lN w) 2 (nI (nS B.2.2))
    have d1 := re_nm de (w := w) (s := 7) (k := nS B.2.2) wl (Or.inr (Or.inr rfl))
    have q1 : MCl k1 i (upF G 9 (.inl (nI (N.1 + 1)))) (upR (upR g 16 N.1 (nI (snN 7))) 17 N.1 (nI (nS B.2.2))) (upF W N.1 (.inr (.inl (lN w)))) := q1
    obtain ⟨k2, a2, q2, f2⟩ := q1.sa (a := i + 1 + 12) (j := 13) (k := nS B.2.2) (by omega) (by omega) (by omega) (by omega) p5 (nI so)
    obtain ⟨k3, a3, q3, f3⟩ := q2.sa (a := i + 1 + 13) (j := 14) (k := nS B.2.2) (by omega) (by omega) (by omega) (by omega) p5 ((1 : Int32) <<< (nI (nS B.2.2) &&& 31))
    obtain ⟨k4, a4, q4, f4⟩ := q3.sf (k := 7) (by omega) (.inl (nI (nS B.2.2 + 1)))
    have g12 := f1.tr f2
    have g123 := g12.tr f3
    have G4 := g123.tr f4
    have n7 := d1.2.1.2.2.2.2.2.1
    rw [if_pos (soR_r m5), m5.g4, Option.bind_some, ce.gi (by omega) de.2.1.2.2.2.2.2.1, Option.bind_some, m5.cl, a1, Option.bind_some, m5.k4 f1, Option.bind_some, q1.gr (j := 12) (by omega) rfl, Option.bind_some, Option.bind_some, q1.gi (by omega) n7, Option.bind_some, a2, Option.bind_some, m5.k4 g12, Option.bind_some, q2.gr (j := 13) (by omega) rfl, Option.bind_some, Option.bind_some, q2.gi (by omega) n7, Option.bind_some, Option.bind_some, q2.gi (by omega) n7, Option.bind_some, a3, Option.bind_some, m5.k4 g123, Option.bind_some, q3.gi (by omega) n7, Option.bind_some, nI_s, a4, Option.bind_some]
    exact ⟨k4, rfl, en _ ⟨mx_up m5 G4 ⟨_, _, _, q4, re_sho d1 (I2.2.2.2.2.2.2.2 _ (Nat.le_refl _) p5) so⟩ (by show N.1 + 1 ≤ 16; omega), G4.m2⟩⟩
theorem ln_bt : ∀ b, b < 64 → ∀ s, s < 6 → ∀ u, u < 6 → (((nI b ||| ((1 : Int32) <<< (nI s &&& 31))) >>> (nI u &&& 31)) &&& (1 : Int32) = 1 ↔ (s = u ∨ bitN (nI b) u = 1)) := by decide +kernel
theorem ml_lan (e : MX h F0 i tx n N (.inr A)) (hA : A.1.1 = 1) (I : LawI A.2.2 N A.2.1) : ∃ h9, cl h 12 (some 285) (f_M_readLane h (some 285)) = some h9 ∧ MX h9 F0 i tx n (oLn tx n N A 8).2 (oLn tx n N A 8).1 ∧ Fm h h9 i := by
  rw [oLn_r (by omega), e.cl]
  unfold f_M_readLane
  obtain ⟨-, -, -, G, g, W, c, d⟩ := e.rl
  have n5 := I.1.2.2.2.2.2.2.1
  obtain ⟨h1, s1, m1, F1⟩ := mx_lb e hA I (a := nI (nL A.2.2)) (b := 8) (fl := decide (nL A.2.2 = 8)) (eq_n rfl (by omega) (by omega))
  obtain ⟨lI, lB⟩ := LiR.lb (tx := tx) (n := n) (fl := decide (nL A.2.2 = 8)) I
  rw [e.g4, Option.bind_some, c.gi (by omega) d.2.1.2.2.2.2.2.2.1, Option.bind_some, s1, Option.bind_some, show fulB A.2.2 8 = decide (nL A.2.2 = 8) from rfl]
  generalize oLb tx n (decide (nL A.2.2 = 8)) A = r at m1 lI lB ⊢
  have conv : ∀ h9, MX h9 F0 i tx n N (qLan tx n N r) → MX h9 F0 i tx n (lnR tx n N 8 r).2 (lnR tx n N 8 r).1 := by
    intro h9 q
    cases r with
    | inl f => exact q
    | inr A' => exact q
  obtain ⟨h2, s2, m2, F2⟩ := mx_kn m1 (s := 7) (x := 2) (by omega) rfl
  obtain ⟨h3, s3, m3, F3⟩ := mx_ko m2 (s := 7) (x := 2) (by omega) rfl
  have s2 : cl h1 12 (some 285) (f_M_readKnown h1 (some 285) 2) = some (nI (qlan1 tx n N r).2, h2) := s2
  have s3 : cl h2 12 (some 285) (f_M_knownOne h2 (some 285) 2) = some (nI (qlan2 tx n N r).2, h3) := s3
  have m3 : MX h3 F0 i tx n N (qlan2 tx n N r).1 := m3
  have S1 : Sub tx n r (qlan1 tx n N r).1 := sb_kn
  have S2 : Sub tx n (qlan1 tx n N r).1 (qlan2 tx n N r).1 := sb_ko
  have l3 : LiR N (qlan2 tx n N r).1 := (lI.sb S1).sb S2
  have bb : ∀ B, (qlan2 tx n N r).1 = .inr B → B.1.1 = 1 ∧ (qlan1 tx n N r).2 < nS B.2.2 ∧ (qlan2 tx n N r).2 < nS B.2.2 := by
    intro B q
    have IB := l3 B q
    have v2 := ko_g (tx := tx) (N := N) (s := 7) q
    obtain ⟨A2, z1, z2, -⟩ := S2 B q
    have v1 := kn_g (tx := tx) (n := n) (N := N) (s := 7) z1
    exact ⟨ko_1 q, (nm_g IB v1).2.2 rfl, (nm_g IB v2).2.2 rfl⟩
  rw [s2, Option.bind_some]
  dsimp only
  rw [s3, Option.bind_some]
  dsimp only
  rw [m3.so, Option.bind_some]
  refine exB (f := fun h9 => h9) (fun x => MX x F0 i tx n N (qlanC tx n N r) ∧ Fm h3 x i) ?_ ?_
  · unfold qlanC
    generalize (qlan2 tx n N r).1 = re at m3 l3 bb
    generalize (qlan1 tx n N r).2 = c at bb
    generalize (qlan2 tx n N r).2 = d at bb
    cases re with
    | inl f => rw [if_pos (show soR (.inl f) = 5 from rfl)]; exact ⟨h3, rfl, m3, Fm.rf⟩
    | inr B =>
      obtain ⟨i9, hN, cu, G, g, W, ce, de⟩ := m3.rl
      obtain ⟨h6, x1, x2, x3⟩ := mx_flaw m3 3
      obtain ⟨-, bc, bd⟩ := bb B rfl
      have IB := l3 B rfl
      have s6 := IB.1.2.2.2.2.1
      obtain ⟨-, b, bl, hb⟩ := IB.2.2.2.1.2.2.2.2.1 c bc
      have b64 : b < 64 := Nat.lt_of_lt_of_le bl (Nat.pow_le_pow_right (n := 2) (by omega) s6)
      rw [if_neg (soR_r m3), m3.g4, Option.bind_some, ce.gr (j := 13) (by omega) rfl, Option.bind_some, ce.ai (j := 14) (k := c) (by omega) (by omega) (by omega) (by omega) (by unfold szR; simp; omega), Option.bind_some, (de.2.2.2.2.2.2.2.1 c bc).2]
      unfold f_M_bit chk
      dsimp only
      have key := ln_bt b b64 c (by omega) d (by omega)
      rw [← hb] at key
      by_cases z : c = d ∨ bitN (nea B.2.2 c) d = 1
      · rw [if_neg (fun q => q (key.mpr z)), Option.bind_some, if_neg (by decide), show (3 : Int32) = nI 3 from rfl, x1, Option.bind_some, if_pos (show (decide (c = d) || decide (bitN (nea B.2.2 c) d = 1)) = true by simpa using z)]
        exact ⟨h6, rfl, x2, x3⟩
      · rw [if_pos (fun q => z (key.mp q)), Option.bind_some, if_pos rfl, if_neg (show ¬ (decide (c = d) || decide (bitN (nea B.2.2 c) d = 1)) = true by simpa using z)]
        exact ⟨h3, rfl, m3, Fm.rf⟩
  · rintro j5 ⟨m5, F5⟩
    have k5 : ∀ B, qlanC tx n N r = .inr B → ¬ B.1.1 = 4 := fun B q => by have := (bb B (chk_i q).1).1; omega
    obtain ⟨h13, s13, m13, F13⟩ := mx_next m5 k5
    rw [s13, Option.bind_some, m13.so, Option.bind_some]
    have FF := (((F1.tr F2).tr F3).tr F5).tr F13
    have en : ∀ h9, MX h9 F0 i tx n N (qLan tx n N r) ∧ Fm h13 h9 i → MX h9 F0 i tx n (lnR tx n N 8 r).2 (lnR tx n N 8 r).1 ∧ Fm h h9 i := fun h9 q => ⟨conv h9 q.1, FF.tr q.2⟩
    have bz : ∀ B, oNext tx n (qlanC tx n N r) = .inr B → (qlan1 tx n N r).2 < nS B.2.2 ∧ (qlan2 tx n N r).2 < nS B.2.2 ∧ ¬ (qlan1 tx n N r).2 = (qlan2 tx n N r).2 ∧ nS B.2.2 ≤ 6 := by
      intro B q
      obtain ⟨A2, z1, z2, -⟩ := sb_nx B q
      obtain ⟨y1, y2⟩ := chk_i z1
      obtain ⟨-, w1, w2⟩ := bb A2 y1
      have := (l3 A2 y1).1.2.2.2.2.1
      rw [← z2]
      refine ⟨w1, w2, fun w => y2 ?_, this⟩
      simp [w]
    unfold qLan at en
    generalize oNext tx n (qlanC tx n N r) = re at m13 en bz ⊢
    generalize (qlan1 tx n N r).2 = c at en bz ⊢
    generalize (qlan2 tx n N r).2 = d at en bz ⊢
    cases re with
    | inl f => rw [if_neg soR_l]; exact ⟨h13, rfl, en _ ⟨m13, Fm.rf⟩⟩
    | inr B =>
      obtain ⟨bc, bd, cd, s6⟩ := bz B rfl
      obtain ⟨i9, hN, cu, G, g, W, ce, de⟩ := m13.rl
      obtain ⟨k1, a1, q1, f1⟩ := ce.sa (a := i + 1 + 13) (j := 14) (k := c) (by omega) (by omega) (by omega) (by omega) (by unfold szR; simp; omega) (g 14 c ||| ((1 : Int32) <<< (nI d &&& 31)))
      obtain ⟨k2, a2, q2, f2⟩ := q1.sa (a := i + 1 + 13) (j := 14) (k := d) (by omega) (by omega) (by omega) (by omega) (by unfold szR; simp; omega) (g 14 d ||| ((1 : Int32) <<< (nI c &&& 31)))
      obtain ⟨k3, a3, q3, f3⟩ := q2.sf (k := 8) (by omega) (.inl (nI (nL B.2.2 + 1)))
      have g2 := f1.tr f2
      have g3 := g2.tr f3
      rw [if_pos (soR_r m13), m13.g4, Option.bind_some, ce.gr (j := 13) (by omega) rfl, Option.bind_some, ce.ai (j := 14) (k := c) (by omega) (by omega) (by omega) (by omega) (by unfold szR; simp; omega), Option.bind_some, a1, Option.bind_some, m13.k4 f1, Option.bind_some, q1.gr (j := 13) (by omega) rfl, Option.bind_some, q1.ai (j := 14) (k := d) (by omega) (by omega) (by omega) (by omega) (by unfold szR; simp; omega), Option.bind_some, show upR g 14 c (g 14 c ||| ((1 : Int32) <<< (nI d &&& 31))) 14 d = g 14 d from if_neg (fun q => cd q.2.symm), a2, Option.bind_some, m13.k4 g2, Option.bind_some, q2.gi (by omega) de.2.1.2.2.2.2.2.2.1, Option.bind_some, nI_s, a3, Option.bind_some]
      exact ⟨k3, rfl, en _ ⟨mx_up m13 g3 ⟨_, _, _, q3, re_lan de bc bd cd⟩ hN, g3.m2⟩⟩
end Z6
