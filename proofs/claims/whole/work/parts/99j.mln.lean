/-! the reference's lines -/
def oLb (tx : Nat → Int32) (n : Nat) (fl : Bool) (A : AsD) : RsD := if fl = true then .inl (5, A.1.2.1) else if A.2.1 = false then .inl (6, A.1.2.1) else .inr (nxT tx n A.1.2.2, A.2)
def oLn (tx : Nat → Int32) (n : Nat) (N : NmD) (A : AsD) (i : Nat) : RsD × NmD := if i = 0 ∧ A.2.1 = true then (.inl (3, A.1.2.1), N) else if fulB A.2.2 i = true then (.inl (5, A.1.2.1), N) else if ¬ i = 0 ∧ A.2.1 = false then (.inl (6, A.1.2.1), N) else oBy tx n N (nxT tx n A.1.2.2, A.2) i
def lnR (tx : Nat → Int32) (n : Nat) (N : NmD) (i : Nat) (r : RsD) : RsD × NmD := match r with
  | .inl f => (.inl f, N)
  | .inr A => oBy tx n N A i
def LiR (N : NmD) (r : RsD) : Prop := ∀ B, r = .inr B → LawI B.2.2 N B.2.1
section Z4
variable {h h1 : PH} {F0 : Nat → PV} {i n : Nat} {tx : Nat → Int32} {N : NmD} {r r1 : RsD} {A B : AsD}
theorem oLn_r {k : Nat} (hk : ¬ k = 0) : oLn tx n N A k = lnR tx n N k (oLb tx n (fulB A.2.2 k) A) := by
  unfold oLn oLb
  rw [if_neg (fun q => hk q.1)]
  by_cases z : fulB A.2.2 k = true
  · rw [if_pos z, if_pos z]; rfl
  · rw [if_neg z, if_neg z]
    by_cases y : A.2.1 = false
    · rw [if_pos ⟨hk, y⟩, if_pos y]; rfl
    · rw [if_neg (fun q => y q.2), if_neg y]; rfl
theorem LiR.sb (a : LiR N r) (s : Sub tx n r r1) : LiR N r1 := by
  intro B q
  obtain ⟨A, x1, x2, -⟩ := s B q
  have := a A x1
  rw [x2] at this
  exact this
theorem LiR.lb (I : LawI A.2.2 N A.2.1) {fl : Bool} : LiR N (oLb tx n fl A) ∧ ∀ B, oLb tx n fl A = .inr B → fl = false ∧ A.2.1 = true ∧ B.2 = A.2 := by
  have k : ∀ B, oLb tx n fl A = .inr B → fl = false ∧ A.2.1 = true ∧ B.2 = A.2 := by
    intro B q
    unfold oLb at q
    by_cases z : fl = true
    · rw [if_pos z] at q; cases q
    · rw [if_neg z] at q
      by_cases y : A.2.1 = false
      · rw [if_pos y] at q; cases q
      · rw [if_neg y] at q
        cases q
        exact ⟨by simpa using z, by simpa using y, rfl⟩
  refine ⟨fun B q => ?_, k⟩
  rw [(k B q).2.2]
  exact I
theorem ko_5 (a : LiR N r) (s : Nat) : (s = 1 → (oKo tx N s r).2 < 5) ∧ (s = 3 → (oKo tx N s r).2 < 5) ∧ (s = 7 → (oKo tx N s r).2 < 6) := by
  cases r with
  | inl f => exact ⟨fun _ => Nat.zero_lt_succ _, fun _ => Nat.zero_lt_succ _, fun _ => Nat.zero_lt_succ _⟩
  | inr A => exact nw_b (a A rfl) (ko_v (tx := tx) (N := N) (s := s) (r := .inr A))
theorem MX.rl (e : MX h F0 i tx n N (.inr B)) : 296 ≤ i ∧ N.1 ≤ 16 ∧ CuOk tx n B.1 ∧ ∃ G f W, MCl h i G f W ∧ RelL G f W B.2.1 B.2.2 N := by
  obtain ⟨i9, v, w, a, ⟨c, hN⟩, -, b, d⟩ := e
  exact ⟨i9, hN, c, d⟩
theorem mx_up (e : MX h F0 i tx n N (.inr B)) (f : Fr h h1 i (i + 18)) {t : Bool} {L : LawD} {N1 : NmD} (m : MRl h1 i t L N1) (hN : N1.1 ≤ 16) : MX h1 F0 i tx n N1 (.inr (B.1, t, L)) := by
  obtain ⟨i9, v, w, a, ⟨c, -⟩, b, d, -⟩ := e
  exact ⟨i9, v, w, a.fr f (by omega), ⟨c, hN⟩, b, d, m⟩
theorem MX.k4 (e : MX h F0 i tx n N r) {x : PH} (f : Fr h x i (i + 18)) : gR x 12 (some 285) 4 = some (some i) := (gR_c (f.2 285 (by have := e.1; omega))).trans e.g4
theorem MX.rt (e : MX h F0 i tx n N r) : ∃ x, gI h 11 (some i) 0 = some x := by
  cases r with
  | inl f =>
    obtain ⟨-, v, w, a, b, t, L, N1, hN, G, g, W, c, d⟩ := e
    exact ⟨_, c.gi (by omega) d.1.1⟩
  | inr A =>
    obtain ⟨-, -, -, G, g, W, c, d⟩ := e.rl
    exact ⟨_, c.gi (by omega) d.1.1⟩
theorem rt_ne (I : LawI A.2.2 N A.2.1) (ht : A.2.1 = true) : ¬ root A.2.2 = -1 := by
  obtain ⟨k, k1, k2⟩ := I.2.2.2.1.1 ht
  rw [k2]
  intro q
  have := nI_pos (n := k) (by omega)
  rw [q] at this
  exact this (by decide)
theorem mx_lb (e : MX h F0 i tx n N (.inr A)) (hA : A.1.1 = 1) (I : LawI A.2.2 N A.2.1) {a b : Int32} {fl : Bool} (hf : a = b ↔ fl = true) : ∃ h1, cl h 12 (some 285) (f_M_lineBegins h (some 285) a b) = some h1 ∧ MX h1 F0 i tx n N (oLb tx n fl A) ∧ Fm h h1 i := by
  rw [e.cl]
  unfold f_M_lineBegins oLb
  cases fl with
  | true =>
    obtain ⟨h2, x1, x2, x3⟩ := mx_flaw e 5
    have x2 : MX h2 F0 i tx n N (.inl (5, A.1.2.1)) := x2
    obtain ⟨y, y1⟩ := x2.rt
    rw [if_neg (fun q => q (hf.mpr rfl)), show (5 : Int32) = nI 5 from rfl, x1, Option.bind_some, Option.bind_some, x2.g4, Option.bind_some, y1, Option.bind_some, if_pos rfl]
    by_cases z : y = -1
    · obtain ⟨h3, z1, z2, z3⟩ := mx_flaw x2 6
      have z2 : MX h3 F0 i tx n N (.inl (5, A.1.2.1)) := z2
      rw [if_neg (fun q => q z), show (6 : Int32) = nI 6 from rfl, z1, Option.bind_some, Option.bind_some, mx_over z2, Option.bind_some]
      exact ⟨h3, rfl, z2, x3.tr z3⟩
    · rw [if_pos z, Option.bind_some, mx_over x2, Option.bind_some]
      exact ⟨h2, rfl, x2, x3⟩
  | false =>
    obtain ⟨-, -, -, G, g, W, c, d⟩ := e.rl
    rw [if_pos (fun q => by cases hf.mp q), Option.bind_some, e.g4, Option.bind_some, c.gi (by omega) d.1.1, Option.bind_some, if_neg (show ¬ false = true by decide)]
    cases ht : A.2.1 with
    | false =>
      obtain ⟨h3, z1, z2, z3⟩ := mx_flaw e 6
      have z2 : MX h3 F0 i tx n N (.inl (6, A.1.2.1)) := z2
      rw [if_neg (fun q => q rfl), show (6 : Int32) = nI 6 from rfl, z1, Option.bind_some, Option.bind_some, mx_over z2, Option.bind_some, if_pos rfl]
      exact ⟨h3, rfl, z2, z3⟩
    | true =>
      obtain ⟨h3, z1, z2, z3⟩ := mx_next e (fun B q => by cases q; omega)
      rw [if_pos (show ¬ (if true = true then root A.2.2 else -1) = -1 by rw [if_pos rfl]; exact rt_ne I ht), Option.bind_some, z1, Option.bind_some, if_neg (show ¬ true = false by decide)]
      exact ⟨h3, rfl, z2, z3⟩
/-- behind the last word of a line: over, or the law is changed -/
theorem soR_l {f : Nat × Nat} : ¬ ¬ soR (.inl f) = 5 := fun q => q rfl
theorem soR_r (e : MX h F0 i tx n N (.inr B)) : ¬ soR (.inr B) = 5 := mk_5 e.rl.2.2.1
theorem ml_tax (e : MX h F0 i tx n N (.inr A)) (hA : A.1.1 = 1) (I : LawI A.2.2 N A.2.1) : ∃ h9, cl h 12 (some 285) (f_M_readTax h (some 285)) = some h9 ∧ MX h9 F0 i tx n (oLn tx n N A 0).2 (oLn tx n N A 0).1 ∧ Fm h h9 i := by
  have hr : oLn tx n N A 0 = lnR tx n N 0 (if A.2.1 = true then .inl (3, A.1.2.1) else .inr (nxT tx n A.1.2.2, A.2)) := by
    unfold oLn
    by_cases y : A.2.1 = true
    · rw [if_pos ⟨rfl, y⟩, if_pos y]; rfl
    · rw [if_neg (fun q => y q.2), if_neg y, if_neg (show ¬ fulB A.2.2 0 = true from fun q => by cases q), if_neg (fun q => q.1 rfl)]; rfl
  rw [hr, e.cl]
  unfold f_M_readTax
  obtain ⟨-, -, -, G, g, W, c, d⟩ := e.rl
  have pre : ∃ j3 h5, (if (if A.2.1 = true then root A.2.2 else -1) = (-1 : Int32) then (some h) else ((cl h 12 (some 285) (f_M_flaw h (some 285) (3 : Int32))).bind fun h4 => some h4) : Option (PH)) = some j3 ∧ cl j3 12 (some 285) (f_M_goesOn j3 (some 285)) = some h5 ∧ MX h5 F0 i tx n N (if A.2.1 = true then .inl (3, A.1.2.1) else .inr (nxT tx n A.1.2.2, A.2)) ∧ Fm h h5 i := by
    by_cases y : A.2.1 = true
    · obtain ⟨h3, z1, z2, z3⟩ := mx_flaw e 3
      have z2 : MX h3 F0 i tx n N (.inl (3, A.1.2.1)) := z2
      rw [if_pos y, if_neg (rt_ne I y), show (3 : Int32) = nI 3 from rfl, z1, Option.bind_some, if_pos y]
      exact ⟨h3, h3, rfl, mx_over z2, z2, z3⟩
    · obtain ⟨h3, z1, z2, z3⟩ := mx_next e (fun B q => by cases q; omega)
      rw [if_neg y, if_pos rfl, if_neg y]
      exact ⟨h, h3, rfl, z1, z2, z3⟩
  obtain ⟨j3, h5, p1, p2, p3, p4⟩ := pre
  rw [e.g4, Option.bind_some, c.gi (by omega) d.1.1, Option.bind_some, p1, Option.bind_some, p2, Option.bind_some]
  generalize (if A.2.1 = true then .inl (3, A.1.2.1) else .inr (nxT tx n A.1.2.2, A.2) : RsD) = r at p3 ⊢
  obtain ⟨h6, s6, m6, F6⟩ := mx_part p3 (j := 9) (lo := 0) (hi := 9) (by omega) rfl rfl (by omega) (by omega)
  obtain ⟨h7, s7, m7, F7⟩ := mx_part m6 (j := 10) (lo := 1) (hi := 4) (by omega) rfl rfl (by omega) (by omega)
  rw [show (0 : Int32) = nI 0 from rfl, show (9 : Int32) = nI 9 from rfl, s6, Option.bind_some]
  dsimp only
  rw [show (1 : Int32) = nI 1 from rfl, show (4 : Int32) = nI 4 from rfl, s7, Option.bind_some]
  dsimp only
  rw [m7.so, Option.bind_some]
  have FF := (p4.tr F6).tr F7
  have fini : ∃ h9, (if ¬ soR (oWh tx n 1 4 (oKw tx n 10 (oWh tx n 0 9 (oKw tx n 9 r)).1)).1 = (5 : Int32) then ((gR h7 12 (some 285) 4).bind fun v9 => (sF h7 11 v9 0 (.inl (nI (oWh tx n 0 9 (oKw tx n 9 r)).2))).bind fun h10 => (gR h10 12 (some 285) 4).bind fun v11 => (sF h10 11 v11 1 (.inl (nI (oWh tx n 1 4 (oKw tx n 10 (oWh tx n 0 9 (oKw tx n 9 r)).1)).2))).bind fun h12 => some h12) else (some h7)) = some h9 ∧ MX h9 F0 i tx n N (Jvm.Pilot.CWaverTaxLaw_law_r8537_6f3a17.fin (oWh tx n 1 4 (oKw tx n 10 (oWh tx n 0 9 (oKw tx n 9 r)).1)).1 fun B => (B.1, true, sL1 (sL1 B.2.2 0 0 (nI (oWh tx n 0 9 (oKw tx n 9 r)).2)) 0 1 (nI (oWh tx n 1 4 (oKw tx n 10 (oWh tx n 0 9 (oKw tx n 9 r)).1)).2))) ∧ Fm h h9 i := by
    generalize (oWh tx n 1 4 (oKw tx n 10 (oWh tx n 0 9 (oKw tx n 9 r)).1)).1 = re at m7
    generalize nI (oWh tx n 0 9 (oKw tx n 9 r)).2 = x
    generalize nI (oWh tx n 1 4 (oKw tx n 10 (oWh tx n 0 9 (oKw tx n 9 r)).1)).2 = y
    cases re with
    | inl f => rw [if_neg soR_l]; exact ⟨h7, rfl, m7, FF⟩
    | inr B =>
      obtain ⟨i9, hN, cu, G, g, W, c, d⟩ := m7.rl
      obtain ⟨k1, a1, b1, f1⟩ := c.sf (k := 0) (by omega) (.inl x)
      obtain ⟨k2, a2, b2, f2⟩ := b1.sf (k := 1) (by omega) (.inl y)
      rw [if_pos (soR_r m7), m7.g4, Option.bind_some, a1, Option.bind_some, m7.k4 f1, Option.bind_some, a2, Option.bind_some]
      exact ⟨k2, rfl, mx_up m7 (f1.tr f2) ⟨_, _, _, b2, re_tax d x y⟩ hN, FF.tr (f1.tr f2).m2⟩
  obtain ⟨h9, q1, q2, q3⟩ := fini
  refine ⟨h9, q1, ?_, q3⟩
  cases r with
  | inl f => exact q2
  | inr A' => exact q2
theorem mx_names {G W : Nat → PV} {f : Nat → Nat → Int32} {t : Bool} {L : LawD} (g4 : ∀ {x : PH}, Fr h x i (i + 18) → gR x 12 (some 285) 4 = some (some i)) (e : MCl h i G f W) (d : RelL G f W t L N) (hN : N.1 < 16) (w : Int64) (s k : Int32) : ∃ h1, f_M_names h (some 285) w s k = some h1 ∧ MCl h1 i (upF G 9 (.inl (nI (N.1 + 1)))) (upR (upR f 16 N.1 s) 17 N.1 k) (upF W N.1 (.inr (.inl w))) ∧ Fr h h1 i (i + 18) := by
  have g9 := d.2.1.2.2.2.2.2.2.2
  obtain ⟨h5, a1, b1, f1⟩ := e.sw (a := i + 1 + 14) (k := N.1) (by omega) hN w
  obtain ⟨h10, a2, b2, f2⟩ := b1.sa (a := i + 1 + 15) (j := 16) (k := N.1) (by omega) (by omega) (by omega) (by omega) hN s
  obtain ⟨h15, a3, b3, f3⟩ := b2.sa (a := i + 1 + 16) (j := 17) (k := N.1) (by omega) (by omega) (by omega) (by omega) hN k
  obtain ⟨h18, a4, b4, f4⟩ := b3.sf (k := 9) (by omega) (.inl (nI (N.1 + 1)))
  refine ⟨h18, ?_, b4, ((f1.tr f2).tr f3).tr f4⟩
  unfold f_M_names
  rw [g4 Fr.rf, Option.bind_some, e.gr (j := 14) (by omega) rfl, Option.bind_some, Option.bind_some, e.gi (by omega) g9, Option.bind_some, a1, Option.bind_some, g4 f1, Option.bind_some, b1.gr (j := 15) (by omega) rfl, Option.bind_some, Option.bind_some, b1.gi (by omega) g9, Option.bind_some, a2, Option.bind_some, g4 (f1.tr f2), Option.bind_some, b2.gr (j := 16) (by omega) rfl, Option.bind_some, Option.bind_some, b2.gi (by omega) g9, Option.bind_some, a3, Option.bind_some, g4 ((f1.tr f2).tr f3), Option.bind_some, b3.gi (by omega) g9, Option.bind_some, nI_s, a4, Option.bind_some]
theorem eq_n {a : Nat} {b : Nat} {y : Int32} (hy : y = nI b) (h1 : a < 2000) (h2 : b < 2000) : nI a = y ↔ decide (a = b) = true := by
  rw [hy, nI_eq (by omega) (by omega)]
  exact (decide_eq_true_iff).symm
theorem ml_cho (e : MX h F0 i tx n N (.inr A)) (hA : A.1.1 = 1) (I : LawI A.2.2 N A.2.1) : ∃ h9, cl h 12 (some 285) (f_M_readChoice h (some 285)) = some h9 ∧ MX h9 F0 i tx n (oLn tx n N A 1).2 (oLn tx n N A 1).1 ∧ Fm h h9 i := by
  rw [oLn_r (by omega), e.cl]
  unfold f_M_readChoice
  obtain ⟨-, -, -, G, g, W, c, d⟩ := e.rl
  have n5 := I.1.1
  obtain ⟨h3, s3, m3, F3⟩ := mx_lb e hA I (a := nI (nC A.2.2)) (b := 5) (fl := decide (nC A.2.2 = 5)) (eq_n rfl (by omega) (by omega))
  obtain ⟨lI, lB⟩ := LiR.lb (tx := tx) (n := n) (fl := decide (nC A.2.2 = 5)) I
  rw [e.g4, Option.bind_some, c.gi (by omega) d.2.1.1, Option.bind_some, s3, Option.bind_some]
  rw [show fulB A.2.2 1 = decide (nC A.2.2 = 5) from rfl]
  generalize oLb tx n (decide (nC A.2.2 = 5)) A = r at m3 lI lB ⊢
  obtain ⟨h4, y, s4, m4, F4, w4⟩ := mx_fresh m3
  rw [s4, Option.bind_some]
  dsimp only
  rw [m4.so, Option.bind_some]
  have lE := lI.sb (sb_fr (tx := tx) (n := n) (N := N))
  have lS := sb_fr (tx := tx) (n := n) (N := N) (r := r)
  have FF := F3.tr F4
  cases r with
  | inl f =>
    rw [show (oFr tx n N (.inl f)).1 = .inl f from rfl] at m4 ⊢
    rw [if_neg soR_l]
    exact ⟨h4, rfl, m4, FF⟩
  | inr A' =>
    show ∃ h9, _ ∧ MX h9 F0 i tx n (adR (oCho tx n N A') N (adN N (oFr tx n N (.inr A')).2 1 (nC A'.2.2))) (oCho tx n N A') ∧ _
    unfold oCho
    generalize hre : (oFr tx n N (.inr A')).1 = re at m4 w4 lE lS ⊢
    generalize (oFr tx n N (.inr A')).2 = w at w4 ⊢
    cases re with
    | inl f => rw [if_neg soR_l]; exact ⟨h4, rfl, m4, FF⟩
    | inr B =>
      obtain ⟨rfl, wl⟩ := w4 B rfl
      obtain ⟨A2, z1, z2, -⟩ := lS B rfl
      cases z1
      obtain ⟨b1, b2, b3⟩ := lB A' rfl
      have b1 : ¬ nC A.2.2 = 5 := by simpa using b1
      have I2 := lE B rfl
      have cB : nC A'.2.2 = nC B.2.2 := by rw [z2]
      have c5 : nC B.2.2 < 5 := by rw [← z2, b3]; omega
      have hN : N.1 < 16 := by have := I2.1; omega
      obtain ⟨i9, -, cu, G, g, W, c, d⟩ := m4.rl
      obtain ⟨k1, a1, q1, f1⟩ := mx_names (N := N) m4.k4 c d hN (lN w) 0 (nI (nC B.2.2))
      have d1 := re_nm d (w := w) (s := 1) (k := nC B.2.2) wl (Or.inl rfl)
      have q1 : MCl k1 i (upF G 9 (.inl (nI (N.1 + 1)))) (upR (upR g 16 N.1 (nI (snN 1))) 17 N.1 (nI (nC B.2.2))) (upF W N.1 (.inr (.inl (lN w)))) := q1
      obtain ⟨k2, a2, q2, f2⟩ := q1.sf (k := 2) (by omega) (.inl (nI (nC B.2.2 + 1)))
      rw [if_pos (soR_r m4), m4.g4, Option.bind_some, c.gi (by omega) d.2.1.1, Option.bind_some, m4.cl, a1, Option.bind_some, m4.k4 f1, Option.bind_some, q1.gi (by omega) d1.2.1.1, Option.bind_some, nI_s, a2, Option.bind_some]
      refine ⟨k2, rfl, ?_, FF.tr (f1.tr f2).m2⟩
      show MX k2 F0 i tx n (adN N w 1 (nC A'.2.2)) (.inr (B.1, B.2.1, sL2 B.2.2 0 0 (nC B.2.2 + 1)))
      rw [cB]
      exact mx_up m4 (f1.tr f2) ⟨_, _, _, q2, re_cho d1⟩ (by show N.1 + 1 ≤ 16; omega)
end Z4
