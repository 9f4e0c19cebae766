/-! the reference's reader: words, wholes, names -/
def MRl (h : PH) (i : Nat) (t : Bool) (L : LawD) (N : NmD) : Prop := ∃ G f W, MCl h i G f W ∧ RelL G f W t L N
def Fm (h h1 : PH) (i : Nat) : Prop := h1.length = h.length ∧ ∀ q, q ≠ 285 → ¬ (i ≤ q ∧ q < i + 18) → h1[q]? = h[q]?
theorem Fm.rf {h : PH} {i : Nat} : Fm h h i := ⟨rfl, fun _ _ _ => rfl⟩
theorem Fm.tr {h h1 h2 : PH} {i : Nat} (a : Fm h h1 i) (b : Fm h1 h2 i) : Fm h h2 i := ⟨b.1.trans a.1, fun q x y => (b.2 q x y).trans (a.2 q x y)⟩
theorem Fr.m1 {h h1 : PH} {i : Nat} (a : Fr h h1 285 286) : Fm h h1 i := ⟨a.1, fun q x y => a.2 q (by omega)⟩
theorem Fr.m2 {h h1 : PH} {i : Nat} (a : Fr h h1 i (i + 18)) : Fm h h1 i := ⟨a.1, fun q x y => a.2 q (by omega)⟩
def MXr (h : PH) (v : Nat → Int32) (w : Int64) (i : Nat) (tx : Nat → Int32) (n : Nat) (N : NmD) (r : RsD) : Prop := match r with
  | .inl f => (v 9 = 5 ∧ v 12 = nI f.1 ∧ v 13 = nI f.2) ∧ ∃ t L N1, N1.1 ≤ 16 ∧ MRl h i t L N1
  | .inr A => (CuOk tx n A.1 ∧ N.1 ≤ 16) ∧ MNx tx v v w A.1 ∧ v 12 = 0 ∧ MRl h i A.2.1 A.2.2 N
def MX (h : PH) (F0 : Nat → PV) (i : Nat) (tx : Nat → Int32) (n : Nat) (N : NmD) (r : RsD) : Prop := 296 ≤ i ∧ ∃ v w, MrS h F0 v w tx n i ∧ MXr h v w i tx n N r
section Z3
variable {h h1 : PH} {F0 : Nat → PV} {i n : Nat} {tx : Nat → Int32} {N : NmD} {r : RsD} {A : AsD}
theorem MRl.fr {lo hi : Nat} {t : Bool} {L : LawD} (e : MRl h i t L N) (f : Fr h h1 lo hi) (q : hi ≤ i ∨ i + 18 ≤ lo) : MRl h1 i t L N := by
  obtain ⟨G, g, W, a, b⟩ := e
  exact ⟨G, g, W, f.lc (MCl.lc _ _ _ _) (by omega) a, b⟩
theorem MX.cl {X : Type} (e : MX h F0 i tx n N r) (o : Option X) : cl h 12 (some 285) o = o := by
  obtain ⟨-, v, w, a, -⟩ := e
  exact a.cl o
theorem MX.g4 (e : MX h F0 i tx n N r) : gR h 12 (some 285) 4 = some (some i) := by
  obtain ⟨-, v, w, a, -⟩ := e
  exact a.g4
def soR (r : RsD) : Int32 := match r with
  | .inl _ => 5
  | .inr A => nI (mkK A.1.1)
theorem MX.so (e : MX h F0 i tx n N r) : gI h 12 (some 285) 9 = some (soR r) := by
  obtain ⟨-, v, w, a, b⟩ := e
  rw [a.g (by omega)]
  cases r with
  | inl f => exact congrArg some b.1.1
  | inr A => exact congrArg some b.2.1.1
theorem mk_n (c : CuOk tx n A.1) (k : Nat) (hk : k < 6) : nI (mkK A.1.1) = nI k ↔ mkK A.1.1 = k := by
  have := c.p.2.2.1
  apply nI_eq
  · unfold mkK; split <;> omega
  · omega
theorem mk_5 (c : CuOk tx n A.1) : ¬ nI (mkK A.1.1) = 5 := by
  have := c.p.2.2.1
  intro q
  have q := (mk_n c 5 (by omega)).mp q
  unfold mkK at q
  split at q <;> omega
theorem MX.bad (e : MX h F0 i tx n N r) : (r.isLeft = true ↔ soR r = 5) := by
  cases r with
  | inl f => exact ⟨fun _ => rfl, fun _ => rfl⟩
  | inr A =>
    obtain ⟨-, v, w, a, b⟩ := e
    exact ⟨fun q => (by cases q), fun q => absurd q (mk_5 b.1.1)⟩
theorem mx_over {f : Nat × Nat} (e : MX h F0 i tx n N (.inl f)) : cl h 12 (some 285) (f_M_goesOn h (some 285)) = some h := by
  obtain ⟨-, v, w, a, b⟩ := e
  exact mr_over a b.1.1
theorem mx_next (e : MX h F0 i tx n N r) (ht : ∀ A, r = .inr A → ¬ A.1.1 = 4) : ∃ h1, cl h 12 (some 285) (f_M_goesOn h (some 285)) = some h1 ∧ MX h1 F0 i tx n N (oNext tx n r) ∧ Fm h h1 i := by
  cases r with
  | inl f => exact ⟨h, mx_over e, e, Fm.rf⟩
  | inr A =>
    obtain ⟨i9, v, w, a, ⟨c, hN⟩, ⟨m1, m2, m3, m4, m5, m6, m7⟩, b, d⟩ := e
    obtain ⟨h1, x1, v1, w1, x2, ⟨y1, y2, y3, y4, y5, y6, y7⟩, x4⟩ := mr_next a c.p.2.1 (by rw [m1]; exact mk_5 c) (m3 (ht A rfl))
    exact ⟨h1, x1, ⟨i9, v1, w1, x2, ⟨c.nx, hN⟩, ⟨y1, y2, y3, y4, y5, rfl, rfl⟩, y6.trans b, d.fr x4 (by omega)⟩, x4.m1⟩
theorem mx_flaw (e : MX h F0 i tx n N r) (k : Nat) : ∃ h1, cl h 12 (some 285) (f_M_flaw h (some 285) (nI k)) = some h1 ∧ MX h1 F0 i tx n N (oFail k r) ∧ Fm h h1 i := by
  rw [e.cl]
  unfold f_M_flaw
  rw [e.so, Option.bind_some]
  cases r with
  | inl f => exact ⟨h, if_neg (fun q => q rfl), e, Fm.rf⟩
  | inr A =>
    obtain ⟨i9, v, w, a, ⟨c, hN⟩, ⟨m1, m2, m3, m4, m5, m6, m7⟩, b, d⟩ := e
    obtain ⟨h2, s2, a2, f2⟩ := a.set (k := 12) (by omega) (nI k)
    obtain ⟨h4, s4, a4, f4⟩ := a2.set (k := 13) (by omega) (nI A.1.2.1)
    obtain ⟨h5, s5, a5, f5⟩ := a4.set (k := 9) (by omega) 5
    have F := (f2.tr f4).tr f5
    refine ⟨h5, ?_, ⟨i9, _, _, a5, ⟨rfl, rfl, rfl⟩, _, _, _, hN, d.fr F (by omega)⟩, F.m1⟩
    rw [if_pos (show ¬ soR (.inr A) = 5 from mk_5 c), s2, Option.bind_some, a2.g (k := 10) (by omega), Option.bind_some, show up1 v 12 (nI k) 10 = nI A.1.2.1 from (if_neg (by omega)).trans m2, s4, Option.bind_some, s5, Option.bind_some]
/-- words -/
theorem pk_c : ∀ j, j < 23 → f_M_packed [] (some j) = some (lN (pkC j)) ∧ pkC j < 2 ^ 40 := by decide +kernel
theorem wd_lt (c : CuOk tx n A.1) (z : A.1.1 = 1) : wdA tx A < 2 ^ 40 := by
  obtain ⟨q1, q2⟩ := c.p.2.2.2.2.2.1 z
  have := pkN_lt _ q2
  have h8 : 32 ^ (A.1.2.2 - A.1.2.1) ≤ 32 ^ 8 := Nat.pow_le_pow_right (by omega) q1
  unfold wdA
  omega
def isW (tx : Nat → Int32) (r : RsD) (j : Nat) : Bool := match r with
  | .inl _ => false
  | .inr A => decide (A.1.1 = 1 ∧ wdA tx A = pkC j)
theorem mx_is (e : MX h F0 i tx n N r) {j : Nat} (hj : j < 23) : cl h 12 (some 285) (f_M_isWord h (some 285) (some j)) = some (if isW tx r j = true then 1 else 0) := by
  rw [e.cl]
  unfold f_M_isWord
  rw [e.so, Option.bind_some]
  cases r with
  | inl f => rw [if_pos (show ¬ soR (.inl f) = 2 by show ¬ (5 : Int32) = 2; decide)]; rfl
  | inr A =>
    obtain ⟨i9, v, w, a, ⟨c, hN⟩, ⟨m1, m2, m3, m4, m5, m6, m7⟩, b, d⟩ := e
    show (if ¬ nI (mkK A.1.1) = 2 then _ else _) = _
    by_cases z : A.1.1 = 1
    · obtain ⟨p1, p2⟩ := pk_c j hj
      rw [if_neg (fun q => q (by rw [z]; rfl)), a.gw, Option.bind_some, show f_M_packed h (some j) = some (lN (pkC j)) from p1, Option.bind_some, show w = lN (wdA tx A) from m4 z]
      by_cases y : wdA tx A = pkC j
      · rw [if_neg (fun q => q ((lN_q (wd_lt c z) p2).mpr y)), if_pos (show isW tx (.inr A) j = true by simp [isW, z, y])]
      · rw [if_pos (fun q => y ((lN_q (wd_lt c z) p2).mp q)), if_neg (show ¬ isW tx (.inr A) j = true by simp [isW, y])]
    · rw [if_pos (fun q => by
        have q := (mk_n c 2 (by omega)).mp q
        unfold mkK at q
        split at q <;> omega), if_neg (show ¬ isW tx (.inr A) j = true by simp [isW, z])]
theorem mx_needs (e : MX h F0 i tx n N r) {j : Nat} (hj : j < 23) : ∃ h1, cl h 12 (some 285) (f_M_needs h (some 285) (some j)) = some h1 ∧ MX h1 F0 i tx n N (oKw tx n j r) ∧ Fm h h1 i := by
  rw [e.cl]
  unfold f_M_needs
  rw [mx_is e hj, Option.bind_some]
  have bad : ∀ r1 : RsD, oFail 1 r = r1 → isW tx r j = false → ∀ f, r1 = .inl f → ∃ h1, ((if ¬ (if isW tx r j = true then (1 : Int32) else 0) = 0 then (some h) else ((Jvm.Pilot.CWaverTaxLaw_law_r8537_6f3a17.cl h 12 (some 285) (f_M_flaw h (some 285) (1 : Int32))).bind fun h3 => some h3) : Option (PH)).bind fun j2 => (Jvm.Pilot.CWaverTaxLaw_law_r8537_6f3a17.cl j2 12 (some 285) (f_M_goesOn j2 (some 285))).bind fun h4 => some h4) = some h1 ∧ MX h1 F0 i tx n N r1 ∧ Fm h h1 i := by
    intro r1 q1 q2 f q3
    obtain ⟨h1, x1, x2, x3⟩ := mx_flaw e 1
    rw [q1, q3] at x2
    rw [q2, if_neg (show ¬ false = true by decide), if_neg (fun q => q rfl), show (1 : Int32) = nI 1 from rfl, x1, Option.bind_some, Option.bind_some, mx_over x2, Option.bind_some]
    exact ⟨h1, rfl, q3 ▸ x2, x3⟩
  cases r with
  | inl f => exact bad (.inl f) rfl rfl f rfl
  | inr A =>
    unfold oKw
    dsimp only
    by_cases z : A.1.1 = 1 ∧ wdA tx A = pkC j
    · obtain ⟨h1, x1, x2, x3⟩ := mx_next e (fun B q => by cases q; omega)
      rw [if_pos (show isW tx (.inr A) j = true by simp [isW, z]), if_pos (by decide), Option.bind_some, x1, Option.bind_some, if_pos z]
      exact ⟨h1, rfl, x2, x3⟩
    · rw [if_neg z]
      exact bad (.inl (1, A.1.2.1)) rfl (by simp only [isW]; exact decide_eq_false z) _ rfl
/-- wholes -/
theorem mx_bd (e : MX h F0 i tx n N r) {lo hi : Nat} {x y : Int32} (hx : x = nI lo) (hy : y = nI hi) (h1 : lo < 2000) (h2 : hi < 2000) : ∃ h1, cl h 12 (some 285) (f_M_bounded h (some 285) x y) = some (nI (oBd tx lo hi r).2, h1) ∧ MX h1 F0 i tx n N (oBd tx lo hi r).1 ∧ Fm h h1 i := by
  subst hx hy
  rw [e.cl]
  unfold f_M_bounded
  rw [e.so, Option.bind_some]
  cases r with
  | inl f =>
    obtain ⟨h3, x1, x2, x3⟩ := mx_flaw e 1
    rw [if_neg (show ¬ soR (.inl f) = 3 by show ¬ (5 : Int32) = 3; decide), show (1 : Int32) = nI 1 from rfl, x1, Option.bind_some, Option.bind_some, x2.so, Option.bind_some, if_neg (fun q => q rfl)]
    exact ⟨h3, rfl, x2, x3⟩
  | inr A =>
    have so := e.so
    obtain ⟨i9, v, w, a, ⟨c, hN⟩, ⟨m1, m2, m3, m4, m5, m6, m7⟩, b, d⟩ := id e
    unfold oBd
    dsimp only
    show ∃ h1, ((if nI (mkK A.1.1) = 3 then _ else _ : Option PH).bind _) = _ ∧ _
    by_cases z : A.1.1 = 2
    · have nl := nu_lt (tx := tx) c z
      rw [if_pos (show nI (mkK A.1.1) = 3 by rw [z]; rfl), a.g (k := 11) (by omega), Option.bind_some, show v 11 = nI (nuA tx A) from m5 z, if_neg (fun q => q z)]
      unfold f_M_in
      have bad : (nuA tx A < lo ∨ hi < nuA tx A) → ∃ h1, ((Jvm.Pilot.CWaverTaxLaw_law_r8537_6f3a17.cl h 12 (some 285) (f_M_flaw h (some 285) (4 : Int32))).bind fun h5 => some h5) = some h1 ∧ MX h1 F0 i tx n N (.inl (4, A.1.2.1)) ∧ Fm h h1 i := by
        intro q
        obtain ⟨h3, x1, x2, x3⟩ := mx_flaw e 4
        rw [show (4 : Int32) = nI 4 from rfl, x1, Option.bind_some]
        exact ⟨h3, rfl, x2, x3⟩
      by_cases y1 : nuA tx A < lo
      · obtain ⟨h3, x1, x2, x3⟩ := bad (Or.inl y1)
        rw [if_pos (nI_lt y1 (by omega)), if_pos (Or.inl y1), Option.bind_some, if_neg (fun q => q rfl), x1, Option.bind_some, x2.so, Option.bind_some, if_neg (fun q => q rfl)]
        exact ⟨h3, rfl, x2, x3⟩
      · rw [if_neg (nI_nlt (by omega) (by omega))]
        by_cases y2 : hi < nuA tx A
        · obtain ⟨h3, x1, x2, x3⟩ := bad (Or.inr y2)
          rw [if_pos (nI_lt y2 (by omega)), if_pos (Or.inr y2), Option.bind_some, if_neg (fun q => q rfl), x1, Option.bind_some, x2.so, Option.bind_some, if_neg (fun q => q rfl)]
          exact ⟨h3, rfl, x2, x3⟩
        · rw [if_neg (nI_nlt (by omega) (by omega)), if_neg (by omega), Option.bind_some, if_pos (by decide), Option.bind_some, so, Option.bind_some, if_pos (show ¬ soR (.inr A) = 5 from mk_5 c), a.g (k := 11) (by omega), Option.bind_some, show v 11 = nI (nuA tx A) from m5 z]
          exact ⟨h, rfl, e, Fm.rf⟩
    · obtain ⟨h3, x1, x2, x3⟩ := mx_flaw e 1
      rw [if_neg (fun q => by
        have q := (mk_n c 3 (by omega)).mp q
        unfold mkK at q
        split at q <;> omega), if_pos z, show (1 : Int32) = nI 1 from rfl, x1, Option.bind_some, Option.bind_some, x2.so, Option.bind_some, if_neg (fun q => q rfl)]
      exact ⟨h3, rfl, x2, x3⟩
theorem bd_2 {lo hi : Nat} {A : AsD} (q : (oBd tx lo hi r).1 = .inr A) : A.1.1 = 2 := by
  cases r with
  | inl f => cases q
  | inr B =>
    unfold oBd at q
    dsimp only at q
    by_cases z : ¬ B.1.1 = 2
    · rw [if_pos z] at q; cases q
    · rw [if_neg z] at q
      by_cases y : nuA tx B < lo ∨ hi < nuA tx B
      · rw [if_pos y] at q; cases q
      · rw [if_neg y] at q; cases q; omega
theorem mx_wh (e : MX h F0 i tx n N r) {lo hi : Nat} {x y : Int32} (hx : x = nI lo) (hy : y = nI hi) (h1 : lo < 2000) (h2 : hi < 2000) : ∃ h1, cl h 12 (some 285) (f_M_readWhole h (some 285) x y) = some (nI (oWh tx n lo hi r).2, h1) ∧ MX h1 F0 i tx n N (oWh tx n lo hi r).1 ∧ Fm h h1 i := by
  obtain ⟨h3, x1, x2, x3⟩ := mx_bd e hx hy h1 h2
  obtain ⟨h4, y1, y2, y3⟩ := mx_next x2 (fun A q => by have := bd_2 q; omega)
  refine ⟨h4, ?_, y2, x3.tr y3⟩
  rw [e.cl]
  unfold f_M_readWhole
  rw [x1, Option.bind_some]
  dsimp only
  rw [y1, Option.bind_some]
  rfl
theorem mx_part (e : MX h F0 i tx n N r) {j lo hi : Nat} {x y : Int32} (hj : j < 23) (hx : x = nI lo) (hy : y = nI hi) (h1 : lo < 2000) (h2 : hi < 2000) : ∃ h1, cl h 12 (some 285) (f_M_readPart h (some 285) (some j) x y) = some (nI (oWh tx n lo hi (oKw tx n j r)).2, h1) ∧ MX h1 F0 i tx n N (oWh tx n lo hi (oKw tx n j r)).1 ∧ Fm h h1 i := by
  obtain ⟨h3, x1, x2, x3⟩ := mx_needs e hj
  obtain ⟨h4, y1, y2, y3⟩ := mx_wh x2 hx hy h1 h2
  refine ⟨h4, ?_, y2, x3.tr y3⟩
  rw [e.cl]
  unfold f_M_readPart
  rw [x1, Option.bind_some, y1, Option.bind_some]
/-- names -/
def isNm (tx : Nat → Int32) (r : RsD) : Bool := match r with
  | .inl _ => false
  | .inr A => decide (A.1.1 = 1 ∧ lsA (wdA tx A) 9 = none)
theorem ls_9n {w : Nat} : lsA w 9 = none ↔ ∀ j, j < 9 → ¬ w = pkC j := by
  constructor
  · intro q j hj z
    rw [ls_i z 9 (by omega) hj] at q
    cases q
  · intro q
    exact ls_n (by omega) q
theorem mx_isN (e : MX h F0 i tx n N r) : cl h 12 (some 285) (f_M_isName h (some 285)) = some (if isNm tx r = true then 1 else 0) := by
  have is := fun j (hj : j < 23) => mx_is e hj
  rw [e.cl]
  unfold f_M_isName
  rw [e.so, Option.bind_some]
  cases r with
  | inl f => rw [if_pos (show ¬ soR (.inl f) = 2 by show ¬ (5 : Int32) = 2; decide)]; rfl
  | inr A =>
    obtain ⟨i9, v, w, a, ⟨c, hN⟩, -⟩ := e
    show (if ¬ nI (mkK A.1.1) = 2 then _ else _) = _
    by_cases z : A.1.1 = 1
    · rw [if_neg (fun q => q (by rw [z]; rfl)), is 0 (by omega), Option.bind_some, is 1 (by omega), Option.bind_some, is 2 (by omega), Option.bind_some, is 3 (by omega), Option.bind_some, is 4 (by omega), Option.bind_some, is 5 (by omega), Option.bind_some, is 6 (by omega), Option.bind_some, is 7 (by omega), Option.bind_some, is 8 (by omega), Option.bind_some]
      have w : ∀ j, isW tx (.inr A) j = decide (wdA tx A = pkC j) := fun j => by simp [isW, z]
      simp only [w]
      have nm : isNm tx (.inr A) = true ↔ ∀ j, j < 9 → ¬ wdA tx A = pkC j := by
        unfold isNm
        simp only [decide_eq_true_eq]
        rw [ls_9n]
        exact ⟨fun q => q.2, fun q => ⟨z, q⟩⟩
      by_cases all : ∀ j, j < 9 → ¬ wdA tx A = pkC j
      · have f0 := all 0 (by omega)
        have f1 := all 1 (by omega)
        have f2 := all 2 (by omega)
        have f3 := all 3 (by omega)
        have f4 := all 4 (by omega)
        have f5 := all 5 (by omega)
        have f6 := all 6 (by omega)
        have f7 := all 7 (by omega)
        have f8 := all 8 (by omega)
        rw [if_pos (nm.mpr all)]
        simp [f0, f1, f2, f3, f4, f5, f6, f7, f8]
      · rw [if_neg (fun q => all (nm.mp q))]
        have ex : ∃ j, j < 9 ∧ wdA tx A = pkC j := by
          apply Classical.byContradiction
          intro q
          exact all (fun j hj w => q ⟨j, hj, w⟩)
        obtain ⟨j, hj, hw⟩ := ex
        have : j = 0 ∨ j = 1 ∨ j = 2 ∨ j = 3 ∨ j = 4 ∨ j = 5 ∨ j = 6 ∨ j = 7 ∨ j = 8 := by omega
        have ne : ∀ k, k < 9 → k ≠ j → ¬ wdA tx A = pkC k := fun k hk q w => q (pkC_ne k (by omega) j (by omega) (w.symm.trans hw))
        rcases this with rfl | rfl | rfl | rfl | rfl | rfl | rfl | rfl | rfl
        · simp [hw]
        · simp [hw, ne 0 (by omega) (by omega)]
        · simp [hw, ne 0 (by omega) (by omega), ne 1 (by omega) (by omega)]
        · simp [hw, ne 0 (by omega) (by omega), ne 1 (by omega) (by omega), ne 2 (by omega) (by omega)]
        · simp [hw, ne 0 (by omega) (by omega), ne 1 (by omega) (by omega), ne 2 (by omega) (by omega), ne 3 (by omega) (by omega)]
        · simp [hw, ne 0 (by omega) (by omega), ne 1 (by omega) (by omega), ne 2 (by omega) (by omega), ne 3 (by omega) (by omega), ne 4 (by omega) (by omega)]
        · simp [hw, ne 0 (by omega) (by omega), ne 1 (by omega) (by omega), ne 2 (by omega) (by omega), ne 3 (by omega) (by omega), ne 4 (by omega) (by omega), ne 5 (by omega) (by omega)]
        · simp [hw, ne 0 (by omega) (by omega), ne 1 (by omega) (by omega), ne 2 (by omega) (by omega), ne 3 (by omega) (by omega), ne 4 (by omega) (by omega), ne 5 (by omega) (by omega), ne 6 (by omega) (by omega)]
        · simp [hw, ne 0 (by omega) (by omega), ne 1 (by omega) (by omega), ne 2 (by omega) (by omega), ne 3 (by omega) (by omega), ne 4 (by omega) (by omega), ne 5 (by omega) (by omega), ne 6 (by omega) (by omega), ne 7 (by omega) (by omega)]
    · rw [if_pos (fun q => by
        have q := (mk_n c 2 (by omega)).mp q
        unfold mkK at q
        split at q <;> omega), if_neg (show ¬ isNm tx (.inr A) = true by simp [isNm, z])]
/-- behind a fault: whatever is looked for -/
theorem mx_any {f : Nat × Nat} (e : MX h F0 i tx n N (.inl f)) : ∃ w x, gL h 12 (some 285) 14 = some w ∧ cl h 11 (some i) (f_ML_find h (some i) w) = some x ∧ (x = -1 ∨ ∃ y, (¬ x = -1) ∧ (gR h 11 (some i) 25).bind (fun v10 => aI h v10 x) = some y) := by
  obtain ⟨-, v, w, a, b, t, L, N1, hN, G, g, W, c, d⟩ := e
  obtain ⟨x, x1, x2⟩ := ml_any c d hN w
  refine ⟨w, x, a.gw, x1, ?_⟩
  rcases x2 with rfl | ⟨k, hk, rfl⟩
  · exact Or.inl rfl
  · refine Or.inr ⟨g 16 k, fun q => ?_, ?_⟩
    · have := nI_pos (n := k) (by omega)
      rw [q] at this
      exact this (by decide)
    · rw [c.gr (j := 15) (by omega) rfl, Option.bind_some]
      exact c.ai (j := 16) (by omega) (by omega) (by omega) (by omega) (by unfold szR; simp; omega)
theorem fd_16 {a k : Nat} (hN : N.1 ≤ 16) (q : fdN N a N.1 = some k) : ¬ lsI (some k) = -1 := by
  intro w
  have := (lsI_n (some k) (fun j hj => by cases hj; have := (fd_lt _ _ q).1; omega)).mp w
  cases this
theorem mx_fresh (e : MX h F0 i tx n N r) : ∃ h1 y, cl h 12 (some 285) (f_M_readFresh h (some 285)) = some (y, h1) ∧ MX h1 F0 i tx n N (oFr tx n N r).1 ∧ Fm h h1 i ∧ ∀ B, (oFr tx n N r).1 = .inr B → y = lN (oFr tx n N r).2 ∧ (oFr tx n N r).2 < 2 ^ 40 := by
  rw [e.cl]
  unfold f_M_readFresh
  rw [mx_isN e, Option.bind_some]
  -- behind a fault
  have bad : ∀ (j2 : PH) (f : Nat × Nat), MX j2 F0 i tx n N (.inl f) → Fm h j2 i → ∃ h1 y, ((gR j2 12 (some 285) 4).bind fun v4 => (gL j2 12 (some 285) 14).bind fun v5 => (Jvm.Pilot.CWaverTaxLaw_law_r8537_6f3a17.cl j2 11 v4 (f_ML_find j2 v4 v5)).bind fun v6 => (if v6 = (-1 : Int32) then (some j2) else ((Jvm.Pilot.CWaverTaxLaw_law_r8537_6f3a17.cl j2 12 (some 285) (f_M_flaw j2 (some 285) (3 : Int32))).bind fun h8 => some h8) : Option (PH)).bind fun j7 => (gL j7 12 (some 285) 14).bind fun v9 => (Jvm.Pilot.CWaverTaxLaw_law_r8537_6f3a17.cl j7 12 (some 285) (f_M_goesOn j7 (some 285))).bind fun h10 => some (v9, h10)) = some (y, h1) ∧ MX h1 F0 i tx n N (.inl f) ∧ Fm h h1 i := by
    intro j2 f m fm
    obtain ⟨w, x, w1, w2, w3⟩ := mx_any m
    obtain ⟨h3, x1, x2, x3⟩ := mx_flaw m 3
    have x2 : MX h3 F0 i tx n N (.inl f) := x2
    obtain ⟨w', x', w1', w2', w3'⟩ := mx_any x2
    rw [m.g4, Option.bind_some, w1, Option.bind_some, w2, Option.bind_some]
    by_cases z : x = -1
    · rw [if_pos z, Option.bind_some, w1, Option.bind_some, mx_over m, Option.bind_some]
      exact ⟨_, _, rfl, m, fm⟩
    · rw [if_neg z, show (3 : Int32) = nI 3 from rfl, x1, Option.bind_some, Option.bind_some, w1', Option.bind_some, mx_over x2, Option.bind_some]
      exact ⟨_, _, rfl, x2, fm.tr x3⟩
  cases r with
  | inl f =>
    obtain ⟨h3, x1, x2, x3⟩ := mx_flaw e 1
    rw [if_neg (show ¬ isNm tx (.inl f) = true from fun q => by cases q), if_neg (fun q => q rfl), show (1 : Int32) = nI 1 from rfl, x1, Option.bind_some, Option.bind_some]
    obtain ⟨h4, y, y1, y2, y3⟩ := bad h3 f x2 x3
    exact ⟨h4, y, y1, y2, y3, fun B q => by cases q⟩
  | inr A =>
    unfold oFr
    dsimp only
    by_cases z : A.1.1 = 1 ∧ lsA (wdA tx A) 9 = none
    · rw [if_pos (show isNm tx (.inr A) = true by simp only [isNm]; exact decide_eq_true z), if_pos (by decide), Option.bind_some, if_pos z]
      obtain ⟨i9, v, w, a, ⟨c, hN⟩, ⟨m1, m2, m3, m4, m5, m6, m7⟩, b, G, g, W, d1, d2⟩ := id e
      rw [a.g4, Option.bind_some, a.gw, Option.bind_some, show w = lN (wdA tx A) from m4 z.1, ml_find d1 d2 hN (wd_lt c z.1), Option.bind_some]
      cases hf : fdN N (wdA tx A) N.1 with
      | none =>
        obtain ⟨h4, y1, y2, y3⟩ := mx_next e (fun B q => by cases q; omega)
        rw [if_pos (show lsI none = -1 from rfl), if_pos rfl, Option.bind_some, a.gw, Option.bind_some, y1, Option.bind_some]
        exact ⟨h4, _, rfl, y2, y3, fun B _ => ⟨m4 z.1, wd_lt c z.1⟩⟩
      | some k =>
        obtain ⟨h3, x1, x2, x3⟩ := mx_flaw e 3
        have x2 : MX h3 F0 i tx n N (.inl (3, A.1.2.1)) := x2
        obtain ⟨w', x', w1', w2', w3'⟩ := mx_any x2
        rw [if_neg (fd_16 hN hf), if_neg (show ¬ some k = none from fun q => by cases q), show (3 : Int32) = nI 3 from rfl, x1, Option.bind_some, Option.bind_some, w1', Option.bind_some, mx_over x2, Option.bind_some]
        exact ⟨h3, _, rfl, x2, x3, fun B q => by cases q⟩
    · obtain ⟨h3, x1, x2, x3⟩ := mx_flaw e 1
      rw [if_neg (show ¬ isNm tx (.inr A) = true by simp only [isNm, decide_eq_true_eq]; exact z), if_neg (fun q => q rfl), show (1 : Int32) = nI 1 from rfl, x1, Option.bind_some, Option.bind_some, if_neg z]
      obtain ⟨h4, y, y1, y2, y3⟩ := bad h3 (1, A.1.2.1) x2 x3
      exact ⟨h4, y, y1, y2, y3, fun B q => by cases q⟩
theorem sn_i {a b : Nat} (ha : a = 1 ∨ a = 3 ∨ a = 7) (hb : b = 1 ∨ b = 3 ∨ b = 7) : nI (snN a) = nI (snN b) ↔ a = b := by
  rw [nI_eq (by unfold snN; split <;> (try split) <;> omega) (by unfold snN; split <;> (try split) <;> omega)]
  rcases ha with rfl | rfl | rfl <;> rcases hb with rfl | rfl | rfl <;> decide
theorem mx_ko (e : MX h F0 i tx n N r) {s : Nat} {x : Int32} (hs : s = 1 ∨ s = 3 ∨ s = 7) (hx : x = nI (snN s)) : ∃ h1, cl h 12 (some 285) (f_M_knownOne h (some 285) x) = some (nI (oKo tx N s r).2, h1) ∧ MX h1 F0 i tx n N (oKo tx N s r).1 ∧ Fm h h1 i := by
  subst hx
  rw [e.cl]
  unfold f_M_knownOne
  rw [mx_isN e, Option.bind_some]
  have bad : ∀ (j2 : PH) (f : Nat × Nat), MX j2 F0 i tx n N (.inl f) → Fm h j2 i → ∃ h1, ((gR j2 12 (some 285) 4).bind fun v4 => (gL j2 12 (some 285) 14).bind fun v5 => (Jvm.Pilot.CWaverTaxLaw_law_r8537_6f3a17.cl j2 11 v4 (f_ML_find j2 v4 v5)).bind fun v6 => (if v6 = (-1 : Int32) then ((Jvm.Pilot.CWaverTaxLaw_law_r8537_6f3a17.cl j2 12 (some 285) (f_M_flaw j2 (some 285) (2 : Int32))).bind fun h8 => some h8) else ((gR j2 12 (some 285) 4).bind fun v9 => (gR j2 11 v9 25).bind fun v10 => (aI j2 v10 v6).bind fun v11 => if v11 = nI (snN s) then (some j2) else ((Jvm.Pilot.CWaverTaxLaw_law_r8537_6f3a17.cl j2 12 (some 285) (f_M_flaw j2 (some 285) (2 : Int32))).bind fun h12 => some h12)) : Option (PH)).bind fun j7 => (gI j7 12 (some 285) 9).bind fun v13 => if ¬ v13 = (5 : Int32) then ((gR j7 12 (some 285) 4).bind fun v14 => (gR j7 11 v14 26).bind fun v15 => (aI j7 v15 v6).bind fun v16 => some (v16, j7)) else (some ((0 : Int32), j7))) = some (nI 0, h1) ∧ MX h1 F0 i tx n N (.inl f) ∧ Fm h h1 i := by
    intro j2 f m fm
    obtain ⟨w, x, w1, w2, w3⟩ := mx_any m
    obtain ⟨h3, x1, x2, x3⟩ := mx_flaw m 2
    have x2 : MX h3 F0 i tx n N (.inl f) := x2
    rw [m.g4, Option.bind_some, w1, Option.bind_some, w2, Option.bind_some, Option.bind_some]
    rcases w3 with z | ⟨y, z, w3⟩
    · rw [if_pos z, show (2 : Int32) = nI 2 from rfl, x1, Option.bind_some, Option.bind_some, x2.so, Option.bind_some, if_neg (fun q => q rfl)]
      exact ⟨_, rfl, x2, fm.tr x3⟩
    · obtain ⟨b, q1, q2⟩ := Option.bind_eq_some_iff.mp w3
      rw [if_neg z, q1, Option.bind_some, q2, Option.bind_some]
      by_cases u : y = nI (snN s)
      · rw [if_pos u, Option.bind_some, m.so, Option.bind_some, if_neg (fun q => q rfl)]
        exact ⟨_, rfl, m, fm⟩
      · rw [if_neg u, show (2 : Int32) = nI 2 from rfl, x1, Option.bind_some, Option.bind_some, x2.so, Option.bind_some, if_neg (fun q => q rfl)]
        exact ⟨_, rfl, x2, fm.tr x3⟩
  cases r with
  | inl f =>
    obtain ⟨h3, x1, x2, x3⟩ := mx_flaw e 1
    rw [if_neg (show ¬ isNm tx (.inl f) = true from fun q => by cases q), if_neg (fun q => q rfl), show (1 : Int32) = nI 1 from rfl, x1, Option.bind_some, Option.bind_some]
    exact bad h3 f x2 x3
  | inr A =>
    unfold oKo
    dsimp only
    by_cases z : A.1.1 = 1 ∧ lsA (wdA tx A) 9 = none
    · rw [if_pos (show isNm tx (.inr A) = true by simp only [isNm]; exact decide_eq_true z), if_pos (by decide), Option.bind_some, if_pos z]
      have so := e.so
      obtain ⟨i9, v, w, a, ⟨c, hN⟩, ⟨m1, m2, m3, m4, m5, m6, m7⟩, b, G, g, W, d1, d2⟩ := id e
      rw [a.g4, Option.bind_some, a.gw, Option.bind_some, show w = lN (wdA tx A) from m4 z.1, ml_find d1 d2 hN (wd_lt c z.1), Option.bind_some, Option.bind_some]
      obtain ⟨h3, x1, x2, x3⟩ := mx_flaw e 2
      have x2 : MX h3 F0 i tx n N (.inl (2, A.1.2.1)) := x2
      cases hf : fdN N (wdA tx A) N.1 with
      | none =>
        rw [if_pos (show lsI none = -1 from rfl), show (2 : Int32) = nI 2 from rfl, x1, Option.bind_some, Option.bind_some, x2.so, Option.bind_some, if_neg (fun q => q rfl)]
        exact ⟨_, rfl, x2, x3⟩
      | some k =>
        have hk := (fd_lt _ _ hf).1
        obtain ⟨n1, n2, n3, n4, n5⟩ := d2.2.2.2.2.2.2.2.2 k hk
        dsimp only
        rw [if_neg (fd_16 hN hf), d1.gr (j := 15) (by omega) rfl, Option.bind_some, show aI h (some (i + 1 + 15)) (lsI (some k)) = some (nI (snN (N.2 k).2.1)) from n2 ▸ d1.ai (j := 16) (by omega) (by omega) (by omega) (by omega) (by unfold szR; simp; omega), Option.bind_some]
        by_cases u : (N.2 k).2.1 = s
        · rw [if_pos ((sn_i n5 hs).mpr u), if_pos u, Option.bind_some, so, Option.bind_some, if_pos (show ¬ soR (.inr A) = 5 from mk_5 c), a.g4, Option.bind_some, d1.gr (j := 16) (by omega) rfl, Option.bind_some, show aI h (some (i + 1 + 16)) (lsI (some k)) = some (nI (N.2 k).2.2) from n3 ▸ d1.ai (j := 17) (by omega) (by omega) (by omega) (by omega) (by unfold szR; simp; omega), Option.bind_some]
          exact ⟨_, rfl, e, Fm.rf⟩
        · rw [if_neg (fun q => u ((sn_i n5 hs).mp q)), if_neg u, show (2 : Int32) = nI 2 from rfl, x1, Option.bind_some, Option.bind_some, x2.so, Option.bind_some, if_neg (fun q => q rfl)]
          exact ⟨_, rfl, x2, x3⟩
    · obtain ⟨h3, x1, x2, x3⟩ := mx_flaw e 1
      rw [if_neg (show ¬ isNm tx (.inr A) = true by simp only [isNm, decide_eq_true_eq]; exact z), if_neg (fun q => q rfl), show (1 : Int32) = nI 1 from rfl, x1, Option.bind_some, Option.bind_some, if_neg z]
      exact bad h3 (1, A.1.2.1) x2 x3
theorem ko_1 {s : Nat} {A : AsD} (q : (oKo tx N s r).1 = .inr A) : A.1.1 = 1 := by
  cases r with
  | inl f => cases q
  | inr B =>
    unfold oKo at q
    dsimp only at q
    by_cases z : B.1.1 = 1 ∧ lsA (wdA tx B) 9 = none
    · rw [if_pos z] at q
      cases hb : fdN N (wdA tx B) N.1 with
      | none => rw [hb] at q; cases q
      | some k =>
        rw [hb] at q
        dsimp only at q
        by_cases y : (N.2 k).2.1 = s
        · rw [if_pos y] at q; cases q; exact z.1
        · rw [if_neg y] at q; cases q
    · rw [if_neg z] at q; cases q
theorem mx_kn (e : MX h F0 i tx n N r) {s : Nat} {x : Int32} (hs : s = 1 ∨ s = 3 ∨ s = 7) (hx : x = nI (snN s)) : ∃ h1, cl h 12 (some 285) (f_M_readKnown h (some 285) x) = some (nI (oKn tx n N s r).2, h1) ∧ MX h1 F0 i tx n N (oKn tx n N s r).1 ∧ Fm h h1 i := by
  obtain ⟨h3, x1, x2, x3⟩ := mx_ko e hs hx
  obtain ⟨h4, y1, y2, y3⟩ := mx_next x2 (fun A q => by have := ko_1 q; omega)
  refine ⟨h4, ?_, y2, x3.tr y3⟩
  rw [e.cl]
  unfold f_M_readKnown
  rw [x1, Option.bind_some]
  dsimp only
  rw [y1, Option.bind_some]
  rfl
end Z3
