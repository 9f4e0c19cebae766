/-! reading, as it is thought; the class's state -/
abbrev CuD : Type := Nat × Nat × Nat
abbrev AsD : Type := CuD × Bool × LawD
abbrev RsD : Type := (Nat × Nat) ⊕ AsD
/-- names told: how many; word, sort, number -/
abbrev NmD : Type := Nat × (Nat → Nat × Nat × Nat)
def wdA (tx : Nat → Int32) (A : AsD) : Nat := pkN tx A.1.2.1 (A.1.2.2 - A.1.2.1)
def nuA (tx : Nat → Int32) (A : AsD) : Nat := dcN tx A.1.2.1 (A.1.2.2 - A.1.2.1)
def oNext (tx : Nat → Int32) (n : Nat) (r : RsD) : RsD := match r with
  | .inl f => .inl f
  | .inr A => .inr (nxT tx n A.1.2.2, A.2)
def oFail (k : Nat) (r : RsD) : RsD := match r with
  | .inl f => .inl f
  | .inr A => .inl (k, A.1.2.1)
def oKw (tx : Nat → Int32) (n i : Nat) (r : RsD) : RsD := match r with
  | .inl f => .inl f
  | .inr A => if A.1.1 = 1 ∧ wdA tx A = pkC i then .inr (nxT tx n A.1.2.2, A.2) else .inl (1, A.1.2.1)
def oBd (tx : Nat → Int32) (lo hi : Nat) (r : RsD) : RsD × Nat := match r with
  | .inl f => (.inl f, lo)
  | .inr A => if ¬ A.1.1 = 2 then (.inl (1, A.1.2.1), lo) else if nuA tx A < lo ∨ hi < nuA tx A then (.inl (4, A.1.2.1), lo) else (.inr A, nuA tx A)
def oWh (tx : Nat → Int32) (n lo hi : Nat) (r : RsD) : RsD × Nat := (oNext tx n (oBd tx lo hi r).1, (oBd tx lo hi r).2)
def lsA (w : Nat) : Nat → Option Nat
  | 0 => none
  | i + 1 => match lsA w i with
    | some j => some j
    | none => if w = pkC i then some i else none
def fdN (N : NmD) (w : Nat) : Nat → Option Nat
  | 0 => none
  | i + 1 => match fdN N w i with
    | some j => some j
    | none => if (N.2 i).1 = w then some i else none
def oKo (tx : Nat → Int32) (N : NmD) (s : Nat) (r : RsD) : RsD × Nat := match r with
  | .inl f => (.inl f, 0)
  | .inr A => if A.1.1 = 1 ∧ lsA (wdA tx A) 9 = none then (match fdN N (wdA tx A) N.1 with
    | none => (.inl (2, A.1.2.1), 0)
    | some i => if (N.2 i).2.1 = s then (.inr A, (N.2 i).2.2) else (.inl (2, A.1.2.1), 0)) else (.inl (1, A.1.2.1), 0)
def oKn (tx : Nat → Int32) (n : Nat) (N : NmD) (s : Nat) (r : RsD) : RsD × Nat := (oNext tx n (oKo tx N s r).1, (oKo tx N s r).2)
def oFr (tx : Nat → Int32) (n : Nat) (N : NmD) (r : RsD) : RsD × Nat := match r with
  | .inl f => (.inl f, 0)
  | .inr A => if A.1.1 = 1 ∧ lsA (wdA tx A) 9 = none then (if fdN N (wdA tx A) N.1 = none then (.inr (nxT tx n A.1.2.2, A.2), wdA tx A) else (.inl (3, A.1.2.1), 0)) else (.inl (1, A.1.2.1), 0)
def adN (N : NmD) (w s k : Nat) : NmD := (N.1 + 1, fun i => if i = N.1 then (w, s, k) else N.2 i)
theorem fd_s {N : NmD} {w i : Nat} : fdN N w (i + 1) = match fdN N w i with
    | some j => some j
    | none => if (N.2 i).1 = w then some i else none := rfl
theorem nI_ec {n k : Nat} {x : Int32} (hx : x = nI k) (h : n < 2 ^ 31) (hk : k < 2 ^ 31) : nI n = x ↔ n = k := by
  subst hx; exact nI_eq h hk
theorem fd_lt {N : NmD} {w : Nat} : ∀ m i, fdN N w m = some i → i < m ∧ (N.2 i).1 = w ∧ ∀ j, j < i → ¬ (N.2 j).1 = w
  | 0, i, h => by cases h
  | m + 1, i, h => by
    unfold fdN at h
    cases hb : fdN N w m with
    | some j =>
      rw [hb] at h
      cases h
      obtain ⟨a, b, c⟩ := fd_lt m i hb
      exact ⟨by omega, b, c⟩
    | none =>
      rw [hb] at h
      dsimp only at h
      by_cases z : (N.2 m).1 = w
      · rw [if_pos z] at h
        cases h
        exact ⟨by omega, z, fun j hj q => fd_no m hb j hj q⟩
      · rw [if_neg z] at h; cases h
where
  fd_no : ∀ m, fdN N w m = none → ∀ j, j < m → ¬ (N.2 j).1 = w
  | 0, _, j, hj => absurd hj (Nat.not_lt_zero j)
  | m + 1, h, j, hj => by
    unfold fdN at h
    cases hb : fdN N w m with
    | some i => rw [hb] at h; cases h
    | none =>
      rw [hb] at h
      dsimp only at h
      by_cases z : (N.2 m).1 = w
      · rw [if_pos z] at h; cases h
      · by_cases y : j = m
        · rw [y]; exact z
        · exact fd_no m hb j (by omega)
theorem fd_st {N : NmD} {w i : Nat} : ∀ m, i < m → (N.2 i).1 = w → (∀ j, j < i → ¬ (N.2 j).1 = w) → fdN N w m = some i
  | 0, h, _, _ => absurd h (Nat.not_lt_zero i)
  | m + 1, h, e, q => by
    unfold fdN
    by_cases y : i = m
    · subst y
      have : fdN N w i = none := by
        cases hb : fdN N w i with
        | none => rfl
        | some j => have := fd_lt i j hb; exact absurd this.2.1 (q j this.1)
      rw [this]
      dsimp only
      rw [if_pos e]
    · rw [fd_st m (by omega) e q]
theorem fd_nn {N : NmD} {w m : Nat} (q : ∀ j, j < m → ¬ (N.2 j).1 = w) : fdN N w m = none := by
  cases hb : fdN N w m with
  | none => rfl
  | some j => have := fd_lt m j hb; exact absurd this.2.1 (q j this.1)
theorem ls_c {w : Nat} : ∀ m, m ≤ 23 → lsA w m = none ∨ ∃ i, i < m ∧ lsA w m = some i ∧ w = pkC i
  | 0, _ => Or.inl rfl
  | m + 1, hm => by
    unfold lsA
    rcases ls_c m (by omega) with q | ⟨i, a, b, c⟩
    · rw [q]
      dsimp only
      by_cases z : w = pkC m
      · rw [if_pos z]; exact Or.inr ⟨m, by omega, rfl, z⟩
      · rw [if_neg z]; exact Or.inl rfl
    · rw [b]; exact Or.inr ⟨i, by omega, rfl, c⟩
theorem ls_i {w i : Nat} (e : w = pkC i) : ∀ m, m ≤ 23 → i < m → lsA w m = some i
  | 0, _, h => absurd h (Nat.not_lt_zero i)
  | m + 1, hm, h => by
    unfold lsA
    by_cases y : i = m
    · rcases ls_c (w := w) m (by omega) with q | ⟨j, a, b, c⟩
      · rw [q]
        dsimp only
        rw [if_pos (by rw [e, y]), y]
      · have := pkC_ne j (by omega) i (by omega) (by rw [← c, e])
        omega
    · rw [ls_i e m (by omega) (by omega)]
theorem ls_n {w m : Nat} (hm : m ≤ 23) (q : ∀ i, i < m → ¬ w = pkC i) : lsA w m = none := by
  rcases ls_c (w := w) m hm with e | ⟨i, a, b, c⟩
  · exact e
  · exact absurd c (q i a)
/-- with a name more, of another sort -/
theorem ko_ad {tx : Nat → Int32} {N : NmD} {s w s1 k : Nat} {r : RsD} (hs : s1 ≠ s) : oKo tx (adN N w s1 k) s r = oKo tx N s r := by
  cases r with
  | inl f => rfl
  | inr A =>
    unfold oKo
    dsimp only
    split
    · rename_i hz
      have lo : ∀ j, j < N.1 → (adN N w s1 k).2 j = N.2 j := fun j hj => if_neg (by omega)
      have hi : (adN N w s1 k).2 N.1 = (w, s1, k) := if_pos rfl
      have fl : ∀ m, m ≤ N.1 → fdN (adN N w s1 k) (wdA tx A) m = fdN N (wdA tx A) m := by
        intro m
        induction m with
        | zero => intro _; rfl
        | succ m ih =>
          intro hm
          unfold fdN
          rw [ih (by omega), lo m (by omega)]
      have e1 : fdN (adN N w s1 k) (wdA tx A) (adN N w s1 k).1 = match fdN N (wdA tx A) N.1 with
          | some j => some j
          | none => if ((adN N w s1 k).2 N.1).1 = wdA tx A then some N.1 else none := by
        show fdN (adN N w s1 k) (wdA tx A) (N.1 + 1) = _
        rw [fd_s, fl N.1 (Nat.le_refl _)]
      rw [e1]
      cases hb : fdN N (wdA tx A) N.1 with
      | some j =>
        dsimp only
        rw [lo j (fd_lt _ _ hb).1]
      | none =>
        dsimp only
        by_cases y : ((adN N w s1 k).2 N.1).1 = wdA tx A
        · rw [if_pos y]
          dsimp only
          rw [hi, if_neg hs]
        · rw [if_neg y]
    · rfl
/-! the class's state, as it reads -/
def Fq (h h1 : PH) (sp : Nat) : Prop := h1.length = h.length ∧ ∀ i, ¬ (sp ≤ i ∧ i < sp + 29) → ¬ (160 ≤ i ∧ i < 165) → h1[i]? = h[i]?
theorem Fq.rf {h : PH} {sp : Nat} : Fq h h sp := ⟨rfl, fun _ _ _ => rfl⟩
theorem Fq.tr {h h1 h2 : PH} {sp : Nat} (a : Fq h h1 sp) (b : Fq h1 h2 sp) : Fq h h2 sp := ⟨b.1.trans a.1, fun i x y => (b.2 i x y).trans (a.2 i x y)⟩
theorem Fr.q1 {h h1 : PH} {lo hi sp : Nat} (a : Fr h h1 lo hi) (x : 160 ≤ lo) (y : hi ≤ 165) : Fq h h1 sp := ⟨a.1, fun i p q => a.2 i (by omega)⟩
theorem Fr.q2 {h h1 : PH} {lo hi sp : Nat} (a : Fr h h1 lo hi) (x : sp ≤ lo) (y : hi ≤ sp + 29) : Fq h h1 sp := ⟨a.1, fun i p q => a.2 i (by omega)⟩
def NmC (h : PH) (tx : Nat → Int32) (n : Nat) (N : NmD) : Prop := ∃ f1 f2 f3 f4, Fu h 161 16 f1 ∧ Fu h 162 16 f2 ∧ Fu h 163 16 f3 ∧ Fu h 164 16 f4 ∧ ∀ k, k < N.1 → (∃ s l, f1 k = nI s ∧ f2 k = nI (s + l) ∧ s + l ≤ n ∧ (∀ i, i < l → isLt (tx (s + i)) = true) ∧ pkN tx s l = (N.2 k).1) ∧ f3 k = nI (N.2 k).2.1 ∧ f4 k = nI (N.2 k).2.2
/-- what holds of a law as it is read, of its names -/
def LawI (L : LawD) (N : NmD) (told : Bool) : Prop :=
  (nC L ≤ 5 ∧ nP L ≤ 5 ∧ nR L ≤ 4 ∧ nQ L ≤ 5 ∧ nS L ≤ 6 ∧ nK L ≤ 12 ∧ nL L ≤ 8 ∧ N.1 = nC L + nP L + nS L) ∧
  ((∀ p, p < nP L → frs L p < nC L) ∧ (∀ k, k < nR L → rpe L k < nP L ∧ rch L k < nC L) ∧ (∀ k, k < nQ L → cpe L k < nP L)) ∧
  (∀ k, k < N.1 → ((N.2 k).2.1 = 1 → (N.2 k).2.2 < nC L) ∧ ((N.2 k).2.1 = 3 → (N.2 k).2.2 < nP L) ∧ ((N.2 k).2.1 = 7 → (N.2 k).2.2 < nS L) ∧ ((N.2 k).2.1 = 1 ∨ (N.2 k).2.1 = 3 ∨ (N.2 k).2.1 = 7)) ∧
  ((told = true → ∃ r, r ≤ 9 ∧ root L = nI r) ∧ (told = false → nC L = 0 ∧ nP L = 0 ∧ nR L = 0 ∧ nQ L = 0 ∧ nS L = 0 ∧ nK L = 0 ∧ nL L = 0) ∧ (∀ k, k < nR L → (∃ j, 1 ≤ j ∧ j ≤ 12 ∧ rho L k = nI j) ∧ (∃ j, j ≤ 100 ∧ rod L k = nI j)) ∧ (∀ k, k < nQ L → (∃ j, j ≤ 99 ∧ cho L k = nI j)) ∧ (∀ s, s < nS L → (∃ j, j ≤ 99 ∧ crd L s = nI j) ∧ ∃ b, b < 2 ^ nS L ∧ nea L s = nI b) ∧ (∀ k j, j < k → k < nQ L → cpe L j = cpe L k → cho L j < cho L k)) ∧
  ((∀ c d, c < 5 → d < 5 → ∃ j, j ≤ 9 ∧ far L c d = nI j) ∧ (∀ p c, p < 5 → c < 5 → ∃ j, j ≤ 99 ∧ wor L p c = nI j) ∧ (∀ p, p < 5 → ∃ b, b < 32 ∧ L.1 9 p = nI b ∧ ∀ c, c < 5 → b.testBit c = false → wor L p c = 0) ∧ (∀ s, nS L ≤ s → s < 6 → nea L s = 0))
def CuOk (tx : Nat → Int32) (n : Nat) (cu : CuD) : Prop := ∃ pos, pos ≤ n ∧ cu = nxT tx n pos
theorem CuOk.p {tx : Nat → Int32} {n : Nat} {cu : CuD} (e : CuOk tx n cu) : cu.2.1 ≤ cu.2.2 ∧ cu.2.2 ≤ n ∧ cu.1 ≤ 4 ∧ (cu.1 = 0 → cu.2.1 = n) ∧ (¬ cu.1 = 0 → cu.2.1 < cu.2.2) ∧ (cu.1 = 1 → cu.2.2 - cu.2.1 ≤ 8 ∧ ∀ i, i < cu.2.2 - cu.2.1 → isLt (tx (cu.2.1 + i)) = true) ∧ (cu.1 = 2 → cu.2.2 - cu.2.1 ≤ 3 ∧ ∀ i, i < cu.2.2 - cu.2.1 → isDg (tx (cu.2.1 + i)) = true) := by
  obtain ⟨pos, hp, rfl⟩ := e
  exact (nxT_p hp).2
theorem CuOk.nx {tx : Nat → Int32} {n : Nat} {cu : CuD} (e : CuOk tx n cu) : CuOk tx n (nxT tx n cu.2.2) := ⟨_, e.p.2.1, rfl⟩
def CG (h : PH) (sp : Nat) (tx : Nat → Int32) (n : Nat) (N : NmD) (A : AsD) : Prop := CuOk tx n A.1 ∧ (N.1 ≤ 16 ∧ nQ A.2.2 ≤ 5) ∧ ∃ v, RdS h v sp tx ∧ (v 1 = nI n ∧ v 3 = bI A.2.1 ∧ v 4 = nI A.1.1 ∧ v 5 = nI A.1.2.1 ∧ v 6 = nI A.1.2.2 ∧ v 7 = 0 ∧ v 9 = nI N.1) ∧ NmC h tx n N ∧ LawC h sp A.2.2
def CB (h : PH) (sp : Nat) (tx : Nat → Int32) (n f pl : Nat) : Prop := 0 < f ∧ f < 100 ∧ ∃ v L, RdS h v sp tx ∧ (v 1 = nI n ∧ v 7 = nI f ∧ v 8 = nI pl) ∧ ((∃ f, Fu h 161 16 f) ∧ (∃ f, Fu h 162 16 f) ∧ (∃ f, Fu h 163 16 f) ∧ ∃ f, Fu h 164 16 f) ∧ LawC h sp L ∧ nQ L ≤ 5
def CX (h : PH) (sp : Nat) (tx : Nat → Int32) (n : Nat) (N : NmD) (r : RsD) : Prop := match r with
  | .inl f => CB h sp tx n f.1 f.2
  | .inr A => CG h sp tx n N A
section Y2
variable {h : PH} {sp n f pl : Nat} {tx : Nat → Int32} {N : NmD} {A : AsD}
theorem CG.cl {X : Type} (e : CG h sp tx n N A) (o : Option X) : cl h 5 (some 160) o = o := by
  obtain ⟨-, -, v, a, -⟩ := e
  exact a.cl o
theorem CB.cl {X : Type} (e : CB h sp tx n f pl) (o : Option X) : cl h 5 (some 160) o = o := by
  obtain ⟨-, -, v, L, a, -⟩ := e
  exact a.cl o
theorem NmC.fr {h1 : PH} {lo hi : Nat} (e : NmC h tx n N) (F : Fr h h1 lo hi) (q : hi ≤ 161 ∨ 165 ≤ lo) : NmC h1 tx n N := by
  obtain ⟨f1, f2, f3, f4, a1, a2, a3, a4, a5⟩ := e
  exact ⟨f1, f2, f3, f4, a1.fr F (by omega), a2.fr F (by omega), a3.fr F (by omega), a4.fr F (by omega), a5⟩
theorem cg_next (e : CG h sp tx n N A) (hn : n ≤ 900) (hs : sp = 102 ∨ sp = 131) : ∃ h1, Jvm.Pilot.CWaverTaxLaw_law_r8537_6f3a17.cl h 5 (some 160) (f_Reader_next h (some 160)) = some h1 ∧ CG h1 sp tx n N (nxT tx n A.1.2.2, A.2) ∧ Fq h h1 sp := by
  obtain ⟨c0, c1, v, a, ⟨v1, v3, v4, v5, v6, v7, v9⟩, b, d⟩ := e
  obtain ⟨h1, q1, w, q2, ⟨w4, w5, w6, w7⟩, q4⟩ := rd_next a hn c0.p.2.1 v1 v6
  exact ⟨h1, q1, ⟨c0.nx, c1, w, q2, ⟨(w7 1 (by omega) (by omega) (by omega)).trans v1, (w7 3 (by omega) (by omega) (by omega)).trans v3, w4, w5, w6, (w7 7 (by omega) (by omega) (by omega)).trans v7, (w7 9 (by omega) (by omega) (by omega)).trans v9⟩, b.fr q4 (by omega), q4.lc (LawC.lc _ _) (by omega) d⟩, q4.q1 (by omega) (by omega)⟩
theorem cg_fail (e : CG h sp tx n N A) (hs : sp = 102 ∨ sp = 131) {k : Nat} (h0 : 0 < k) (h1 : k < 100) (pl : Nat) : ∃ h1, Jvm.Pilot.CWaverTaxLaw_law_r8537_6f3a17.cl h 5 (some 160) (f_Reader_fail h (some 160) (nI k) (nI pl)) = some h1 ∧ CB h1 sp tx n k pl ∧ Fq h h1 sp := by
  obtain ⟨c0, c1, v, a, ⟨v1, v3, v4, v5, v6, v7, v9⟩, ⟨f1, f2, f3, f4, b1, b2, b3, b4, -⟩, d⟩ := e
  obtain ⟨h2, x1, x2, x3⟩ := a.set (k := 7) (by omega) (nI k)
  obtain ⟨h3, y1, y2, y3⟩ := x2.set (k := 8) (by omega) (nI pl)
  have F := x3.tr y3
  refine ⟨h3, ?_, ⟨h0, h1, _, A.2.2, y2, ⟨v1, rfl, rfl⟩, ⟨⟨_, b1.fr F (by omega)⟩, ⟨_, b2.fr F (by omega)⟩, ⟨_, b3.fr F (by omega)⟩, ⟨_, b4.fr F (by omega)⟩⟩, F.lc (LawC.lc _ _) (by omega) d, c1.2⟩, F.q1 (by omega) (by omega)⟩
  rw [a.cl]
  unfold f_Reader_fail
  rw [a.g (by omega), Option.bind_some, v7, if_neg (fun q => q rfl), x1, Option.bind_some, y1, Option.bind_some]
theorem cb_fail (e : CB h sp tx n f pl) (x y : Int32) : Jvm.Pilot.CWaverTaxLaw_law_r8537_6f3a17.cl h 5 (some 160) (f_Reader_fail h (some 160) x y) = some h := by
  obtain ⟨c0, c1, v, L, a, ⟨v1, v7, v8⟩, -⟩ := e
  rw [a.cl]
  unfold f_Reader_fail
  rw [a.g (by omega), Option.bind_some, v7, if_pos (fun q => by have := (nI_e0 (by omega)).mp q; omega)]
theorem CG.g5 (e : CG h sp tx n N A) : gI h 5 (some 160) 5 = some (nI A.1.2.1) ∧ gI h 5 (some 160) 7 = some 0 ∧ gI h 5 (some 160) 4 = some (nI A.1.1) ∧ gI h 5 (some 160) 1 = some (nI n) ∧ gI h 5 (some 160) 3 = some (bI A.2.1) ∧ gR h 5 (some 160) 2 = some (some sp) := by
  obtain ⟨c0, c1, v, a, ⟨v1, v3, v4, v5, v6, v7, v9⟩, -⟩ := e
  rw [a.g (k := 5) (by omega), a.g (k := 7) (by omega), a.g (k := 4) (by omega), a.g (k := 1) (by omega), a.g (k := 3) (by omega), a.g2, v1, v3, v4, v5, v7]
  exact ⟨rfl, rfl, rfl, rfl, rfl, rfl⟩
theorem CB.g7 (e : CB h sp tx n f pl) : (∃ x, gI h 5 (some 160) 5 = some x) ∧ gI h 5 (some 160) 7 = some (nI f) ∧ gI h 5 (some 160) 8 = some (nI pl) ∧ gI h 5 (some 160) 1 = some (nI n) ∧ gR h 5 (some 160) 2 = some (some sp) ∧ ¬ nI f = 0 := by
  obtain ⟨c0, c1, v, L, a, ⟨v1, v7, v8⟩, -⟩ := e
  rw [a.g (k := 5) (by omega), a.g (k := 7) (by omega), a.g (k := 8) (by omega), a.g (k := 1) (by omega), a.g2, v1, v7, v8]
  exact ⟨⟨_, rfl⟩, rfl, rfl, rfl, rfl, fun q => by have := (nI_e0 (by omega)).mp q; omega⟩
theorem sLen_i {i : Nat} (hi : i < 23) : sLen (some i) = some (nI (sLn i)) := by
  unfold sLen
  dsimp only
  rw [if_pos (by omega)]
  rfl
theorem sAt_i {i j : Nat} (hi : i < 23) (hj : j < sLn i) : sAt (some i) (nI j) = some (sBy i j) := by
  have := (sLn_8 i hi).2
  unfold sAt
  dsimp only
  rw [nI_clamp (by omega), if_pos ⟨by omega, nI_pos (by omega), hj⟩]
theorem cg_is (e : CG h sp tx n N A) (hn : n ≤ 900) {i : Nat} (hi : i < 23) : Jvm.Pilot.CWaverTaxLaw_law_r8537_6f3a17.cl h 5 (some 160) (f_Reader_is h (some 160) (some i)) = some (if A.1.1 = 1 ∧ wdA tx A = pkC i then 1 else 0) := by
  obtain ⟨c0, c1, v, a, ⟨v1, v3, v4, v5, v6, v7, v9⟩, -⟩ := e
  obtain ⟨p1, p2, p3, p4, p5, p6, p7⟩ := c0.p
  have ⟨s1, s2⟩ := sLn_8 i hi
  have sb := sBy_lt i hi
  rw [a.cl]
  unfold f_Reader_is
  rw [a.g (k := 4) (by omega), Option.bind_some, v4]
  by_cases z : A.1.1 = 1
  · obtain ⟨q1, q2⟩ := p6 z
    rw [z, if_neg (fun q => q rfl), a.g (k := 6) (by omega), Option.bind_some, a.g (k := 5) (by omega), Option.bind_some, v5, v6, pk_sub p1, sLen_i hi, Option.bind_some]
    have inj : wdA tx A = pkC i → A.1.2.2 - A.1.2.1 = sLn i ∧ ∀ j, j < A.1.2.2 - A.1.2.1 → tx (A.1.2.1 + j) = sBy i j := by
      intro q
      have := pkN_inj (t := tx) (u := fun j => sBy i j) (s := A.1.2.1) (r := 0) (A.1.2.2 - A.1.2.1) (sLn i) q2 (fun j hj => by rw [Nat.zero_add]; exact sb j hj) q
      refine ⟨this.1, fun j hj => ?_⟩
      have := this.2 j hj
      rw [Nat.zero_add] at this
      exact this
    by_cases y : A.1.2.2 - A.1.2.1 = sLn i
    · rw [if_pos (by rw [y])]
      obtain ⟨x, l1, l2⟩ := pj_inv (step := fun s5 : Int32 => (some (nI (sLn i))).bind fun v7 => if v7 ≤ s5 then (some (.inr (.inl ())) : Option (Int32 ⊕ (Unit ⊕ Unit))) else ((gR h 5 (some 160) 0).bind fun v8 => (some (nI A.1.2.1)).bind fun v9 => (aB h v8 (v9 + s5)).bind fun v10 => (sAt (some i) s5).bind fun v11 => if v10 = v11 then (some (.inl (s5 + (1 : Int32)))) else (some (.inr (.inr ()))))) (fun j s => s = nI j ∧ ∀ k, k < j → tx (A.1.2.1 + k) = sBy i k) (fun x => (x = .inl () ∧ wdA tx A = pkC i) ∨ (x = .inr () ∧ ¬ wdA tx A = pkC i)) (sLn i) (s0 := (0 : Int32)) (by omega) ⟨rfl, fun k hk => absurd hk (Nat.not_lt_zero k)⟩ (by
          rintro j s hj ⟨rfl, x2⟩
          rw [Option.bind_some, if_neg (nI_ge hj (by omega)), a.g0, Option.bind_some, Option.bind_some, nI_add, a.by (by omega), Option.bind_some, sAt_i hi hj, Option.bind_some, nI_s]
          by_cases w : tx (A.1.2.1 + j) = sBy i j
          · rw [if_pos w]
            refine Or.inl ⟨_, rfl, rfl, fun k hk => ?_⟩
            by_cases u : k = j
            · rw [u]; exact w
            · exact x2 k (by omega)
          · rw [if_neg w]
            exact Or.inr ⟨_, rfl, Or.inr ⟨rfl, fun q => w ((inj q).2 j (by omega))⟩⟩) (by
          rintro s ⟨rfl, x2⟩
          rw [Option.bind_some, if_pos (nI_le (Nat.le_refl _) (by omega))]
          refine ⟨_, rfl, Or.inl ⟨rfl, ?_⟩⟩
          unfold wdA pkC
          rw [y]
          exact pkN_cg _ (fun k hk => by rw [Nat.zero_add]; exact x2 k hk))
      rw [l1, Option.bind_some]
      rcases l2 with ⟨rfl, l3⟩ | ⟨rfl, l3⟩
      · rw [if_pos ⟨rfl, l3⟩]
      · rw [if_neg (fun q => l3 q.2)]
    · rw [if_neg (fun q => y ((nI_eq (by omega) (by omega)).mp q)), if_neg (fun q => y (inj q.2).1)]
  · rw [if_pos (fun q => z ((nI_ec (x := 1) (k := 1) rfl (by omega) (by omega)).mp q)), if_neg (fun q => z q.1)]
/-- the sort of a line -/
def lsI (o : Option Nat) : Int32 := match o with
  | none => -1
  | some i => nI i
theorem cg_ls (e : CG h sp tx n N A) (hn : n ≤ 900) : Jvm.Pilot.CWaverTaxLaw_law_r8537_6f3a17.cl h 5 (some 160) (f_Reader_lineSort h (some 160)) = some (lsI (if A.1.1 = 1 then lsA (wdA tx A) 9 else none)) := by
  have is := fun i (hi : i < 23) => cg_is e hn hi
  rw [e.cl]
  unfold f_Reader_lineSort
  rw [e.g5.2.2.1, Option.bind_some]
  by_cases z : A.1.1 = 1
  · rw [z, if_pos (show nI 1 = 1 from rfl), if_pos rfl]
    have is' : ∀ i, i < 23 → Jvm.Pilot.CWaverTaxLaw_law_r8537_6f3a17.cl h 5 (some 160) (f_Reader_is h (some 160) (some i)) = some (if wdA tx A = pkC i then 1 else 0) := by
      intro i hi
      rw [is i hi]
      simp [z]
    simp only [is' 0 (by omega), is' 1 (by omega), is' 2 (by omega), is' 3 (by omega), is' 4 (by omega), is' 5 (by omega), is' 6 (by omega), is' 7 (by omega), is' 8 (by omega), Option.bind_some]
    by_cases w0 : wdA tx A = pkC 0
    · rw [ls_i w0 9 (by omega) (by omega)]; simp [w0, lsI]; rfl
    by_cases w1 : wdA tx A = pkC 1
    · rw [ls_i w1 9 (by omega) (by omega), if_neg w0]; simp [w1, lsI]; rfl
    by_cases w2 : wdA tx A = pkC 2
    · rw [ls_i w2 9 (by omega) (by omega), if_neg w0, if_neg w1]; simp [w2, lsI]; rfl
    by_cases w3 : wdA tx A = pkC 3
    · rw [ls_i w3 9 (by omega) (by omega), if_neg w0, if_neg w1, if_neg w2]; simp [w3, lsI]; rfl
    by_cases w4 : wdA tx A = pkC 4
    · rw [ls_i w4 9 (by omega) (by omega), if_neg w0, if_neg w1, if_neg w2, if_neg w3]; simp [w4, lsI]; rfl
    by_cases w5 : wdA tx A = pkC 5
    · rw [ls_i w5 9 (by omega) (by omega), if_neg w0, if_neg w1, if_neg w2, if_neg w3, if_neg w4]; simp [w5, lsI]; rfl
    by_cases w6 : wdA tx A = pkC 6
    · rw [ls_i w6 9 (by omega) (by omega), if_neg w0, if_neg w1, if_neg w2, if_neg w3, if_neg w4, if_neg w5]; simp [w6, lsI]; rfl
    by_cases w7 : wdA tx A = pkC 7
    · rw [ls_i w7 9 (by omega) (by omega), if_neg w0, if_neg w1, if_neg w2, if_neg w3, if_neg w4, if_neg w5, if_neg w6]; simp [w7, lsI]; rfl
    by_cases w8 : wdA tx A = pkC 8
    · rw [ls_i w8 9 (by omega) (by omega), if_neg w0, if_neg w1, if_neg w2, if_neg w3, if_neg w4, if_neg w5, if_neg w6, if_neg w7]; simp [w8, lsI]; rfl
    · rw [ls_n (by omega) (fun i hi => by
        have : i = 0 ∨ i = 1 ∨ i = 2 ∨ i = 3 ∨ i = 4 ∨ i = 5 ∨ i = 6 ∨ i = 7 ∨ i = 8 := by omega
        rcases this with rfl | rfl | rfl | rfl | rfl | rfl | rfl | rfl | rfl <;> assumption), if_neg w0, if_neg w1, if_neg w2, if_neg w3, if_neg w4, if_neg w5, if_neg w6, if_neg w7, if_neg w8]
      rfl
  · rw [if_neg (fun q => z ((nI_ec (x := 1) (k := 1) rfl (by have := e.1.p.2.2.1; omega) (by omega)).mp q)), if_neg z]
    rfl
end Y2
