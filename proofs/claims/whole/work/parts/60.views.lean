/-! PHASE 2: what the cells say; the law and the hour as functions -/
theorem pj_for {S X : Type} {step : S → Option (S ⊕ X)} (st : Nat → S) (x : X) : ∀ (n F : Nat), n < F → (∀ i, i < n → step (st i) = some (.inl (st (i + 1)))) → step (st n) = some (.inr x) → pj_it step F (st 0) = some x := by
  intro n
  induction n generalizing st with
  | zero =>
    intro F hF _ he
    cases F with
    | zero => omega
    | succ F => show (step (st 0)).bind _ = _; rw [he]; rfl
  | succ n ih =>
    intro F hF hs he
    cases F with
    | zero => omega
    | succ F =>
      show (step (st 0)).bind _ = _
      rw [hs 0 (by omega)]
      exact ih (fun i => st (i + 1)) F (by omega) (fun i hi => hs (i + 1) (by omega)) he
theorem cl_of {X : Type} {h : PH} {t : Nat} {a : Option Nat} {fs : List PV} (e : pj_at h t a = some fs) (o : Option X) : cl h t a o = o := by
  unfold cl; rw [e]; rfl
theorem cl_gI {X : Type} {h : PH} {t k : Nat} {a : Option Nat} {x : Int32} (e : gI h t a k = some x) (o : Option X) : cl h t a o = o := by
  unfold gI gV at e
  cases hp : pj_at h t a with
  | none => rw [hp] at e; cases e
  | some fs => exact cl_of hp o
theorem cl_gR {X : Type} {h : PH} {t k : Nat} {a x : Option Nat} (e : gR h t a k = some x) (o : Option X) : cl h t a o = o := by
  unfold gR gV at e
  cases hp : pj_at h t a with
  | none => rw [hp] at e; cases e
  | some fs => exact cl_of hp o
/-- a law: whole numbers by a row and a place; counts and numbers of things -/
abbrev LawD : Type := (Nat → Nat → Int32) × (Nat → Nat → Nat)
abbrev root (L : LawD) : Int32 := L.1 0 0
abbrev third (L : LawD) : Int32 := L.1 0 1
abbrev srt (L : LawD) (p : Nat) : Int32 := L.1 1 p
abbrev rho (L : LawD) (k : Nat) : Int32 := L.1 2 k
abbrev rod (L : LawD) (k : Nat) : Int32 := L.1 3 k
abbrev rmo (L : LawD) (k : Nat) : Int32 := L.1 4 k
abbrev cam (L : LawD) (k : Nat) : Int32 := L.1 5 k
abbrev cho (L : LawD) (k : Nat) : Int32 := L.1 6 k
abbrev crd (L : LawD) (s : Nat) : Int32 := L.1 7 s
abbrev nea (L : LawD) (s : Nat) : Int32 := L.1 8 s
abbrev far (L : LawD) (c d : Nat) : Int32 := L.1 (10 + c) d
abbrev wor (L : LawD) (p c : Nat) : Int32 := L.1 (20 + p) c
abbrev nC (L : LawD) : Nat := L.2 0 0
abbrev nP (L : LawD) : Nat := L.2 0 1
abbrev nK (L : LawD) : Nat := L.2 0 2
abbrev nR (L : LawD) : Nat := L.2 0 3
abbrev nQ (L : LawD) : Nat := L.2 0 4
abbrev nS (L : LawD) : Nat := L.2 0 5
abbrev nL (L : LawD) : Nat := L.2 0 6
abbrev frs (L : LawD) (p : Nat) : Nat := L.2 1 p
abbrev rpe (L : LawD) (k : Nat) : Nat := L.2 2 k
abbrev rch (L : LawD) (k : Nat) : Nat := L.2 3 k
abbrev cpe (L : LawD) (k : Nat) : Nat := L.2 4 k
def LawOk (L : LawD) : Prop := 1 ≤ nC L ∧ nC L ≤ 5 ∧ nP L ≤ 5 ∧ nR L ≤ 4 ∧ nQ L ≤ 5 ∧ nS L ≤ 6 ∧ (∀ p, p < nP L → frs L p < nC L) ∧ (∀ k, k < nR L → rpe L k < nP L ∧ rch L k < nC L) ∧ (∀ k, k < nQ L → cpe L k < nP L)
/-- how all stands: hour, seed, bits of the reasons that came; turns, spent, latest; held -/
abbrev NowD : Type := (Nat → Nat → Int32) × (Nat → Nat)
abbrev hou (N : NowD) : Int32 := N.1 0 0
abbrev sed (N : NowD) : Int32 := N.1 0 1
abbrev cme (N : NowD) : Int32 := N.1 0 2
abbrev tur (N : NowD) (p : Nat) : Int32 := N.1 1 p
abbrev spe (N : NowD) (p : Nat) : Int32 := N.1 2 p
abbrev lat (N : NowD) (p : Nat) : Int32 := N.1 3 p
abbrev hel (N : NowD) (p : Nat) : Nat := N.2 p
/-- an array of ints holds f up to n -/
def Ar (h : PH) (a : Nat) (n : Nat) (f : Nat → Int32) : Prop := ∀ p, p < n → aI h (some a) (nI p) = some (f p)
/-! the class's law and now -/
def LawV (h : PH) (lw : Nat) (L : LawD) : Prop :=
  (gI h 1 (some lw) 0 = some (root L) ∧ gI h 1 (some lw) 1 = some (third L) ∧ gI h 1 (some lw) 2 = some (nI (nC L)) ∧ gI h 1 (some lw) 3 = some (nI (nP L)) ∧ gI h 1 (some lw) 4 = some (nI (nK L))) ∧
  (∃ a, gR h 1 (some lw) 5 = some (some a) ∧ ∀ c, c < nC L → ∃ b, aR h 53 (some a) (nI c) = some (some b) ∧ Ar h b (nC L) (far L c)) ∧
  (∃ a, gR h 1 (some lw) 6 = some (some a) ∧ Ar h a (nP L) (srt L)) ∧
  (∃ a, gR h 1 (some lw) 7 = some (some a) ∧ Ar h a (nP L) (fun p => nI (frs L p))) ∧
  (∃ a, gR h 1 (some lw) 8 = some (some a) ∧ ∀ p, p < nP L → ∃ b, aR h 53 (some a) (nI p) = some (some b) ∧ Ar h b (nC L) (wor L p)) ∧
  (∃ r, gR h 1 (some lw) 10 = some (some r) ∧ gI h 6 (some r) 0 = some (nI (nR L)) ∧ (∃ a, gR h 6 (some r) 1 = some (some a) ∧ Ar h a (nR L) (fun k => nI (rpe L k))) ∧ (∃ a, gR h 6 (some r) 2 = some (some a) ∧ Ar h a (nR L) (fun k => nI (rch L k))) ∧ (∃ a, gR h 6 (some r) 3 = some (some a) ∧ Ar h a (nR L) (rho L)) ∧ (∃ a, gR h 6 (some r) 4 = some (some a) ∧ Ar h a (nR L) (rod L)) ∧ (∃ a, gR h 6 (some r) 5 = some (some a) ∧ Ar h a (nR L) (rmo L))) ∧
  (∃ r, gR h 1 (some lw) 11 = some (some r) ∧ gI h 7 (some r) 0 = some (nI (nQ L)) ∧ (∃ a, gR h 7 (some r) 1 = some (some a) ∧ Ar h a (nQ L) (fun k => nI (cpe L k))) ∧ (∃ a, gR h 7 (some r) 2 = some (some a) ∧ Ar h a (nQ L) (cam L)) ∧ (∃ a, gR h 7 (some r) 3 = some (some a) ∧ Ar h a (nQ L) (cho L))) ∧
  (∃ r, gR h 1 (some lw) 12 = some (some r) ∧ gI h 9 (some r) 0 = some (nI (nS L)) ∧ gI h 9 (some r) 1 = some (nI (nL L)) ∧ (∃ a, gR h 9 (some r) 2 = some (some a) ∧ Ar h a (nS L) (crd L)) ∧ (∃ a, gR h 9 (some r) 3 = some (some a) ∧ Ar h a (nS L) (nea L)))
def NowV (h : PH) (nw n : Nat) (N : NowD) : Prop :=
  (gI h 2 (some nw) 0 = some (hou N) ∧ gI h 2 (some nw) 1 = some (sed N) ∧ gI h 2 (some nw) 2 = some (cme N)) ∧
  (∃ a, gR h 2 (some nw) 3 = some (some a) ∧ Ar h a n (fun p => nI (hel N p))) ∧ (∃ a, gR h 2 (some nw) 4 = some (some a) ∧ Ar h a n (tur N)) ∧ (∃ a, gR h 2 (some nw) 5 = some (some a) ∧ Ar h a n (spe N)) ∧ (∃ a, gR h 2 (some nw) 6 = some (some a) ∧ Ar h a n (lat N))
def DeskV (h : PH) (d lw nw : Nat) (tb th : Int32) : Prop := gR h 0 (some d) 0 = some (some lw) ∧ gR h 0 (some d) 1 = some (some nw) ∧ gI h 0 (some d) 2 = some tb ∧ gI h 0 (some d) 3 = some th
/-! what is reckoned -/
def btS (x : Int32) (k : Nat) : Prop := ((x >>> (nI k &&& 31)) &&& (1 : Int32)) = 1
def farS (L : LawD) (c d : Nat) : Int32 := if c = d then 0 else if far L c d = 0 then 1 else far L c d
def worA (L : LawD) (came : Int32) (p c : Nat) : Nat → Int32
  | 0 => wor L p c
  | k + 1 => if rpe L k = p ∧ rch L k = c ∧ ((came >>> (nI k &&& 31)) &&& (1 : Int32)) = 1 then worA L came p c k + rmo L k else worA L came p c k
def worS (L : LawD) (came : Int32) (p c : Nat) : Int32 := worA L came p c (nR L)
/-- the tax of a change, so many having been (m), the latest so many hours ago (-1: none was) -/
def taxS (L : LawD) (tb th : Int32) (p held c : Nat) (m ago : Int32) : Int32 :=
  if c = held ∨ srt L p = 1 ∨ srt L p = 2 then 0 else
  let t0 := if tb = -1 then farS L held c else tb
  let t1 := if ago = -1 ∨ root L ≤ ago then t0 else t0 * 2
  let t2 := if m < 2 then t1 else t1 * th
  let t3 := if c = frs L p then t2 / 2 else t2
  if srt L p = 3 then 2 * t3 else t3
/-- how long ago one changed latest -/
def agoS (N : NowD) (p : Nat) : Int32 := if lat N p = -2 then -1 else hou N - lat N p
def taxN (L : LawD) (N : NowD) (tb th : Int32) (p c : Nat) : Int32 := taxS L tb th p (hel N p) c (tur N p) (agoS N p)
def lefS (L : LawD) (N : NowD) (tb th : Int32) (p c : Nat) : Int32 := worS L (cme N) p c - taxN L N tb th p c
/-- of the choices below i the first best; from what is held -/
def chA (L : LawD) (N : NowD) (tb th : Int32) (p : Nat) : Nat → Nat × Int32
  | 0 => (hel N p, lefS L N tb th p (hel N p))
  | c + 1 => if (chA L N tb th p c).2 < lefS L N tb th p c then (c, lefS L N tb th p c) else chA L N tb th p c
def chS (L : LawD) (N : NowD) (tb th : Int32) (p : Nat) : Nat := (chA L N tb th p (nC L)).1
/-- how all stands, as it must: who has turned has a latest hour, not behind now -/
def NowOk (L : LawD) (N : NowD) : Prop := (∀ p, p < nP L → hel N p < nC L ∧ ((tur N p = 0 ∧ lat N p = -2) ∨ (0 < tur N p ∧ ¬ lat N p = -2 ∧ 0 ≤ (hou N - lat N p)))) 
theorem nI5 {a b : Nat} (ha : a ≤ 5) (hb : b ≤ 5) : (nI a = nI b) = (a = b) := by
  exact propext (nI_eq (by omega) (by omega))
