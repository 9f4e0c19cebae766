/-! lines, as they are thought -/
def Sub (tx : Nat → Int32) (n : Nat) (r r1 : RsD) : Prop := ∀ B, r1 = .inr B → ∃ A, r = .inr A ∧ A.2 = B.2 ∧ (CuOk tx n A.1 → CuOk tx n B.1 ∧ A.1.2.1 ≤ B.1.2.1)
section U1
variable {tx : Nat → Int32} {n : Nat} {N : NmD} {r r1 r2 : RsD}
theorem Sub.rf : Sub tx n r r := fun B q => ⟨B, q, rfl, fun c => ⟨c, Nat.le_refl _⟩⟩
theorem Sub.tr (a : Sub tx n r r1) (b : Sub tx n r1 r2) : Sub tx n r r2 := by
  intro B q
  obtain ⟨A1, x1, x2, x3⟩ := b B q
  obtain ⟨A, y1, y2, y3⟩ := a A1 x1
  exact ⟨A, y1, y2.trans x2, fun c => ⟨(x3 (y3 c).1).1, Nat.le_trans (y3 c).2 (x3 (y3 c).1).2⟩⟩
theorem sb_nx : Sub tx n r (oNext tx n r) := by
  intro B q
  cases r with
  | inl f => cases q
  | inr A =>
    cases q
    exact ⟨A, rfl, rfl, fun c => ⟨c.nx, Nat.le_trans c.p.1 (nxT_p c.p.2.1).1⟩⟩
theorem sb_kw {i : Nat} : Sub tx n r (oKw tx n i r) := by
  intro B q
  cases r with
  | inl f => cases q
  | inr A =>
    unfold oKw at q
    dsimp only at q
    split at q
    · exact sb_nx (r := .inr A) B q
    · cases q
theorem sb_bd {lo hi : Nat} : Sub tx n r (oBd tx lo hi r).1 := by
  intro B q
  cases r with
  | inl f => cases q
  | inr A =>
    unfold oBd at q
    dsimp only at q
    split at q
    · cases q
    · split at q
      · cases q
      · cases q; exact Sub.rf _ rfl
theorem sb_wh {lo hi : Nat} : Sub tx n r (oWh tx n lo hi r).1 := sb_bd.tr sb_nx
theorem sb_ko {s : Nat} : Sub tx n r (oKo tx N s r).1 := by
  intro B q
  cases r with
  | inl f => cases q
  | inr A =>
    unfold oKo at q
    dsimp only at q
    split at q
    · split at q
      · cases q
      · split at q
        · cases q; exact Sub.rf _ rfl
        · cases q
    · cases q
theorem sb_kn {s : Nat} : Sub tx n r (oKn tx n N s r).1 := sb_ko.tr sb_nx
theorem sb_fr : Sub tx n r (oFr tx n N r).1 := by
  intro B q
  cases r with
  | inl f => cases q
  | inr A =>
    unfold oFr at q
    dsimp only at q
    split at q
    · split at q
      · exact sb_nx (r := .inr A) B q
      · cases q
    · cases q
theorem sb_ps : Sub tx n r (oPs tx n r).1 := by
  intro B q
  cases r with
  | inl f => cases q
  | inr A =>
    unfold oPs at q
    dsimp only at q
    split at q
    · cases q
    · exact sb_nx (r := .inr A) B q
/-- what a whole is -/
theorem wh_b {lo hi : Nat} {B : AsD} (q : (oBd tx lo hi r).1 = .inr B) : lo ≤ (oBd tx lo hi r).2 ∧ (oBd tx lo hi r).2 ≤ hi := by
  cases r with
  | inl f => cases q
  | inr A =>
    unfold oBd at q ⊢
    dsimp only at q ⊢
    by_cases z : ¬ A.1.1 = 2
    · rw [if_pos z] at q; cases q
    · rw [if_neg z] at q ⊢
      by_cases y : nuA tx A < lo ∨ hi < nuA tx A
      · rw [if_pos y] at q; cases q
      · rw [if_neg y]; dsimp only; omega
theorem wh_q {lo hi : Nat} {B : AsD} (q : (oWh tx n lo hi r).1 = .inr B) : lo ≤ (oWh tx n lo hi r).2 ∧ (oWh tx n lo hi r).2 ≤ hi := by
  obtain ⟨A, a, -⟩ := sb_nx (tx := tx) (n := n) B q
  exact wh_b a
/-- what a known name's number is, in any case -/
theorem ko_v {s : Nat} : (oKo tx N s r).2 = 0 ∨ ∃ i, i < N.1 ∧ (N.2 i).2.1 = s ∧ (oKo tx N s r).2 = (N.2 i).2.2 := by
  cases r with
  | inl f => exact Or.inl rfl
  | inr A =>
    unfold oKo
    dsimp only
    split
    · cases hb : fdN N (wdA tx A) N.1 with
      | none => exact Or.inl rfl
      | some i =>
        dsimp only
        by_cases y : (N.2 i).2.1 = s
        · rw [if_pos y]; exact Or.inr ⟨i, (fd_lt _ _ hb).1, y, rfl⟩
        · rw [if_neg y]; exact Or.inl rfl
    · exact Or.inl rfl
theorem ko_g {s : Nat} {B : AsD} (q : (oKo tx N s r).1 = .inr B) : ∃ i, i < N.1 ∧ (N.2 i).2.1 = s ∧ (oKo tx N s r).2 = (N.2 i).2.2 := by
  cases r with
  | inl f => cases q
  | inr A =>
    unfold oKo at q ⊢
    dsimp only at q ⊢
    by_cases z : A.1.1 = 1 ∧ lsA (wdA tx A) 9 = none
    · rw [if_pos z] at q ⊢
      cases hb : fdN N (wdA tx A) N.1 with
      | none => rw [hb] at q; cases q
      | some i =>
        rw [hb] at q
        dsimp only at q ⊢
        by_cases y : (N.2 i).2.1 = s
        · rw [if_pos y]; exact ⟨i, (fd_lt _ _ hb).1, y, rfl⟩
        · rw [if_neg y] at q; cases q
    · rw [if_neg z] at q; cases q
theorem kn_g {s : Nat} {B : AsD} (q : (oKn tx n N s r).1 = .inr B) : ∃ i, i < N.1 ∧ (N.2 i).2.1 = s ∧ (oKn tx n N s r).2 = (N.2 i).2.2 := by
  obtain ⟨A, a, -⟩ := sb_nx (tx := tx) (n := n) B q
  exact ko_g a
theorem nw_b {L : LawD} {t : Bool} (I : LawI L N t) {v s : Nat} (h : v = 0 ∨ ∃ i, i < N.1 ∧ (N.2 i).2.1 = s ∧ v = (N.2 i).2.2) : (s = 1 → v < 5) ∧ (s = 3 → v < 5) ∧ (s = 7 → v < 6) := by
  obtain ⟨i1, i2, i3, -⟩ := I
  rcases h with rfl | ⟨i, a, b, rfl⟩
  · omega
  · obtain ⟨c1, c2, c3, -⟩ := i3 i a
    refine ⟨fun q => ?_, fun q => ?_, fun q => ?_⟩
    · have := c1 (by omega); omega
    · have := c2 (by omega); omega
    · have := c3 (by omega); omega
end U1
/-! what each line does -/
def bitN (x : Int32) (k : Nat) : Int32 := (x >>> (nI k &&& 31)) &&& (1 : Int32)
def fin (r : RsD) (g : AsD → AsD) : RsD := match r with
  | .inl f => .inl f
  | .inr B => .inr (g B)
def chk (r : RsD) (k : Nat) (P : AsD → Bool) : RsD := match r with
  | .inl f => .inl f
  | .inr B => if P B = true then .inl (k, B.1.2.1) else .inr B
def upT (B : AsD) (L : LawD) : AsD := (B.1, B.2.1, L)
section U2
variable (tx : Nat → Int32) (n : Nat) (N : NmD) (A : AsD)
def tax1 : RsD × Nat := oWh tx n 0 9 (oKw tx n 9 (.inr A))
def tax2 : RsD × Nat := oWh tx n 1 4 (oKw tx n 10 (tax1 tx n A).1)
def oTax : RsD := fin (tax2 tx n A).1 fun B => (B.1, true, sL1 (sL1 B.2.2 0 0 (nI (tax1 tx n A).2)) 0 1 (nI (tax2 tx n A).2))
def oCho : RsD := fin (oFr tx n N (.inr A)).1 fun B => upT B (sL2 B.2.2 0 0 (nC B.2.2 + 1))
def far1 : RsD × Nat := oKn tx n N 1 (.inr A)
def far2 : RsD × Nat := oKo tx N 1 (far1 tx n N A).1
def far4 : RsD := oNext tx n (chk (far2 tx n N A).1 3 fun B => decide ((far1 tx n N A).2 = (far2 tx n N A).2) || decide (¬ far B.2.2 (far1 tx n N A).2 (far2 tx n N A).2 = 0))
def far6 : RsD × Nat := oWh tx n 1 9 (oKw tx n 11 (far4 tx n N A))
def oFar : RsD := fin (far6 tx n N A).1 fun B => upT B (sL1 (sL1 B.2.2 (10 + (far1 tx n N A).2) (far2 tx n N A).2 (nI (far6 tx n N A).2)) (10 + (far2 tx n N A).2) (far1 tx n N A).2 (nI (far6 tx n N A).2))
def per2 : RsD × Nat := oPs tx n (oFr tx n N (.inr A)).1
def per4 : RsD × Nat := oKn tx n N 1 (oKw tx n 16 (per2 tx n N A).1)
def oPer : RsD := fin (per4 tx n N A).1 fun B => upT B (sL2 (sL2 (sL1 B.2.2 1 (nP B.2.2) (nI (per2 tx n N A).2)) 1 (nP B.2.2) (per4 tx n N A).2) 0 1 (nP B.2.2 + 1))
def lik1 : RsD × Nat := oKn tx n N 3 (.inr A)
def lik2 : RsD × Nat := oKo tx N 1 (lik1 tx n N A).1
def lik4 : RsD := oNext tx n (chk (lik2 tx n N A).1 3 fun B => decide (bitN (B.2.2.1 9 (lik1 tx n N A).2) (lik2 tx n N A).2 = 1))
def lik6 : RsD × Nat := oWh tx n 0 99 (oKw tx n 17 (lik4 tx n N A))
def oLik : RsD := fin (lik6 tx n N A).1 fun B => upT B (sL2 (sL1 (sL1 B.2.2 (20 + (lik1 tx n N A).2) (lik2 tx n N A).2 (nI (lik6 tx n N A).2)) 9 (lik1 tx n N A).2 (B.2.2.1 9 (lik1 tx n N A).2 ||| ((1 : Int32) <<< (nI (lik2 tx n N A).2 &&& 31)))) 0 2 (nK B.2.2 + 1))
def rea1 : RsD × Nat := oKn tx n N 3 (.inr A)
def rea2 : RsD × Nat := oKn tx n N 1 (rea1 tx n N A).1
def rea4 : RsD × Nat := oWh tx n 1 12 (oKw tx n 18 (rea2 tx n N A).1)
def rea6 : RsD × Nat := oWh tx n 0 100 (oKw tx n 19 (rea4 tx n N A).1)
def rea8 : RsD × Nat := oWh tx n 1 50 (oKw tx n 20 (rea6 tx n N A).1)
def reaL (L : LawD) (p c ho od mo : Nat) : LawD := sL2 (sL1 (sL1 (sL1 (sL2 (sL2 L 2 (nR L) p) 3 (nR L) c) 2 (nR L) (nI ho)) 3 (nR L) (nI od)) 4 (nR L) (nI mo)) 0 3 (nR L + 1)
def oRea : RsD := fin (rea8 tx n N A).1 fun B => upT B (reaL B.2.2 (rea1 tx n N A).2 (rea2 tx n N A).2 (rea4 tx n N A).2 (rea6 tx n N A).2 (rea8 tx n N A).2)
/-- the latest hour of one's receipts -/
def lhA (L : LawD) (p : Nat) : Nat → Int32
  | 0 => -1
  | k + 1 => if cpe L k = p then cho L k else lhA L p k
def pai1 : RsD × Nat := oKn tx n N 3 (.inr A)
def pai2 : RsD × Nat := oWh tx n 0 999 (pai1 tx n N A).1
def pai4 : RsD × Nat := oBd tx 0 99 (oKw tx n 21 (pai2 tx n N A).1)
def pai6 : RsD := oNext tx n (chk (pai4 tx n N A).1 4 fun B => decide (nI (pai4 tx n N A).2 ≤ lhA B.2.2 (pai1 tx n N A).2 (nQ B.2.2)))
def paiL (L : LawD) (p am ho : Nat) : LawD := sL2 (sL1 (sL1 (sL2 L 4 (nQ L) p) 5 (nQ L) (nI am)) 6 (nQ L) (nI ho)) 0 4 (nQ L + 1)
def oPai : RsD := fin (pai6 tx n N A) fun B => upT B (paiL B.2.2 (pai1 tx n N A).2 (pai2 tx n N A).2 (pai4 tx n N A).2)
def sho3 : RsD × Nat := oWh tx n 0 99 (oKw tx n 22 (oFr tx n N (.inr A)).1)
def oSho : RsD := fin (sho3 tx n N A).1 fun B => upT B (sL2 (sL1 B.2.2 7 (nS B.2.2) (nI (sho3 tx n N A).2)) 0 5 (nS B.2.2 + 1))
def lan1 : RsD × Nat := oKn tx n N 7 (.inr A)
def lan2 : RsD × Nat := oKo tx N 7 (lan1 tx n N A).1
def lan4 : RsD := oNext tx n (chk (lan2 tx n N A).1 3 fun B => decide ((lan1 tx n N A).2 = (lan2 tx n N A).2) || decide (bitN (nea B.2.2 (lan1 tx n N A).2) (lan2 tx n N A).2 = 1))
def lanL (L : LawD) (s t : Nat) : LawD := sL2 (sL1 (sL1 L 8 s (nea L s ||| ((1 : Int32) <<< (nI t &&& 31)))) 8 t (nea (sL1 L 8 s (nea L s ||| ((1 : Int32) <<< (nI t &&& 31)))) t ||| ((1 : Int32) <<< (nI s &&& 31)))) 0 6 (nL L + 1)
def oLan : RsD := fin (lan4 tx n N A) fun B => upT B (lanL B.2.2 (lan1 tx n N A).2 (lan2 tx n N A).2)
/-- the names behind a line -/
def adR (r : RsD) (N N1 : NmD) : NmD := match r with
  | .inl _ => N
  | .inr _ => N1
def fulB (L : LawD) (i : Nat) : Bool := if i = 1 then decide (nC L = 5) else if i = 3 then decide (nP L = 5) else if i = 4 then decide (nK L = 12) else if i = 5 then decide (nR L = 4) else if i = 6 then decide (nQ L = 5) else if i = 7 then decide (nS L = 6) else if i = 8 then decide (nL L = 8) else false
/-- a line of a sort, behind its first word -/
def oBy (i : Nat) : RsD × NmD :=
  if i = 0 then (oTax tx n A, N)
  else if i = 1 then (oCho tx n N A, adR (oCho tx n N A) N (adN N (oFr tx n N (.inr A)).2 1 (nC A.2.2)))
  else if i = 2 then (oFar tx n N A, N)
  else if i = 3 then (oPer tx n N A, adR (oPer tx n N A) N (adN N (oFr tx n N (.inr A)).2 3 (nP A.2.2)))
  else if i = 4 then (oLik tx n N A, N)
  else if i = 5 then (oRea tx n N A, N)
  else if i = 6 then (oPai tx n N A, N)
  else if i = 7 then (oSho tx n N A, adR (oSho tx n N A) N (adN N (oFr tx n N (.inr A)).2 7 (nS A.2.2)))
  else (oLan tx n N A, N)
def lnS : Option Nat := if A.1.1 = 1 then lsA (wdA tx A) 9 else none
def oLine : RsD × NmD := match lnS tx A with
  | none => (.inl (1, A.1.2.1), N)
  | some i => if i = 0 ∧ A.2.1 = true then (.inl (3, A.1.2.1), N) else if fulB A.2.2 i = true then (.inl (5, A.1.2.1), N) else if ¬ i = 0 ∧ A.2.1 = false then (.inl (6, A.1.2.1), N) else oBy tx n N (nxT tx n A.1.2.2, A.2) i
end U2
def oAll (tx : Nat → Int32) (n : Nat) : Nat → NmD → AsD → RsD × NmD
  | 0, N, A => (.inr A, N)
  | f + 1, N, A => match oLine tx n N A with
    | (.inl e, N1) => (.inl e, N1)
    | (.inr B, N1) => if B.1.1 = 3 then oAll tx n f N1 (nxT tx n B.1.2.2, B.2) else if B.1.1 = 0 then (.inr B, N1) else (.inl (1, B.1.2.1), N1)
