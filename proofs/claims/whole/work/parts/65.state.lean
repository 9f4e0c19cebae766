/-! objects by functions; loops with a heap; the whole state of class and of reference -/
def Fo (h : PH) (i t n : Nat) (F : Nat → PV) : Prop := h[i]? = some (t, (List.range n).map F)
def upF (F : Nat → PV) (k : Nat) (v : PV) : Nat → PV := fun q => if q = k then v else F q
theorem rg_setF (n p : Nat) (F : Nat → PV) (v : PV) : (((List.range n).map F).set p v) = (List.range n).map (upF F p v) := by
  apply List.ext_getElem?
  intro j
  by_cases e : p = j
  · subst e
    by_cases hp : p < n
    · rw [List.getElem?_set_self (by simpa using hp)]
      simp [hp, upF]
    · rw [List.getElem?_eq_none (by simpa using hp), List.getElem?_eq_none (by simpa using hp)]
  · rw [List.getElem?_set_ne e]
    by_cases hj : j < n
    · simp [hj, upF, Ne.symm e]
    · rw [List.getElem?_eq_none (by simpa using hj), List.getElem?_eq_none (by simpa using hj)]
section D4
variable {h h1 : PH} {i t n k : Nat} {F : Nat → PV}
theorem Fo.gi {x : Int32} (e : Fo h i t n F) (hk : k < n) (hx : F k = .inl x) : gI h t (some i) k = some x := gI_o e (by simp [hk, hx])
theorem Fo.gr {x : Option Nat} (e : Fo h i t n F) (hk : k < n) (hx : F k = .inr (.inr x)) : gR h t (some i) k = some x := gR_o e (by simp [hk, hx])
theorem Fo.gl {x : Int64} (e : Fo h i t n F) (hk : k < n) (hx : F k = .inr (.inl x)) : gL h t (some i) k = some x := by
  unfold gL gV; rw [pj_at_o e, Option.bind_some]; simp [hk, hx, pj_l]
theorem Fo.set (e : Fo h i t n F) (hk : k < n) (v : PV) : ∃ h1, sF h t (some i) k v = some h1 ∧ Fo h1 i t n (upF F k v) ∧ Fr h h1 i (i + 1) := by
  refine ⟨_, sF_o e (by simpa using hk), ?_, Fr.st⟩
  unfold Fo
  rw [st_o e, rg_setF]
theorem Fo.fr {lo hi : Nat} (e : Fo h i t n F) (f : Fr h h1 lo hi) (q : i < lo ∨ hi ≤ i) : Fo h1 i t n F := (f.2 i q).trans e
theorem Fo.aset (e : Fo h i t n F) (hk : k < n) (hn : n < 2 ^ 31) (v : PV) : ∃ h1, sA h t (some i) (nI k) v = some h1 ∧ Fo h1 i t n (upF F k v) ∧ Fr h h1 i (i + 1) := by
  unfold sA
  rw [if_neg (nI_pos (by omega)), nI_clamp (by omega)]
  exact e.set hk v
theorem Fo.el (e : Fo h i t n F) (hk : k < n) (hn : n < 2 ^ 31) : pj_el h t (some i) (nI k) = some (F k) := by
  unfold pj_el
  rw [pj_at_o e, Option.bind_some, if_neg (nI_pos (by omega)), nI_clamp (by omega)]
  simp [hk]
theorem Fo.aB {x : Int32} (e : Fo h i 52 n F) (hk : k < n) (hn : n < 2 ^ 31) (hx : F k = .inl x) : aB h (some i) (nI k) = some x := by
  unfold Jvm.Pilot.CWaverTaxLaw_law_r8537_6f3a17.aB; rw [e.el hk hn, hx]; rfl
theorem Fo.aL {x : Int64} (e : Fo h i 51 n F) (hk : k < n) (hn : n < 2 ^ 31) (hx : F k = .inr (.inl x)) : aL h (some i) (nI k) = some x := by
  unfold Jvm.Pilot.CWaverTaxLaw_law_r8537_6f3a17.aL; rw [e.el hk hn, hx]; rfl
theorem Fo.aR {x : Option Nat} (e : Fo h i t n F) (hk : k < n) (hn : n < 2 ^ 31) (hx : F k = .inr (.inr x)) : aR h t (some i) (nI k) = some x := by
  unfold Jvm.Pilot.CWaverTaxLaw_law_r8537_6f3a17.aR; rw [e.el hk hn, hx]; rfl
end D4
theorem upF_s {F : Nat → PV} {k : Nat} {v : PV} : upF F k v k = v := if_pos rfl
theorem upF_n {F : Nat → PV} {k j : Nat} {v : PV} (q : j ≠ k) : upF F k v j = F j := if_neg q
/-- a loop with an invariant; it may end early -/
theorem pj_inv {S X : Type} {step : S → Option (S ⊕ X)} (I : Nat → S → Prop) (Q : X → Prop) (n : Nat) {s0 : S} (hn : n < 4096) (h0 : I 0 s0) (hs : ∀ i s, i < n → I i s → (∃ s1, step s = some (.inl s1) ∧ I (i + 1) s1) ∨ ∃ x, step s = some (.inr x) ∧ Q x) (he : ∀ s, I n s → ∃ x, step s = some (.inr x) ∧ Q x) : ∃ x, pj_it step FU s0 = some x ∧ Q x := by
  have key : ∀ (m f i : Nat) (s : S), m + i = n → m < f → I i s → ∃ x, pj_it step f s = some x ∧ Q x := by
    intro m
    induction m with
    | zero =>
      intro f i s hi hf hI
      obtain rfl : i = n := by omega
      obtain ⟨x, e, q⟩ := he s hI
      cases f with
      | zero => omega
      | succ f => exact ⟨x, by show (step s).bind _ = _; rw [e]; rfl, q⟩
    | succ m ih =>
      intro f i s hi hf hI
      cases f with
      | zero => omega
      | succ f =>
        rcases hs i s (by omega) hI with ⟨s1, e, hI1⟩ | ⟨x, e, q⟩
        · obtain ⟨x, e2, q⟩ := ih f (i + 1) s1 (by omega) (by omega) hI1
          exact ⟨x, by show (step s).bind _ = _; rw [e]; exact e2, q⟩
        · exact ⟨x, by show (step s).bind _ = _; rw [e]; rfl, q⟩
  exact key n FU 0 s0 (by omega) hn h0
/-- an array of n places, of which the first m are f -/
def FuB (h : PH) (i n m : Nat) (f : Nat → Int32) : Prop := ∃ g, Fu h i n g ∧ ∀ p, p < m → g p = f p
theorem FuB.ar {h : PH} {i n m : Nat} {f : Nat → Int32} (e : FuB h i n m f) (hm : m ≤ n) (hn : n < 2 ^ 31) : Ar h i m f := by
  obtain ⟨g, e, q⟩ := e
  intro p hp
  rw [e.at (by omega) hn, q p hp]
/-- what can be undone, marks: how many; the rows -/
abbrev PaD : Type := (Nat × Nat) × (Nat → NowD) × (Nat → NowD)
/-- all: tape; law; now; past; trouble, fault, place -/
abbrev StD : Type := (Nat × (Nat → Int32)) × (Bool × LawD) × NowD × PaD × (Int32 × Int32 × Int32)
abbrev sTn (S : StD) : Nat := S.1.1
abbrev sTx (S : StD) : Nat → Int32 := S.1.2
abbrev sLf (S : StD) : Bool := S.2.1.1
abbrev sL (S : StD) : LawD := S.2.1.2
abbrev sNw (S : StD) : NowD := S.2.2.1
abbrev sP (S : StD) : PaD := S.2.2.2.1
abbrev sTr (S : StD) : Int32 := S.2.2.2.2.1
abbrev sFa (S : StD) : Int32 := S.2.2.2.2.2.1
abbrev sPl (S : StD) : Int32 := S.2.2.2.2.2.2
abbrev und (P : PaD) : Nat := P.1.1
abbrev mks (P : PaD) : Nat := P.1.2
abbrev kep (P : PaD) : Nat → NowD := P.2.1
abbrev mkd (P : PaD) : Nat → NowD := P.2.2
def trS (S : StD) (t : Int32) : StD := (S.1, S.2.1, S.2.2.1, S.2.2.2.1, (t, S.2.2.2.2.2))
/-- how all stands: hours up to B, turns up to c -/
def NowG (B c : Nat) (L : LawD) (N : NowD) : Prop :=
  (∃ j, j ≤ B ∧ hou N = nI j) ∧ (∃ s, s < 65537 ∧ sed N = nI s) ∧ (∃ b, b < 2 ^ nR L ∧ cme N = nI b ∧ ∀ k, b.testBit k = true → rho L k ≤ hou N) ∧
  (∀ p, p < nP L → hel N p < nC L ∧ ((tur N p = 0 ∧ lat N p = -2) ∨ (∃ t j j1, 0 < t ∧ t ≤ c ∧ tur N p = nI t ∧ lat N p = nI j ∧ hou N = nI j1 ∧ j ≤ j1 ∧ j1 ≤ B))) ∧ (∀ p, nP L ≤ p → p < 5 → spe N p = 0)
theorem NowG.ok {B c : Nat} {L : LawD} {N : NowD} (g : NowG B c L N) (hB : B ≤ 4000) (hc : c ≤ 4000) : NowOk L N := by
  intro p hp
  obtain ⟨a, b⟩ := g.2.2.2.1 p hp
  refine ⟨a, ?_⟩
  rcases b with b | ⟨t, j, j1, t1, t2, e1, e2, e3, q1, q2⟩
  · exact Or.inl b
  · refine Or.inr ⟨?_, ?_, ?_⟩
    · rw [e1, ← nI_0]; exact nI_lt t1 (by omega)
    · rw [e2]; intro q
      have := nI_pos (n := j) (by omega)
      rw [q] at this
      exact this (by decide)
    · rw [e2, e3, pk_sub q1]; exact nI_pos' (by omega)
theorem NowG.mono {B c B1 c1 : Nat} {L : LawD} {N : NowD} (g : NowG B c L N) (hB : B ≤ B1) (hc : c ≤ c1) : NowG B1 c1 L N := by
  obtain ⟨⟨j, a, b⟩, g2, g3, g4, g5⟩ := g
  refine ⟨⟨j, by omega, b⟩, g2, g3, fun p hp => ?_, g5⟩
  obtain ⟨x, y⟩ := g4 p hp
  refine ⟨x, ?_⟩
  rcases y with y | ⟨t, j, j1, t1, t2, e1, e2, e3, q1, q2⟩
  · exact Or.inl y
  · exact Or.inr ⟨t, j, j1, t1, by omega, e1, e2, e3, q1, by omega⟩
/-- bounds of what a law tells -/
def LawB (L : LawD) : Prop := (∃ r, r ≤ 9 ∧ root L = nI r) ∧ (∀ k, k < nR L → (∃ j, 1 ≤ j ∧ j ≤ 12 ∧ rho L k = nI j) ∧ (∃ j, j ≤ 100 ∧ rod L k = nI j)) ∧ (∀ k, k < nQ L → (∃ j, j ≤ 99 ∧ cho L k = nI j)) ∧ (∀ s, s < nS L → (∃ j, j ≤ 99 ∧ crd L s = nI j) ∧ ∃ b, b < 2 ^ nS L ∧ nea L s = nI b) ∧ (∀ k j, j < k → k < nQ L → cpe L j = cpe L k → cho L j < cho L k)
def SOk (c : Nat) (S : StD) : Prop :=
  (sTn S ≤ 900 ∧ (∃ q, sTn S = 20 * q) ∧ ∀ k, (sTx S k).toInt8.toInt32 = sTx S k) ∧
  (sLf S = true → LawOk (sL S) ∧ LawB (sL S) ∧ NowG 999 c (sL S) (sNw S) ∧ (∀ i, i < und (sP S) → NowG 999 c (sL S) (kep (sP S) i)) ∧ ∀ i, i < mks (sP S) → NowG 999 c (sL S) (mkd (sP S) i)) ∧
  (sLf S = false → root (sL S) = 0 ∧ third (sL S) = 0 ∧ nC (sL S) = 0 ∧ nP (sL S) = 0 ∧ nK (sL S) = 0 ∧ nR (sL S) = 0 ∧ nQ (sL S) = 0 ∧ nS (sL S) = 0 ∧ nL (sL S) = 0 ∧ hou (sNw S) = 0 ∧ sed (sNw S) = 0 ∧ und (sP S) = 0 ∧ mks (sP S) = 0) ∧
  und (sP S) ≤ 16 ∧ mks (sP S) ≤ 3 ∧ c ≤ 600
theorem SOk.tr {c c1 : Nat} {S : StD} (o : SOk c S) (t : Int32) (h : c ≤ c1) (h1 : c1 ≤ 600) : SOk c1 (trS S t) := by
  obtain ⟨a, b, d, e, f, g⟩ := o
  exact ⟨a, fun q => ⟨(b q).1, (b q).2.1, (b q).2.2.1.mono (Nat.le_refl _) h, fun i hi => ((b q).2.2.2.1 i hi).mono (Nat.le_refl _) h, fun i hi => ((b q).2.2.2.2 i hi).mono (Nat.le_refl _) h⟩, d, e, f, h1⟩
/-! the class's state -/
def RdC (h : PH) : Prop := ∃ F, Fo h 160 5 14 F ∧ (F 0 = .inr (.inr (some 101)) ∧ ∀ k, 0 < k → k < 10 → k ≠ 2 → ∃ x, F k = .inl x) ∧ F 10 = .inr (.inr (some 161)) ∧ F 11 = .inr (.inr (some 162)) ∧ F 12 = .inr (.inr (some 163)) ∧ F 13 = .inr (.inr (some 164)) ∧ (∃ f, Fu h 161 16 f) ∧ (∃ f, Fu h 162 16 f) ∧ (∃ f, Fu h 163 16 f) ∧ (∃ f, Fu h 164 16 f)
def RwC (h : PH) : Prop := ∃ F, Fo h 177 8 9 F ∧ F 1 = .inr (.inr (some 175)) ∧ F 2 = .inr (.inr (some 170)) ∧ F 5 = .inr (.inr (some 178)) ∧ F 6 = .inr (.inr (some 179)) ∧ F 7 = .inr (.inr (some 180)) ∧ F 8 = .inr (.inr (some 181)) ∧ (∃ f, Fu h 178 5 f) ∧ (∃ f, Fu h 179 5 f) ∧ (∃ f, Fu h 180 5 f) ∧ Fo h 181 53 5 (fun k => .inr (.inr (some (182 + k)))) ∧ ∀ k, k < 5 → ∃ f, Fu h (182 + k) 5 f
def PlC (h : PH) : Prop := ∃ F, Fo h 176 4 4 F ∧ F 1 = .inr (.inr (some 175)) ∧ F 2 = .inr (.inr (some 170))
def ScC (h : PH) : Prop := (∃ T, NowC h 170 T) ∧ (∃ a b x y, DeskC h a b x y) ∧ PlC h ∧ RwC h
def PaC (h : PH) (P : PaD) : Prop := ∃ σ : Nat → Nat, Fo h 187 3 4 (fun k => if k = 0 then .inr (.inr (some 188)) else if k = 1 then .inr (.inr (some 189)) else if k = 2 then .inl (nI (und P)) else .inl (nI (mks P))) ∧ Fo h 188 54 16 (fun i => .inr (.inr (some (190 + 5 * σ i)))) ∧ Fo h 189 54 3 (fun i => .inr (.inr (some (270 + 5 * i)))) ∧ (∀ i, i < 16 → σ i < 16) ∧ (∀ i j, i < 16 → j < 16 → σ i = σ j → i = j) ∧ (∀ i, i < 16 → NowC h (190 + 5 * σ i) (kep P i)) ∧ (∀ i, i < 3 → NowC h (270 + 5 * i) (mkd P i))
def bI (b : Bool) : Int32 := if b = true then 1 else 0
def CI (h : PH) (lw : Nat) (S : StD) : Prop := (lw = 102 ∨ lw = 131) ∧ ObjC h (nI (sTn S)) lw (233 - lw) (bI (sLf S)) (sTr S) (sFa S) (sPl S) ∧ Fo h 101 52 900 (fun k => .inl (sTx S k)) ∧ LawC h lw (sL S) ∧ (∃ L1, LawC h (233 - lw) L1) ∧ RdC h ∧ NowC h 165 (sNw S) ∧ ScC h ∧ PaC h (sP S)
section D5
variable {h h1 : PH}
theorem RdC.lc : Lc RdC 160 165 := by
  intro h h1 q e
  have t : ∀ {i : Nat} {x : Option PC}, 160 ≤ i → i < 165 → h[i]? = x → h1[i]? = x := fun a c d => (q _ a c).trans d
  obtain ⟨F, e0, a1, a2, a3, a4, a5, ⟨f1, e1⟩, ⟨f2, e2⟩, ⟨f3, e3⟩, ⟨f4, e4⟩⟩ := e
  exact ⟨F, t (by omega) (by omega) e0, a1, a2, a3, a4, a5, ⟨f1, t (by omega) (by omega) e1⟩, ⟨f2, t (by omega) (by omega) e2⟩, ⟨f3, t (by omega) (by omega) e3⟩, ⟨f4, t (by omega) (by omega) e4⟩⟩
theorem RwC.lc : Lc RwC 177 187 := by
  intro h h1 q e
  have t : ∀ {i : Nat} {x : Option PC}, 177 ≤ i → i < 187 → h[i]? = x → h1[i]? = x := fun a c d => (q _ a c).trans d
  obtain ⟨F, e0, a1, a2, a3, a4, a5, a6, ⟨f1, e1⟩, ⟨f2, e2⟩, ⟨f3, e3⟩, e4, e5⟩ := e
  exact ⟨F, t (by omega) (by omega) e0, a1, a2, a3, a4, a5, a6, ⟨f1, t (by omega) (by omega) e1⟩, ⟨f2, t (by omega) (by omega) e2⟩, ⟨f3, t (by omega) (by omega) e3⟩, t (by omega) (by omega) e4, fun k hk => ⟨(e5 k hk).choose, t (by omega) (by omega) (e5 k hk).choose_spec⟩⟩
theorem PlC.lc : Lc PlC 176 177 := by
  intro h h1 q e
  obtain ⟨F, e0, a1, a2⟩ := e
  exact ⟨F, (q _ (by omega) (by omega)).trans e0, a1, a2⟩
theorem ScC.lc : Lc ScC 170 187 := by
  intro h h1 q e
  obtain ⟨⟨T, e1⟩, ⟨a, b, x, y, e2⟩, e3, e4⟩ := e
  exact ⟨⟨T, NowC.lc 170 T h h1 (fun i a b => q i (by omega) (by omega)) e1⟩, ⟨a, b, x, y, (q _ (by omega) (by omega)).trans e2⟩, PlC.lc h h1 (fun i a b => q i (by omega) (by omega)) e3, RwC.lc h h1 (fun i a b => q i (by omega) (by omega)) e4⟩
theorem PaC.lc (P : PaD) : Lc (fun h => PaC h P) 187 285 := by
  intro h h1 q e
  have t : ∀ {i : Nat} {x : Option PC}, 187 ≤ i → i < 285 → h[i]? = x → h1[i]? = x := fun a c d => (q _ a c).trans d
  obtain ⟨σ, e0, e1, e2, a, b, c, d⟩ := e
  refine ⟨σ, t (by omega) (by omega) e0, t (by omega) (by omega) e1, t (by omega) (by omega) e2, a, b, fun i hi => ?_, fun i hi => ?_⟩
  · have := a i hi
    exact NowC.lc _ _ h h1 (fun j x y => q j (by omega) (by omega)) (c i hi)
  · exact NowC.lc _ _ h h1 (fun j x y => q j (by omega) (by omega)) (d i hi)
theorem CI.lc (lw : Nat) (S : StD) : Lc (fun h => CI h lw S) 100 285 := by
  intro h h1 q e
  obtain ⟨hl, e0, e1, e2, ⟨L1, e3⟩, e4, e5, e6, e7⟩ := e
  have t : ∀ {i : Nat} {x : Option PC}, 100 ≤ i → i < 285 → h[i]? = x → h1[i]? = x := fun a c d => (q _ a c).trans d
  exact ⟨hl, t (by omega) (by omega) e0, t (by omega) (by omega) e1, LawC.lc _ _ h h1 (fun i a b => q i (by omega) (by omega)) e2, ⟨L1, LawC.lc _ _ h h1 (fun i a b => q i (by omega) (by omega)) e3⟩, RdC.lc h h1 (fun i a b => q i (by omega) (by omega)) e4, NowC.lc _ _ h h1 (fun i a b => q i (by omega) (by omega)) e5, ScC.lc h h1 (fun i a b => q i (by omega) (by omega)) e6, PaC.lc _ h h1 (fun i a b => q i (by omega) (by omega)) e7⟩
/-- scratch has changed -/
theorem CI.sc {lw : Nat} {S : StD} (e : CI h lw S) (f : Fr h h1 170 187) (s : ScC h1) : CI h1 lw S := by
  obtain ⟨hl, e0, e1, e2, ⟨L1, e3⟩, e4, e5, e6, e7⟩ := e
  exact ⟨hl, (f.2 _ (by omega)).trans e0, (f.2 _ (by omega)).trans e1, f.lc (LawC.lc _ _) (by omega) e2, ⟨L1, f.lc (LawC.lc _ _) (by omega) e3⟩, f.lc RdC.lc (by omega) e4, f.lc (NowC.lc _ _) (by omega) e5, s, f.lc (PaC.lc _) (by omega) e7⟩
end D5
/-! the reference's state -/
def MLawC (h : PH) (ml : Nat) (L : LawD) : Prop :=
  ∃ G, Fo h ml 11 27 G ∧ (G 0 = .inl (root L) ∧ G 1 = .inl (third L) ∧ G 2 = .inl (nI (nC L)) ∧ G 3 = .inl (nI (nP L)) ∧ G 4 = .inl (nI (nK L)) ∧ G 5 = .inl (nI (nR L)) ∧ G 6 = .inl (nI (nQ L)) ∧ G 7 = .inl (nI (nS L)) ∧ G 8 = .inl (nI (nL L))) ∧ (∀ j, j < 17 → G (10 + j) = .inr (.inr (some (ml + 1 + j)))) ∧
  (∃ f, Fu h (ml + 1) 25 f ∧ ∀ c d, c < nC L → d < nC L → f (5 * c + d) = far L c d) ∧ FuB h (ml + 2) 5 (nP L) (srt L) ∧ FuB h (ml + 3) 5 (nP L) (fun p => nI (frs L p)) ∧
  (∃ f, Fu h (ml + 4) 25 f ∧ ∀ p c, p < nP L → c < nC L → (if f (5 * p + c) = -1 then 0 else f (5 * p + c)) = wor L p c) ∧
  (FuB h (ml + 5) 4 (nR L) (fun k => nI (rpe L k)) ∧ FuB h (ml + 6) 4 (nR L) (fun k => nI (rch L k)) ∧ FuB h (ml + 7) 4 (nR L) (rho L) ∧ FuB h (ml + 8) 4 (nR L) (rod L) ∧ FuB h (ml + 9) 4 (nR L) (rmo L)) ∧
  (FuB h (ml + 10) 5 (nQ L) (fun k => nI (cpe L k)) ∧ FuB h (ml + 11) 5 (nQ L) (cam L) ∧ FuB h (ml + 12) 5 (nQ L) (cho L)) ∧
  (FuB h (ml + 13) 6 (nS L) (crd L) ∧ FuB h (ml + 14) 6 (nS L) (fun s => nea L s ||| ((1 : Int32) <<< (nI s &&& 31))))
theorem FuB.lt {h h1 : PH} {i n m : Nat} {f : Nat → Int32} (e : FuB h i n m f) (q : h1[i]? = h[i]?) : FuB h1 i n m f := ⟨e.choose, q.trans e.choose_spec.1, e.choose_spec.2⟩
theorem MLawC.lc (b : Nat) (L : LawD) : Lc (fun h => MLawC h b L) b (b + 18) := by
  intro h h1 q e
  obtain ⟨G, e0, e1, e2, ⟨f1, e3, e4⟩, e5, e6, ⟨f2, e7, e8⟩, ⟨r1, r2, r3, r4, r5⟩, ⟨c1, c2, c3⟩, s1, s2⟩ := e
  exact ⟨G, (q _ (by omega) (by omega)).trans e0, e1, e2, ⟨f1, (q _ (by omega) (by omega)).trans e3, e4⟩, e5.lt (q _ (by omega) (by omega)), e6.lt (q _ (by omega) (by omega)), ⟨f2, (q _ (by omega) (by omega)).trans e7, e8⟩, ⟨r1.lt (q _ (by omega) (by omega)), r2.lt (q _ (by omega) (by omega)), r3.lt (q _ (by omega) (by omega)), r4.lt (q _ (by omega) (by omega)), r5.lt (q _ (by omega) (by omega))⟩, ⟨c1.lt (q _ (by omega) (by omega)), c2.lt (q _ (by omega) (by omega)), c3.lt (q _ (by omega) (by omega))⟩, s1.lt (q _ (by omega) (by omega)), s2.lt (q _ (by omega) (by omega))⟩
theorem MLawC.v {h : PH} {ml : Nat} {L : LawD} (e : MLawC h ml L) (ok : LawOk L) : MLawV h ml L := by
  obtain ⟨G, e0, ⟨g0, g1, g2, g3, g4, g5, g6, g7, g8⟩, rf, ⟨f1, e3, e4⟩, e5, e6, ⟨f2, e7, e8⟩, ⟨r1, r2, r3, r4, r5⟩, ⟨c1, c2, c3⟩, s1, s2⟩ := e
  obtain ⟨-, k1, k2, k3, k4, k5, -⟩ := ok
  have g : ∀ j, j < 17 → gR h 11 (some ml) (10 + j) = some (some (ml + 1 + j)) := fun j hj => e0.gr (by omega) (rf j hj)
  refine ⟨⟨e0.gi (by omega) g0, e0.gi (by omega) g1, e0.gi (by omega) g2, e0.gi (by omega) g3, e0.gi (by omega) g4, e0.gi (by omega) g5, e0.gi (by omega) g6, e0.gi (by omega) g7, e0.gi (by omega) g8⟩, ⟨_, g 0 (by omega), fun c d hc hd => ?_⟩, ⟨_, g 1 (by omega), e5.ar k2 (by decide)⟩, ⟨_, g 2 (by omega), e6.ar k2 (by decide)⟩, ⟨_, g 3 (by omega), fun p c hp hc => ⟨f2 (5 * p + c), ?_, e8 p c hp hc⟩⟩,
    ⟨⟨_, g 4 (by omega), r1.ar k3 (by decide)⟩, ⟨_, g 5 (by omega), r2.ar k3 (by decide)⟩, ⟨_, g 6 (by omega), r3.ar k3 (by decide)⟩, ⟨_, g 7 (by omega), r4.ar k3 (by decide)⟩, ⟨_, g 8 (by omega), r5.ar k3 (by decide)⟩⟩, ⟨⟨_, g 9 (by omega), c1.ar k4 (by decide)⟩, ⟨_, g 10 (by omega), c2.ar k4 (by decide)⟩, ⟨_, g 11 (by omega), c3.ar k4 (by decide)⟩⟩, ⟨⟨_, g 12 (by omega), s1.ar k5 (by decide)⟩, ⟨_, g 13 (by omega), s2.ar k5 (by decide)⟩⟩⟩
  · rw [← e4 c d hc hd]; exact e3.at (by omega) (by decide)
  · exact e7.at (by omega) (by decide)
/-- a row by a function -/
def MRw (f : Nat → Int32) (n : Nat) (N : NowD) : Prop := (∀ p, p < n → f p = nI (hel N p) ∧ f (5 + p) = tur N p ∧ f (10 + p) = spe N p ∧ f (15 + p) = lat N p) ∧ f 20 = cme N ∧ f 21 = hou N ∧ f 22 = sed N
theorem MRw.v {h : PH} {a n : Nat} {f : Nat → Int32} {N : NowD} (e : Fu h a 23 f) (r : MRw f n N) (hn : n ≤ 5) : MRow h a n N := by
  obtain ⟨r0, r1, r2, r3⟩ := r
  refine ⟨fun p hp => ?_, ?_, ?_, ?_⟩
  · obtain ⟨a0, a1, a2, a3⟩ := r0 p hp
    exact ⟨a0 ▸ e.at (by omega) (by decide), a1 ▸ e.at (by omega) (by decide), a2 ▸ e.at (by omega) (by decide), a3 ▸ e.at (by omega) (by decide)⟩
  · exact r1 ▸ e.at (p := 20) (by omega) (by decide)
  · exact r2 ▸ e.at (p := 21) (by omega) (by decide)
  · exact r3 ▸ e.at (p := 22) (by omega) (by decide)
def whS (S : StD) : Int32 := if sTr S = 4 then sPl S else -1
/-- what its reader left: ints, a long -/
def MTy (F : Nat → PV) : Prop := (∃ x, F 10 = .inl x) ∧ (∃ x, F 11 = .inl x) ∧ (∃ x, F 13 = .inl x) ∧ ∃ w, F 14 = .inr (.inl w)
/-- the reference's own fields that stay -/
def MF (F : Nat → PV) (S : StD) (ml : Option Nat) : Prop := F 1 = .inl (sTr S) ∧ F 2 = .inl (whS S) ∧ F 3 = .inr (.inr ml) ∧ F 5 = .inr (.inr (some 286)) ∧ F 6 = .inl (nI (sTn S)) ∧ F 12 = .inl (sFa S) ∧ F 15 = .inr (.inr (some 287)) ∧ F 16 = .inr (.inr (some 288)) ∧ F 17 = .inr (.inr (some 289)) ∧ F 18 = .inr (.inr (some 290)) ∧ F 19 = .inl (nI (und (sP S))) ∧ F 20 = .inl (nI (mks (sP S))) ∧ F 23 = .inr (.inr (some 291)) ∧ F 25 = .inr (.inr (some 292)) ∧ F 26 = .inr (.inr (some 293)) ∧ F 27 = .inr (.inr (some 294)) ∧ MTy F
/-- the rows of the reference -/
def MRs (h : PH) (S : StD) : Prop := Fo h 286 52 900 (fun k => .inl (sTx S k)) ∧ (∃ f, Fu h 287 23 f ∧ (sLf S = true → MRw f (nP (sL S)) (sNw S))) ∧ (∃ f, Fu h 289 368 f ∧ ∀ i, i < und (sP S) → MRw (fun k => f (23 * i + k)) (nP (sL S)) (kep (sP S) i)) ∧ (∃ f, Fu h 290 69 f ∧ ∀ i, i < mks (sP S) → MRw (fun k => f (23 * i + k)) (nP (sL S)) (mkd (sP S) i))
def MSc (h : PH) : Prop := (∃ f, Fu h 288 23 f) ∧ (∃ f : Nat → Int64, Fo h 291 51 6000 (fun k => .inr (.inl (f k)))) ∧ (∃ f, Fu h 292 5 f) ∧ (∃ f, Fu h 293 5 f) ∧ ∃ f, Fu h 294 25 f
def MLw (h : PH) (S : StD) (ml : Option Nat) : Prop := (sLf S = true → ∃ i, ml = some i ∧ 296 ≤ i ∧ MLawC h i (sL S)) ∧ (sLf S = false → ml = none)
def Mst (h : PH) (ml : Option Nat) (S : StD) : Prop := ∃ F, Fo h 285 12 32 F ∧ MF F S ml ∧ MRs h S ∧ MSc h ∧ MLw h S ml
theorem MRs.lc (S : StD) : Lc (fun h => MRs h S) 286 291 := by
  intro h h1 q e
  obtain ⟨e0, ⟨f1, e1, a1⟩, ⟨f2, e2, a2⟩, ⟨f3, e3, a3⟩⟩ := e
  exact ⟨(q _ (by omega) (by omega)).trans e0, ⟨f1, (q _ (by omega) (by omega)).trans e1, a1⟩, ⟨f2, (q _ (by omega) (by omega)).trans e2, a2⟩, ⟨f3, (q _ (by omega) (by omega)).trans e3, a3⟩⟩
theorem MSc.lc : Lc MSc 288 295 := by
  intro h h1 q e
  obtain ⟨⟨f1, e1⟩, ⟨f2, e2⟩, ⟨f3, e3⟩, ⟨f4, e4⟩, ⟨f5, e5⟩⟩ := e
  exact ⟨⟨f1, (q _ (by omega) (by omega)).trans e1⟩, ⟨f2, (q _ (by omega) (by omega)).trans e2⟩, ⟨f3, (q _ (by omega) (by omega)).trans e3⟩, ⟨f4, (q _ (by omega) (by omega)).trans e4⟩, ⟨f5, (q _ (by omega) (by omega)).trans e5⟩⟩
theorem MLw.lt {h h1 : PH} {S : StD} {ml : Option Nat} (e : MLw h S ml) (q : ∀ i, 296 ≤ i → i < h.length → h1[i]? = h[i]?) : MLw h1 S ml := by
  refine ⟨fun x => ?_, e.2⟩
  obtain ⟨i, a, b, c⟩ := e.1 x
  refine ⟨i, a, b, ?_⟩
  have hb : i + 14 < h.length := by
    obtain ⟨G, -, -, -, -, -, -, -, -, -, -, s2⟩ := c
    exact (List.getElem?_eq_some_iff.mp s2.choose_spec.1).1
  obtain ⟨G, e0, e1, e2, ⟨f1, e3, e4⟩, e5, e6, ⟨f2, e7, e8⟩, ⟨r1, r2, r3, r4, r5⟩, ⟨c1, c2, c3⟩, s1, s2⟩ := c
  exact ⟨G, (q _ (by omega) (by omega)).trans e0, e1, e2, ⟨f1, (q _ (by omega) (by omega)).trans e3, e4⟩, e5.lt (q _ (by omega) (by omega)), e6.lt (q _ (by omega) (by omega)), ⟨f2, (q _ (by omega) (by omega)).trans e7, e8⟩, ⟨r1.lt (q _ (by omega) (by omega)), r2.lt (q _ (by omega) (by omega)), r3.lt (q _ (by omega) (by omega)), r4.lt (q _ (by omega) (by omega)), r5.lt (q _ (by omega) (by omega))⟩, ⟨c1.lt (q _ (by omega) (by omega)), c2.lt (q _ (by omega) (by omega)), c3.lt (q _ (by omega) (by omega))⟩, s1.lt (q _ (by omega) (by omega)), s2.lt (q _ (by omega) (by omega))⟩
theorem Mst.lt {h h1 : PH} {S : StD} {ml : Option Nat} (e : Mst h ml S) (q : ∀ i, 285 ≤ i → i ≠ 295 → i < h.length → h1[i]? = h[i]?) (hl : 295 ≤ h.length) : Mst h1 ml S := by
  obtain ⟨F, e0, e1, e2, e3, e4⟩ := e
  exact ⟨F, (q _ (by omega) (by omega) (by omega)).trans e0, e1, MRs.lc S h h1 (fun i a b => q i (by omega) (by omega) (by omega)) e2, MSc.lc h h1 (fun i a b => q i (by omega) (by omega) (by omega)) e3, e4.lt (fun i a b => q i (by omega) (by omega) b)⟩
/-- what an op is: class and reference answer alike -/
def CO {X : Type} (f : PH → Option (X × PH)) (S S1 : StD) (x : X) : Prop := ∀ h lw, CI h lw S → ∃ h1 lw1, f h = some (x, h1) ∧ CI h1 lw1 S1 ∧ Fr h h1 100 285
def MO {X : Type} (f : PH → Option (X × PH)) (S S1 : StD) (x : X) : Prop := ∀ h ml, Mst h ml S → ∃ h1 ml1, f h = some (x, h1) ∧ Mst h1 ml1 S1 ∧ Fr h h1 285 295
def Op {X : Type} (fT fM : PH → Option (X × PH)) (c : Nat) (S : StD) : Prop := ∃ x S1, CO fT S S1 x ∧ MO fM S S1 x ∧ SOk (c + 1) S1
