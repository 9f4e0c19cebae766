/-! receipts: the calls -/
def rqN (L : LawD) (p m : Nat) : Nat := foldN (fun k a => if cpe L k = p then a + 1 else a) m 0
def cbS (R : RwD) (k m : Nat) : Int32 := foldN (fun c a => if R.2.1 k c = 0 then a else a ||| ((1 : Int32) <<< (nI c &&& 31))) m 0
def srS (R : RwD) (k : Nat) : Int32 := if R.1 = 0 then -2 else if R.2.1 k 0 = R.1 then 0 else if R.2.1 k 1 = R.1 then 1 else if R.2.1 k 2 = R.1 then 2 else if R.2.1 k 3 = R.1 then 3 else if R.2.1 k 4 = R.1 then 4 else -2
def mxN (R : RwD) (k m : Nat) : Nat := foldN (fun c a => if a < R.2.1 k c then R.2.1 k c else a) m 0
def lvS (L : LawD) (k : Nat) : Nat := mxN (RS L (cpe L k)) k 5
def bkN (L : LawD) : Nat → Option Nat
  | 0 => none
  | k + 1 => if lvS L k = 0 then bkN L k else match bkN L k with
    | none => some k
    | some b => if lvS L k < lvS L b then some k else some b
def bkI (o : Option Nat) : Int32 := match o with
  | none => -2
  | some b => nI b
def blI (L : LawD) (o : Option Nat) : Int32 := match o with
  | none => -2
  | some b => nI (lvS L b)
def lrB (L : LawD) (p : Nat) : Bool := decide (¬ qxN L p (nQ L) = nQ L) && decide ((RS L p).1 = 0)
def liN (L : LawD) : Nat → Option Nat
  | 0 => none
  | m + 1 => match liN L m with
    | some b => some b
    | none => if lrB L m = true then some m else none
section Q9
variable {L : LawD} {p : Nat} {R : RwD}
theorem rq_le : ∀ m, rqN L p m ≤ m
  | 0 => Nat.le_refl _
  | m + 1 => by
    have ih := rq_le m
    show (if cpe L m = p then rqN L p m + 1 else rqN L p m) ≤ m + 1
    split <;> omega
theorem rq_0 : ∀ m, (∀ k, k < m → ¬ cpe L k = p) → rqN L p m = 0
  | 0, _ => rfl
  | m + 1, h => by
    show (if cpe L m = p then rqN L p m + 1 else rqN L p m) = 0
    rw [if_neg (h m (by omega)), rq_0 m (fun k hk => h k (by omega))]
theorem rq_1 {k : Nat} (hc : cpe L k = p) : ∀ m, k < m → 0 < rqN L p m
  | 0, h => absurd h (Nat.not_lt_zero k)
  | m + 1, h => by
    show 0 < (if cpe L m = p then rqN L p m + 1 else rqN L p m)
    split
    · omega
    · rename_i w
      by_cases z : k = m
      · rw [z] at hc; exact absurd hc w
      · exact rq_1 hc m (by omega)
theorem rq_i (h5 : nQ L ≤ 5) : nI (rqN L p (nQ L)) = 0 ↔ qxN L p (nQ L) = nQ L := by
  have b := rq_le (L := L) (p := p) (nQ L)
  have ql := qx_le (L := L) (p := p) (nQ L)
  constructor
  · intro w
    have w : rqN L p (nQ L) = 0 := (nI_e0 (by omega)).mp w
    apply Nat.le_antisymm ql.2
    apply Nat.le_of_not_lt
    intro z
    have := rq_1 (qx_c (nQ L) (Nat.le_refl _) z) (nQ L) z
    omega
  · intro w
    have := rq_0 (L := L) (p := p) (nQ L) (fun k hk => qx_n (nQ L) (Nat.le_refl _) k (by omega) (by omega))
    rw [this]
    rfl
theorem cb_d (o : RwOk L p R) (k : Nat) : ∀ d, cbS R k (nC L + d) = cbS R k (nC L)
  | 0 => rfl
  | d + 1 => by
    show (if R.2.1 k (nC L + d) = 0 then cbS R k (nC L + d) else _) = _
    rw [if_pos (o.1 k _ (by omega)), cb_d o k d]
theorem cb_5 (o : RwOk L p R) (h5 : nC L ≤ 5) (k : Nat) : cbS R k 5 = cbS R k (nC L) := by
  have := cb_d o k (5 - nC L)
  rw [show nC L + (5 - nC L) = 5 by omega] at this
  exact this
theorem mx_d (o : RwOk L p R) (k : Nat) : ∀ d, mxN R k (nC L + d) = mxN R k (nC L)
  | 0 => rfl
  | d + 1 => by
    show (if mxN R k (nC L + d) < R.2.1 k (nC L + d) then R.2.1 k (nC L + d) else mxN R k (nC L + d)) = _
    rw [o.1 k _ (by omega), if_neg (by omega), mx_d o k d]
theorem mx_5 (o : RwOk L p R) (h5 : nC L ≤ 5) (k : Nat) : mxN R k 5 = mxN R k (nC L) := by
  have := mx_d o k (5 - nC L)
  rw [show nC L + (5 - nC L) = 5 by omega] at this
  exact this
theorem mx_b (o : RwOk L p R) (k : Nat) : ∀ m, mxN R k m ≤ R.1
  | 0 => Nat.zero_le _
  | m + 1 => by
    have ih := mx_b o k m
    have := o.2.2.1 k m
    show (if mxN R k m < R.2.1 k m then R.2.1 k m else mxN R k m) ≤ R.1
    split <;> omega
theorem mx_ge (k : Nat) : ∀ m c, c < m → R.2.1 k c ≤ mxN R k m
  | 0, c, h => absurd h (Nat.not_lt_zero c)
  | m + 1, c, h => by
    show _ ≤ (if mxN R k m < R.2.1 k m then R.2.1 k m else mxN R k m)
    by_cases z : c = m
    · subst z; split <;> omega
    · have := mx_ge k m c (by omega)
      split <;> omega
theorem mx_z (o : RwOk L p R) {k : Nat} (hk : k < nQ L) (hc : cpe L k = p) : mxN R k 5 = 0 ↔ R.1 = 0 := by
  have b := mx_b o k 5
  have s := o.2.1 k hk hc
  have a0 := mx_ge (R := R) k 5 0 (by omega)
  have a1 := mx_ge (R := R) k 5 1 (by omega)
  have a2 := mx_ge (R := R) k 5 2 (by omega)
  have a3 := mx_ge (R := R) k 5 3 (by omega)
  have a4 := mx_ge (R := R) k 5 4 (by omega)
  omega
def cbB (b0 b1 b2 b3 b4 : Bool) : Int32 :=
  let x0 : Int32 := 0
  let x1 := if b0 then x0 else x0 ||| ((1 : Int32) <<< (nI 0 &&& 31))
  let x2 := if b1 then x1 else x1 ||| ((1 : Int32) <<< (nI 1 &&& 31))
  let x3 := if b2 then x2 else x2 ||| ((1 : Int32) <<< (nI 2 &&& 31))
  let x4 := if b3 then x3 else x3 ||| ((1 : Int32) <<< (nI 3 &&& 31))
  if b4 then x4 else x4 ||| ((1 : Int32) <<< (nI 4 &&& 31))
theorem cbB_c : ∀ b0 b1 b2 b3 b4 : Bool, (cbB b0 b1 b2 b3 b4 = (1 : Int32) <<< (nI 0 &&& 31) ↔ b0 = false ∧ b1 = true ∧ b2 = true ∧ b3 = true ∧ b4 = true) ∧ (cbB b0 b1 b2 b3 b4 = (1 : Int32) <<< (nI 1 &&& 31) ↔ b0 = true ∧ b1 = false ∧ b2 = true ∧ b3 = true ∧ b4 = true) ∧ (cbB b0 b1 b2 b3 b4 = (1 : Int32) <<< (nI 2 &&& 31) ↔ b0 = true ∧ b1 = true ∧ b2 = false ∧ b3 = true ∧ b4 = true) ∧ (cbB b0 b1 b2 b3 b4 = (1 : Int32) <<< (nI 3 &&& 31) ↔ b0 = true ∧ b1 = true ∧ b2 = true ∧ b3 = false ∧ b4 = true) ∧ (cbB b0 b1 b2 b3 b4 = (1 : Int32) <<< (nI 4 &&& 31) ↔ b0 = true ∧ b1 = true ∧ b2 = true ∧ b3 = true ∧ b4 = false) := by
  intro b0 b1 b2 b3 b4
  cases b0 <;> cases b1 <;> cases b2 <;> cases b3 <;> cases b4 <;> decide +kernel
theorem cb_B (k : Nat) : cbS R k 5 = cbB (decide (R.2.1 k 0 = 0)) (decide (R.2.1 k 1 = 0)) (decide (R.2.1 k 2 = 0)) (decide (R.2.1 k 3 = 0)) (decide (R.2.1 k 4 = 0)) := by
  unfold cbB
  simp only [decide_eq_true_eq]
  rfl
theorem sr_cb (o : RwOk L p R) {k : Nat} (hk : k < nQ L) (hc : cpe L k = p) {c : Nat} (h5 : c < 5) : cbS R k 5 = ((1 : Int32) <<< (nI c &&& 31)) ↔ (¬ R.1 = 0 ∧ R.2.1 k c = R.1) := by
  have s := o.2.1 k hk hc
  rw [cb_B]
  obtain ⟨q0, q1, q2, q3, q4⟩ := cbB_c (decide (R.2.1 k 0 = 0)) (decide (R.2.1 k 1 = 0)) (decide (R.2.1 k 2 = 0)) (decide (R.2.1 k 3 = 0)) (decide (R.2.1 k 4 = 0))
  simp only [decide_eq_true_eq, decide_eq_false_iff_not] at q0 q1 q2 q3 q4
  have hx : c = 0 ∨ c = 1 ∨ c = 2 ∨ c = 3 ∨ c = 4 := by omega
  rcases hx with rfl | rfl | rfl | rfl | rfl
  · rw [q0]; omega
  · rw [q1]; omega
  · rw [q2]; omega
  · rw [q3]; omega
  · rw [q4]; omega
/-- the one that is sure -/
theorem sr_c {k c : Nat} (h5 : c < 5) (h : ¬ R.1 = 0 ∧ R.2.1 k c = R.1) (hn : ∀ d, d < c → ¬ (¬ R.1 = 0 ∧ R.2.1 k d = R.1)) : srS R k = nI c := by
  obtain ⟨h1, h2⟩ := h
  have hn : ∀ d, d < c → ¬ R.2.1 k d = R.1 := fun d hd q => hn d hd ⟨h1, q⟩
  unfold srS
  rw [if_neg h1]
  have hx : c = 0 ∨ c = 1 ∨ c = 2 ∨ c = 3 ∨ c = 4 := by omega
  rcases hx with rfl | rfl | rfl | rfl | rfl
  · rw [if_pos h2]; rfl
  · rw [if_neg (hn 0 (by omega)), if_pos h2]; rfl
  · rw [if_neg (hn 0 (by omega)), if_neg (hn 1 (by omega)), if_pos h2]; rfl
  · rw [if_neg (hn 0 (by omega)), if_neg (hn 1 (by omega)), if_neg (hn 2 (by omega)), if_pos h2]; rfl
  · rw [if_neg (hn 0 (by omega)), if_neg (hn 1 (by omega)), if_neg (hn 2 (by omega)), if_neg (hn 3 (by omega)), if_pos h2]; rfl
theorem sr_n {k : Nat} (hn : ∀ d, d < 5 → ¬ (¬ R.1 = 0 ∧ R.2.1 k d = R.1)) : srS R k = -2 := by
  unfold srS
  by_cases h1 : R.1 = 0
  · rw [if_pos h1]
  · have hn : ∀ d, d < 5 → ¬ R.2.1 k d = R.1 := fun d hd q => hn d hd ⟨h1, q⟩
    rw [if_neg h1, if_neg (hn 0 (by omega)), if_neg (hn 1 (by omega)), if_neg (hn 2 (by omega)), if_neg (hn 3 (by omega)), if_neg (hn 4 (by omega))]
theorem li_s {m b : Nat} (h : liN L m = some b) : ∀ d, liN L (m + d) = some b
  | 0 => h
  | d + 1 => by
    show (match liN L (m + d) with | some b => some b | none => if lrB L (m + d) = true then some (m + d) else none) = _
    rw [li_s h d]
theorem bk_lt : ∀ m b, bkN L m = some b → b < m ∧ 0 < lvS L b
  | 0, b, h => by cases h
  | m + 1, b, h => by
    have ih := bk_lt m
    unfold bkN at h
    by_cases z : lvS L m = 0
    · rw [if_pos z] at h
      have := ih b h
      omega
    · rw [if_neg z] at h
      cases hb : bkN L m with
      | none =>
        rw [hb] at h
        cases h
        omega
      | some b1 =>
        rw [hb] at h
        dsimp only at h
        have := ih b1 hb
        by_cases y : lvS L m < lvS L b1
        · rw [if_pos y] at h; cases h; omega
        · rw [if_neg y] at h; cases h; omega
end Q9
section Q10
variable {h : PH} {lw c p m : Nat} {S : StD} {T : NowD} {R : RwD} {lv : Nat → Int32} {rw : Nat → Nat} {ml : Option Nat} {i : Nat} {al : Option Int32}
theorem cls_pos (e : RwS h lw S p T R lv rw m) (ok : LawOk (sL S)) (o : RwOk (sL S) p R) (hR : R.1 ≤ 4000) {k : Nat} (hk : k < nQ (sL S)) : Jvm.Pilot.CWaverTaxLaw_law_r8537_6f3a17.cl h 8 (some 177) (f_Rows_possible h (some 177) (nI k)) = some (cbS R k (nC (sL S))) := by
  have h4 := ok.2.2.2.2.1
  have h6 := ok.2.1
  obtain ⟨g0, g1, g2, g3, g4, g5, g6⟩ := e.g
  obtain ⟨k5, k6, k7, k8⟩ := e.g5
  obtain ⟨-, -, -, -, e4, e5⟩ := e.2.2.2
  rw [e.cl]
  unfold f_Rows_possible
  rw [pj_fold0 (fun c a => if R.2.1 k c = 0 then a else a ||| ((1 : Int32) <<< (nI c &&& 31))) id (nC (sL S)) (by omega) ?_ ?_]
  · rfl
  · intro c a hc
    have b := o.2.2.1 k c
    dsimp only
    rw [g0, Option.bind_some, g6, Option.bind_some, if_neg (nI_nle' hc (by omega)), k8, Option.bind_some, e4.aR (k := k) (x := some (182 + k)) (by omega) (by decide) rfl, Option.bind_some, (e5 k (by omega)).at (by omega) (by decide), Option.bind_some, nI_s]
    by_cases z : R.2.1 k c = 0
    · rw [if_pos (by rw [z]; decide), if_pos z]
    · rw [if_neg (nI_nle (by omega) (by omega)), if_neg z]
  · intro a
    dsimp only
    rw [g0, Option.bind_some, g6, Option.bind_some, if_pos (nI_le (Nat.le_refl _) (by omega))]
    rfl
theorem cls_cer (e : RwS h lw S p T R lv rw m) (ok : LawOk (sL S)) (o : RwOk (sL S) p R) (hR : R.1 ≤ 4000) {k : Nat} (hk : k < nQ (sL S)) : Jvm.Pilot.CWaverTaxLaw_law_r8537_6f3a17.cl h 8 (some 177) (f_Rows_certain h (some 177) (nI k)) = some (srS R k) := by
  have h4 := ok.2.2.2.2.1
  have h6 := ok.2.1
  obtain ⟨g0, g1, g2, g3, g4, g5, g6⟩ := e.g
  obtain ⟨k5, k6, k7, k8⟩ := e.g5
  obtain ⟨-, -, -, -, e4, e5⟩ := e.2.2.2
  rw [e.cl]
  unfold f_Rows_certain
  obtain ⟨x, l1, l2⟩ := pj_inv (step := fun s1 : Int32 => (gR h 8 (some 177) 0).bind fun v3 => (gI h 1 v3 2).bind fun v4 => if v4 ≤ s1 then (some (.inr (.inl ())) : Option (Int32 ⊕ (Unit ⊕ Int32))) else ((gI h 8 (some 177) 4).bind fun v5 => if v5 ≤ 0 then (some (.inl (s1 + (1 : Int32)))) else ((gR h 8 (some 177) 8).bind fun v6 => (aR h 53 v6 (nI k)).bind fun v7 => (aI h v7 s1).bind fun v8 => (gI h 8 (some 177) 4).bind fun v9 => if ¬ v8 = v9 then (some (.inl (s1 + (1 : Int32)))) else (some (.inr (.inr s1)))))) (fun c s => s = nI c ∧ ∀ d, d < c → ¬ (¬ R.1 = 0 ∧ R.2.1 k d = R.1)) (fun x => (x = .inl () ∧ srS R k = -2) ∨ x = .inr (srS R k)) (nC (sL S)) (s0 := (0 : Int32)) (by omega) ⟨rfl, fun d hd => absurd hd (Nat.not_lt_zero d)⟩ (by
      rintro c s hc ⟨rfl, x2⟩
      have b := o.2.2.1 k c
      rw [g0, Option.bind_some, g6, Option.bind_some, if_neg (nI_nle' hc (by omega)), g4, Option.bind_some, nI_s]
      by_cases z : R.1 = 0
      · rw [if_pos (by rw [z]; decide)]
        exact Or.inl ⟨_, rfl, rfl, fun d hd q => q.1 z⟩
      · rw [if_neg (nI_nle (by omega) (by omega)), k8, Option.bind_some, e4.aR (k := k) (x := some (182 + k)) (by omega) (by decide) rfl, Option.bind_some, (e5 k (by omega)).at (by omega) (by decide), Option.bind_some, Option.bind_some]
        by_cases y : R.2.1 k c = R.1
        · rw [if_neg (by rw [y]; exact fun q => q rfl)]
          exact Or.inr ⟨_, rfl, Or.inr (by rw [sr_c (by omega) ⟨z, y⟩ x2])⟩
        · rw [if_pos (fun q => y ((nI_eq (by omega) (by omega)).mp q))]
          refine Or.inl ⟨_, rfl, rfl, fun d hd q => ?_⟩
          by_cases w : d = c
          · rw [w] at q; exact y q.2
          · exact x2 d (by omega) q) (by
      rintro s ⟨rfl, x2⟩
      rw [g0, Option.bind_some, g6, Option.bind_some, if_pos (nI_le (Nat.le_refl _) (by omega))]
      refine ⟨_, rfl, Or.inl ⟨rfl, sr_n (fun d hd q => ?_)⟩⟩
      by_cases w : d < nC (sL S)
      · exact x2 d w q
      · rw [o.1 k d (by omega)] at q; omega)
  rw [l1, Option.bind_some]
  rcases l2 with ⟨rfl, l3⟩ | rfl
  · rw [l3]
  · rfl
theorem mod_cb (e : RmS al h i S R rw) (o : RwOk (sL S) p R) (hR : R.1 ≤ 4000) {k : Nat} (hk : k < 5) : Jvm.Pilot.CWaverTaxLaw_law_r8537_6f3a17.cl h 12 (some 285) (f_M_couldBe h (some 285) (nI k)) = some (cbS R k 5) := by
  obtain ⟨e0, -, -, -, -, ⟨ct, e5, e5'⟩⟩ := e
  rw [e0.cl]
  unfold f_M_couldBe
  rw [pj_fold0 (fun c a => if R.2.1 k c = 0 then a else a ||| ((1 : Int32) <<< (nI c &&& 31))) id 5 (by omega) ?_ ?_]
  · rfl
  · intro c a hc
    have b := o.2.2.1 k c
    dsimp only
    rw [if_neg (show ¬ (5 : Int32) ≤ nI c from nI_nle' (b := 5) hc (by omega)), e0.g25.2.2, Option.bind_some, nI_5, e5.at (by omega) (by decide), Option.bind_some, e5' k c hk hc, nI_s]
    by_cases z : R.2.1 k c = 0
    · rw [if_pos (by rw [z]; decide), if_pos z, Option.bind_some]
      simp
    · rw [if_neg (nI_nle (by omega) (by omega)), if_neg z, Option.bind_some]
  · intro a
    dsimp only
    rw [if_pos (show (5 : Int32) ≤ nI 5 by decide)]
    rfl
theorem mod_rcp (e : Mst h ml S) (o : SOk c S) (hp : p < nP (sL S)) : Jvm.Pilot.CWaverTaxLaw_law_r8537_6f3a17.cl h 12 (some 285) (f_M_receiptsOf h (some 285) (nI p)) = some (nI (rqN (sL S) p (nQ (sL S)))) := by
  have lf := o.lfP hp
  have ok := o.ok lf
  have h4 := ok.2.2.2.2.1
  have h5 := ok.2.2.1
  obtain ⟨i, q1, -, m3⟩ := e.ye lf
  subst q1
  obtain ⟨⟨-, -, -, -, -, -, g6, -⟩, -, -, -, -, -, ⟨⟨a19, ha19, hA19⟩, -⟩, -⟩ := m3.v ok
  have f19 : ∀ k, k < nQ (sL S) → aI h (some a19) (nI k) = some (nI (cpe (sL S) k)) := hA19
  rw [e.cl]
  unfold f_M_receiptsOf
  rw [pj_for' (fun k => (nI (rqN (sL S) p k), nI k)) (nI (rqN (sL S) p (nQ (sL S)))) (nQ (sL S)) (by rw [nI_0]; rfl) (by omega) ?_ ?_]
  · rfl
  · intro k hk
    have qc := ok.2.2.2.2.2.2.2.2 k hk
    dsimp only
    rw [e.lwR, Option.bind_some, g6, Option.bind_some, if_neg (nI_nle' hk (by omega)), Option.bind_some, ha19, Option.bind_some, f19 k hk, Option.bind_some, nI_s]
    rw [show rqN (sL S) p (k + 1) = if cpe (sL S) k = p then rqN (sL S) p k + 1 else rqN (sL S) p k from rfl]
    by_cases z : cpe (sL S) k = p
    · rw [if_neg (by rw [z]; exact fun q => q rfl), if_pos z, Option.bind_some, nI_s]
    · rw [if_pos (fun w => z ((nI_eq (by omega) (by omega)).mp w)), if_neg z, Option.bind_some, Int32.add_zero]
  · dsimp only
    rw [e.lwR, Option.bind_some, g6, Option.bind_some, if_pos (nI_le (Nat.le_refl _) (by omega))]
theorem CI.lvx (e : CI h lw S) : ∃ f, Fu h 179 5 f := by
  obtain ⟨-, -, -, F, -, -, -, -, -, -, -, -, q, -⟩ := e.2.2.2.2.2.2.2.1
  exact q
theorem cls_gf1 (e : CI h lw S) (o : SOk c S) {k : Nat} (lf : sLf S = true) (hk : k < nQ (sL S)) : ∃ h1 T1 lv, Jvm.Pilot.CWaverTaxLaw_law_r8537_6f3a17.cl h 10 (some 100) (f_T_gatherFor h (some 100) (nI k)) = some (1, h1) ∧ RwS h1 lw S (cpe (sL S) k) T1 (RS (sL S) (cpe (sL S) k)) lv (fun _ => 0) 0 ∧ Fr h h1 100 285 := by
  have ok := o.ok lf
  have h4 := ok.2.2.2.2.1
  have hp := ok.2.2.2.2.2.2.2.2 k hk
  obtain ⟨lv, hv⟩ := e.lvx
  obtain ⟨h1, T1, a1, a2, a3⟩ := cls_gather e o hp hv
  obtain ⟨r0, r1, -, -⟩ := e.2.2.2.1.2.2.2.2.2.2.2.2.2.1
  refine ⟨h1, T1, lv, ?_, a2, a3⟩
  have g2 : gR h 10 (some 100) 2 = some (some lw) := gR_o e.2.1 rfl
  have g10 : gR h 10 (some 100) 10 = some (some 177) := gR_o e.2.1 rfl
  have g11 : gR h 1 (some lw) 11 = some (some (lw + 22)) := gR_o e.2.2.2.1.1 rfl
  rw [e.cl]
  unfold f_T_gatherFor
  rw [if_neg (nI_pos (by omega)), e.lf, Option.bind_some, lf, if_neg (by decide), g2, Option.bind_some, g11, Option.bind_some, gI_o r0 rfl, Option.bind_some, if_pos (nI_lt hk (by omega)), g10, Option.bind_some, Option.bind_some, Option.bind_some, g11, Option.bind_some, gR_o r0 rfl, Option.bind_some, r1.at (by omega) (by decide), Option.bind_some, a1, Option.bind_some]
theorem cls_gf0 (e : CI h lw S) {x : Int32} (hx : ¬ (0 ≤ x ∧ x < nI (nQ (sL S)))) : Jvm.Pilot.CWaverTaxLaw_law_r8537_6f3a17.cl h 10 (some 100) (f_T_gatherFor h (some 100) x) = some (0, h) := by
  obtain ⟨r0, r1, -, -⟩ := e.2.2.2.1.2.2.2.2.2.2.2.2.2.1
  have g2 : gR h 10 (some 100) 2 = some (some lw) := gR_o e.2.1 rfl
  have g11 : gR h 1 (some lw) 11 = some (some (lw + 22)) := gR_o e.2.2.2.1.1 rfl
  rw [e.cl]
  unfold f_T_gatherFor
  by_cases z : x < 0
  · rw [if_pos z]
  · rw [if_neg z, e.lf, Option.bind_some]
    cases hb : sLf S with
    | false => rw [if_pos (by decide)]
    | true => rw [if_neg (by decide), g2, Option.bind_some, g11, Option.bind_some, gI_o r0 rfl, Option.bind_some, if_neg (fun q => hx ⟨Int32.not_lt.mp z, q⟩)]
theorem mod_ir1 (e : Mst h ml S) (o : SOk c S) {k : Nat} (lf : sLf S = true) (hk : k < nQ (sL S)) : Jvm.Pilot.CWaverTaxLaw_law_r8537_6f3a17.cl h 12 (some 285) (f_M_isReceipt h (some 285) (nI k)) = some 1 := by
  have ok := o.ok lf
  have h4 := ok.2.2.2.2.1
  obtain ⟨i, rfl, -, G, g0, g1, -⟩ := e.ye lf
  rw [e.cl]
  unfold f_M_isReceipt
  rw [e.lwR, Option.bind_some, if_neg (by simp), if_neg (nI_pos (by omega)), Option.bind_some, g0.gi (by omega) g1.2.2.2.2.2.2.1, Option.bind_some, if_neg (nI_ge hk (by omega))]
theorem mod_ir0 (e : Mst h ml S) {x : Int32} (hx : ¬ (0 ≤ x ∧ x < nI (nQ (sL S)))) : Jvm.Pilot.CWaverTaxLaw_law_r8537_6f3a17.cl h 12 (some 285) (f_M_isReceipt h (some 285) x) = some 0 := by
  rw [e.cl]
  unfold f_M_isReceipt
  rw [e.lwR, Option.bind_some]
  cases hb : sLf S with
  | false => rw [if_pos (e.no hb)]
  | true =>
    obtain ⟨i, rfl, -, G, g0, g1, -⟩ := e.ye hb
    rw [if_neg (by simp)]
    by_cases z : x < 0
    · rw [if_pos z]
    · rw [if_neg z, Option.bind_some, g0.gi (by omega) g1.2.2.2.2.2.2.1, Option.bind_some, if_pos]
      exact Int32.not_lt.mp (fun q => hx ⟨Int32.not_lt.mp z, q⟩)
theorem SOk.lfQ (o : SOk c S) {k : Nat} (hk : k < nQ (sL S)) : sLf S = true := by
  cases hb : sLf S with
  | true => rfl
  | false => have := (o.2.2.1 hb).2.2.2.2.2.2.1; omega
theorem SOk.Q5 (o : SOk c S) : nQ (sL S) ≤ 5 := by
  cases hb : sLf S with
  | true => exact (o.ok hb).2.2.2.2.1
  | false => have := (o.2.2.1 hb).2.2.2.2.2.2.1; omega
/-- the reference's rows of a receipt -/
theorem mod_rk (e : Mst h ml S) (o : SOk c S) {k : Nat} (lf : sLf S = true) (hk : k < nQ (sL S)) : ∃ h1 i rw, ((gR h 12 (some 285) 3).bind fun v3 => (gR h 11 v3 19).bind fun v4 => (aI h v4 (nI k)).bind fun v5 => (Jvm.Pilot.CWaverTaxLaw_law_r8537_6f3a17.cl h 12 (some 285) (f_M_rowsOf h (some 285) v5))) = some h1 ∧ ml = some i ∧ RmS (gI h 12 (some 285) 29) h1 i S (RS (sL S) (cpe (sL S) k)) rw ∧ Fr h h1 285 295 := by
  have ok := o.ok lf
  have hp := ok.2.2.2.2.2.2.2.2 k hk
  obtain ⟨h1, a1, i, rw9, rfl, a3, a4⟩ := mod_rows e o hp
  refine ⟨h1, i, rw9, ?_, rfl, a3, a4⟩
  obtain ⟨-, -, -, -, -, -, ⟨⟨a19, ha19, hA19⟩, -⟩, -⟩ := (e.ye' lf).2.v ok
  have f19 : aI h (some a19) (nI k) = some (nI (cpe (sL S) k)) := hA19 k hk
  rw [e.lwR, Option.bind_some, ha19, Option.bind_some, f19, Option.bind_some, a1]
theorem bnd3 {X Y A B C : Type} {a : Option A} {b : A → Option B} {d : B → Option C} {f : C → Option X} {g : X → Option Y} : (a.bind fun x => (b x).bind fun y => (d y).bind fun z => (f z).bind g) = (a.bind fun x => (b x).bind fun y => (d y).bind fun z => f z).bind g := by
  cases a with
  | none => rfl
  | some x =>
    cases hb : b x with
    | none => simp [hb]
    | some y =>
      cases hd : d y with
      | none => simp [hb, hd]
      | some z => simp [hb, hd]
end Q10
