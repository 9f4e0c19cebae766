/-! receipts: the class's rows -/
theorem nI_e0 {n : Nat} (h : n < 2 ^ 31) : nI n = 0 ↔ n = 0 := nI_eq (b := 0) h (by omega)
theorem Fu.fill {h : PH} {i n : Nat} {f : Nat → Int32} (e : Fu h i n f) (hn : n < 2000) (x : Int32) : ∃ h1, f_Arrays_fill h (some i) x = some h1 ∧ Fu h1 i n (fun _ => x) ∧ Fr h h1 i (i + 1) := by
  unfold f_Arrays_fill
  have e0 : aN h 50 (some i) = some (nI n) := by
    unfold aN
    rw [pj_at_o e]
    simp [nI, Nat.toInt32]
  rw [e0, Option.bind_some]
  obtain ⟨h1, l1, l2, l3⟩ := pj_inv (step := fun s2 : Int32 × PH => if nI n ≤ s2.1 then (some (.inr s2.2) : Option ((Int32 × PH) ⊕ PH)) else ((sA s2.2 50 (some i) s2.1 (.inl x)).bind fun h4 => some (.inl ((s2.1 + (1 : Int32)), h4)))) (fun k s => s.1 = nI k ∧ (∃ g, Fu s.2 i n g ∧ ∀ q, q < k → g q = x) ∧ Fr h s.2 i (i + 1)) (fun y => Fu y i n (fun _ => x) ∧ Fr h y i (i + 1)) n (s0 := ((0 : Int32), h)) (by omega) ⟨rfl, ⟨f, e, fun q hq => absurd hq (Nat.not_lt_zero q)⟩, Fr.rf⟩ (by
      rintro k ⟨s1, s2⟩ hk ⟨x1, ⟨g, x2, x3⟩, x4⟩
      dsimp only at x1 x2 x4 ⊢
      subst x1
      left
      obtain ⟨h2, y1, y2, y3⟩ := x2.set hk (by omega) x
      rw [if_neg (nI_ge hk (by omega)), y1, Option.bind_some, nI_s]
      refine ⟨_, rfl, rfl, ⟨_, y2, fun q hq => ?_⟩, x4.tr y3⟩
      unfold up1
      by_cases z : q = k
      · rw [if_pos z]
      · rw [if_neg z]; exact x3 q (by omega)) (by
      rintro ⟨s1, s2⟩ ⟨x1, ⟨g, x2, x3⟩, x4⟩
      dsimp only at x1 x2 x4 ⊢
      subst x1
      rw [if_pos (nI_le (Nat.le_refl _) (by omega))]
      exact ⟨_, rfl, x2.eq x3, x4⟩)
  rw [l1, Option.bind_some]
  exact ⟨h1, rfl, l2, l3⟩
def bgN (L : LawD) : NowD := (fun k _ => if k = 3 then -2 else 0, frs L)
theorem cls_begin {h : PH} {b lw : Nat} {N : NowD} {L : LawD} (e : NowC h b N) (l : LawC h lw L) (dj : b + 5 ≤ lw ∨ lw + 29 ≤ b) : ∃ h1, f_Now_begin h (some b) (some lw) = some h1 ∧ NowC h1 b (bgN L) ∧ Fr h h1 b (b + 5) := by
  obtain ⟨h1, a1, n1, f1⟩ := e.s0 (j := 0) (by omega) 0
  obtain ⟨h2, a2, n2, f2⟩ := n1.s0 (j := 1) (by omega) 0
  obtain ⟨h3, a3, n3, f3⟩ := n2.s0 (j := 2) (by omega) 0
  have l3 := f3.lc (LawC.lc _ _) (by omega) (f2.lc (LawC.lc _ _) (by omega) (f1.lc (LawC.lc _ _) (by omega) l))
  obtain ⟨c0, c1, c2, c3, c4⟩ := n3
  obtain ⟨h4, a4, u1, f4⟩ := l3.2.2.2.2.1.aC c1
  obtain ⟨h5, a5, u2, f5⟩ := (c2.fr f4 (by omega)).fill (by omega) 0
  obtain ⟨h6, a6, u3, f6⟩ := ((c3.fr f4 (by omega)).fr f5 (by omega)).fill (by omega) 0
  obtain ⟨h7, a7, u4, f7⟩ := (((c4.fr f4 (by omega)).fr f5 (by omega)).fr f6 (by omega)).fill (by omega) (-2)
  have k4 := (f4.2 b (by omega)).trans c0
  have k5 := (f5.2 b (by omega)).trans k4
  have k6 := (f6.2 b (by omega)).trans k5
  have k7 := (f7.2 b (by omega)).trans k6
  refine ⟨h7, ?_, ⟨?_, ((u1.fr f5 (by omega)).fr f6 (by omega)).fr f7 (by omega), ((u2.fr f6 (by omega)).fr f7 (by omega)).gt ?_, (u3.fr f7 (by omega)).gt ?_, u4.gt ?_⟩, ?_⟩
  · unfold f_Now_begin
    rw [a1, Option.bind_some, a2, Option.bind_some, a3, Option.bind_some, gR_o l3.1 rfl, Option.bind_some, gR_o c0 rfl, Option.bind_some, a4, Option.bind_some, gR_o k4 rfl, Option.bind_some, a5, Option.bind_some, gR_o k5 rfl, Option.bind_some, a6, Option.bind_some, gR_o k6 rfl, Option.bind_some, a7, Option.bind_some]
  · rw [k7]
    simp [set0, hou, sed, cme, bgN]
  · funext q; simp [bgN, tur]
  · funext q; simp [bgN, spe]
  · funext q; simp [bgN, lat]
  · exact (((((((f1.wd (Nat.le_refl b) (by omega)).tr (f2.wd (Nat.le_refl b) (by omega))).tr (f3.wd (Nat.le_refl b) (by omega))).tr (f4.wd (by omega) (by omega))).tr (f5.wd (by omega) (by omega))).tr (f6.wd (by omega) (by omega))).tr (f7.wd (by omega) (by omega)))
/-- the next receipt -/
def qxN (L : LawD) (p : Nat) : Nat → Nat
  | 0 => nQ L
  | j + 1 => if cpe L (nQ L - (j + 1)) = p then nQ L - (j + 1) else qxN L p j
section Q2
variable {L : LawD} {p : Nat}
theorem qx_le : ∀ j, nQ L - j ≤ qxN L p j ∧ qxN L p j ≤ nQ L
  | 0 => ⟨by show nQ L - 0 ≤ nQ L; omega, Nat.le_refl _⟩
  | j + 1 => by
    have ih := qx_le j
    unfold qxN
    split
    · omega
    · omega
theorem df_qx {he tu : Nat} {la : Int32} {rw : Nat → Nat} {R : RwD} : ∀ j, j ≤ nQ L → dfR L p j he tu la rw R = if qxN L p j = nQ L then vsR L p rw R else foldN (fun c R => if gdB L p he tu la (qxN L p j) c = true then dfR L p (nQ L - (qxN L p j + 1)) c (tu + 1) (cho L (qxN L p j)) (upN rw (qxN L p j) c) R else R) (nC L) R
  | 0, _ => by
    show vsR L p rw R = _
    rw [if_pos (show qxN L p 0 = nQ L from rfl)]
  | j + 1, hj => by
    have ih := df_qx (he := he) (tu := tu) (la := la) (rw := rw) (R := R) j (by omega)
    by_cases z : cpe L (nQ L - (j + 1)) = p
    · rw [show qxN L p (j + 1) = nQ L - (j + 1) from if_pos z, if_neg (by omega), show nQ L - (nQ L - (j + 1) + 1) = j by omega]
      exact if_pos z
    · rw [show qxN L p (j + 1) = qxN L p j from if_neg z, ← ih]
      exact if_neg z
theorem qx_c : ∀ j, j ≤ nQ L → qxN L p j < nQ L → cpe L (qxN L p j) = p
  | 0, _, h => absurd h (by show ¬ nQ L < nQ L; omega)
  | j + 1, hj, h => by
    by_cases z : cpe L (nQ L - (j + 1)) = p
    · rw [show qxN L p (j + 1) = nQ L - (j + 1) from if_pos z]; exact z
    · rw [show qxN L p (j + 1) = qxN L p j from if_neg z] at h ⊢
      exact qx_c j (by omega) h
theorem qx_n : ∀ j, j ≤ nQ L → ∀ k, nQ L - j ≤ k → k < qxN L p j → ¬ cpe L k = p
  | 0, _, k, h1, h2 => by
    have h2 : k < nQ L := h2
    omega
  | j + 1, hj, k, h1, h2 => by
    by_cases z : cpe L (nQ L - (j + 1)) = p
    · rw [show qxN L p (j + 1) = nQ L - (j + 1) from if_pos z] at h2
      omega
    · rw [show qxN L p (j + 1) = qxN L p j from if_neg z] at h2
      by_cases y : k = nQ L - (j + 1)
      · rw [y]; exact z
      · exact qx_n j (by omega) k (by omega) h2
theorem df_bd (h5 : nC L ≤ 5) : ∀ j he tu la rw R, (dfR L p j he tu la rw R).1 ≤ R.1 + 5 ^ j
  | 0, he, tu, la, rw, R => by show R.1 + 1 ≤ R.1 + 1; omega
  | j + 1, he, tu, la, rw, R => by
    have ih := df_bd h5 j
    have h0 : 1 ≤ 5 ^ j := Nat.pow_le_pow_right (n := 5) (by omega) (Nat.zero_le j)
    unfold dfR
    split
    · have key : ∀ n, (foldN (fun c R => if gdB L p he tu la (nQ L - (j + 1)) c = true then dfR L p j c (tu + 1) (cho L (nQ L - (j + 1))) (upN rw (nQ L - (j + 1)) c) R else R) n R).1 ≤ R.1 + n * 5 ^ j := by
        intro n
        induction n with
        | zero => show R.1 ≤ _; omega
        | succ n ihn =>
          show (if gdB L p he tu la (nQ L - (j + 1)) n = true then _ else _ : RwD).1 ≤ _
          rw [Nat.succ_mul]
          split
          · have := ih n (tu + 1) (cho L (nQ L - (j + 1))) (upN rw (nQ L - (j + 1)) n) (foldN (fun c R => if gdB L p he tu la (nQ L - (j + 1)) c = true then dfR L p j c (tu + 1) (cho L (nQ L - (j + 1))) (upN rw (nQ L - (j + 1)) c) R else R) n R)
            omega
          · omega
      have := key (nC L)
      have h2 : nC L * 5 ^ j ≤ 5 * 5 ^ j := Nat.mul_le_mul_right _ h5
      rw [Nat.pow_succ]
      omega
    · have := ih he tu la rw R
      rw [Nat.pow_succ]
      omega
end Q2
def rwF (lw p n : Nat) : Nat → PV := fun k => if k = 0 then .inr (.inr (some lw)) else if k = 1 then .inr (.inr (some 175)) else if k = 2 then .inr (.inr (some 170)) else if k = 3 then .inl (nI p) else if k = 4 then .inl (nI n) else if k = 5 then .inr (.inr (some 178)) else if k = 6 then .inr (.inr (some 179)) else if k = 7 then .inr (.inr (some 180)) else .inr (.inr (some 181))
def RwP (h : PH) (lw : Nat) (L : LawD) (p : Nat) (R : RwD) (lv : Nat → Int32) (rw : Nat → Nat) (m : Nat) : Prop :=
  Fo h 177 8 9 (rwF lw p R.1) ∧ (∃ fr, Fu h 178 5 fr ∧ (0 < R.1 → ∀ k, k < nQ L → cpe L k = p → fr k = nI (R.2.2 k))) ∧ Fu h 179 5 lv ∧ (∃ ra, Fu h 180 5 ra ∧ ∀ k, k < m → cpe L k = p → ra k = nI (rw k)) ∧ Fo h 181 53 5 (fun k => .inr (.inr (some (182 + k)))) ∧ ∀ k, k < 5 → Fu h (182 + k) 5 (fun c => nI (R.2.1 k c))
def RwS (h : PH) (lw : Nat) (S : StD) (p : Nat) (T : NowD) (R : RwD) (lv : Nat → Int32) (rw : Nat → Nat) (m : Nat) : Prop := CI h lw S ∧ NowC h 170 T ∧ DeskC h (some lw) (some 170) (-1) (third (sL S)) ∧ RwP h lw (sL S) p R lv rw m
section Q3
variable {h h1 : PH} {lw c p m : Nat} {S : StD} {T T1 : NowD} {R : RwD} {lv : Nat → Int32} {rw : Nat → Nat} {L : LawD}
theorem RwP.rc (e : RwP h lw L p R lv rw m) : RwC h := by
  obtain ⟨e0, ⟨fr, e1, -⟩, e2, ⟨ra, e3, -⟩, e4, e5⟩ := e
  exact ⟨_, e0, rfl, rfl, rfl, rfl, rfl, rfl, ⟨_, e1⟩, ⟨_, e2⟩, ⟨_, e3⟩, e4, fun k hk => ⟨_, e5 k hk⟩⟩
theorem RwP.lc : Lc (fun h => RwP h lw L p R lv rw m) 177 187 := by
  intro h h1 q e
  have t : ∀ {i : Nat} {x : Option PC}, 177 ≤ i → i < 187 → h[i]? = x → h1[i]? = x := fun a c d => (q _ a c).trans d
  obtain ⟨e0, ⟨fr, e1, e1'⟩, e2, ⟨ra, e3, e3'⟩, e4, e5⟩ := e
  exact ⟨t (by omega) (by omega) e0, ⟨fr, t (by omega) (by omega) e1, e1'⟩, t (by omega) (by omega) e2, ⟨ra, t (by omega) (by omega) e3, e3'⟩, t (by omega) (by omega) e4, fun k hk => t (by omega) (by omega) (e5 k hk)⟩
theorem RwS.mk' (e : CI h lw S) (f : Fr h h1 170 187) (q : h1[176]? = h[176]?) (n : NowC h1 170 T) (d : DeskC h1 (some lw) (some 170) (-1) (third (sL S))) (r : RwP h1 lw (sL S) p R lv rw m) : RwS h1 lw S p T R lv rw m :=
  ⟨e.sc f ⟨⟨T, n⟩, ⟨_, _, _, _, d⟩, PlC.lc h h1 (fun i a b => by obtain rfl : i = 176 := (by omega); exact q) e.2.2.2.2.2.2.2.1.2.2.1, r.rc⟩, n, d, r⟩
theorem RwS.tl (e : RwS h lw S p T R lv rw m) (f : Fr h h1 170 175) (n : NowC h1 170 T1) : RwS h1 lw S p T1 R lv rw m :=
  RwS.mk' e.1 (f.wd (by omega) (by omega)) (f.2 _ (by omega)) n (e.2.2.1.fr f (by omega)) (f.lc RwP.lc (by omega) e.2.2.2)
theorem RwS.rp {R1 : RwD} {lv1 : Nat → Int32} {rw1 : Nat → Nat} {m1 : Nat} (e : RwS h lw S p T R lv rw m) (f : Fr h h1 177 187) (r : RwP h1 lw (sL S) p R1 lv1 rw1 m1) : RwS h1 lw S p T R1 lv1 rw1 m1 :=
  RwS.mk' e.1 (f.wd (by omega) (by omega)) (f.2 _ (by omega)) (f.lc (NowC.lc _ _) (by omega) e.2.1) (e.2.2.1.fr f (by omega)) r
theorem RwS.g (e : RwS h lw S p T R lv rw m) : gR h 8 (some 177) 0 = some (some lw) ∧ gR h 8 (some 177) 1 = some (some 175) ∧ gR h 8 (some 177) 2 = some (some 170) ∧ gI h 8 (some 177) 3 = some (nI p) ∧ gI h 8 (some 177) 4 = some (nI R.1) ∧ gR h 1 (some lw) 11 = some (some (lw + 22)) ∧ gI h 1 (some lw) 2 = some (nI (nC (sL S))) :=
  ⟨e.2.2.2.1.gr (by omega) rfl, e.2.2.2.1.gr (by omega) rfl, e.2.2.2.1.gr (by omega) rfl, e.2.2.2.1.gi (by omega) rfl, e.2.2.2.1.gi (by omega) rfl, gR_o e.1.2.2.2.1.1 rfl, gI_o e.1.2.2.2.1.1 rfl⟩
theorem RwS.g5 (e : RwS h lw S p T R lv rw m) : gR h 8 (some 177) 5 = some (some 178) ∧ gR h 8 (some 177) 6 = some (some 179) ∧ gR h 8 (some 177) 7 = some (some 180) ∧ gR h 8 (some 177) 8 = some (some 181) :=
  ⟨e.2.2.2.1.gr (by omega) rfl, e.2.2.2.1.gr (by omega) rfl, e.2.2.2.1.gr (by omega) rfl, e.2.2.2.1.gr (by omega) rfl⟩
theorem RwS.cl {X : Type} (e : RwS h lw S p T R lv rw m) (o : Option X) : cl h 8 (some 177) o = o := cl_o e.2.2.2.1 o
theorem RwS.mono {rw1 : Nat → Nat} {m1 : Nat} (e : RwS h lw S p T R lv rw m) (q : ∀ k, k < m1 → cpe (sL S) k = p → k < m ∧ rw1 k = rw k) : RwS h lw S p T R lv rw1 m1 := by
  obtain ⟨a, b, d, e0, e1, e2, ⟨ra, e3, e4⟩, e5⟩ := e
  refine ⟨a, b, d, e0, e1, e2, ⟨ra, e3, fun k hk hp => ?_⟩, e5⟩
  rw [(q k hk hp).2]
  exact e4 k (q k hk hp).1 hp
theorem cls_qn (l : LawC h lw L) (ok : LawOk L) (hp : p < nP L) {j : Nat} (hj : j ≤ nQ L) : f_Receipts_nextOf h (some (lw + 22)) (nI p) (nI (nQ L - j)) = some (nI (qxN L p j)) := by
  have h4 := ok.2.2.2.2.1
  have h5 := ok.2.2.1
  obtain ⟨r0, r1, -, -⟩ := l.2.2.2.2.2.2.2.2.2.1
  unfold f_Receipts_nextOf
  obtain ⟨x, l1, l2⟩ : ∃ x, pj_it (X := (Unit) ⊕ (Int32)) (fun s1 : Int32 => (gI h 7 (some (lw + 22)) 0).bind fun v3 => if v3 ≤ s1 then (some (.inr (.inl ()))) else ((gR h 7 (some (lw + 22)) 1).bind fun v4 => (aI h v4 s1).bind fun v5 => if ¬ v5 = nI p then (some (.inl (s1 + (1 : Int32)))) else (some (.inr (.inr s1))))) FU (nI (nQ L - j)) = some x ∧ ((∃ u, x = .inl u ∧ qxN L p j = nQ L) ∨ x = .inr (nI (qxN L p j))) := by
    refine pj_inv (fun i s => s = nI (nQ L - (j - i)) ∧ qxN L p j = qxN L p (j - i)) _ j (by omega) ⟨rfl, rfl⟩ ?_ ?_
    · rintro i s hi ⟨rfl, x2⟩
      obtain ⟨j1, hj1⟩ : ∃ j1, j - i = j1 + 1 := ⟨j - i - 1, by omega⟩
      have hk : nQ L - (j1 + 1) < nQ L := by omega
      have q1 := ok.2.2.2.2.2.2.2.2 _ hk
      rw [hj1] at x2 ⊢
      rw [gI_o r0 rfl, Option.bind_some, if_neg (nI_nle' hk (by omega)), gR_o r0 rfl, Option.bind_some, r1.at (by omega) (by decide), Option.bind_some, nI_s]
      have e9 : nQ L - (j1 + 1) + 1 = nQ L - (j - (i + 1)) := by omega
      have e8 : j - (i + 1) = j1 := by omega
      by_cases z1 : cpe L (nQ L - (j1 + 1)) = p
      · rw [if_neg (by rw [z1]; exact fun q => q rfl)]
        rw [show qxN L p (j1 + 1) = nQ L - (j1 + 1) from if_pos z1] at x2
        exact Or.inr ⟨_, rfl, Or.inr (by rw [x2])⟩
      · rw [if_pos (fun q => z1 ((nI_eq (by omega) (by omega)).mp q))]
        rw [show qxN L p (j1 + 1) = qxN L p j1 from if_neg z1] at x2
        exact Or.inl ⟨_, rfl, by rw [e9], by rw [e8]; exact x2⟩
    · rintro s ⟨rfl, x2⟩
      rw [Nat.sub_self] at x2 ⊢
      rw [gI_o r0 rfl, Option.bind_some, if_pos (nI_le (by omega) (by omega))]
      exact ⟨_, rfl, Or.inl ⟨(), rfl, x2⟩⟩
  rw [l1, Option.bind_some]
  rcases l2 with ⟨u, rfl, l3⟩ | rfl
  · dsimp only
    rw [gI_o r0 rfl, Option.bind_some, l3]
  · rfl
theorem cls_has (l : LawC h lw L) (ok : LawOk L) (hp : p < nP L) : Jvm.Pilot.CWaverTaxLaw_law_r8537_6f3a17.cl h 7 (some (lw + 22)) (f_Receipts_has h (some (lw + 22)) (nI p)) = some (if qxN L p (nQ L) = nQ L then 0 else 1) := by
  have h4 := ok.2.2.2.2.1
  have r0 := l.2.2.2.2.2.2.2.2.2.1.1
  have q := cls_qn l ok hp (Nat.le_refl (nQ L))
  rw [Nat.sub_self] at q
  have b := qx_le (L := L) (p := p) (nQ L)
  unfold f_Receipts_has
  rw [cl_o r0, cl_o r0, show (0 : Int32) = nI 0 from rfl, q, Option.bind_some, gI_o r0 rfl, Option.bind_some]
  by_cases z : qxN L p (nQ L) = nQ L
  · rw [z, if_pos (nI_le (Nat.le_refl _) (by omega)), if_pos rfl]
  · rw [if_neg (nI_ge (by omega) (by omega)), if_neg z]
/-- a row is counted -/
theorem cls_count (e : RwS h lw S p T R lv rw m) (ok : LawOk (sL S)) (hp : p < nP (sL S)) (hm : ∀ k, k < nQ (sL S) → cpe (sL S) k = p → k < m ∧ rw k < nC (sL S)) (hR : R.1 < 4000) : ∃ h1, f_Rows_countRow h (some 177) = some h1 ∧ RwS h1 lw S p T (vsR (sL S) p rw R) lv rw m ∧ Fr h h1 177 187 := by
  have h4 := ok.2.2.2.2.1
  have h5 := ok.2.2.1
  have h6 := ok.2.1
  have hl := e.1.1
  obtain ⟨g0, g1, g2, g3, g4, g5, g6⟩ := e.g
  obtain ⟨e0, ⟨fr, e1, e1'⟩, e2, ⟨ra, e3, e3'⟩, e4, e5⟩ := e.2.2.2
  unfold f_Rows_countRow
  refine exB (f := fun h9 => h9) (fun x => Fo x 177 8 9 (rwF lw p R.1) ∧ (∃ fr1, Fu x 178 5 fr1 ∧ (R.1 = 0 → ∀ k, k < nQ (sL S) → cpe (sL S) k = p → fr1 k = nI (rw k)) ∧ (¬ R.1 = 0 → fr1 = fr)) ∧ (∀ k, k < 5 → Fu x (182 + k) 5 (fun c => nI (if k < nQ (sL S) ∧ cpe (sL S) k = p ∧ c = rw k then R.2.1 k c + 1 else R.2.1 k c))) ∧ x[179]? = h[179]? ∧ x[180]? = h[180]? ∧ x[181]? = h[181]? ∧ Fr h x 177 187) (pj_inv (fun i s => s.1 = nI i ∧ Fo s.2 177 8 9 (rwF lw p R.1) ∧ (∃ fr1, Fu s.2 178 5 fr1 ∧ (R.1 = 0 → ∀ k, k < i → cpe (sL S) k = p → fr1 k = nI (rw k)) ∧ (¬ R.1 = 0 → fr1 = fr)) ∧ (∀ k, k < 5 → Fu s.2 (182 + k) 5 (fun c => nI (if k < i ∧ cpe (sL S) k = p ∧ c = rw k then R.2.1 k c + 1 else R.2.1 k c))) ∧ s.2[179]? = h[179]? ∧ s.2[180]? = h[180]? ∧ s.2[181]? = h[181]? ∧ Fr h s.2 177 187) _ (nQ (sL S)) (by omega) ⟨rfl, e0, ⟨fr, e1, fun _ k hk => absurd hk (Nat.not_lt_zero k), fun _ => rfl⟩, fun k hk => (e5 k hk).eq (fun c _ => by rw [if_neg (fun q => absurd q.1 (Nat.not_lt_zero k))]), rfl, rfl, rfl, Fr.rf⟩ ?_ ?_) ?_
  · rintro i ⟨s1, s2⟩ hi ⟨x1, x2, ⟨fr1, x3, x4, x5⟩, x6, x7, x8, x9, x10⟩
    dsimp only at x1 x2 x3 x6 x7 x8 x9 x10 ⊢
    subst x1
    left
    have lc := x10.lc (LawC.lc lw (sL S)) (by omega) e.1.2.2.2.1
    obtain ⟨r0, r1, -, -⟩ := lc.2.2.2.2.2.2.2.2.2.1
    have q1 := ok.2.2.2.2.2.2.2.2 i hi
    have u3 : Fu s2 180 5 ra := x8.trans e3
    have u4 : Fo s2 181 53 5 (fun k => .inr (.inr (some (182 + k)))) := x9.trans e4
    rw [x2.gr (x := some lw) (by omega) rfl, Option.bind_some, gR_o lc.1 rfl, Option.bind_some, gI_o r0 rfl, Option.bind_some, if_neg (nI_nle' hi (by omega)), Option.bind_some, gR_o lc.1 rfl, Option.bind_some, gR_o r0 rfl, Option.bind_some, r1.at (by omega) (by decide), Option.bind_some, x2.gi (x := nI p) (by omega) rfl, Option.bind_some, nI_s]
    by_cases z : cpe (sL S) i = p
    · obtain ⟨z1, z2⟩ := hm i hi z
      rw [if_neg (by rw [z]; exact fun q => q rfl), x2.gr (x := some 181) (by omega) rfl, Option.bind_some, u4.aR (k := i) (x := some (182 + i)) (by omega) (by decide) rfl, Option.bind_some, x2.gr (x := some 180) (by omega) rfl, Option.bind_some, u3.at (by omega) (by decide), Option.bind_some, e3' i z1 z, (x6 i (by omega)).at (by omega) (by decide), Option.bind_some]
      rw [if_neg (fun q => absurd q.1 (Nat.lt_irrefl i)), nI_s]
      obtain ⟨h2, y1, y2, y3⟩ := (x6 i (by omega)).set (p := rw i) (by omega) (by decide) (nI (R.2.1 i (rw i) + 1))
      have v2 := x2.fr y3 (by omega)
      have v3 := x3.fr y3 (by omega)
      rw [y1, Option.bind_some, v2.gi (x := nI R.1) (by omega) rfl, Option.bind_some]
      have k6 : ∀ k, k < 5 → Fu h2 (182 + k) 5 (fun c => nI (if k < i + 1 ∧ cpe (sL S) k = p ∧ c = rw k then R.2.1 k c + 1 else R.2.1 k c)) := by
        intro k hk
        by_cases w : k = i
        · subst w
          refine y2.eq (fun c hc => ?_)
          unfold up1
          dsimp only
          by_cases y : c = rw k
          · rw [if_pos y, if_pos ⟨by omega, z, y⟩, y]
          · rw [if_neg y, if_neg (fun q => y q.2.2), if_neg (fun q => y q.2.2)]
        · refine ((x6 k hk).fr y3 (by omega)).eq (fun c hc => ?_)
          by_cases y : k < i
          · simp only [y, show k < i + 1 by omega, true_and]
          · rw [if_neg (fun q => y q.1), if_neg (fun q => by omega)]
      by_cases w : R.1 = 0
      · rw [if_neg (by rw [w]; exact fun q => q rfl), v2.gr (x := some 178) (by omega) rfl, Option.bind_some, v2.gr (x := some 180) (by omega) rfl, Option.bind_some, (u3.fr y3 (by omega)).at (by omega) (by decide), Option.bind_some, e3' i z1 z]
        obtain ⟨h3, w1, w2, w3⟩ := v3.set (p := i) (by omega) (by decide) (nI (rw i))
        rw [w1, Option.bind_some]
        refine ⟨_, rfl, rfl, v2.fr w3 (by omega), ⟨_, w2, fun _ k hk hp9 => ?_, fun q => absurd w q⟩, fun k hk => (k6 k hk).fr w3 (by omega), (w3.2 _ (by omega)).trans ((y3.2 _ (by omega)).trans x7), (w3.2 _ (by omega)).trans ((y3.2 _ (by omega)).trans x8), (w3.2 _ (by omega)).trans ((y3.2 _ (by omega)).trans x9), (x10.tr (y3.wd (by omega) (by omega))).tr (w3.wd (by omega) (by omega))⟩
        unfold up1
        by_cases y : k = i
        · rw [if_pos y, y]
        · rw [if_neg y]; exact x4 w k (by omega) hp9
      · rw [if_pos (fun q => w ((nI_e0 (by omega)).mp q))]
        exact ⟨_, rfl, rfl, v2, ⟨_, v3, fun q => absurd q w, x5⟩, k6, (y3.2 _ (by omega)).trans x7, (y3.2 _ (by omega)).trans x8, (y3.2 _ (by omega)).trans x9, x10.tr (y3.wd (by omega) (by omega))⟩
    · rw [if_pos (fun q => z ((nI_eq (by omega) (by omega)).mp q))]
      refine ⟨_, rfl, rfl, x2, ⟨fr1, x3, fun q k hk hp9 => ?_, x5⟩, fun k hk => (x6 k hk).eq (fun c hc => ?_), x7, x8, x9, x10⟩
      · by_cases y : k = i
        · rw [y] at hp9; exact absurd hp9 z
        · exact x4 q k (by omega) hp9
      · by_cases y : k = i
        · rw [y, if_neg (fun q => z q.2.1), if_neg (fun q => z q.2.1)]
        · by_cases w : k < i
          · simp only [w, show k < i + 1 by omega, true_and]
          · rw [if_neg (fun q => w q.1), if_neg (fun q => by omega)]
  · rintro ⟨s1, s2⟩ ⟨x1, x2, x3, x6, x7, x8, x9, x10⟩
    dsimp only at x1 x2 x3 x6 x7 x8 x9 x10 ⊢
    subst x1
    have lc := x10.lc (LawC.lc lw (sL S)) (by omega) e.1.2.2.2.1
    obtain ⟨r0, r1, -, -⟩ := lc.2.2.2.2.2.2.2.2.2.1
    rw [x2.gr (x := some lw) (by omega) rfl, Option.bind_some, gR_o lc.1 rfl, Option.bind_some, gI_o r0 rfl, Option.bind_some, if_pos (nI_le (Nat.le_refl _) (by omega))]
    exact ⟨_, rfl, x2, x3, x6, x7, x8, x9, x10⟩
  · rintro x ⟨x2, ⟨fr1, x3, x4, x5⟩, x6, x7, x8, x9, x10⟩
    obtain ⟨h3, w1, w2, w3⟩ := x2.set (k := 4) (by omega) (.inl (nI (R.1 + 1)))
    rw [x2.gi (x := nI R.1) (by omega) rfl, Option.bind_some, nI_s, w1, Option.bind_some]
    have F := x10.tr (w3.wd (lo1 := 177) (hi1 := 187) (by omega) (by omega))
    refine ⟨h3, rfl, e.rp F ⟨w2.gt (fun k hk => ?_), ⟨fr1, x3.fr w3 (by omega), fun _ k hk hp9 => ?_⟩, ((w3.2 _ (by omega)).trans x7).trans e2, ⟨ra, ((w3.2 _ (by omega)).trans x8).trans e3, e3'⟩, ((w3.2 _ (by omega)).trans x9).trans e4, fun k hk => (x6 k hk).fr w3 (by omega)⟩, F⟩
    · unfold upF
      by_cases z : k = 4
      · subst z; rw [if_pos rfl]; rfl
      · rw [if_neg z]; unfold rwF; simp [z]
    · show fr1 k = nI ((if R.1 = 0 then rw else R.2.2) k)
      by_cases z : R.1 = 0
      · rw [if_pos z]; exact x4 z k hk hp9
      · rw [if_neg z, x5 z]; exact e1' (by omega) k hk hp9
end Q3
